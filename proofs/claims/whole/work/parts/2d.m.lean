theorem dX7_readRow_0 : decode cX7_readRow 0 = .ok (.iconst 0, 1) := by decide +kernel
theorem dX7_readRow_1 : decode cX7_readRow 1 = .ok (.istore 5, 2) := by decide +kernel
theorem dX7_readRow_3 : decode cX7_readRow 3 = .ok (.aload_n 0, 1) := by decide +kernel
theorem dX7_readRow_4 : decode cX7_readRow 4 = .ok (.iconst 0, 1) := by decide +kernel
theorem dX7_readRow_5 : decode cX7_readRow 5 = .ok (.iload 4, 2) := by decide +kernel
theorem dX7_readRow_7 : decode cX7_readRow 7 = .ok (.invokevirtual 89, 3) := by decide +kernel
theorem dX7_readRow_10 : decode cX7_readRow 10 = .ok (.istore 6, 2) := by decide +kernel
theorem dX7_readRow_12 : decode cX7_readRow 12 = .ok (.iload 6, 2) := by decide +kernel
theorem dX7_readRow_14 : decode cX7_readRow 14 = .ok (.iconst (-1), 1) := by decide +kernel
theorem dX7_readRow_15 : decode cX7_readRow 15 = .ok (.if_icmp .ne 5, 3) := by decide +kernel
theorem dX7_readRow_18 : decode cX7_readRow 18 = .ok (.iconst 0, 1) := by decide +kernel
theorem dX7_readRow_19 : decode cX7_readRow 19 = .ok (.ireturn, 1) := by decide +kernel
theorem dX7_readRow_20 : decode cX7_readRow 20 = .ok (.aload_n 0, 1) := by decide +kernel
theorem dX7_readRow_21 : decode cX7_readRow 21 = .ok (.iload_n 3, 1) := by decide +kernel
theorem dX7_readRow_22 : decode cX7_readRow 22 = .ok (.iconst 1, 1) := by decide +kernel
theorem dX7_readRow_23 : decode cX7_readRow 23 = .ok (.iadd, 1) := by decide +kernel
theorem dX7_readRow_24 : decode cX7_readRow 24 = .ok (.iload 5, 2) := by decide +kernel
theorem dX7_readRow_26 : decode cX7_readRow 26 = .ok (.isub, 1) := by decide +kernel
theorem dX7_readRow_27 : decode cX7_readRow 27 = .ok (.invokevirtual 173, 3) := by decide +kernel
theorem dX7_readRow_30 : decode cX7_readRow 30 = .ok (.istore 7, 2) := by decide +kernel
theorem dX7_readRow_32 : decode cX7_readRow 32 = .ok (.iload 7, 2) := by decide +kernel
theorem dX7_readRow_34 : decode cX7_readRow 34 = .ok (.iconst (-1), 1) := by decide +kernel
theorem dX7_readRow_35 : decode cX7_readRow 35 = .ok (.if_icmp .ne 5, 3) := by decide +kernel
theorem dX7_readRow_38 : decode cX7_readRow 38 = .ok (.iconst 0, 1) := by decide +kernel
theorem dX7_readRow_39 : decode cX7_readRow 39 = .ok (.ireturn, 1) := by decide +kernel
theorem dX7_readRow_40 : decode cX7_readRow 40 = .ok (.iconst 0, 1) := by decide +kernel
theorem dX7_readRow_41 : decode cX7_readRow 41 = .ok (.istore 8, 2) := by decide +kernel
theorem dX7_readRow_43 : decode cX7_readRow 43 = .ok (.iload 8, 2) := by decide +kernel
theorem dX7_readRow_45 : decode cX7_readRow 45 = .ok (.iload 7, 2) := by decide +kernel
theorem dX7_readRow_47 : decode cX7_readRow 47 = .ok (.if_icmp .ge 20, 3) := by decide +kernel
theorem dX7_readRow_50 : decode cX7_readRow 50 = .ok (.aload_n 1, 1) := by decide +kernel
theorem dX7_readRow_51 : decode cX7_readRow 51 = .ok (.iload_n 2, 1) := by decide +kernel
theorem dX7_readRow_52 : decode cX7_readRow 52 = .ok (.iload 5, 2) := by decide +kernel
theorem dX7_readRow_54 : decode cX7_readRow 54 = .ok (.iadd, 1) := by decide +kernel
theorem dX7_readRow_55 : decode cX7_readRow 55 = .ok (.iload 8, 2) := by decide +kernel
theorem dX7_readRow_57 : decode cX7_readRow 57 = .ok (.iadd, 1) := by decide +kernel
theorem dX7_readRow_58 : decode cX7_readRow 58 = .ok (.iload 6, 2) := by decide +kernel
theorem dX7_readRow_60 : decode cX7_readRow 60 = .ok (.iastore, 1) := by decide +kernel
theorem dX7_readRow_61 : decode cX7_readRow 61 = .ok (.iinc 8 1, 3) := by decide +kernel
theorem dX7_readRow_64 : decode cX7_readRow 64 = .ok (.goto (-21), 3) := by decide +kernel
theorem dX7_readRow_67 : decode cX7_readRow 67 = .ok (.iload 5, 2) := by decide +kernel
theorem dX7_readRow_69 : decode cX7_readRow 69 = .ok (.iload 7, 2) := by decide +kernel
theorem dX7_readRow_71 : decode cX7_readRow 71 = .ok (.iadd, 1) := by decide +kernel
theorem dX7_readRow_72 : decode cX7_readRow 72 = .ok (.istore 5, 2) := by decide +kernel
theorem dX7_readRow_74 : decode cX7_readRow 74 = .ok (.iload 5, 2) := by decide +kernel
theorem dX7_readRow_76 : decode cX7_readRow 76 = .ok (.iload_n 3, 1) := by decide +kernel
theorem dX7_readRow_77 : decode cX7_readRow 77 = .ok (.if_icmp .gt 14, 3) := by decide +kernel
theorem dX7_readRow_80 : decode cX7_readRow 80 = .ok (.aload_n 0, 1) := by decide +kernel
theorem dX7_readRow_81 : decode cX7_readRow 81 = .ok (.bipush 48, 2) := by decide +kernel
theorem dX7_readRow_83 : decode cX7_readRow 83 = .ok (.bipush 57, 2) := by decide +kernel
theorem dX7_readRow_85 : decode cX7_readRow 85 = .ok (.invokevirtual 58, 3) := by decide +kernel
theorem dX7_readRow_88 : decode cX7_readRow 88 = .ok (.ifCond .ne (-85), 3) := by decide +kernel
theorem dX7_readRow_91 : decode cX7_readRow 91 = .ok (.iload 5, 2) := by decide +kernel
theorem dX7_readRow_93 : decode cX7_readRow 93 = .ok (.iload_n 3, 1) := by decide +kernel
theorem dX7_readRow_94 : decode cX7_readRow 94 = .ok (.if_icmp .gt 24, 3) := by decide +kernel
theorem dX7_readRow_97 : decode cX7_readRow 97 = .ok (.aload_n 0, 1) := by decide +kernel
theorem dX7_readRow_98 : decode cX7_readRow 98 = .ok (.bipush 59, 2) := by decide +kernel
theorem dX7_readRow_100 : decode cX7_readRow 100 = .ok (.invokevirtual 51, 3) := by decide +kernel
theorem dX7_readRow_103 : decode cX7_readRow 103 = .ok (.ifCond .eq 15, 3) := by decide +kernel
theorem dX7_readRow_106 : decode cX7_readRow 106 = .ok (.aload_n 0, 1) := by decide +kernel
theorem dX7_readRow_107 : decode cX7_readRow 107 = .ok (.iconst 2, 1) := by decide +kernel
theorem dX7_readRow_108 : decode cX7_readRow 108 = .ok (.aload_n 0, 1) := by decide +kernel
theorem dX7_readRow_109 : decode cX7_readRow 109 = .ok (.getfield 22, 3) := by decide +kernel
theorem dX7_readRow_112 : decode cX7_readRow 112 = .ok (.invokevirtual 47, 3) := by decide +kernel
theorem dX7_readRow_115 : decode cX7_readRow 115 = .ok (.pop, 1) := by decide +kernel
theorem dX7_readRow_116 : decode cX7_readRow 116 = .ok (.iconst 0, 1) := by decide +kernel
theorem dX7_readRow_117 : decode cX7_readRow 117 = .ok (.ireturn, 1) := by decide +kernel
theorem dX7_readRow_118 : decode cX7_readRow 118 = .ok (.aload_n 0, 1) := by decide +kernel
theorem dX7_readRow_119 : decode cX7_readRow 119 = .ok (.invokevirtual 95, 3) := by decide +kernel
theorem dX7_readRow_122 : decode cX7_readRow 122 = .ok (.ireturn, 1) := by decide +kernel
set_option maxHeartbeats 4000000 in
theorem st_X7_readRow_118 {X : sj_X} {g : sj_G} {s0 : sj_Mem} {N : Nat} {q : Int × sj_VV} :
    ∀ (a0 : Nat) (V : sj_VV), OK7 g a0 → g_X7_readRow_118 N a0 V = some q → sj_T X m_X7_readRow s0 (some (sj_i q.1), (g, q.2)) 118 [some (sj_r (some a0)), none, none, none, none, none, none, none, none] [] (g, V) := by
  intro a0 V ha0 h
  unfold g_X7_readRow_118 at h
  refine r_aload_n (pc := 118) dX7_readRow_118 rfl rfl ?_
  refine r_callVs (pc := 119) (fun v => some (sj_i v)) (As := []) (rest := []) (b := a0) (ok7 ha0) h dX7_readRow_119 mw_X7_95 vw_X7_readEnd (fun _ _ hc => cg_X7_readEnd ha0 hc) rfl ⟨(Nat.le_of_ble_eq_true rfl), (Nat.le_of_ble_eq_true rfl)⟩ (Nat.le_of_ble_eq_true rfl) rfl (fun v2 V1 h => ?_)
  exact r_zrets (pc := 122) h rfl dX7_readRow_122
set_option maxHeartbeats 4000000 in
theorem st_X7_readRow_91 {X : sj_X} {g : sj_G} {s0 : sj_Mem} {N : Nat} {q : Int × sj_VV} :
    ∀ (a0 : Nat) (x3 : Int) (x5 : Int) (V : sj_VV), OK7 g a0 → g_X7_readRow_91 N a0 x3 x5 V = some q → sj_T X m_X7_readRow s0 (some (sj_i q.1), (g, q.2)) 91 [some (sj_r (some a0)), none, none, some (sj_i x3), none, some (sj_i x5), none, none, none] [] (g, V) := by
  intro a0 x3 x5 V ha0 h
  unfold g_X7_readRow_91 at h
  refine r_iload (pc := 91) dX7_readRow_91 rfl ?_
  refine r_iload_n (pc := 93) dX7_readRow_93 rfl rfl ?_
  refine r_icmp_gt (pc := 94) (tgt := 118) h dX7_readRow_94 (by decide) (fun h => ?_) (fun h => ?_)
  · exact sj_weak (l2 := [some (sj_r (some a0)), none, none, none, none, none, none, none, none]) (⟨rfl, trivial⟩) (st_X7_readRow_118 a0 V ha0 h)
  · refine r_aload_n (pc := 97) dX7_readRow_97 rfl rfl ?_
    refine r_bipush (pc := 98) dX7_readRow_98 ⟨by decide, by decide⟩ ?_
    refine r_callVs (pc := 100) (fun v => some (sj_i v)) (As := [sj_i 59]) (rest := []) (b := a0) (ok7 ha0) h dX7_readRow_100 mw_X7_51 vw_X7_sees (fun _ _ hc => cg_X7_sees ha0 hc) rfl ⟨(Nat.le_of_ble_eq_true rfl), (Nat.le_of_ble_eq_true rfl)⟩ (Nat.le_of_ble_eq_true rfl) rfl (fun v2 V1 h => ?_)
    refine r_if_eq (pc := 103) (tgt := 118) h dX7_readRow_103 (by decide) (fun h => ?_) (fun h => ?_)
    · exact sj_weak (l2 := [some (sj_r (some a0)), none, none, none, none, none, none, none, none]) (⟨rfl, trivial⟩) (st_X7_readRow_118 a0 V1 ha0 h)
    · refine r_aload_n (pc := 106) dX7_readRow_106 rfl rfl ?_
      refine r_iconst (pc := 107) dX7_readRow_107 ?_
      refine r_aload_n (pc := 108) dX7_readRow_108 rfl rfl ?_
      refine r_gIs (pc := 109) dX7_readRow_109 fw_X7_22 rfl (ok7 ha0) ?_
      refine r_callVs (pc := 112) (fun v => some (sj_i v)) (As := [sj_i 2, sj_i (V1 a0 2)]) (rest := []) (b := a0) (ok7 ha0) h dX7_readRow_112 mw_X7_47 vw_X7_fail (fun _ _ hc => cg_X7_fail ha0 hc) rfl ⟨(Nat.le_of_ble_eq_true rfl), (Nat.le_of_ble_eq_true rfl)⟩ (Nat.le_of_ble_eq_true rfl) rfl (fun v4 V3 h => ?_)
      refine r_pop (pc := 115) dX7_readRow_115 rfl ?_
      refine r_iconst (pc := 116) dX7_readRow_116 ?_
      exact r_zrets (pc := 117) h rfl dX7_readRow_117
set_option maxHeartbeats 4000000 in
theorem st_X7_readRow_43_b {X : sj_X} {g : sj_G} {s0 : sj_Mem} {N : Nat} {q : Int × sj_VV} {k3 : Nat → Nat → Nat → Int → Int → Int → Int → sj_VV → Option (Int × sj_VV)} {k43 : Nat → Nat → Nat → Int → Int → Int → Int → Int → Int → Int → sj_VV → Option (Int × sj_VV)} (hk3 : ∀ (a0 : Nat) (x1 : Nat) (n1 : Nat) (x2 : Int) (x3 : Int) (x4 : Int) (x5 : Int) (V : sj_VV), OK7 g a0 → OKA g 100 x1 n1 → k3 a0 x1 n1 x2 x3 x4 x5 V = some q → sj_T X m_X7_readRow s0 (some (sj_i q.1), (g, q.2)) 3 [some (sj_r (some a0)), some (sj_r (some x1)), some (sj_i x2), some (sj_i x3), some (sj_i x4), some (sj_i x5), none, none, none] [] (g, V)) (hk43 : ∀ (a0 : Nat) (x1 : Nat) (n1 : Nat) (x2 : Int) (x3 : Int) (x4 : Int) (x5 : Int) (x6 : Int) (x7 : Int) (x8 : Int) (V : sj_VV), OK7 g a0 → OKA g 100 x1 n1 → k43 a0 x1 n1 x2 x3 x4 x5 x6 x7 x8 V = some q → sj_T X m_X7_readRow s0 (some (sj_i q.1), (g, q.2)) 43 [some (sj_r (some a0)), some (sj_r (some x1)), some (sj_i x2), some (sj_i x3), some (sj_i x4), some (sj_i x5), some (sj_i x6), some (sj_i x7), some (sj_i x8)] [] (g, V)) :
    ∀ (a0 : Nat) (x1 : Nat) (n1 : Nat) (x2 : Int) (x3 : Int) (x4 : Int) (x5 : Int) (x6 : Int) (x7 : Int) (x8 : Int) (V : sj_VV), OK7 g a0 → OKA g 100 x1 n1 → g_X7_readRow_43_b N k3 k43 a0 x1 n1 x2 x3 x4 x5 x6 x7 x8 V = some q → sj_T X m_X7_readRow s0 (some (sj_i q.1), (g, q.2)) 43 [some (sj_r (some a0)), some (sj_r (some x1)), some (sj_i x2), some (sj_i x3), some (sj_i x4), some (sj_i x5), some (sj_i x6), some (sj_i x7), some (sj_i x8)] [] (g, V) := by
  intro a0 x1 n1 x2 x3 x4 x5 x6 x7 x8 V ha0 hx1 h
  unfold g_X7_readRow_43_b at h
  refine r_iload (pc := 43) dX7_readRow_43 rfl ?_
  refine r_iload (pc := 45) dX7_readRow_45 rfl ?_
  refine r_icmp_ge (pc := 47) (tgt := 67) h dX7_readRow_47 (by decide) (fun h => ?_) (fun h => ?_)
  · refine r_iload (pc := 67) dX7_readRow_67 rfl ?_
    refine r_iload (pc := 69) dX7_readRow_69 rfl ?_
    refine r_iadd (pc := 71) dX7_readRow_71 ?_
    refine r_istoreL (ln := fun w => [some (sj_r (some a0)), some (sj_r (some x1)), some (sj_i x2), some (sj_i x3), some (sj_i x4), some (sj_i w), some (sj_i x6), some (sj_i x7), some (sj_i x8)]) (pc := 72) h dX7_readRow_72 (Nat.le_of_ble_eq_true rfl) (fun _ => rfl) (fun v1 h => ?_)
    refine r_iload (pc := 74) dX7_readRow_74 rfl ?_
    refine r_iload_n (pc := 76) dX7_readRow_76 rfl rfl ?_
    refine r_icmp_gt (pc := 77) (tgt := 91) h dX7_readRow_77 (by decide) (fun h => ?_) (fun h => ?_)
    · exact sj_weak (l2 := [some (sj_r (some a0)), none, none, some (sj_i x3), none, some (sj_i v1), none, none, none]) (⟨rfl, ⟨rfl, ⟨rfl, trivial⟩⟩⟩) (st_X7_readRow_91 a0 x3 v1 V ha0 h)
    · refine r_aload_n (pc := 80) dX7_readRow_80 rfl rfl ?_
      refine r_bipush (pc := 81) dX7_readRow_81 ⟨by decide, by decide⟩ ?_
      refine r_bipush (pc := 83) dX7_readRow_83 ⟨by decide, by decide⟩ ?_
      refine r_callVs (pc := 85) (fun v => some (sj_i v)) (As := [sj_i 48, sj_i 57]) (rest := []) (b := a0) (ok7 ha0) h dX7_readRow_85 mw_X7_58 vw_X7_seesFrom (fun _ _ hc => cg_X7_seesFrom ha0 hc) rfl ⟨(Nat.le_of_ble_eq_true rfl), (Nat.le_of_ble_eq_true rfl)⟩ (Nat.le_of_ble_eq_true rfl) rfl (fun v3 V2 h => ?_)
      refine r_if_ne (pc := 88) (tgt := 3) h dX7_readRow_88 (by decide) (fun h => ?_) (fun h => ?_)
      · exact sj_weak (l2 := [some (sj_r (some a0)), none, none, some (sj_i x3), none, some (sj_i v1), none, none, none]) (⟨rfl, ⟨rfl, ⟨rfl, trivial⟩⟩⟩) (st_X7_readRow_91 a0 x3 v1 V2 ha0 h)
      · exact sj_weak (l2 := [some (sj_r (some a0)), some (sj_r (some x1)), some (sj_i x2), some (sj_i x3), some (sj_i x4), some (sj_i v1), none, none, none]) (⟨rfl, ⟨rfl, ⟨rfl, ⟨rfl, ⟨rfl, ⟨rfl, trivial⟩⟩⟩⟩⟩⟩) (hk3 a0 x1 n1 x2 x3 x4 v1 V2 ha0 hx1 h)
  · refine r_aload_n (pc := 50) dX7_readRow_50 rfl rfl ?_
    refine r_iload_n (pc := 51) dX7_readRow_51 rfl rfl ?_
    refine r_iload (pc := 52) dX7_readRow_52 rfl ?_
    refine r_iadd (pc := 54) dX7_readRow_54 ?_
    refine r_iload (pc := 55) dX7_readRow_55 rfl ?_
    refine r_iadd (pc := 57) dX7_readRow_57 ?_
    refine r_iload (pc := 58) dX7_readRow_58 rfl ?_
    refine r_iastores (pc := 60) h dX7_readRow_60 hx1 (fun V4 h => ?_)
    refine r_iinc (ln := fun w => [some (sj_r (some a0)), some (sj_r (some x1)), some (sj_i x2), some (sj_i x3), some (sj_i x4), some (sj_i x5), some (sj_i x6), some (sj_i x7), some (sj_i w)]) (pc := 61) h dX7_readRow_61 rfl (Nat.le_of_ble_eq_true rfl) (fun _ => rfl) (fun v5 h => ?_)
    refine r_goto (pc := 64) (tgt := 43) dX7_readRow_64 (by decide) ?_
    exact sj_weak (l2 := [some (sj_r (some a0)), some (sj_r (some x1)), some (sj_i x2), some (sj_i x3), some (sj_i x4), some (sj_i x5), some (sj_i x6), some (sj_i x7), some (sj_i v5)]) (⟨rfl, ⟨rfl, ⟨rfl, ⟨rfl, ⟨rfl, ⟨rfl, ⟨rfl, ⟨rfl, ⟨rfl, trivial⟩⟩⟩⟩⟩⟩⟩⟩⟩) (hk43 a0 x1 n1 x2 x3 x4 x5 x6 x7 v5 V4 ha0 hx1 h)
set_option maxHeartbeats 4000000 in
theorem st_X7_readRow_43 {X : sj_X} {g : sj_G} {s0 : sj_Mem} {N : Nat} {q : Int × sj_VV} {k3 : Nat → Nat → Nat → Int → Int → Int → Int → sj_VV → Option (Int × sj_VV)} (hk3 : ∀ (a0 : Nat) (x1 : Nat) (n1 : Nat) (x2 : Int) (x3 : Int) (x4 : Int) (x5 : Int) (V : sj_VV), OK7 g a0 → OKA g 100 x1 n1 → k3 a0 x1 n1 x2 x3 x4 x5 V = some q → sj_T X m_X7_readRow s0 (some (sj_i q.1), (g, q.2)) 3 [some (sj_r (some a0)), some (sj_r (some x1)), some (sj_i x2), some (sj_i x3), some (sj_i x4), some (sj_i x5), none, none, none] [] (g, V)) :
    ∀ (n : Nat) (a0 : Nat) (x1 : Nat) (n1 : Nat) (x2 : Int) (x3 : Int) (x4 : Int) (x5 : Int) (x6 : Int) (x7 : Int) (x8 : Int) (V : sj_VV), OK7 g a0 → OKA g 100 x1 n1 → g_X7_readRow_43 N k3 n a0 x1 n1 x2 x3 x4 x5 x6 x7 x8 V = some q → sj_T X m_X7_readRow s0 (some (sj_i q.1), (g, q.2)) 43 [some (sj_r (some a0)), some (sj_r (some x1)), some (sj_i x2), some (sj_i x3), some (sj_i x4), some (sj_i x5), some (sj_i x6), some (sj_i x7), some (sj_i x8)] [] (g, V) := by
  intro n
  induction n with
  | zero => intro a0 x1 n1 x2 x3 x4 x5 x6 x7 x8 V ha0 hx1 h; exact nomatch h
  | succ n ih => intro a0 x1 n1 x2 x3 x4 x5 x6 x7 x8 V ha0 hx1 h; exact st_X7_readRow_43_b (N := N) hk3 ih a0 x1 n1 x2 x3 x4 x5 x6 x7 x8 V ha0 hx1 h
set_option maxHeartbeats 4000000 in
theorem st_X7_readRow_3_b {X : sj_X} {g : sj_G} {s0 : sj_Mem} {N : Nat} {q : Int × sj_VV} {k3 : Nat → Nat → Nat → Int → Int → Int → Int → sj_VV → Option (Int × sj_VV)} (hk3 : ∀ (a0 : Nat) (x1 : Nat) (n1 : Nat) (x2 : Int) (x3 : Int) (x4 : Int) (x5 : Int) (V : sj_VV), OK7 g a0 → OKA g 100 x1 n1 → k3 a0 x1 n1 x2 x3 x4 x5 V = some q → sj_T X m_X7_readRow s0 (some (sj_i q.1), (g, q.2)) 3 [some (sj_r (some a0)), some (sj_r (some x1)), some (sj_i x2), some (sj_i x3), some (sj_i x4), some (sj_i x5), none, none, none] [] (g, V)) :
    ∀ (a0 : Nat) (x1 : Nat) (n1 : Nat) (x2 : Int) (x3 : Int) (x4 : Int) (x5 : Int) (V : sj_VV), OK7 g a0 → OKA g 100 x1 n1 → g_X7_readRow_3_b N k3 a0 x1 n1 x2 x3 x4 x5 V = some q → sj_T X m_X7_readRow s0 (some (sj_i q.1), (g, q.2)) 3 [some (sj_r (some a0)), some (sj_r (some x1)), some (sj_i x2), some (sj_i x3), some (sj_i x4), some (sj_i x5), none, none, none] [] (g, V) := by
  intro a0 x1 n1 x2 x3 x4 x5 V ha0 hx1 h
  unfold g_X7_readRow_3_b at h
  refine r_aload_n (pc := 3) dX7_readRow_3 rfl rfl ?_
  refine r_iconst (pc := 4) dX7_readRow_4 ?_
  refine r_iload (pc := 5) dX7_readRow_5 rfl ?_
  refine r_callVs (pc := 7) (fun v => some (sj_i v)) (As := [sj_i 0, sj_i x4]) (rest := []) (b := a0) (ok7 ha0) h dX7_readRow_7 mw_X7_89 vw_X7_readNumber (fun _ _ hc => cg_X7_readNumber ha0 hc) rfl ⟨(Nat.le_of_ble_eq_true rfl), (Nat.le_of_ble_eq_true rfl)⟩ (Nat.le_of_ble_eq_true rfl) rfl (fun v2 V1 h => ?_)
  refine r_istore (ln := [some (sj_r (some a0)), some (sj_r (some x1)), some (sj_i x2), some (sj_i x3), some (sj_i x4), some (sj_i x5), some (sj_i v2), none, none]) (pc := 10) dX7_readRow_10 (Nat.le_of_ble_eq_true rfl) rfl ?_
  refine r_iload (pc := 12) dX7_readRow_12 rfl ?_
  refine r_iconst (pc := 14) dX7_readRow_14 ?_
  refine r_icmp_ne (pc := 15) (tgt := 20) h dX7_readRow_15 (by decide) (fun h => ?_) (fun h => ?_)
  · refine r_iconst (pc := 18) dX7_readRow_18 ?_
    exact r_zrets (pc := 19) h rfl dX7_readRow_19
  · refine r_aload_n (pc := 20) dX7_readRow_20 rfl rfl ?_
    refine r_iload_n (pc := 21) dX7_readRow_21 rfl rfl ?_
    refine r_iconst (pc := 22) dX7_readRow_22 ?_
    refine r_iadd (pc := 23) dX7_readRow_23 ?_
    refine r_iload (pc := 24) dX7_readRow_24 rfl ?_
    refine r_isub (pc := 26) dX7_readRow_26 ?_
    refine r_callVs (pc := 27) (fun v => some (sj_i v)) (As := [sj_i ((x3 + 1) - x5)]) (rest := []) (b := a0) (ok7 ha0) h dX7_readRow_27 mw_X7_173 vw_X7_readTimes (fun _ _ hc => cg_X7_readTimes ha0 hc) rfl ⟨(Nat.le_of_ble_eq_true rfl), (Nat.le_of_ble_eq_true rfl)⟩ (Nat.le_of_ble_eq_true rfl) rfl (fun v4 V3 h => ?_)
    refine r_istore (ln := [some (sj_r (some a0)), some (sj_r (some x1)), some (sj_i x2), some (sj_i x3), some (sj_i x4), some (sj_i x5), some (sj_i v2), some (sj_i v4), none]) (pc := 30) dX7_readRow_30 (Nat.le_of_ble_eq_true rfl) rfl ?_
    refine r_iload (pc := 32) dX7_readRow_32 rfl ?_
    refine r_iconst (pc := 34) dX7_readRow_34 ?_
    refine r_icmp_ne (pc := 35) (tgt := 40) h dX7_readRow_35 (by decide) (fun h => ?_) (fun h => ?_)
    · refine r_iconst (pc := 38) dX7_readRow_38 ?_
      exact r_zrets (pc := 39) h rfl dX7_readRow_39
    · refine r_iconst (pc := 40) dX7_readRow_40 ?_
      refine r_istore (ln := [some (sj_r (some a0)), some (sj_r (some x1)), some (sj_i x2), some (sj_i x3), some (sj_i x4), some (sj_i x5), some (sj_i v2), some (sj_i v4), some (sj_i 0)]) (pc := 41) dX7_readRow_41 (Nat.le_of_ble_eq_true rfl) rfl ?_
      exact sj_weak (l2 := [some (sj_r (some a0)), some (sj_r (some x1)), some (sj_i x2), some (sj_i x3), some (sj_i x4), some (sj_i x5), some (sj_i v2), some (sj_i v4), some (sj_i 0)]) (⟨rfl, ⟨rfl, ⟨rfl, ⟨rfl, ⟨rfl, ⟨rfl, ⟨rfl, ⟨rfl, ⟨rfl, trivial⟩⟩⟩⟩⟩⟩⟩⟩⟩) (st_X7_readRow_43 hk3 N a0 x1 n1 x2 x3 x4 x5 v2 v4 0 V3 ha0 hx1 h)
set_option maxHeartbeats 4000000 in
theorem st_X7_readRow_3 {X : sj_X} {g : sj_G} {s0 : sj_Mem} {N : Nat} {q : Int × sj_VV} :
    ∀ (n : Nat) (a0 : Nat) (x1 : Nat) (n1 : Nat) (x2 : Int) (x3 : Int) (x4 : Int) (x5 : Int) (V : sj_VV), OK7 g a0 → OKA g 100 x1 n1 → g_X7_readRow_3 N n a0 x1 n1 x2 x3 x4 x5 V = some q → sj_T X m_X7_readRow s0 (some (sj_i q.1), (g, q.2)) 3 [some (sj_r (some a0)), some (sj_r (some x1)), some (sj_i x2), some (sj_i x3), some (sj_i x4), some (sj_i x5), none, none, none] [] (g, V) := by
  intro n
  induction n with
  | zero => intro a0 x1 n1 x2 x3 x4 x5 V ha0 hx1 h; exact nomatch h
  | succ n ih => intro a0 x1 n1 x2 x3 x4 x5 V ha0 hx1 h; exact st_X7_readRow_3_b (N := N) ih a0 x1 n1 x2 x3 x4 x5 V ha0 hx1 h
set_option maxHeartbeats 4000000 in
theorem st_X7_readRow_0 {X : sj_X} {g : sj_G} {s0 : sj_Mem} {N : Nat} {q : Int × sj_VV} :
    ∀ (a0 : Nat) (x1 : Nat) (n1 : Nat) (x2 : Int) (x3 : Int) (x4 : Int) (V : sj_VV), OK7 g a0 → OKA g 100 x1 n1 → g_X7_readRow N a0 x1 n1 x2 x3 x4 V = some q → sj_T X m_X7_readRow s0 (some (sj_i q.1), (g, q.2)) 0 [some (sj_r (some a0)), some (sj_r (some x1)), some (sj_i x2), some (sj_i x3), some (sj_i x4), none, none, none, none] [] (g, V) := by
  intro a0 x1 n1 x2 x3 x4 V ha0 hx1 h
  unfold g_X7_readRow at h
  refine r_iconst (pc := 0) dX7_readRow_0 ?_
  refine r_istore (ln := [some (sj_r (some a0)), some (sj_r (some x1)), some (sj_i x2), some (sj_i x3), some (sj_i x4), some (sj_i 0), none, none, none]) (pc := 1) dX7_readRow_1 (Nat.le_of_ble_eq_true rfl) rfl ?_
  exact sj_weak (l2 := [some (sj_r (some a0)), some (sj_r (some x1)), some (sj_i x2), some (sj_i x3), some (sj_i x4), some (sj_i 0), none, none, none]) (⟨rfl, ⟨rfl, ⟨rfl, ⟨rfl, ⟨rfl, ⟨rfl, trivial⟩⟩⟩⟩⟩⟩) (st_X7_readRow_3 N a0 x1 n1 x2 x3 x4 0 V ha0 hx1 h)
set_option maxHeartbeats 4000000 in
theorem cg_X7_readRow {X : sj_X} {g : sj_G} {N : Nat} {a0 : Nat} {x1 : Nat} {n1 : Nat} {x2 : Int} {x3 : Int} {x4 : Int} {V : sj_VV} {q : Int × sj_VV} (ha0 : OK7 g a0) (hx1 : OKA g 100 x1 n1) (h : g_X7_readRow N a0 x1 n1 x2 x3 x4 V = some q) : sj_C X m_X7_readRow [sj_r (some a0), sj_r (some x1), sj_i x2, sj_i x3, sj_i x4] (g, V) (some (sj_i q.1), (g, q.2)) :=
  sj_C_of (by decide +kernel) (Nat.le_of_ble_eq_true rfl) (lo := [some (sj_r (some a0)), some (sj_r (some x1)), some (sj_i x2), some (sj_i x3), some (sj_i x4), none, none, none, none]) rfl (sj_weak (l2 := [some (sj_r (some a0)), some (sj_r (some x1)), some (sj_i x2), some (sj_i x3), some (sj_i x4), none, none, none, none]) (⟨rfl, ⟨rfl, ⟨rfl, ⟨rfl, ⟨rfl, trivial⟩⟩⟩⟩⟩) (st_X7_readRow_0 a0 x1 n1 x2 x3 x4 V ha0 hx1 h))
theorem dX7_readTop_0 : decode cX7_readTop 0 = .ok (.aload_n 0, 1) := by decide +kernel
theorem dX7_readTop_1 : decode cX7_readTop 1 = .ok (.iconst 1, 1) := by decide +kernel
theorem dX7_readTop_2 : decode cX7_readTop 2 = .ok (.iconst 3, 1) := by decide +kernel
theorem dX7_readTop_3 : decode cX7_readTop 3 = .ok (.invokevirtual 89, 3) := by decide +kernel
theorem dX7_readTop_6 : decode cX7_readTop 6 = .ok (.istore_n 2, 1) := by decide +kernel
theorem dX7_readTop_7 : decode cX7_readTop 7 = .ok (.iload_n 2, 1) := by decide +kernel
theorem dX7_readTop_8 : decode cX7_readTop 8 = .ok (.iconst (-1), 1) := by decide +kernel
theorem dX7_readTop_9 : decode cX7_readTop 9 = .ok (.if_icmp .eq 13, 3) := by decide +kernel
theorem dX7_readTop_12 : decode cX7_readTop 12 = .ok (.aload_n 0, 1) := by decide +kernel
theorem dX7_readTop_13 : decode cX7_readTop 13 = .ok (.iconst 5, 1) := by decide +kernel
theorem dX7_readTop_14 : decode cX7_readTop 14 = .ok (.iload_n 2, 1) := by decide +kernel
theorem dX7_readTop_15 : decode cX7_readTop 15 = .ok (.iadd, 1) := by decide +kernel
theorem dX7_readTop_16 : decode cX7_readTop 16 = .ok (.invokevirtual 117, 3) := by decide +kernel
theorem dX7_readTop_19 : decode cX7_readTop 19 = .ok (.ifCond .ne 5, 3) := by decide +kernel
theorem dX7_readTop_22 : decode cX7_readTop 22 = .ok (.iconst 0, 1) := by decide +kernel
theorem dX7_readTop_23 : decode cX7_readTop 23 = .ok (.ireturn, 1) := by decide +kernel
theorem dX7_readTop_24 : decode cX7_readTop 24 = .ok (.aload_n 0, 1) := by decide +kernel
theorem dX7_readTop_25 : decode cX7_readTop 25 = .ok (.aload_n 1, 1) := by decide +kernel
theorem dX7_readTop_26 : decode cX7_readTop 26 = .ok (.getfield 149, 3) := by decide +kernel
theorem dX7_readTop_29 : decode cX7_readTop 29 = .ok (.iload_n 2, 1) := by decide +kernel
theorem dX7_readTop_30 : decode cX7_readTop 30 = .ok (.iconst 0, 1) := by decide +kernel
theorem dX7_readTop_31 : decode cX7_readTop 31 = .ok (.invokestatic 152, 3) := by decide +kernel
theorem dX7_readTop_34 : decode cX7_readTop 34 = .ok (.aload_n 1, 1) := by decide +kernel
theorem dX7_readTop_35 : decode cX7_readTop 35 = .ok (.getfield 122, 3) := by decide +kernel
theorem dX7_readTop_38 : decode cX7_readTop 38 = .ok (.bipush 100, 2) := by decide +kernel
theorem dX7_readTop_40 : decode cX7_readTop 40 = .ok (.invokevirtual 125, 3) := by decide +kernel
theorem dX7_readTop_43 : decode cX7_readTop 43 = .ok (.ireturn, 1) := by decide +kernel
set_option maxHeartbeats 4000000 in
theorem st_X7_readTop_0 {X : sj_X} {g : sj_G} {s0 : sj_Mem} {N : Nat} {q : Int × sj_VV} :
    ∀ (a0 : Nat) (x1 : Nat) (V : sj_VV), OK7 g a0 → OK0 g x1 → g_X7_readTop N a0 x1 V = some q → sj_T X m_X7_readTop s0 (some (sj_i q.1), (g, q.2)) 0 [some (sj_r (some a0)), some (sj_r (some x1)), none] [] (g, V) := by
  intro a0 x1 V ha0 hx1 h
  unfold g_X7_readTop at h
  refine r_aload_n (pc := 0) dX7_readTop_0 rfl rfl ?_
  refine r_iconst (pc := 1) dX7_readTop_1 ?_
  refine r_iconst (pc := 2) dX7_readTop_2 ?_
  refine r_callVs (pc := 3) (fun v => some (sj_i v)) (As := [sj_i 1, sj_i 3]) (rest := []) (b := a0) (ok7 ha0) h dX7_readTop_3 mw_X7_89 vw_X7_readNumber (fun _ _ hc => cg_X7_readNumber ha0 hc) rfl ⟨(Nat.le_of_ble_eq_true rfl), (Nat.le_of_ble_eq_true rfl)⟩ (Nat.le_of_ble_eq_true rfl) rfl (fun v2 V1 h => ?_)
  refine r_istore_n (ln := [some (sj_r (some a0)), some (sj_r (some x1)), some (sj_i v2)]) (pc := 6) dX7_readTop_6 rfl (Nat.le_of_ble_eq_true rfl) rfl ?_
  refine r_iload_n (pc := 7) dX7_readTop_7 rfl rfl ?_
  refine r_iconst (pc := 8) dX7_readTop_8 ?_
  refine r_icmp_eq (pc := 9) (tgt := 22) h dX7_readTop_9 (by decide) (fun h => ?_) (fun h => ?_)
  · refine r_iconst (pc := 22) dX7_readTop_22 ?_
    exact r_zrets (pc := 23) h rfl dX7_readTop_23
  · refine r_aload_n (pc := 12) dX7_readTop_12 rfl rfl ?_
    refine r_iconst (pc := 13) dX7_readTop_13 ?_
    refine r_iload_n (pc := 14) dX7_readTop_14 rfl rfl ?_
    refine r_iadd (pc := 15) dX7_readTop_15 ?_
    refine r_callVs (pc := 16) (fun v => some (sj_i v)) (As := [sj_i (5 + v2)]) (rest := []) (b := a0) (ok7 ha0) h dX7_readTop_16 mw_X7_117 vw_X7_isNew (fun _ _ hc => cg_X7_isNew ha0 hc) rfl ⟨(Nat.le_of_ble_eq_true rfl), (Nat.le_of_ble_eq_true rfl)⟩ (Nat.le_of_ble_eq_true rfl) rfl (fun v4 V3 h => ?_)
    refine r_if_ne (pc := 19) (tgt := 24) h dX7_readTop_19 (by decide) (fun h => ?_) (fun h => ?_)
    · refine r_iconst (pc := 22) dX7_readTop_22 ?_
      exact r_zrets (pc := 23) h rfl dX7_readTop_23
    · refine r_aload_n (pc := 24) dX7_readTop_24 rfl rfl ?_
      refine r_aload_n (pc := 25) dX7_readTop_25 rfl rfl ?_
      refine r_gRs (b := x1 + 5) (pc := 26) dX7_readTop_26 fw_X7_149 rfl (ok0 hx1) (ok0_7 hx1).1 ?_
      refine r_iload_n (pc := 29) dX7_readTop_29 rfl rfl ?_
      refine r_iconst (pc := 30) dX7_readTop_30 ?_
      refine r_callSs (pc := 31) (fun v => some (sj_i v)) (As := [sj_i v2, sj_i 0]) (rest := [(sj_r (some (x1 + 5))), (sj_r (some a0))]) h dX7_readTop_31 mw_X7_152 kw_407 (fun _ _ hc => cg_X8_topPlace  hc) rfl ⟨(Nat.le_of_ble_eq_true rfl), (Nat.le_of_ble_eq_true rfl)⟩ (Nat.le_of_ble_eq_true rfl) rfl (fun v6 V5 h => ?_)
      refine r_aload_n (pc := 34) dX7_readTop_34 rfl rfl ?_
      refine r_gIs (pc := 35) dX7_readTop_35 fw_X7_122 rfl (ok0 hx1) ?_
      refine r_bipush (pc := 38) dX7_readTop_38 ⟨by decide, by decide⟩ ?_
      refine r_callVs (pc := 40) (fun v => some (sj_i v)) (As := [sj_r (some (x1 + 5)), sj_i v6, sj_i (V5 x1 0), sj_i 100]) (rest := []) (b := a0) (ok7 ha0) h dX7_readTop_40 mw_X7_125 vw_X7_readRow (fun _ _ hc => cg_X7_readRow ha0 (ok0_7 hx1).2 hc) rfl ⟨(Nat.le_of_ble_eq_true rfl), (Nat.le_of_ble_eq_true rfl)⟩ (Nat.le_of_ble_eq_true rfl) rfl (fun v8 V7 h => ?_)
      exact r_zrets (pc := 43) h rfl dX7_readTop_43
set_option maxHeartbeats 4000000 in
theorem cg_X7_readTop {X : sj_X} {g : sj_G} {N : Nat} {a0 : Nat} {x1 : Nat} {V : sj_VV} {q : Int × sj_VV} (ha0 : OK7 g a0) (hx1 : OK0 g x1) (h : g_X7_readTop N a0 x1 V = some q) : sj_C X m_X7_readTop [sj_r (some a0), sj_r (some x1)] (g, V) (some (sj_i q.1), (g, q.2)) :=
  sj_C_of (by decide +kernel) (Nat.le_of_ble_eq_true rfl) (lo := [some (sj_r (some a0)), some (sj_r (some x1)), none]) rfl (sj_weak (l2 := [some (sj_r (some a0)), some (sj_r (some x1)), none]) (⟨rfl, ⟨rfl, trivial⟩⟩) (st_X7_readTop_0 a0 x1 V ha0 hx1 h))
set_option maxHeartbeats 4000000 in
theorem c_X7_readTop {X : sj_X} {N : Nat} {a0 : Nat} {x1 : Option Nat} {s : sj_Mem} {q : Int × sj_Mem} (h : f_X7_readTop N a0 x1 s = some q) : sj_C X m_X7_readTop [sj_r (some a0), sj_r x1] s (some (sj_i q.1), q.2) := by
  obtain ⟨g, V⟩ := s
  unfold f_X7_readTop at h
  obtain ⟨ho, h1⟩ := e_ok_some h
  obtain ⟨q2, h2, rfl⟩ := sj_map_some h1
  obtain ⟨z1, hz1⟩ : ∃ z, x1 = some z := ⟨_, ho.2.1⟩
  subst hz1
  exact cg_X7_readTop ho.1 ho.2.2 h2
theorem dX7_readQuake_0 : decode cX7_readQuake 0 = .ok (.aload_n 0, 1) := by decide +kernel
theorem dX7_readQuake_1 : decode cX7_readQuake 1 = .ok (.iconst 0, 1) := by decide +kernel
theorem dX7_readQuake_2 : decode cX7_readQuake 2 = .ok (.sipush 500, 3) := by decide +kernel
theorem dX7_readQuake_5 : decode cX7_readQuake 5 = .ok (.invokevirtual 89, 3) := by decide +kernel
theorem dX7_readQuake_8 : decode cX7_readQuake 8 = .ok (.istore_n 2, 1) := by decide +kernel
theorem dX7_readQuake_9 : decode cX7_readQuake 9 = .ok (.aload_n 1, 1) := by decide +kernel
theorem dX7_readQuake_10 : decode cX7_readQuake 10 = .ok (.iload_n 2, 1) := by decide +kernel
theorem dX7_readQuake_11 : decode cX7_readQuake 11 = .ok (.putfield 147, 3) := by decide +kernel
theorem dX7_readQuake_14 : decode cX7_readQuake 14 = .ok (.iload_n 2, 1) := by decide +kernel
theorem dX7_readQuake_15 : decode cX7_readQuake 15 = .ok (.iconst (-1), 1) := by decide +kernel
theorem dX7_readQuake_16 : decode cX7_readQuake 16 = .ok (.if_icmp .eq 14, 3) := by decide +kernel
theorem dX7_readQuake_19 : decode cX7_readQuake 19 = .ok (.aload_n 0, 1) := by decide +kernel
theorem dX7_readQuake_20 : decode cX7_readQuake 20 = .ok (.invokevirtual 95, 3) := by decide +kernel
theorem dX7_readQuake_23 : decode cX7_readQuake 23 = .ok (.ifCond .eq 7, 3) := by decide +kernel
theorem dX7_readQuake_26 : decode cX7_readQuake 26 = .ok (.iconst 1, 1) := by decide +kernel
theorem dX7_readQuake_27 : decode cX7_readQuake 27 = .ok (.goto 4, 3) := by decide +kernel
theorem dX7_readQuake_30 : decode cX7_readQuake 30 = .ok (.iconst 0, 1) := by decide +kernel
theorem dX7_readQuake_31 : decode cX7_readQuake 31 = .ok (.ireturn, 1) := by decide +kernel
set_option maxHeartbeats 4000000 in
theorem st_X7_readQuake_0 {X : sj_X} {g : sj_G} {s0 : sj_Mem} {N : Nat} {q : Int × sj_VV} :
    ∀ (a0 : Nat) (x1 : Nat) (V : sj_VV), OK7 g a0 → OK0 g x1 → g_X7_readQuake N a0 x1 V = some q → sj_T X m_X7_readQuake s0 (some (sj_i q.1), (g, q.2)) 0 [some (sj_r (some a0)), some (sj_r (some x1)), none] [] (g, V) := by
  intro a0 x1 V ha0 hx1 h
  unfold g_X7_readQuake at h
  refine r_aload_n (pc := 0) dX7_readQuake_0 rfl rfl ?_
  refine r_iconst (pc := 1) dX7_readQuake_1 ?_
  refine r_sipush (pc := 2) dX7_readQuake_2 ⟨by decide, by decide⟩ ?_
  refine r_callVs (pc := 5) (fun v => some (sj_i v)) (As := [sj_i 0, sj_i 500]) (rest := []) (b := a0) (ok7 ha0) h dX7_readQuake_5 mw_X7_89 vw_X7_readNumber (fun _ _ hc => cg_X7_readNumber ha0 hc) rfl ⟨(Nat.le_of_ble_eq_true rfl), (Nat.le_of_ble_eq_true rfl)⟩ (Nat.le_of_ble_eq_true rfl) rfl (fun v2 V1 h => ?_)
  refine r_istore_n (ln := [some (sj_r (some a0)), some (sj_r (some x1)), some (sj_i v2)]) (pc := 8) dX7_readQuake_8 rfl (Nat.le_of_ble_eq_true rfl) rfl ?_
  refine r_aload_n (pc := 9) dX7_readQuake_9 rfl rfl ?_
  refine r_iload_n (pc := 10) dX7_readQuake_10 rfl rfl ?_
  refine r_pIs (pc := 11) h dX7_readQuake_11 fw_X7_147 rfl rfl (nf0_2) (ok0 hx1) (fun V3 h => ?_)
  refine r_iload_n (pc := 14) dX7_readQuake_14 rfl rfl ?_
  refine r_iconst (pc := 15) dX7_readQuake_15 ?_
  refine r_icmp_eq (pc := 16) (tgt := 30) h dX7_readQuake_16 (by decide) (fun h => ?_) (fun h => ?_)
  · refine r_iconst (pc := 30) dX7_readQuake_30 ?_
    exact r_zrets (pc := 31) h rfl dX7_readQuake_31
  · refine r_aload_n (pc := 19) dX7_readQuake_19 rfl rfl ?_
    refine r_callVs (pc := 20) (fun v => some (sj_i v)) (As := []) (rest := []) (b := a0) (ok7 ha0) h dX7_readQuake_20 mw_X7_95 vw_X7_readEnd (fun _ _ hc => cg_X7_readEnd ha0 hc) rfl ⟨(Nat.le_of_ble_eq_true rfl), (Nat.le_of_ble_eq_true rfl)⟩ (Nat.le_of_ble_eq_true rfl) rfl (fun v5 V4 h => ?_)
    refine r_if_eq (pc := 23) (tgt := 30) h dX7_readQuake_23 (by decide) (fun h => ?_) (fun h => ?_)
    · refine r_iconst (pc := 30) dX7_readQuake_30 ?_
      exact r_zrets (pc := 31) h rfl dX7_readQuake_31
    · refine r_iconst (pc := 26) dX7_readQuake_26 ?_
      refine r_goto (pc := 27) (tgt := 31) dX7_readQuake_27 (by decide) ?_
      exact r_zrets (pc := 31) h rfl dX7_readQuake_31
set_option maxHeartbeats 4000000 in
theorem cg_X7_readQuake {X : sj_X} {g : sj_G} {N : Nat} {a0 : Nat} {x1 : Nat} {V : sj_VV} {q : Int × sj_VV} (ha0 : OK7 g a0) (hx1 : OK0 g x1) (h : g_X7_readQuake N a0 x1 V = some q) : sj_C X m_X7_readQuake [sj_r (some a0), sj_r (some x1)] (g, V) (some (sj_i q.1), (g, q.2)) :=
  sj_C_of (by decide +kernel) (Nat.le_of_ble_eq_true rfl) (lo := [some (sj_r (some a0)), some (sj_r (some x1)), none]) rfl (sj_weak (l2 := [some (sj_r (some a0)), some (sj_r (some x1)), none]) (⟨rfl, ⟨rfl, trivial⟩⟩) (st_X7_readQuake_0 a0 x1 V ha0 hx1 h))
set_option maxHeartbeats 4000000 in
theorem c_X7_readQuake {X : sj_X} {N : Nat} {a0 : Nat} {x1 : Option Nat} {s : sj_Mem} {q : Int × sj_Mem} (h : f_X7_readQuake N a0 x1 s = some q) : sj_C X m_X7_readQuake [sj_r (some a0), sj_r x1] s (some (sj_i q.1), q.2) := by
  obtain ⟨g, V⟩ := s
  unfold f_X7_readQuake at h
  obtain ⟨ho, h1⟩ := e_ok_some h
  obtain ⟨q2, h2, rfl⟩ := sj_map_some h1
  obtain ⟨z1, hz1⟩ : ∃ z, x1 = some z := ⟨_, ho.2.1⟩
  subst hz1
  exact cg_X7_readQuake ho.1 ho.2.2 h2
theorem dX7_readLine_0 : decode cX7_readLine 0 = .ok (.aload_n 0, 1) := by decide +kernel
theorem dX7_readLine_1 : decode cX7_readLine 1 = .ok (.invokevirtual 80, 3) := by decide +kernel
theorem dX7_readLine_4 : decode cX7_readLine 4 = .ok (.aload_n 0, 1) := by decide +kernel
theorem dX7_readLine_5 : decode cX7_readLine 5 = .ok (.invokevirtual 114, 3) := by decide +kernel
theorem dX7_readLine_8 : decode cX7_readLine 8 = .ok (.istore_n 2, 1) := by decide +kernel
theorem dX7_readLine_9 : decode cX7_readLine 9 = .ok (.iload_n 2, 1) := by decide +kernel
theorem dX7_readLine_10 : decode cX7_readLine 10 = .ok (.tableswitch 239 0 13 #[70, 102, 134, 166, 199, 221, 239, 239, 239, 227, 239, 239, 239, 233], 70) := by decide +kernel
theorem dX7_readLine_80 : decode cX7_readLine 80 = .ok (.aload_n 0, 1) := by decide +kernel
theorem dX7_readLine_81 : decode cX7_readLine 81 = .ok (.iload_n 2, 1) := by decide +kernel
theorem dX7_readLine_82 : decode cX7_readLine 82 = .ok (.invokevirtual 117, 3) := by decide +kernel
theorem dX7_readLine_85 : decode cX7_readLine 85 = .ok (.ifCond .eq 25, 3) := by decide +kernel
theorem dX7_readLine_88 : decode cX7_readLine 88 = .ok (.aload_n 0, 1) := by decide +kernel
theorem dX7_readLine_89 : decode cX7_readLine 89 = .ok (.aload_n 1, 1) := by decide +kernel
theorem dX7_readLine_90 : decode cX7_readLine 90 = .ok (.getfield 120, 3) := by decide +kernel
theorem dX7_readLine_93 : decode cX7_readLine 93 = .ok (.iconst 0, 1) := by decide +kernel
theorem dX7_readLine_94 : decode cX7_readLine 94 = .ok (.aload_n 1, 1) := by decide +kernel
theorem dX7_readLine_95 : decode cX7_readLine 95 = .ok (.getfield 122, 3) := by decide +kernel
theorem dX7_readLine_98 : decode cX7_readLine 98 = .ok (.bipush 100, 2) := by decide +kernel
theorem dX7_readLine_100 : decode cX7_readLine 100 = .ok (.invokevirtual 125, 3) := by decide +kernel
theorem dX7_readLine_103 : decode cX7_readLine 103 = .ok (.ifCond .eq 7, 3) := by decide +kernel
theorem dX7_readLine_106 : decode cX7_readLine 106 = .ok (.iconst 1, 1) := by decide +kernel
theorem dX7_readLine_107 : decode cX7_readLine 107 = .ok (.goto 4, 3) := by decide +kernel
theorem dX7_readLine_110 : decode cX7_readLine 110 = .ok (.iconst 0, 1) := by decide +kernel
theorem dX7_readLine_111 : decode cX7_readLine 111 = .ok (.ireturn, 1) := by decide +kernel
theorem dX7_readLine_112 : decode cX7_readLine 112 = .ok (.aload_n 0, 1) := by decide +kernel
theorem dX7_readLine_113 : decode cX7_readLine 113 = .ok (.iload_n 2, 1) := by decide +kernel
theorem dX7_readLine_114 : decode cX7_readLine 114 = .ok (.invokevirtual 117, 3) := by decide +kernel
theorem dX7_readLine_117 : decode cX7_readLine 117 = .ok (.ifCond .eq 25, 3) := by decide +kernel
theorem dX7_readLine_120 : decode cX7_readLine 120 = .ok (.aload_n 0, 1) := by decide +kernel
theorem dX7_readLine_121 : decode cX7_readLine 121 = .ok (.aload_n 1, 1) := by decide +kernel
theorem dX7_readLine_122 : decode cX7_readLine 122 = .ok (.getfield 129, 3) := by decide +kernel
theorem dX7_readLine_125 : decode cX7_readLine 125 = .ok (.iconst 0, 1) := by decide +kernel
theorem dX7_readLine_126 : decode cX7_readLine 126 = .ok (.aload_n 1, 1) := by decide +kernel
theorem dX7_readLine_127 : decode cX7_readLine 127 = .ok (.getfield 122, 3) := by decide +kernel
theorem dX7_readLine_130 : decode cX7_readLine 130 = .ok (.bipush 100, 2) := by decide +kernel
theorem dX7_readLine_132 : decode cX7_readLine 132 = .ok (.invokevirtual 125, 3) := by decide +kernel
theorem dX7_readLine_135 : decode cX7_readLine 135 = .ok (.ifCond .eq 7, 3) := by decide +kernel
theorem dX7_readLine_138 : decode cX7_readLine 138 = .ok (.iconst 1, 1) := by decide +kernel
theorem dX7_readLine_139 : decode cX7_readLine 139 = .ok (.goto 4, 3) := by decide +kernel
theorem dX7_readLine_142 : decode cX7_readLine 142 = .ok (.iconst 0, 1) := by decide +kernel
theorem dX7_readLine_143 : decode cX7_readLine 143 = .ok (.ireturn, 1) := by decide +kernel
theorem dX7_readLine_144 : decode cX7_readLine 144 = .ok (.aload_n 0, 1) := by decide +kernel
theorem dX7_readLine_145 : decode cX7_readLine 145 = .ok (.iload_n 2, 1) := by decide +kernel
theorem dX7_readLine_146 : decode cX7_readLine 146 = .ok (.invokevirtual 117, 3) := by decide +kernel
theorem dX7_readLine_149 : decode cX7_readLine 149 = .ok (.ifCond .eq 25, 3) := by decide +kernel
theorem dX7_readLine_152 : decode cX7_readLine 152 = .ok (.aload_n 0, 1) := by decide +kernel
theorem dX7_readLine_153 : decode cX7_readLine 153 = .ok (.aload_n 1, 1) := by decide +kernel
theorem dX7_readLine_154 : decode cX7_readLine 154 = .ok (.getfield 131, 3) := by decide +kernel
theorem dX7_readLine_157 : decode cX7_readLine 157 = .ok (.iconst 0, 1) := by decide +kernel
theorem dX7_readLine_158 : decode cX7_readLine 158 = .ok (.aload_n 1, 1) := by decide +kernel
theorem dX7_readLine_159 : decode cX7_readLine 159 = .ok (.getfield 122, 3) := by decide +kernel
theorem dX7_readLine_162 : decode cX7_readLine 162 = .ok (.bipush 100, 2) := by decide +kernel
theorem dX7_readLine_164 : decode cX7_readLine 164 = .ok (.invokevirtual 125, 3) := by decide +kernel
theorem dX7_readLine_167 : decode cX7_readLine 167 = .ok (.ifCond .eq 7, 3) := by decide +kernel
theorem dX7_readLine_170 : decode cX7_readLine 170 = .ok (.iconst 1, 1) := by decide +kernel
theorem dX7_readLine_171 : decode cX7_readLine 171 = .ok (.goto 4, 3) := by decide +kernel
theorem dX7_readLine_174 : decode cX7_readLine 174 = .ok (.iconst 0, 1) := by decide +kernel
theorem dX7_readLine_175 : decode cX7_readLine 175 = .ok (.ireturn, 1) := by decide +kernel
theorem dX7_readLine_176 : decode cX7_readLine 176 = .ok (.aload_n 0, 1) := by decide +kernel
theorem dX7_readLine_177 : decode cX7_readLine 177 = .ok (.iload_n 2, 1) := by decide +kernel
theorem dX7_readLine_178 : decode cX7_readLine 178 = .ok (.invokevirtual 117, 3) := by decide +kernel
theorem dX7_readLine_181 : decode cX7_readLine 181 = .ok (.ifCond .eq 26, 3) := by decide +kernel
theorem dX7_readLine_184 : decode cX7_readLine 184 = .ok (.aload_n 0, 1) := by decide +kernel
theorem dX7_readLine_185 : decode cX7_readLine 185 = .ok (.aload_n 1, 1) := by decide +kernel
theorem dX7_readLine_186 : decode cX7_readLine 186 = .ok (.getfield 133, 3) := by decide +kernel
theorem dX7_readLine_189 : decode cX7_readLine 189 = .ok (.iconst 0, 1) := by decide +kernel
theorem dX7_readLine_190 : decode cX7_readLine 190 = .ok (.aload_n 1, 1) := by decide +kernel
theorem dX7_readLine_191 : decode cX7_readLine 191 = .ok (.getfield 122, 3) := by decide +kernel
theorem dX7_readLine_194 : decode cX7_readLine 194 = .ok (.sipush 500, 3) := by decide +kernel
theorem dX7_readLine_197 : decode cX7_readLine 197 = .ok (.invokevirtual 125, 3) := by decide +kernel
theorem dX7_readLine_200 : decode cX7_readLine 200 = .ok (.ifCond .eq 7, 3) := by decide +kernel
theorem dX7_readLine_203 : decode cX7_readLine 203 = .ok (.iconst 1, 1) := by decide +kernel
theorem dX7_readLine_204 : decode cX7_readLine 204 = .ok (.goto 4, 3) := by decide +kernel
theorem dX7_readLine_207 : decode cX7_readLine 207 = .ok (.iconst 0, 1) := by decide +kernel
theorem dX7_readLine_208 : decode cX7_readLine 208 = .ok (.ireturn, 1) := by decide +kernel
theorem dX7_readLine_209 : decode cX7_readLine 209 = .ok (.aload_n 0, 1) := by decide +kernel
theorem dX7_readLine_210 : decode cX7_readLine 210 = .ok (.iload_n 2, 1) := by decide +kernel
theorem dX7_readLine_211 : decode cX7_readLine 211 = .ok (.invokevirtual 117, 3) := by decide +kernel
theorem dX7_readLine_214 : decode cX7_readLine 214 = .ok (.ifCond .eq 15, 3) := by decide +kernel
theorem dX7_readLine_217 : decode cX7_readLine 217 = .ok (.aload_n 0, 1) := by decide +kernel
theorem dX7_readLine_218 : decode cX7_readLine 218 = .ok (.aload_n 1, 1) := by decide +kernel
theorem dX7_readLine_219 : decode cX7_readLine 219 = .ok (.invokevirtual 135, 3) := by decide +kernel
theorem dX7_readLine_222 : decode cX7_readLine 222 = .ok (.ifCond .eq 7, 3) := by decide +kernel
theorem dX7_readLine_225 : decode cX7_readLine 225 = .ok (.iconst 1, 1) := by decide +kernel
theorem dX7_readLine_226 : decode cX7_readLine 226 = .ok (.goto 4, 3) := by decide +kernel
theorem dX7_readLine_229 : decode cX7_readLine 229 = .ok (.iconst 0, 1) := by decide +kernel
theorem dX7_readLine_230 : decode cX7_readLine 230 = .ok (.ireturn, 1) := by decide +kernel
theorem dX7_readLine_231 : decode cX7_readLine 231 = .ok (.aload_n 0, 1) := by decide +kernel
theorem dX7_readLine_232 : decode cX7_readLine 232 = .ok (.aload_n 1, 1) := by decide +kernel
theorem dX7_readLine_233 : decode cX7_readLine 233 = .ok (.invokevirtual 138, 3) := by decide +kernel
theorem dX7_readLine_236 : decode cX7_readLine 236 = .ok (.ireturn, 1) := by decide +kernel
theorem dX7_readLine_237 : decode cX7_readLine 237 = .ok (.aload_n 0, 1) := by decide +kernel
theorem dX7_readLine_238 : decode cX7_readLine 238 = .ok (.aload_n 1, 1) := by decide +kernel
theorem dX7_readLine_239 : decode cX7_readLine 239 = .ok (.invokevirtual 141, 3) := by decide +kernel
theorem dX7_readLine_242 : decode cX7_readLine 242 = .ok (.ireturn, 1) := by decide +kernel
theorem dX7_readLine_243 : decode cX7_readLine 243 = .ok (.aload_n 0, 1) := by decide +kernel
theorem dX7_readLine_244 : decode cX7_readLine 244 = .ok (.aload_n 1, 1) := by decide +kernel
theorem dX7_readLine_245 : decode cX7_readLine 245 = .ok (.invokevirtual 144, 3) := by decide +kernel
theorem dX7_readLine_248 : decode cX7_readLine 248 = .ok (.ireturn, 1) := by decide +kernel
theorem dX7_readLine_249 : decode cX7_readLine 249 = .ok (.aload_n 0, 1) := by decide +kernel
theorem dX7_readLine_250 : decode cX7_readLine 250 = .ok (.iconst 1, 1) := by decide +kernel
theorem dX7_readLine_251 : decode cX7_readLine 251 = .ok (.aload_n 0, 1) := by decide +kernel
theorem dX7_readLine_252 : decode cX7_readLine 252 = .ok (.getfield 55, 3) := by decide +kernel
theorem dX7_readLine_255 : decode cX7_readLine 255 = .ok (.invokevirtual 47, 3) := by decide +kernel
theorem dX7_readLine_258 : decode cX7_readLine 258 = .ok (.pop, 1) := by decide +kernel
theorem dX7_readLine_259 : decode cX7_readLine 259 = .ok (.iconst 0, 1) := by decide +kernel
theorem dX7_readLine_260 : decode cX7_readLine 260 = .ok (.ireturn, 1) := by decide +kernel
set_option maxHeartbeats 4000000 in
theorem st_X7_readLine_0 {X : sj_X} {g : sj_G} {s0 : sj_Mem} {N : Nat} {q : Int × sj_VV} :
    ∀ (a0 : Nat) (x1 : Nat) (V : sj_VV), OK7 g a0 → OK0 g x1 → g_X7_readLine N a0 x1 V = some q → sj_T X m_X7_readLine s0 (some (sj_i q.1), (g, q.2)) 0 [some (sj_r (some a0)), some (sj_r (some x1)), none] [] (g, V) := by
  intro a0 x1 V ha0 hx1 h
  unfold g_X7_readLine at h
  refine r_aload_n (pc := 0) dX7_readLine_0 rfl rfl ?_
  refine r_callVs (pc := 1) (fun _ => none) (As := []) (rest := []) (b := a0) (ok7 ha0) h dX7_readLine_1 mw_X7_80 vw_X7_readWord (fun _ _ hc => cg_X7_readWord ha0 hc) rfl ⟨(Nat.le_of_ble_eq_true rfl), (Nat.le_of_ble_eq_true rfl)⟩ (Nat.le_of_ble_eq_true rfl) rfl (fun _u V1 h => ?_)
  refine r_aload_n (pc := 4) dX7_readLine_4 rfl rfl ?_
  refine r_callVs (pc := 5) (fun v => some (sj_i v)) (As := []) (rest := []) (b := a0) (ok7 ha0) h dX7_readLine_5 mw_X7_114 vw_X7_lineKind (fun _ _ hc => cg_X7_lineKind ha0 hc) rfl ⟨(Nat.le_of_ble_eq_true rfl), (Nat.le_of_ble_eq_true rfl)⟩ (Nat.le_of_ble_eq_true rfl) rfl (fun v3 V2 h => ?_)
  refine r_istore_n (ln := [some (sj_r (some a0)), some (sj_r (some x1)), some (sj_i v3)]) (pc := 8) dX7_readLine_8 rfl (Nat.le_of_ble_eq_true rfl) rfl ?_
  refine r_iload_n (pc := 9) dX7_readLine_9 rfl rfl ?_
  obtain ⟨hr, h⟩ := e_sw_some h
  refine sj_if h (fun c0 h => ?_) (fun c0 h => ?_)
  · refine r_tcase (pc := 10) (tgt := 80) (j := 0) hr c0 dX7_readLine_10 (by decide) (by decide) rfl (by decide) ?_
    refine r_aload_n (pc := 80) dX7_readLine_80 rfl rfl ?_
    refine r_iload_n (pc := 81) dX7_readLine_81 rfl rfl ?_
    refine r_callVs (pc := 82) (fun v => some (sj_i v)) (As := [sj_i v3]) (rest := []) (b := a0) (ok7 ha0) h dX7_readLine_82 mw_X7_117 vw_X7_isNew (fun _ _ hc => cg_X7_isNew ha0 hc) rfl ⟨(Nat.le_of_ble_eq_true rfl), (Nat.le_of_ble_eq_true rfl)⟩ (Nat.le_of_ble_eq_true rfl) rfl (fun v5 V4 h => ?_)
    refine r_if_eq (pc := 85) (tgt := 110) h dX7_readLine_85 (by decide) (fun h => ?_) (fun h => ?_)
    · refine r_iconst (pc := 110) dX7_readLine_110 ?_
      exact r_zrets (pc := 111) h rfl dX7_readLine_111
    · refine r_aload_n (pc := 88) dX7_readLine_88 rfl rfl ?_
      refine r_aload_n (pc := 89) dX7_readLine_89 rfl rfl ?_
      refine r_gRs (b := x1 + 1) (pc := 90) dX7_readLine_90 fw_X7_120 rfl (ok0 hx1) (ok0_3 hx1).1 ?_
      refine r_iconst (pc := 93) dX7_readLine_93 ?_
      refine r_aload_n (pc := 94) dX7_readLine_94 rfl rfl ?_
      refine r_gIs (pc := 95) dX7_readLine_95 fw_X7_122 rfl (ok0 hx1) ?_
      refine r_bipush (pc := 98) dX7_readLine_98 ⟨by decide, by decide⟩ ?_
      refine r_callVs (pc := 100) (fun v => some (sj_i v)) (As := [sj_r (some (x1 + 1)), sj_i 0, sj_i (V4 x1 0), sj_i 100]) (rest := []) (b := a0) (ok7 ha0) h dX7_readLine_100 mw_X7_125 vw_X7_readRow (fun _ _ hc => cg_X7_readRow ha0 (ok0_3 hx1).2 hc) rfl ⟨(Nat.le_of_ble_eq_true rfl), (Nat.le_of_ble_eq_true rfl)⟩ (Nat.le_of_ble_eq_true rfl) rfl (fun v7 V6 h => ?_)
      refine r_if_eq (pc := 103) (tgt := 110) h dX7_readLine_103 (by decide) (fun h => ?_) (fun h => ?_)
      · refine r_iconst (pc := 110) dX7_readLine_110 ?_
        exact r_zrets (pc := 111) h rfl dX7_readLine_111
      · refine r_iconst (pc := 106) dX7_readLine_106 ?_
        refine r_goto (pc := 107) (tgt := 111) dX7_readLine_107 (by decide) ?_
        exact r_zrets (pc := 111) h rfl dX7_readLine_111
  refine sj_if h (fun c1 h => ?_) (fun c1 h => ?_)
  · refine r_tcase (pc := 10) (tgt := 112) (j := 1) hr c1 dX7_readLine_10 (by decide) (by decide) rfl (by decide) ?_
    refine r_aload_n (pc := 112) dX7_readLine_112 rfl rfl ?_
    refine r_iload_n (pc := 113) dX7_readLine_113 rfl rfl ?_
    refine r_callVs (pc := 114) (fun v => some (sj_i v)) (As := [sj_i v3]) (rest := []) (b := a0) (ok7 ha0) h dX7_readLine_114 mw_X7_117 vw_X7_isNew (fun _ _ hc => cg_X7_isNew ha0 hc) rfl ⟨(Nat.le_of_ble_eq_true rfl), (Nat.le_of_ble_eq_true rfl)⟩ (Nat.le_of_ble_eq_true rfl) rfl (fun v9 V8 h => ?_)
    refine r_if_eq (pc := 117) (tgt := 142) h dX7_readLine_117 (by decide) (fun h => ?_) (fun h => ?_)
    · refine r_iconst (pc := 142) dX7_readLine_142 ?_
      exact r_zrets (pc := 143) h rfl dX7_readLine_143
    · refine r_aload_n (pc := 120) dX7_readLine_120 rfl rfl ?_
      refine r_aload_n (pc := 121) dX7_readLine_121 rfl rfl ?_
      refine r_gRs (b := x1 + 2) (pc := 122) dX7_readLine_122 fw_X7_129 rfl (ok0 hx1) (ok0_4 hx1).1 ?_
      refine r_iconst (pc := 125) dX7_readLine_125 ?_
      refine r_aload_n (pc := 126) dX7_readLine_126 rfl rfl ?_
      refine r_gIs (pc := 127) dX7_readLine_127 fw_X7_122 rfl (ok0 hx1) ?_
      refine r_bipush (pc := 130) dX7_readLine_130 ⟨by decide, by decide⟩ ?_
      refine r_callVs (pc := 132) (fun v => some (sj_i v)) (As := [sj_r (some (x1 + 2)), sj_i 0, sj_i (V8 x1 0), sj_i 100]) (rest := []) (b := a0) (ok7 ha0) h dX7_readLine_132 mw_X7_125 vw_X7_readRow (fun _ _ hc => cg_X7_readRow ha0 (ok0_4 hx1).2 hc) rfl ⟨(Nat.le_of_ble_eq_true rfl), (Nat.le_of_ble_eq_true rfl)⟩ (Nat.le_of_ble_eq_true rfl) rfl (fun v11 V10 h => ?_)
      refine r_if_eq (pc := 135) (tgt := 142) h dX7_readLine_135 (by decide) (fun h => ?_) (fun h => ?_)
      · refine r_iconst (pc := 142) dX7_readLine_142 ?_
        exact r_zrets (pc := 143) h rfl dX7_readLine_143
      · refine r_iconst (pc := 138) dX7_readLine_138 ?_
        refine r_goto (pc := 139) (tgt := 143) dX7_readLine_139 (by decide) ?_
        exact r_zrets (pc := 143) h rfl dX7_readLine_143
  refine sj_if h (fun c2 h => ?_) (fun c2 h => ?_)
  · refine r_tcase (pc := 10) (tgt := 144) (j := 2) hr c2 dX7_readLine_10 (by decide) (by decide) rfl (by decide) ?_
    refine r_aload_n (pc := 144) dX7_readLine_144 rfl rfl ?_
    refine r_iload_n (pc := 145) dX7_readLine_145 rfl rfl ?_
    refine r_callVs (pc := 146) (fun v => some (sj_i v)) (As := [sj_i v3]) (rest := []) (b := a0) (ok7 ha0) h dX7_readLine_146 mw_X7_117 vw_X7_isNew (fun _ _ hc => cg_X7_isNew ha0 hc) rfl ⟨(Nat.le_of_ble_eq_true rfl), (Nat.le_of_ble_eq_true rfl)⟩ (Nat.le_of_ble_eq_true rfl) rfl (fun v13 V12 h => ?_)
    refine r_if_eq (pc := 149) (tgt := 174) h dX7_readLine_149 (by decide) (fun h => ?_) (fun h => ?_)
    · refine r_iconst (pc := 174) dX7_readLine_174 ?_
      exact r_zrets (pc := 175) h rfl dX7_readLine_175
    · refine r_aload_n (pc := 152) dX7_readLine_152 rfl rfl ?_
      refine r_aload_n (pc := 153) dX7_readLine_153 rfl rfl ?_
      refine r_gRs (b := x1 + 3) (pc := 154) dX7_readLine_154 fw_X7_131 rfl (ok0 hx1) (ok0_5 hx1).1 ?_
      refine r_iconst (pc := 157) dX7_readLine_157 ?_
      refine r_aload_n (pc := 158) dX7_readLine_158 rfl rfl ?_
      refine r_gIs (pc := 159) dX7_readLine_159 fw_X7_122 rfl (ok0 hx1) ?_
      refine r_bipush (pc := 162) dX7_readLine_162 ⟨by decide, by decide⟩ ?_
      refine r_callVs (pc := 164) (fun v => some (sj_i v)) (As := [sj_r (some (x1 + 3)), sj_i 0, sj_i (V12 x1 0), sj_i 100]) (rest := []) (b := a0) (ok7 ha0) h dX7_readLine_164 mw_X7_125 vw_X7_readRow (fun _ _ hc => cg_X7_readRow ha0 (ok0_5 hx1).2 hc) rfl ⟨(Nat.le_of_ble_eq_true rfl), (Nat.le_of_ble_eq_true rfl)⟩ (Nat.le_of_ble_eq_true rfl) rfl (fun v15 V14 h => ?_)
      refine r_if_eq (pc := 167) (tgt := 174) h dX7_readLine_167 (by decide) (fun h => ?_) (fun h => ?_)
      · refine r_iconst (pc := 174) dX7_readLine_174 ?_
        exact r_zrets (pc := 175) h rfl dX7_readLine_175
      · refine r_iconst (pc := 170) dX7_readLine_170 ?_
        refine r_goto (pc := 171) (tgt := 175) dX7_readLine_171 (by decide) ?_
        exact r_zrets (pc := 175) h rfl dX7_readLine_175
  refine sj_if h (fun c3 h => ?_) (fun c3 h => ?_)
  · refine r_tcase (pc := 10) (tgt := 176) (j := 3) hr c3 dX7_readLine_10 (by decide) (by decide) rfl (by decide) ?_
    refine r_aload_n (pc := 176) dX7_readLine_176 rfl rfl ?_
    refine r_iload_n (pc := 177) dX7_readLine_177 rfl rfl ?_
    refine r_callVs (pc := 178) (fun v => some (sj_i v)) (As := [sj_i v3]) (rest := []) (b := a0) (ok7 ha0) h dX7_readLine_178 mw_X7_117 vw_X7_isNew (fun _ _ hc => cg_X7_isNew ha0 hc) rfl ⟨(Nat.le_of_ble_eq_true rfl), (Nat.le_of_ble_eq_true rfl)⟩ (Nat.le_of_ble_eq_true rfl) rfl (fun v17 V16 h => ?_)
    refine r_if_eq (pc := 181) (tgt := 207) h dX7_readLine_181 (by decide) (fun h => ?_) (fun h => ?_)
    · refine r_iconst (pc := 207) dX7_readLine_207 ?_
      exact r_zrets (pc := 208) h rfl dX7_readLine_208
    · refine r_aload_n (pc := 184) dX7_readLine_184 rfl rfl ?_
      refine r_aload_n (pc := 185) dX7_readLine_185 rfl rfl ?_
      refine r_gRs (b := x1 + 4) (pc := 186) dX7_readLine_186 fw_X7_133 rfl (ok0 hx1) (ok0_6 hx1).1 ?_
      refine r_iconst (pc := 189) dX7_readLine_189 ?_
      refine r_aload_n (pc := 190) dX7_readLine_190 rfl rfl ?_
      refine r_gIs (pc := 191) dX7_readLine_191 fw_X7_122 rfl (ok0 hx1) ?_
      refine r_sipush (pc := 194) dX7_readLine_194 ⟨by decide, by decide⟩ ?_
      refine r_callVs (pc := 197) (fun v => some (sj_i v)) (As := [sj_r (some (x1 + 4)), sj_i 0, sj_i (V16 x1 0), sj_i 500]) (rest := []) (b := a0) (ok7 ha0) h dX7_readLine_197 mw_X7_125 vw_X7_readRow (fun _ _ hc => cg_X7_readRow ha0 (ok0_6 hx1).2 hc) rfl ⟨(Nat.le_of_ble_eq_true rfl), (Nat.le_of_ble_eq_true rfl)⟩ (Nat.le_of_ble_eq_true rfl) rfl (fun v19 V18 h => ?_)
      refine r_if_eq (pc := 200) (tgt := 207) h dX7_readLine_200 (by decide) (fun h => ?_) (fun h => ?_)
      · refine r_iconst (pc := 207) dX7_readLine_207 ?_
        exact r_zrets (pc := 208) h rfl dX7_readLine_208
      · refine r_iconst (pc := 203) dX7_readLine_203 ?_
        refine r_goto (pc := 204) (tgt := 208) dX7_readLine_204 (by decide) ?_
        exact r_zrets (pc := 208) h rfl dX7_readLine_208
  refine sj_if h (fun c4 h => ?_) (fun c4 h => ?_)
  · refine r_tcase (pc := 10) (tgt := 209) (j := 4) hr c4 dX7_readLine_10 (by decide) (by decide) rfl (by decide) ?_
    refine r_aload_n (pc := 209) dX7_readLine_209 rfl rfl ?_
    refine r_iload_n (pc := 210) dX7_readLine_210 rfl rfl ?_
    refine r_callVs (pc := 211) (fun v => some (sj_i v)) (As := [sj_i v3]) (rest := []) (b := a0) (ok7 ha0) h dX7_readLine_211 mw_X7_117 vw_X7_isNew (fun _ _ hc => cg_X7_isNew ha0 hc) rfl ⟨(Nat.le_of_ble_eq_true rfl), (Nat.le_of_ble_eq_true rfl)⟩ (Nat.le_of_ble_eq_true rfl) rfl (fun v21 V20 h => ?_)
    refine r_if_eq (pc := 214) (tgt := 229) h dX7_readLine_214 (by decide) (fun h => ?_) (fun h => ?_)
    · refine r_iconst (pc := 229) dX7_readLine_229 ?_
      exact r_zrets (pc := 230) h rfl dX7_readLine_230
    · refine r_aload_n (pc := 217) dX7_readLine_217 rfl rfl ?_
      refine r_aload_n (pc := 218) dX7_readLine_218 rfl rfl ?_
      refine r_callVs (pc := 219) (fun v => some (sj_i v)) (As := [sj_r (some x1)]) (rest := []) (b := a0) (ok7 ha0) h dX7_readLine_219 mw_X7_135 vw_X7_readQuake (fun _ _ hc => cg_X7_readQuake ha0 hx1 hc) rfl ⟨(Nat.le_of_ble_eq_true rfl), (Nat.le_of_ble_eq_true rfl)⟩ (Nat.le_of_ble_eq_true rfl) rfl (fun v23 V22 h => ?_)
      refine r_if_eq (pc := 222) (tgt := 229) h dX7_readLine_222 (by decide) (fun h => ?_) (fun h => ?_)
      · refine r_iconst (pc := 229) dX7_readLine_229 ?_
        exact r_zrets (pc := 230) h rfl dX7_readLine_230
      · refine r_iconst (pc := 225) dX7_readLine_225 ?_
        refine r_goto (pc := 226) (tgt := 230) dX7_readLine_226 (by decide) ?_
        exact r_zrets (pc := 230) h rfl dX7_readLine_230
  refine sj_if h (fun c5 h => ?_) (fun c5 h => ?_)
  · refine r_tcase (pc := 10) (tgt := 231) (j := 5) hr c5 dX7_readLine_10 (by decide) (by decide) rfl (by decide) ?_
    refine r_aload_n (pc := 231) dX7_readLine_231 rfl rfl ?_
    refine r_aload_n (pc := 232) dX7_readLine_232 rfl rfl ?_
    refine r_callVs (pc := 233) (fun v => some (sj_i v)) (As := [sj_r (some x1)]) (rest := []) (b := a0) (ok7 ha0) h dX7_readLine_233 mw_X7_138 vw_X7_readTop (fun _ _ hc => cg_X7_readTop ha0 hx1 hc) rfl ⟨(Nat.le_of_ble_eq_true rfl), (Nat.le_of_ble_eq_true rfl)⟩ (Nat.le_of_ble_eq_true rfl) rfl (fun v25 V24 h => ?_)
    exact r_zrets (pc := 236) h rfl dX7_readLine_236
  refine sj_if h (fun c6 h => ?_) (fun c6 h => ?_)
  · refine r_tcase (pc := 10) (tgt := 249) (j := 6) hr c6 dX7_readLine_10 (by decide) (by decide) rfl (by decide) ?_
    refine r_aload_n (pc := 249) dX7_readLine_249 rfl rfl ?_
    refine r_iconst (pc := 250) dX7_readLine_250 ?_
    refine r_aload_n (pc := 251) dX7_readLine_251 rfl rfl ?_
    refine r_gIs (pc := 252) dX7_readLine_252 fw_X7_55 rfl (ok7 ha0) ?_
    refine r_callVs (pc := 255) (fun v => some (sj_i v)) (As := [sj_i 1, sj_i (V2 a0 5)]) (rest := []) (b := a0) (ok7 ha0) h dX7_readLine_255 mw_X7_47 vw_X7_fail (fun _ _ hc => cg_X7_fail ha0 hc) rfl ⟨(Nat.le_of_ble_eq_true rfl), (Nat.le_of_ble_eq_true rfl)⟩ (Nat.le_of_ble_eq_true rfl) rfl (fun v27 V26 h => ?_)
    refine r_pop (pc := 258) dX7_readLine_258 rfl ?_
    refine r_iconst (pc := 259) dX7_readLine_259 ?_
    exact r_zrets (pc := 260) h rfl dX7_readLine_260
  refine sj_if h (fun c7 h => ?_) (fun c7 h => ?_)
  · refine r_tcase (pc := 10) (tgt := 249) (j := 7) hr c7 dX7_readLine_10 (by decide) (by decide) rfl (by decide) ?_
    refine r_aload_n (pc := 249) dX7_readLine_249 rfl rfl ?_
    refine r_iconst (pc := 250) dX7_readLine_250 ?_
    refine r_aload_n (pc := 251) dX7_readLine_251 rfl rfl ?_
    refine r_gIs (pc := 252) dX7_readLine_252 fw_X7_55 rfl (ok7 ha0) ?_
    refine r_callVs (pc := 255) (fun v => some (sj_i v)) (As := [sj_i 1, sj_i (V2 a0 5)]) (rest := []) (b := a0) (ok7 ha0) h dX7_readLine_255 mw_X7_47 vw_X7_fail (fun _ _ hc => cg_X7_fail ha0 hc) rfl ⟨(Nat.le_of_ble_eq_true rfl), (Nat.le_of_ble_eq_true rfl)⟩ (Nat.le_of_ble_eq_true rfl) rfl (fun v29 V28 h => ?_)
    refine r_pop (pc := 258) dX7_readLine_258 rfl ?_
    refine r_iconst (pc := 259) dX7_readLine_259 ?_
    exact r_zrets (pc := 260) h rfl dX7_readLine_260
  refine sj_if h (fun c8 h => ?_) (fun c8 h => ?_)
  · refine r_tcase (pc := 10) (tgt := 249) (j := 8) hr c8 dX7_readLine_10 (by decide) (by decide) rfl (by decide) ?_
    refine r_aload_n (pc := 249) dX7_readLine_249 rfl rfl ?_
    refine r_iconst (pc := 250) dX7_readLine_250 ?_
    refine r_aload_n (pc := 251) dX7_readLine_251 rfl rfl ?_
    refine r_gIs (pc := 252) dX7_readLine_252 fw_X7_55 rfl (ok7 ha0) ?_
    refine r_callVs (pc := 255) (fun v => some (sj_i v)) (As := [sj_i 1, sj_i (V2 a0 5)]) (rest := []) (b := a0) (ok7 ha0) h dX7_readLine_255 mw_X7_47 vw_X7_fail (fun _ _ hc => cg_X7_fail ha0 hc) rfl ⟨(Nat.le_of_ble_eq_true rfl), (Nat.le_of_ble_eq_true rfl)⟩ (Nat.le_of_ble_eq_true rfl) rfl (fun v31 V30 h => ?_)
    refine r_pop (pc := 258) dX7_readLine_258 rfl ?_
    refine r_iconst (pc := 259) dX7_readLine_259 ?_
    exact r_zrets (pc := 260) h rfl dX7_readLine_260
  refine sj_if h (fun c9 h => ?_) (fun c9 h => ?_)
  · refine r_tcase (pc := 10) (tgt := 237) (j := 9) hr c9 dX7_readLine_10 (by decide) (by decide) rfl (by decide) ?_
    refine r_aload_n (pc := 237) dX7_readLine_237 rfl rfl ?_
    refine r_aload_n (pc := 238) dX7_readLine_238 rfl rfl ?_
    refine r_callVs (pc := 239) (fun v => some (sj_i v)) (As := [sj_r (some x1)]) (rest := []) (b := a0) (ok7 ha0) h dX7_readLine_239 mw_X7_141 vw_X7_readSoil (fun _ _ hc => cg_X7_readSoil ha0 hx1 hc) rfl ⟨(Nat.le_of_ble_eq_true rfl), (Nat.le_of_ble_eq_true rfl)⟩ (Nat.le_of_ble_eq_true rfl) rfl (fun v33 V32 h => ?_)
    exact r_zrets (pc := 242) h rfl dX7_readLine_242
  refine sj_if h (fun c10 h => ?_) (fun c10 h => ?_)
  · refine r_tcase (pc := 10) (tgt := 249) (j := 10) hr c10 dX7_readLine_10 (by decide) (by decide) rfl (by decide) ?_
    refine r_aload_n (pc := 249) dX7_readLine_249 rfl rfl ?_
    refine r_iconst (pc := 250) dX7_readLine_250 ?_
    refine r_aload_n (pc := 251) dX7_readLine_251 rfl rfl ?_
    refine r_gIs (pc := 252) dX7_readLine_252 fw_X7_55 rfl (ok7 ha0) ?_
    refine r_callVs (pc := 255) (fun v => some (sj_i v)) (As := [sj_i 1, sj_i (V2 a0 5)]) (rest := []) (b := a0) (ok7 ha0) h dX7_readLine_255 mw_X7_47 vw_X7_fail (fun _ _ hc => cg_X7_fail ha0 hc) rfl ⟨(Nat.le_of_ble_eq_true rfl), (Nat.le_of_ble_eq_true rfl)⟩ (Nat.le_of_ble_eq_true rfl) rfl (fun v35 V34 h => ?_)
    refine r_pop (pc := 258) dX7_readLine_258 rfl ?_
    refine r_iconst (pc := 259) dX7_readLine_259 ?_
    exact r_zrets (pc := 260) h rfl dX7_readLine_260
  refine sj_if h (fun c11 h => ?_) (fun c11 h => ?_)
  · refine r_tcase (pc := 10) (tgt := 249) (j := 11) hr c11 dX7_readLine_10 (by decide) (by decide) rfl (by decide) ?_
    refine r_aload_n (pc := 249) dX7_readLine_249 rfl rfl ?_
    refine r_iconst (pc := 250) dX7_readLine_250 ?_
    refine r_aload_n (pc := 251) dX7_readLine_251 rfl rfl ?_
    refine r_gIs (pc := 252) dX7_readLine_252 fw_X7_55 rfl (ok7 ha0) ?_
    refine r_callVs (pc := 255) (fun v => some (sj_i v)) (As := [sj_i 1, sj_i (V2 a0 5)]) (rest := []) (b := a0) (ok7 ha0) h dX7_readLine_255 mw_X7_47 vw_X7_fail (fun _ _ hc => cg_X7_fail ha0 hc) rfl ⟨(Nat.le_of_ble_eq_true rfl), (Nat.le_of_ble_eq_true rfl)⟩ (Nat.le_of_ble_eq_true rfl) rfl (fun v37 V36 h => ?_)
    refine r_pop (pc := 258) dX7_readLine_258 rfl ?_
    refine r_iconst (pc := 259) dX7_readLine_259 ?_
    exact r_zrets (pc := 260) h rfl dX7_readLine_260
  refine sj_if h (fun c12 h => ?_) (fun c12 h => ?_)
  · refine r_tcase (pc := 10) (tgt := 249) (j := 12) hr c12 dX7_readLine_10 (by decide) (by decide) rfl (by decide) ?_
    refine r_aload_n (pc := 249) dX7_readLine_249 rfl rfl ?_
    refine r_iconst (pc := 250) dX7_readLine_250 ?_
    refine r_aload_n (pc := 251) dX7_readLine_251 rfl rfl ?_
    refine r_gIs (pc := 252) dX7_readLine_252 fw_X7_55 rfl (ok7 ha0) ?_
    refine r_callVs (pc := 255) (fun v => some (sj_i v)) (As := [sj_i 1, sj_i (V2 a0 5)]) (rest := []) (b := a0) (ok7 ha0) h dX7_readLine_255 mw_X7_47 vw_X7_fail (fun _ _ hc => cg_X7_fail ha0 hc) rfl ⟨(Nat.le_of_ble_eq_true rfl), (Nat.le_of_ble_eq_true rfl)⟩ (Nat.le_of_ble_eq_true rfl) rfl (fun v39 V38 h => ?_)
    refine r_pop (pc := 258) dX7_readLine_258 rfl ?_
    refine r_iconst (pc := 259) dX7_readLine_259 ?_
    exact r_zrets (pc := 260) h rfl dX7_readLine_260
  refine sj_if h (fun c13 h => ?_) (fun c13 h => ?_)
  · refine r_tcase (pc := 10) (tgt := 243) (j := 13) hr c13 dX7_readLine_10 (by decide) (by decide) rfl (by decide) ?_
    refine r_aload_n (pc := 243) dX7_readLine_243 rfl rfl ?_
    refine r_aload_n (pc := 244) dX7_readLine_244 rfl rfl ?_
    refine r_callVs (pc := 245) (fun v => some (sj_i v)) (As := [sj_r (some x1)]) (rest := []) (b := a0) (ok7 ha0) h dX7_readLine_245 mw_X7_144 vw_X7_readAnchor (fun _ _ hc => cg_X7_readAnchor ha0 hx1 hc) rfl ⟨(Nat.le_of_ble_eq_true rfl), (Nat.le_of_ble_eq_true rfl)⟩ (Nat.le_of_ble_eq_true rfl) rfl (fun v41 V40 h => ?_)
    exact r_zrets (pc := 248) h rfl dX7_readLine_248
  refine r_tdflt (pc := 10) (tgt := 249) hr dX7_readLine_10 (by omega) (by decide) ?_
  refine r_aload_n (pc := 249) dX7_readLine_249 rfl rfl ?_
  refine r_iconst (pc := 250) dX7_readLine_250 ?_
  refine r_aload_n (pc := 251) dX7_readLine_251 rfl rfl ?_
  refine r_gIs (pc := 252) dX7_readLine_252 fw_X7_55 rfl (ok7 ha0) ?_
  refine r_callVs (pc := 255) (fun v => some (sj_i v)) (As := [sj_i 1, sj_i (V2 a0 5)]) (rest := []) (b := a0) (ok7 ha0) h dX7_readLine_255 mw_X7_47 vw_X7_fail (fun _ _ hc => cg_X7_fail ha0 hc) rfl ⟨(Nat.le_of_ble_eq_true rfl), (Nat.le_of_ble_eq_true rfl)⟩ (Nat.le_of_ble_eq_true rfl) rfl (fun v43 V42 h => ?_)
  refine r_pop (pc := 258) dX7_readLine_258 rfl ?_
  refine r_iconst (pc := 259) dX7_readLine_259 ?_
  exact r_zrets (pc := 260) h rfl dX7_readLine_260
set_option maxHeartbeats 4000000 in
theorem cg_X7_readLine {X : sj_X} {g : sj_G} {N : Nat} {a0 : Nat} {x1 : Nat} {V : sj_VV} {q : Int × sj_VV} (ha0 : OK7 g a0) (hx1 : OK0 g x1) (h : g_X7_readLine N a0 x1 V = some q) : sj_C X m_X7_readLine [sj_r (some a0), sj_r (some x1)] (g, V) (some (sj_i q.1), (g, q.2)) :=
  sj_C_of (by decide +kernel) (Nat.le_of_ble_eq_true rfl) (lo := [some (sj_r (some a0)), some (sj_r (some x1)), none]) rfl (sj_weak (l2 := [some (sj_r (some a0)), some (sj_r (some x1)), none]) (⟨rfl, ⟨rfl, trivial⟩⟩) (st_X7_readLine_0 a0 x1 V ha0 hx1 h))
set_option maxHeartbeats 4000000 in
theorem c_X7_readLine {X : sj_X} {N : Nat} {a0 : Nat} {x1 : Option Nat} {s : sj_Mem} {q : Int × sj_Mem} (h : f_X7_readLine N a0 x1 s = some q) : sj_C X m_X7_readLine [sj_r (some a0), sj_r x1] s (some (sj_i q.1), q.2) := by
  obtain ⟨g, V⟩ := s
  unfold f_X7_readLine at h
  obtain ⟨ho, h1⟩ := e_ok_some h
  obtain ⟨q2, h2, rfl⟩ := sj_map_some h1
  obtain ⟨z1, hz1⟩ : ∃ z, x1 = some z := ⟨_, ho.2.1⟩
  subst hz1
  exact cg_X7_readLine ho.1 ho.2.2 h2
theorem dX7_read_0 : decode cX7_read 0 = .ok (.aload_n 0, 1) := by decide +kernel
theorem dX7_read_1 : decode cX7_read 1 = .ok (.iconst 0, 1) := by decide +kernel
theorem dX7_read_2 : decode cX7_read 2 = .ok (.putfield 22, 3) := by decide +kernel
theorem dX7_read_5 : decode cX7_read 5 = .ok (.aload_n 0, 1) := by decide +kernel
theorem dX7_read_6 : decode cX7_read 6 = .ok (.iconst 0, 1) := by decide +kernel
theorem dX7_read_7 : decode cX7_read 7 = .ok (.putfield 25, 3) := by decide +kernel
theorem dX7_read_10 : decode cX7_read 10 = .ok (.aload_n 0, 1) := by decide +kernel
theorem dX7_read_11 : decode cX7_read 11 = .ok (.iconst (-1), 1) := by decide +kernel
theorem dX7_read_12 : decode cX7_read 12 = .ok (.putfield 15, 3) := by decide +kernel
theorem dX7_read_15 : decode cX7_read 15 = .ok (.aload_n 0, 1) := by decide +kernel
theorem dX7_read_16 : decode cX7_read 16 = .ok (.iconst 0, 1) := by decide +kernel
theorem dX7_read_17 : decode cX7_read 17 = .ok (.putfield 28, 3) := by decide +kernel
theorem dX7_read_20 : decode cX7_read 20 = .ok (.aload_n 0, 1) := by decide +kernel
theorem dX7_read_21 : decode cX7_read 21 = .ok (.invokevirtual 31, 3) := by decide +kernel
theorem dX7_read_24 : decode cX7_read 24 = .ok (.aload_n 0, 1) := by decide +kernel
theorem dX7_read_25 : decode cX7_read 25 = .ok (.aload_n 1, 1) := by decide +kernel
theorem dX7_read_26 : decode cX7_read 26 = .ok (.invokevirtual 34, 3) := by decide +kernel
theorem dX7_read_29 : decode cX7_read 29 = .ok (.ifCond .ne 5, 3) := by decide +kernel
theorem dX7_read_32 : decode cX7_read 32 = .ok (.iconst (-1), 1) := by decide +kernel
theorem dX7_read_33 : decode cX7_read 33 = .ok (.ireturn, 1) := by decide +kernel
theorem dX7_read_34 : decode cX7_read 34 = .ok (.iconst 1, 1) := by decide +kernel
theorem dX7_read_35 : decode cX7_read 35 = .ok (.istore_n 2, 1) := by decide +kernel
theorem dX7_read_36 : decode cX7_read 36 = .ok (.aload_n 0, 1) := by decide +kernel
theorem dX7_read_37 : decode cX7_read 37 = .ok (.getfield 22, 3) := by decide +kernel
theorem dX7_read_40 : decode cX7_read 40 = .ok (.aload_n 0, 1) := by decide +kernel
theorem dX7_read_41 : decode cX7_read 41 = .ok (.getfield 19, 3) := by decide +kernel
theorem dX7_read_44 : decode cX7_read 44 = .ok (.if_icmp .ge 26, 3) := by decide +kernel
theorem dX7_read_47 : decode cX7_read 47 = .ok (.iload_n 2, 1) := by decide +kernel
theorem dX7_read_48 : decode cX7_read 48 = .ok (.sipush 600, 3) := by decide +kernel
theorem dX7_read_51 : decode cX7_read 51 = .ok (.if_icmp .gt 19, 3) := by decide +kernel
theorem dX7_read_54 : decode cX7_read 54 = .ok (.aload_n 0, 1) := by decide +kernel
theorem dX7_read_55 : decode cX7_read 55 = .ok (.aload_n 1, 1) := by decide +kernel
theorem dX7_read_56 : decode cX7_read 56 = .ok (.invokevirtual 38, 3) := by decide +kernel
theorem dX7_read_59 : decode cX7_read 59 = .ok (.ifCond .ne 5, 3) := by decide +kernel
theorem dX7_read_62 : decode cX7_read 62 = .ok (.iconst (-1), 1) := by decide +kernel
theorem dX7_read_63 : decode cX7_read 63 = .ok (.ireturn, 1) := by decide +kernel
theorem dX7_read_64 : decode cX7_read 64 = .ok (.iinc 2 1, 3) := by decide +kernel
theorem dX7_read_67 : decode cX7_read 67 = .ok (.goto (-31), 3) := by decide +kernel
theorem dX7_read_70 : decode cX7_read 70 = .ok (.aload_n 1, 1) := by decide +kernel
theorem dX7_read_71 : decode cX7_read 71 = .ok (.invokevirtual 41, 3) := by decide +kernel
theorem dX7_read_74 : decode cX7_read 74 = .ok (.ifCond .eq 7, 3) := by decide +kernel
theorem dX7_read_77 : decode cX7_read 77 = .ok (.iload_n 2, 1) := by decide +kernel
theorem dX7_read_78 : decode cX7_read 78 = .ok (.goto 12, 3) := by decide +kernel
theorem dX7_read_81 : decode cX7_read 81 = .ok (.aload_n 0, 1) := by decide +kernel
theorem dX7_read_82 : decode cX7_read 82 = .ok (.iconst 4, 1) := by decide +kernel
theorem dX7_read_83 : decode cX7_read 83 = .ok (.aload_n 0, 1) := by decide +kernel
theorem dX7_read_84 : decode cX7_read 84 = .ok (.getfield 19, 3) := by decide +kernel
theorem dX7_read_87 : decode cX7_read 87 = .ok (.invokevirtual 47, 3) := by decide +kernel
theorem dX7_read_90 : decode cX7_read 90 = .ok (.ireturn, 1) := by decide +kernel
set_option maxHeartbeats 4000000 in
theorem st_X7_read_70 {X : sj_X} {g : sj_G} {s0 : sj_Mem} {N : Nat} {q : Int × sj_VV} :
    ∀ (a0 : Nat) (x1 : Nat) (x2 : Int) (V : sj_VV), OK7 g a0 → OK0 g x1 → g_X7_read_70 N a0 x1 x2 V = some q → sj_T X m_X7_read s0 (some (sj_i q.1), (g, q.2)) 70 [some (sj_r (some a0)), some (sj_r (some x1)), some (sj_i x2)] [] (g, V) := by
  intro a0 x1 x2 V ha0 hx1 h
  unfold g_X7_read_70 at h
  refine r_aload_n (pc := 70) dX7_read_70 rfl rfl ?_
  refine r_callVs (pc := 71) (fun v => some (sj_i v)) (As := []) (rest := []) (b := x1) (ok0 hx1) h dX7_read_71 mw_X7_41 vw_X0_rockIsBelow (fun _ _ hc => cg_X0_rockIsBelow hx1 hc) rfl ⟨(Nat.le_of_ble_eq_true rfl), (Nat.le_of_ble_eq_true rfl)⟩ (Nat.le_of_ble_eq_true rfl) rfl (fun v2 V1 h => ?_)
  refine r_if_eq (pc := 74) (tgt := 81) h dX7_read_74 (by decide) (fun h => ?_) (fun h => ?_)
  · refine r_aload_n (pc := 81) dX7_read_81 rfl rfl ?_
    refine r_iconst (pc := 82) dX7_read_82 ?_
    refine r_aload_n (pc := 83) dX7_read_83 rfl rfl ?_
    refine r_gIs (pc := 84) dX7_read_84 fw_X7_19 rfl (ok7 ha0) ?_
    refine r_callVs (pc := 87) (fun v => some (sj_i v)) (As := [sj_i 4, sj_i (V1 a0 1)]) (rest := []) (b := a0) (ok7 ha0) h dX7_read_87 mw_X7_47 vw_X7_fail (fun _ _ hc => cg_X7_fail ha0 hc) rfl ⟨(Nat.le_of_ble_eq_true rfl), (Nat.le_of_ble_eq_true rfl)⟩ (Nat.le_of_ble_eq_true rfl) rfl (fun v4 V3 h => ?_)
    exact r_irets (pc := 90) h rfl dX7_read_90
  · refine r_iload_n (pc := 77) dX7_read_77 rfl rfl ?_
    refine r_goto (pc := 78) (tgt := 90) dX7_read_78 (by decide) ?_
    exact r_irets (pc := 90) h rfl dX7_read_90
set_option maxHeartbeats 4000000 in
theorem st_X7_read_36_b {X : sj_X} {g : sj_G} {s0 : sj_Mem} {N : Nat} {q : Int × sj_VV} {k36 : Nat → Nat → Int → sj_VV → Option (Int × sj_VV)} (hk36 : ∀ (a0 : Nat) (x1 : Nat) (x2 : Int) (V : sj_VV), OK7 g a0 → OK0 g x1 → k36 a0 x1 x2 V = some q → sj_T X m_X7_read s0 (some (sj_i q.1), (g, q.2)) 36 [some (sj_r (some a0)), some (sj_r (some x1)), some (sj_i x2)] [] (g, V)) :
    ∀ (a0 : Nat) (x1 : Nat) (x2 : Int) (V : sj_VV), OK7 g a0 → OK0 g x1 → g_X7_read_36_b N k36 a0 x1 x2 V = some q → sj_T X m_X7_read s0 (some (sj_i q.1), (g, q.2)) 36 [some (sj_r (some a0)), some (sj_r (some x1)), some (sj_i x2)] [] (g, V) := by
  intro a0 x1 x2 V ha0 hx1 h
  unfold g_X7_read_36_b at h
  refine r_aload_n (pc := 36) dX7_read_36 rfl rfl ?_
  refine r_gIs (pc := 37) dX7_read_37 fw_X7_22 rfl (ok7 ha0) ?_
  refine r_aload_n (pc := 40) dX7_read_40 rfl rfl ?_
  refine r_gIs (pc := 41) dX7_read_41 fw_X7_19 rfl (ok7 ha0) ?_
  refine r_icmp_ge (pc := 44) (tgt := 70) h dX7_read_44 (by decide) (fun h => ?_) (fun h => ?_)
  · exact sj_weak (l2 := [some (sj_r (some a0)), some (sj_r (some x1)), some (sj_i x2)]) (⟨rfl, ⟨rfl, ⟨rfl, trivial⟩⟩⟩) (st_X7_read_70 a0 x1 x2 V ha0 hx1 h)
  · refine r_iload_n (pc := 47) dX7_read_47 rfl rfl ?_
    refine r_sipush (pc := 48) dX7_read_48 ⟨by decide, by decide⟩ ?_
    refine r_icmp_gt (pc := 51) (tgt := 70) h dX7_read_51 (by decide) (fun h => ?_) (fun h => ?_)
    · exact sj_weak (l2 := [some (sj_r (some a0)), some (sj_r (some x1)), some (sj_i x2)]) (⟨rfl, ⟨rfl, ⟨rfl, trivial⟩⟩⟩) (st_X7_read_70 a0 x1 x2 V ha0 hx1 h)
    · refine r_aload_n (pc := 54) dX7_read_54 rfl rfl ?_
      refine r_aload_n (pc := 55) dX7_read_55 rfl rfl ?_
      refine r_callVs (pc := 56) (fun v => some (sj_i v)) (As := [sj_r (some x1)]) (rest := []) (b := a0) (ok7 ha0) h dX7_read_56 mw_X7_38 vw_X7_readLine (fun _ _ hc => cg_X7_readLine ha0 hx1 hc) rfl ⟨(Nat.le_of_ble_eq_true rfl), (Nat.le_of_ble_eq_true rfl)⟩ (Nat.le_of_ble_eq_true rfl) rfl (fun v2 V1 h => ?_)
      refine r_if_ne (pc := 59) (tgt := 64) h dX7_read_59 (by decide) (fun h => ?_) (fun h => ?_)
      · refine r_iconst (pc := 62) dX7_read_62 ?_
        exact r_irets (pc := 63) h rfl dX7_read_63
      · refine r_iinc (ln := fun w => [some (sj_r (some a0)), some (sj_r (some x1)), some (sj_i w)]) (pc := 64) h dX7_read_64 rfl (Nat.le_of_ble_eq_true rfl) (fun _ => rfl) (fun v3 h => ?_)
        refine r_goto (pc := 67) (tgt := 36) dX7_read_67 (by decide) ?_
        exact sj_weak (l2 := [some (sj_r (some a0)), some (sj_r (some x1)), some (sj_i v3)]) (⟨rfl, ⟨rfl, ⟨rfl, trivial⟩⟩⟩) (hk36 a0 x1 v3 V1 ha0 hx1 h)
set_option maxHeartbeats 4000000 in
theorem st_X7_read_36 {X : sj_X} {g : sj_G} {s0 : sj_Mem} {N : Nat} {q : Int × sj_VV} :
    ∀ (n : Nat) (a0 : Nat) (x1 : Nat) (x2 : Int) (V : sj_VV), OK7 g a0 → OK0 g x1 → g_X7_read_36 N n a0 x1 x2 V = some q → sj_T X m_X7_read s0 (some (sj_i q.1), (g, q.2)) 36 [some (sj_r (some a0)), some (sj_r (some x1)), some (sj_i x2)] [] (g, V) := by
  intro n
  induction n with
  | zero => intro a0 x1 x2 V ha0 hx1 h; exact nomatch h
  | succ n ih => intro a0 x1 x2 V ha0 hx1 h; exact st_X7_read_36_b (N := N) ih a0 x1 x2 V ha0 hx1 h
set_option maxHeartbeats 4000000 in
theorem st_X7_read_0 {X : sj_X} {g : sj_G} {s0 : sj_Mem} {N : Nat} {q : Int × sj_VV} :
    ∀ (a0 : Nat) (x1 : Nat) (V : sj_VV), OK7 g a0 → OK0 g x1 → g_X7_read N a0 x1 V = some q → sj_T X m_X7_read s0 (some (sj_i q.1), (g, q.2)) 0 [some (sj_r (some a0)), some (sj_r (some x1)), none] [] (g, V) := by
  intro a0 x1 V ha0 hx1 h
  unfold g_X7_read at h
  refine r_aload_n (pc := 0) dX7_read_0 rfl rfl ?_
  refine r_iconst (pc := 1) dX7_read_1 ?_
  refine r_pIs (pc := 2) h dX7_read_2 fw_X7_22 rfl rfl (nf7_2) (ok7 ha0) (fun V1 h => ?_)
  refine r_aload_n (pc := 5) dX7_read_5 rfl rfl ?_
  refine r_iconst (pc := 6) dX7_read_6 ?_
  refine r_pIs (pc := 7) h dX7_read_7 fw_X7_25 rfl rfl (nf7_3) (ok7 ha0) (fun V2 h => ?_)
  refine r_aload_n (pc := 10) dX7_read_10 rfl rfl ?_
  refine r_iconst (pc := 11) dX7_read_11 ?_
  refine r_pIs (pc := 12) h dX7_read_12 fw_X7_15 rfl rfl (nf7_4) (ok7 ha0) (fun V3 h => ?_)
  refine r_aload_n (pc := 15) dX7_read_15 rfl rfl ?_
  refine r_iconst (pc := 16) dX7_read_16 ?_
  refine r_pIs (pc := 17) h dX7_read_17 fw_X7_28 rfl rfl (nf7_7) (ok7 ha0) (fun V4 h => ?_)
  refine r_aload_n (pc := 20) dX7_read_20 rfl rfl ?_
  refine r_callVs (pc := 21) (fun _ => none) (As := []) (rest := []) (b := a0) (ok7 ha0) h dX7_read_21 mw_X7_31 vw_X7_skip (fun _ _ hc => cg_X7_skip ha0 hc) rfl ⟨(Nat.le_of_ble_eq_true rfl), (Nat.le_of_ble_eq_true rfl)⟩ (Nat.le_of_ble_eq_true rfl) rfl (fun _u V5 h => ?_)
  refine r_aload_n (pc := 24) dX7_read_24 rfl rfl ?_
  refine r_aload_n (pc := 25) dX7_read_25 rfl rfl ?_
  refine r_callVs (pc := 26) (fun v => some (sj_i v)) (As := [sj_r (some x1)]) (rest := []) (b := a0) (ok7 ha0) h dX7_read_26 mw_X7_34 vw_X7_readColumns (fun _ _ hc => cg_X7_readColumns ha0 hx1 hc) rfl ⟨(Nat.le_of_ble_eq_true rfl), (Nat.le_of_ble_eq_true rfl)⟩ (Nat.le_of_ble_eq_true rfl) rfl (fun v7 V6 h => ?_)
  refine r_if_ne (pc := 29) (tgt := 34) h dX7_read_29 (by decide) (fun h => ?_) (fun h => ?_)
  · refine r_iconst (pc := 32) dX7_read_32 ?_
    exact r_irets (pc := 33) h rfl dX7_read_33
  · refine r_iconst (pc := 34) dX7_read_34 ?_
    refine r_istore_n (ln := [some (sj_r (some a0)), some (sj_r (some x1)), some (sj_i 1)]) (pc := 35) dX7_read_35 rfl (Nat.le_of_ble_eq_true rfl) rfl ?_
    exact sj_weak (l2 := [some (sj_r (some a0)), some (sj_r (some x1)), some (sj_i 1)]) (⟨rfl, ⟨rfl, ⟨rfl, trivial⟩⟩⟩) (st_X7_read_36 N a0 x1 1 V6 ha0 hx1 h)
set_option maxHeartbeats 4000000 in
theorem cg_X7_read {X : sj_X} {g : sj_G} {N : Nat} {a0 : Nat} {x1 : Nat} {V : sj_VV} {q : Int × sj_VV} (ha0 : OK7 g a0) (hx1 : OK0 g x1) (h : g_X7_read N a0 x1 V = some q) : sj_C X m_X7_read [sj_r (some a0), sj_r (some x1)] (g, V) (some (sj_i q.1), (g, q.2)) :=
  sj_C_of (by decide +kernel) (Nat.le_of_ble_eq_true rfl) (lo := [some (sj_r (some a0)), some (sj_r (some x1)), none]) rfl (sj_weak (l2 := [some (sj_r (some a0)), some (sj_r (some x1)), none]) (⟨rfl, ⟨rfl, trivial⟩⟩) (st_X7_read_0 a0 x1 V ha0 hx1 h))
set_option maxHeartbeats 4000000 in
theorem c_X7_read {X : sj_X} {N : Nat} {a0 : Nat} {x1 : Option Nat} {s : sj_Mem} {q : Int × sj_Mem} (h : f_X7_read N a0 x1 s = some q) : sj_C X m_X7_read [sj_r (some a0), sj_r x1] s (some (sj_i q.1), q.2) := by
  obtain ⟨g, V⟩ := s
  unfold f_X7_read at h
  obtain ⟨ho, h1⟩ := e_ok_some h
  obtain ⟨q2, h2, rfl⟩ := sj_map_some h1
  obtain ⟨z1, hz1⟩ : ∃ z, x1 = some z := ⟨_, ho.2.1⟩
  subst hz1
  exact cg_X7_read ho.1 ho.2.2 h2
theorem dX8_keepAct_0 : decode cX8_keepAct 0 = .ok (.aload_n 0, 1) := by decide +kernel
theorem dX8_keepAct_1 : decode cX8_keepAct 1 = .ok (.getfield 39, 3) := by decide +kernel
theorem dX8_keepAct_4 : decode cX8_keepAct 4 = .ok (.aload_n 0, 1) := by decide +kernel
theorem dX8_keepAct_5 : decode cX8_keepAct 5 = .ok (.getfield 205, 3) := by decide +kernel
theorem dX8_keepAct_8 : decode cX8_keepAct 8 = .ok (.aaload, 1) := by decide +kernel
theorem dX8_keepAct_9 : decode cX8_keepAct 9 = .ok (.aload_n 0, 1) := by decide +kernel
theorem dX8_keepAct_10 : decode cX8_keepAct 10 = .ok (.getfield 12, 3) := by decide +kernel
theorem dX8_keepAct_13 : decode cX8_keepAct 13 = .ok (.invokevirtual 148, 3) := by decide +kernel
theorem dX8_keepAct_16 : decode cX8_keepAct 16 = .ok (.aload_n 0, 1) := by decide +kernel
theorem dX8_keepAct_17 : decode cX8_keepAct 17 = .ok (.aload_n 0, 1) := by decide +kernel
theorem dX8_keepAct_18 : decode cX8_keepAct 18 = .ok (.getfield 205, 3) := by decide +kernel
theorem dX8_keepAct_21 : decode cX8_keepAct 21 = .ok (.iconst 1, 1) := by decide +kernel
theorem dX8_keepAct_22 : decode cX8_keepAct 22 = .ok (.iadd, 1) := by decide +kernel
theorem dX8_keepAct_23 : decode cX8_keepAct 23 = .ok (.bipush 8, 2) := by decide +kernel
theorem dX8_keepAct_25 : decode cX8_keepAct 25 = .ok (.irem, 1) := by decide +kernel
theorem dX8_keepAct_26 : decode cX8_keepAct 26 = .ok (.putfield 205, 3) := by decide +kernel
theorem dX8_keepAct_29 : decode cX8_keepAct 29 = .ok (.aload_n 0, 1) := by decide +kernel
theorem dX8_keepAct_30 : decode cX8_keepAct 30 = .ok (.getfield 208, 3) := by decide +kernel
theorem dX8_keepAct_33 : decode cX8_keepAct 33 = .ok (.bipush 8, 2) := by decide +kernel
theorem dX8_keepAct_35 : decode cX8_keepAct 35 = .ok (.if_icmp .ge 13, 3) := by decide +kernel
theorem dX8_keepAct_38 : decode cX8_keepAct 38 = .ok (.aload_n 0, 1) := by decide +kernel
theorem dX8_keepAct_39 : decode cX8_keepAct 39 = .ok (.dup, 1) := by decide +kernel
theorem dX8_keepAct_40 : decode cX8_keepAct 40 = .ok (.getfield 208, 3) := by decide +kernel
theorem dX8_keepAct_43 : decode cX8_keepAct 43 = .ok (.iconst 1, 1) := by decide +kernel
theorem dX8_keepAct_44 : decode cX8_keepAct 44 = .ok (.iadd, 1) := by decide +kernel
theorem dX8_keepAct_45 : decode cX8_keepAct 45 = .ok (.putfield 208, 3) := by decide +kernel
theorem dX8_keepAct_48 : decode cX8_keepAct 48 = .ok (.return_, 1) := by decide +kernel
set_option maxHeartbeats 4000000 in
theorem st_X8_keepAct_0 {X : sj_X} {g : sj_G} {s0 : sj_Mem} {N : Nat} {q : Unit × sj_VV} :
    ∀ (a0 : Nat) (V : sj_VV), OK8 g a0 → g_X8_keepAct N a0 V = some q → sj_T X m_X8_keepAct s0 (none, (g, q.2)) 0 [some (sj_r (some a0))] [] (g, V) := by
  intro a0 V ha0 h
  unfold g_X8_keepAct at h
  refine r_aload_n (pc := 0) dX8_keepAct_0 rfl rfl ?_
  refine r_gRs (b := a0 + 51) (pc := 1) dX8_keepAct_1 fw_X8_39 rfl (ok8 ha0) (ok8_6 ha0).1 ?_
  refine r_aload_n (pc := 4) dX8_keepAct_4 rfl rfl ?_
  refine r_gIs (pc := 5) dX8_keepAct_5 fw_X8_205 rfl (ok8 ha0) ?_
  refine r_aaloads (b := fun j => a0 + 77 + 14 * j) (pc := 8) h dX8_keepAct_8 (ok8_6 ha0).2.1 (fun j hj => ((ok8_6 ha0).2.2 j hj).1) (fun hj1 h => ?_)
  refine r_aload_n (pc := 9) dX8_keepAct_9 rfl rfl ?_
  refine r_gRs (b := a0 + 1) (pc := 10) dX8_keepAct_10 fw_X8_12 rfl (ok8 ha0) (ok8_0 ha0).1 ?_
  refine r_callVs (pc := 13) (fun _ => none) (As := [sj_r (some (a0 + 1))]) (rest := []) (b := (a0 + 77 + 14 * (V a0 14).toNat)) (ok0 ((ok8_6 ha0).2.2 _ hj1).2) h dX8_keepAct_13 mw_X8_148 vw_X0_copy (fun _ _ hc => cg_X0_copy ((ok8_6 ha0).2.2 _ hj1).2 (ok8_0 ha0).2 hc) rfl ⟨(Nat.le_of_ble_eq_true rfl), (Nat.le_of_ble_eq_true rfl)⟩ (Nat.le_of_ble_eq_true rfl) rfl (fun _u V2 h => ?_)
  refine r_aload_n (pc := 16) dX8_keepAct_16 rfl rfl ?_
  refine r_aload_n (pc := 17) dX8_keepAct_17 rfl rfl ?_
  refine r_gIs (pc := 18) dX8_keepAct_18 fw_X8_205 rfl (ok8 ha0) ?_
  refine r_iconst (pc := 21) dX8_keepAct_21 ?_
  refine r_iadd (pc := 22) dX8_keepAct_22 ?_
  refine r_bipush (pc := 23) dX8_keepAct_23 ⟨by decide, by decide⟩ ?_
  refine r_irem (pc := 25) h dX8_keepAct_25 (fun v3 h => ?_)
  refine r_pIs (pc := 26) h dX8_keepAct_26 fw_X8_205 rfl rfl (nf8_14) (ok8 ha0) (fun V4 h => ?_)
  refine r_aload_n (pc := 29) dX8_keepAct_29 rfl rfl ?_
  refine r_gIs (pc := 30) dX8_keepAct_30 fw_X8_208 rfl (ok8 ha0) ?_
  refine r_bipush (pc := 33) dX8_keepAct_33 ⟨by decide, by decide⟩ ?_
  refine r_icmp_ge (pc := 35) (tgt := 48) h dX8_keepAct_35 (by decide) (fun h => ?_) (fun h => ?_)
  · exact r_vrets (pc := 48) h rfl dX8_keepAct_48
  · refine r_aload_n (pc := 38) dX8_keepAct_38 rfl rfl ?_
    refine r_dup (pc := 39) dX8_keepAct_39 rfl ?_
    refine r_gIs (pc := 40) dX8_keepAct_40 fw_X8_208 rfl (ok8 ha0) ?_
    refine r_iconst (pc := 43) dX8_keepAct_43 ?_
    refine r_iadd (pc := 44) dX8_keepAct_44 ?_
    refine r_pIs (pc := 45) h dX8_keepAct_45 fw_X8_208 rfl rfl (nf8_13) (ok8 ha0) (fun V5 h => ?_)
    exact r_vrets (pc := 48) h rfl dX8_keepAct_48
set_option maxHeartbeats 4000000 in
theorem cg_X8_keepAct {X : sj_X} {g : sj_G} {N : Nat} {a0 : Nat} {V : sj_VV} {q : Unit × sj_VV} (ha0 : OK8 g a0) (h : g_X8_keepAct N a0 V = some q) : sj_C X m_X8_keepAct [sj_r (some a0)] (g, V) (none, (g, q.2)) :=
  sj_C_of (by decide +kernel) (Nat.le_of_ble_eq_true rfl) (lo := [some (sj_r (some a0))]) rfl (sj_weak (l2 := [some (sj_r (some a0))]) (⟨rfl, trivial⟩) (st_X8_keepAct_0 a0 V ha0 h))
set_option maxHeartbeats 4000000 in
theorem c_X8_keepAct {X : sj_X} {N : Nat} {a0 : Nat} {s : sj_Mem} {q : Unit × sj_Mem} (h : f_X8_keepAct N a0 s = some q) : sj_C X m_X8_keepAct [sj_r (some a0)] s (none, q.2) := by
  obtain ⟨g, V⟩ := s
  unfold f_X8_keepAct at h
  obtain ⟨ho, h1⟩ := e_ok_some h
  obtain ⟨q2, h2, rfl⟩ := sj_map_some h1
  exact cg_X8_keepAct ho h2
theorem dX8_size_0 : decode cX8_size 0 = .ok (.iload_n 1, 1) := by decide +kernel
theorem dX8_size_1 : decode cX8_size 1 = .ok (.iconst 4, 1) := by decide +kernel
theorem dX8_size_2 : decode cX8_size 2 = .ok (.if_icmp .lt 20, 3) := by decide +kernel
theorem dX8_size_5 : decode cX8_size 5 = .ok (.iload_n 1, 1) := by decide +kernel
theorem dX8_size_6 : decode cX8_size 6 = .ok (.bipush 41, 2) := by decide +kernel
theorem dX8_size_8 : decode cX8_size 8 = .ok (.if_icmp .ge 14, 3) := by decide +kernel
theorem dX8_size_11 : decode cX8_size 11 = .ok (.iload_n 2, 1) := by decide +kernel
theorem dX8_size_12 : decode cX8_size 12 = .ok (.iconst 1, 1) := by decide +kernel
theorem dX8_size_13 : decode cX8_size 13 = .ok (.if_icmp .lt 9, 3) := by decide +kernel
theorem dX8_size_16 : decode cX8_size 16 = .ok (.iload_n 2, 1) := by decide +kernel
theorem dX8_size_17 : decode cX8_size 17 = .ok (.bipush 10, 2) := by decide +kernel
theorem dX8_size_19 : decode cX8_size 19 = .ok (.if_icmp .le 5, 3) := by decide +kernel
theorem dX8_size_22 : decode cX8_size 22 = .ok (.iconst 0, 1) := by decide +kernel
theorem dX8_size_23 : decode cX8_size 23 = .ok (.ireturn, 1) := by decide +kernel
theorem dX8_size_24 : decode cX8_size 24 = .ok (.aload_n 0, 1) := by decide +kernel
theorem dX8_size_25 : decode cX8_size 25 = .ok (.invokevirtual 75, 3) := by decide +kernel
theorem dX8_size_28 : decode cX8_size 28 = .ok (.aload_n 0, 1) := by decide +kernel
theorem dX8_size_29 : decode cX8_size 29 = .ok (.getfield 12, 3) := by decide +kernel
theorem dX8_size_32 : decode cX8_size 32 = .ok (.iload_n 1, 1) := by decide +kernel
theorem dX8_size_33 : decode cX8_size 33 = .ok (.iload_n 2, 1) := by decide +kernel
theorem dX8_size_34 : decode cX8_size 34 = .ok (.invokevirtual 71, 3) := by decide +kernel
theorem dX8_size_37 : decode cX8_size 37 = .ok (.iconst 1, 1) := by decide +kernel
theorem dX8_size_38 : decode cX8_size 38 = .ok (.ireturn, 1) := by decide +kernel
set_option maxHeartbeats 4000000 in
theorem st_X8_size_0 {X : sj_X} {g : sj_G} {s0 : sj_Mem} {N : Nat} {q : Int × sj_VV} :
    ∀ (a0 : Nat) (x1 : Int) (x2 : Int) (V : sj_VV), OK8 g a0 → g_X8_size N a0 x1 x2 V = some q → sj_T X m_X8_size s0 (some (sj_i q.1), (g, q.2)) 0 [some (sj_r (some a0)), some (sj_i x1), some (sj_i x2)] [] (g, V) := by
  intro a0 x1 x2 V ha0 h
  unfold g_X8_size at h
  refine r_iload_n (pc := 0) dX8_size_0 rfl rfl ?_
  refine r_iconst (pc := 1) dX8_size_1 ?_
  refine r_icmp_lt (pc := 2) (tgt := 22) h dX8_size_2 (by decide) (fun h => ?_) (fun h => ?_)
  · refine r_iconst (pc := 22) dX8_size_22 ?_
    exact r_zrets (pc := 23) h rfl dX8_size_23
  · refine r_iload_n (pc := 5) dX8_size_5 rfl rfl ?_
    refine r_bipush (pc := 6) dX8_size_6 ⟨by decide, by decide⟩ ?_
    refine r_icmp_ge (pc := 8) (tgt := 22) h dX8_size_8 (by decide) (fun h => ?_) (fun h => ?_)
    · refine r_iconst (pc := 22) dX8_size_22 ?_
      exact r_zrets (pc := 23) h rfl dX8_size_23
    · refine r_iload_n (pc := 11) dX8_size_11 rfl rfl ?_
      refine r_iconst (pc := 12) dX8_size_12 ?_
      refine r_icmp_lt (pc := 13) (tgt := 22) h dX8_size_13 (by decide) (fun h => ?_) (fun h => ?_)
      · refine r_iconst (pc := 22) dX8_size_22 ?_
        exact r_zrets (pc := 23) h rfl dX8_size_23
      · refine r_iload_n (pc := 16) dX8_size_16 rfl rfl ?_
        refine r_bipush (pc := 17) dX8_size_17 ⟨by decide, by decide⟩ ?_
        refine r_icmp_le (pc := 19) (tgt := 24) h dX8_size_19 (by decide) (fun h => ?_) (fun h => ?_)
        · refine r_aload_n (pc := 24) dX8_size_24 rfl rfl ?_
          refine r_callVs (pc := 25) (fun _ => none) (As := []) (rest := []) (b := a0) (ok8 ha0) h dX8_size_25 mw_X8_75 vw_X8_keepAct (fun _ _ hc => cg_X8_keepAct ha0 hc) rfl ⟨(Nat.le_of_ble_eq_true rfl), (Nat.le_of_ble_eq_true rfl)⟩ (Nat.le_of_ble_eq_true rfl) rfl (fun _u V1 h => ?_)
          refine r_aload_n (pc := 28) dX8_size_28 rfl rfl ?_
          refine r_gRs (b := a0 + 1) (pc := 29) dX8_size_29 fw_X8_12 rfl (ok8 ha0) (ok8_0 ha0).1 ?_
          refine r_iload_n (pc := 32) dX8_size_32 rfl rfl ?_
          refine r_iload_n (pc := 33) dX8_size_33 rfl rfl ?_
          refine r_callVs (pc := 34) (fun _ => none) (As := [sj_i x1, sj_i x2]) (rest := []) (b := (a0 + 1)) (ok0 (ok8_0 ha0).2) h dX8_size_34 mw_X8_71 vw_X0_begin (fun _ _ hc => cg_X0_begin (ok8_0 ha0).2 hc) rfl ⟨(Nat.le_of_ble_eq_true rfl), (Nat.le_of_ble_eq_true rfl)⟩ (Nat.le_of_ble_eq_true rfl) rfl (fun _u V2 h => ?_)
          refine r_iconst (pc := 37) dX8_size_37 ?_
          exact r_zrets (pc := 38) h rfl dX8_size_38
        · refine r_iconst (pc := 22) dX8_size_22 ?_
          exact r_zrets (pc := 23) h rfl dX8_size_23
set_option maxHeartbeats 4000000 in
theorem cg_X8_size {X : sj_X} {g : sj_G} {N : Nat} {a0 : Nat} {x1 : Int} {x2 : Int} {V : sj_VV} {q : Int × sj_VV} (ha0 : OK8 g a0) (h : g_X8_size N a0 x1 x2 V = some q) : sj_C X m_X8_size [sj_r (some a0), sj_i x1, sj_i x2] (g, V) (some (sj_i q.1), (g, q.2)) :=
  sj_C_of (by decide +kernel) (Nat.le_of_ble_eq_true rfl) (lo := [some (sj_r (some a0)), some (sj_i x1), some (sj_i x2)]) rfl (sj_weak (l2 := [some (sj_r (some a0)), some (sj_i x1), some (sj_i x2)]) (⟨rfl, ⟨rfl, ⟨rfl, trivial⟩⟩⟩) (st_X8_size_0 a0 x1 x2 V ha0 h))
set_option maxHeartbeats 4000000 in
theorem c_X8_size {X : sj_X} {N : Nat} {a0 : Nat} {x1 : Int} {x2 : Int} {s : sj_Mem} {q : Int × sj_Mem} (h : f_X8_size N a0 x1 x2 s = some q) : sj_C X m_X8_size [sj_r (some a0), sj_i x1, sj_i x2] s (some (sj_i q.1), q.2) := by
  obtain ⟨g, V⟩ := s
  unfold f_X8_size at h
  obtain ⟨ho, h1⟩ := e_ok_some h
  obtain ⟨q2, h2, rfl⟩ := sj_map_some h1
  exact cg_X8_size ho h2
theorem dX8_tellRock_0 : decode cX8_tellRock 0 = .ok (.iload_n 2, 1) := by decide +kernel
theorem dX8_tellRock_1 : decode cX8_tellRock 1 = .ok (.aload_n 0, 1) := by decide +kernel
theorem dX8_tellRock_2 : decode cX8_tellRock 2 = .ok (.getfield 12, 3) := by decide +kernel
theorem dX8_tellRock_5 : decode cX8_tellRock 5 = .ok (.getfield 100, 3) := by decide +kernel
theorem dX8_tellRock_8 : decode cX8_tellRock 8 = .ok (.iload_n 1, 1) := by decide +kernel
theorem dX8_tellRock_9 : decode cX8_tellRock 9 = .ok (.iaload, 1) := by decide +kernel
theorem dX8_tellRock_10 : decode cX8_tellRock 10 = .ok (.if_icmp .le 5, 3) := by decide +kernel
theorem dX8_tellRock_13 : decode cX8_tellRock 13 = .ok (.iconst 0, 1) := by decide +kernel
theorem dX8_tellRock_14 : decode cX8_tellRock 14 = .ok (.ireturn, 1) := by decide +kernel
theorem dX8_tellRock_15 : decode cX8_tellRock 15 = .ok (.aload_n 0, 1) := by decide +kernel
theorem dX8_tellRock_16 : decode cX8_tellRock 16 = .ok (.getfield 12, 3) := by decide +kernel
theorem dX8_tellRock_19 : decode cX8_tellRock 19 = .ok (.getfield 103, 3) := by decide +kernel
theorem dX8_tellRock_22 : decode cX8_tellRock 22 = .ok (.iload_n 1, 1) := by decide +kernel
theorem dX8_tellRock_23 : decode cX8_tellRock 23 = .ok (.iload_n 2, 1) := by decide +kernel
theorem dX8_tellRock_24 : decode cX8_tellRock 24 = .ok (.iastore, 1) := by decide +kernel
theorem dX8_tellRock_25 : decode cX8_tellRock 25 = .ok (.aload_n 0, 1) := by decide +kernel
theorem dX8_tellRock_26 : decode cX8_tellRock 26 = .ok (.getfield 12, 3) := by decide +kernel
theorem dX8_tellRock_29 : decode cX8_tellRock 29 = .ok (.getfield 106, 3) := by decide +kernel
theorem dX8_tellRock_32 : decode cX8_tellRock 32 = .ok (.invokevirtual 109, 3) := by decide +kernel
theorem dX8_tellRock_35 : decode cX8_tellRock 35 = .ok (.iconst 1, 1) := by decide +kernel
theorem dX8_tellRock_36 : decode cX8_tellRock 36 = .ok (.ireturn, 1) := by decide +kernel
set_option maxHeartbeats 4000000 in
theorem st_X8_tellRock_0 {X : sj_X} {g : sj_G} {s0 : sj_Mem} {N : Nat} {q : Int × sj_VV} :
    ∀ (a0 : Nat) (x1 : Int) (x2 : Int) (V : sj_VV), OK8 g a0 → g_X8_tellRock N a0 x1 x2 V = some q → sj_T X m_X8_tellRock s0 (some (sj_i q.1), (g, q.2)) 0 [some (sj_r (some a0)), some (sj_i x1), some (sj_i x2)] [] (g, V) := by
  intro a0 x1 x2 V ha0 h
  unfold g_X8_tellRock at h
  refine r_iload_n (pc := 0) dX8_tellRock_0 rfl rfl ?_
  refine r_aload_n (pc := 1) dX8_tellRock_1 rfl rfl ?_
  refine r_gRs (b := a0 + 1) (pc := 2) dX8_tellRock_2 fw_X8_12 rfl (ok8 ha0) (ok8_0 ha0).1 ?_
  refine r_gRs (b := (a0 + 1) + 1) (pc := 5) dX8_tellRock_5 fw_X8_100 rfl (ok0 (ok8_0 ha0).2) (ok0_3 (ok8_0 ha0).2).1 ?_
  refine r_iload_n (pc := 8) dX8_tellRock_8 rfl rfl ?_
  refine r_ialoads (pc := 9) h dX8_tellRock_9 (ok0_3 (ok8_0 ha0).2).2 (fun h => ?_)
  refine r_icmp_le (pc := 10) (tgt := 15) h dX8_tellRock_10 (by decide) (fun h => ?_) (fun h => ?_)
  · refine r_aload_n (pc := 15) dX8_tellRock_15 rfl rfl ?_
    refine r_gRs (b := a0 + 1) (pc := 16) dX8_tellRock_16 fw_X8_12 rfl (ok8 ha0) (ok8_0 ha0).1 ?_
    refine r_gRs (b := (a0 + 1) + 2) (pc := 19) dX8_tellRock_19 fw_X8_103 rfl (ok0 (ok8_0 ha0).2) (ok0_4 (ok8_0 ha0).2).1 ?_
    refine r_iload_n (pc := 22) dX8_tellRock_22 rfl rfl ?_
    refine r_iload_n (pc := 23) dX8_tellRock_23 rfl rfl ?_
    refine r_iastores (pc := 24) h dX8_tellRock_24 (ok0_4 (ok8_0 ha0).2).2 (fun V1 h => ?_)
    refine r_aload_n (pc := 25) dX8_tellRock_25 rfl rfl ?_
    refine r_gRs (b := a0 + 1) (pc := 26) dX8_tellRock_26 fw_X8_12 rfl (ok8 ha0) (ok8_0 ha0).1 ?_
    refine r_gRs (b := (a0 + 1) + 12) (pc := 29) dX8_tellRock_29 fw_X8_106 rfl (ok0 (ok8_0 ha0).2) (ok0_14 (ok8_0 ha0).2).1 ?_
    refine r_callVs (pc := 32) (fun _ => none) (As := []) (rest := []) (b := ((a0 + 1) + 12)) (ok5 (ok0_14 (ok8_0 ha0).2).2) h dX8_tellRock_32 mw_X8_109 vw_X5_drop (fun _ _ hc => cg_X5_drop (ok0_14 (ok8_0 ha0).2).2 hc) rfl ⟨(Nat.le_of_ble_eq_true rfl), (Nat.le_of_ble_eq_true rfl)⟩ (Nat.le_of_ble_eq_true rfl) rfl (fun _u V2 h => ?_)
    refine r_iconst (pc := 35) dX8_tellRock_35 ?_
    exact r_zrets (pc := 36) h rfl dX8_tellRock_36
  · refine r_iconst (pc := 13) dX8_tellRock_13 ?_
    exact r_zrets (pc := 14) h rfl dX8_tellRock_14
set_option maxHeartbeats 4000000 in
theorem cg_X8_tellRock {X : sj_X} {g : sj_G} {N : Nat} {a0 : Nat} {x1 : Int} {x2 : Int} {V : sj_VV} {q : Int × sj_VV} (ha0 : OK8 g a0) (h : g_X8_tellRock N a0 x1 x2 V = some q) : sj_C X m_X8_tellRock [sj_r (some a0), sj_i x1, sj_i x2] (g, V) (some (sj_i q.1), (g, q.2)) :=
  sj_C_of (by decide +kernel) (Nat.le_of_ble_eq_true rfl) (lo := [some (sj_r (some a0)), some (sj_i x1), some (sj_i x2)]) rfl (sj_weak (l2 := [some (sj_r (some a0)), some (sj_i x1), some (sj_i x2)]) (⟨rfl, ⟨rfl, ⟨rfl, trivial⟩⟩⟩) (st_X8_tellRock_0 a0 x1 x2 V ha0 h))
set_option maxHeartbeats 4000000 in
theorem c_X8_tellRock {X : sj_X} {N : Nat} {a0 : Nat} {x1 : Int} {x2 : Int} {s : sj_Mem} {q : Int × sj_Mem} (h : f_X8_tellRock N a0 x1 x2 s = some q) : sj_C X m_X8_tellRock [sj_r (some a0), sj_i x1, sj_i x2] s (some (sj_i q.1), q.2) := by
  obtain ⟨g, V⟩ := s
  unfold f_X8_tellRock at h
  obtain ⟨ho, h1⟩ := e_ok_some h
  obtain ⟨q2, h2, rfl⟩ := sj_map_some h1
  exact cg_X8_tellRock ho h2
theorem dX8_tell_0 : decode cX8_tell 0 = .ok (.aload_n 0, 1) := by decide +kernel
theorem dX8_tell_1 : decode cX8_tell 1 = .ok (.getfield 12, 3) := by decide +kernel
theorem dX8_tell_4 : decode cX8_tell 4 = .ok (.iload_n 1, 1) := by decide +kernel
theorem dX8_tell_5 : decode cX8_tell 5 = .ok (.invokevirtual 78, 3) := by decide +kernel
theorem dX8_tell_8 : decode cX8_tell 8 = .ok (.ifCond .eq 16, 3) := by decide +kernel
theorem dX8_tell_11 : decode cX8_tell 11 = .ok (.iload_n 2, 1) := by decide +kernel
theorem dX8_tell_12 : decode cX8_tell 12 = .ok (.ifCond .lt 12, 3) := by decide +kernel
theorem dX8_tell_15 : decode cX8_tell 15 = .ok (.iload_n 2, 1) := by decide +kernel
theorem dX8_tell_16 : decode cX8_tell 16 = .ok (.iconst 5, 1) := by decide +kernel
theorem dX8_tell_17 : decode cX8_tell 17 = .ok (.if_icmp .gt 7, 3) := by decide +kernel
theorem dX8_tell_20 : decode cX8_tell 20 = .ok (.iload_n 3, 1) := by decide +kernel
theorem dX8_tell_21 : decode cX8_tell 21 = .ok (.ifCond .ge 5, 3) := by decide +kernel
theorem dX8_tell_24 : decode cX8_tell 24 = .ok (.iconst 0, 1) := by decide +kernel
theorem dX8_tell_25 : decode cX8_tell 25 = .ok (.ireturn, 1) := by decide +kernel
theorem dX8_tell_26 : decode cX8_tell 26 = .ok (.iload_n 2, 1) := by decide +kernel
theorem dX8_tell_27 : decode cX8_tell 27 = .ok (.ifCond .ne 10, 3) := by decide +kernel
theorem dX8_tell_30 : decode cX8_tell 30 = .ok (.aload_n 0, 1) := by decide +kernel
theorem dX8_tell_31 : decode cX8_tell 31 = .ok (.iload_n 1, 1) := by decide +kernel
theorem dX8_tell_32 : decode cX8_tell 32 = .ok (.iload_n 3, 1) := by decide +kernel
theorem dX8_tell_33 : decode cX8_tell 33 = .ok (.invokevirtual 82, 3) := by decide +kernel
theorem dX8_tell_36 : decode cX8_tell 36 = .ok (.ireturn, 1) := by decide +kernel
theorem dX8_tell_37 : decode cX8_tell 37 = .ok (.iload_n 3, 1) := by decide +kernel
theorem dX8_tell_38 : decode cX8_tell 38 = .ok (.iload_n 2, 1) := by decide +kernel
theorem dX8_tell_39 : decode cX8_tell 39 = .ok (.iconst 2, 1) := by decide +kernel
theorem dX8_tell_40 : decode cX8_tell 40 = .ok (.if_icmp .ne 9, 3) := by decide +kernel
theorem dX8_tell_43 : decode cX8_tell 43 = .ok (.sipush 500, 3) := by decide +kernel
theorem dX8_tell_46 : decode cX8_tell 46 = .ok (.goto 5, 3) := by decide +kernel
theorem dX8_tell_49 : decode cX8_tell 49 = .ok (.bipush 100, 2) := by decide +kernel
theorem dX8_tell_51 : decode cX8_tell 51 = .ok (.if_icmp .le 5, 3) := by decide +kernel
theorem dX8_tell_54 : decode cX8_tell 54 = .ok (.iconst 0, 1) := by decide +kernel
theorem dX8_tell_55 : decode cX8_tell 55 = .ok (.ireturn, 1) := by decide +kernel
theorem dX8_tell_56 : decode cX8_tell 56 = .ok (.iload_n 2, 1) := by decide +kernel
theorem dX8_tell_57 : decode cX8_tell 57 = .ok (.iconst 1, 1) := by decide +kernel
theorem dX8_tell_58 : decode cX8_tell 58 = .ok (.if_icmp .ne 16, 3) := by decide +kernel
theorem dX8_tell_61 : decode cX8_tell 61 = .ok (.aload_n 0, 1) := by decide +kernel
theorem dX8_tell_62 : decode cX8_tell 62 = .ok (.getfield 12, 3) := by decide +kernel
theorem dX8_tell_65 : decode cX8_tell 65 = .ok (.getfield 86, 3) := by decide +kernel
theorem dX8_tell_68 : decode cX8_tell 68 = .ok (.iload_n 1, 1) := by decide +kernel
theorem dX8_tell_69 : decode cX8_tell 69 = .ok (.iload_n 3, 1) := by decide +kernel
theorem dX8_tell_70 : decode cX8_tell 70 = .ok (.iastore, 1) := by decide +kernel
theorem dX8_tell_71 : decode cX8_tell 71 = .ok (.goto 37, 3) := by decide +kernel
theorem dX8_tell_74 : decode cX8_tell 74 = .ok (.iload_n 2, 1) := by decide +kernel
theorem dX8_tell_75 : decode cX8_tell 75 = .ok (.iconst 2, 1) := by decide +kernel
theorem dX8_tell_76 : decode cX8_tell 76 = .ok (.if_icmp .ne 16, 3) := by decide +kernel
theorem dX8_tell_79 : decode cX8_tell 79 = .ok (.aload_n 0, 1) := by decide +kernel
theorem dX8_tell_80 : decode cX8_tell 80 = .ok (.getfield 12, 3) := by decide +kernel
theorem dX8_tell_83 : decode cX8_tell 83 = .ok (.getfield 90, 3) := by decide +kernel
theorem dX8_tell_86 : decode cX8_tell 86 = .ok (.iload_n 1, 1) := by decide +kernel
theorem dX8_tell_87 : decode cX8_tell 87 = .ok (.iload_n 3, 1) := by decide +kernel
theorem dX8_tell_88 : decode cX8_tell 88 = .ok (.iastore, 1) := by decide +kernel
theorem dX8_tell_89 : decode cX8_tell 89 = .ok (.goto 19, 3) := by decide +kernel
theorem dX8_tell_92 : decode cX8_tell 92 = .ok (.aload_n 0, 1) := by decide +kernel
theorem dX8_tell_93 : decode cX8_tell 93 = .ok (.getfield 12, 3) := by decide +kernel
theorem dX8_tell_96 : decode cX8_tell 96 = .ok (.getfield 93, 3) := by decide +kernel
theorem dX8_tell_99 : decode cX8_tell 99 = .ok (.iload_n 2, 1) := by decide +kernel
theorem dX8_tell_100 : decode cX8_tell 100 = .ok (.iconst 2, 1) := by decide +kernel
theorem dX8_tell_101 : decode cX8_tell 101 = .ok (.isub, 1) := by decide +kernel
theorem dX8_tell_102 : decode cX8_tell 102 = .ok (.iload_n 1, 1) := by decide +kernel
theorem dX8_tell_103 : decode cX8_tell 103 = .ok (.invokestatic 96, 3) := by decide +kernel
theorem dX8_tell_106 : decode cX8_tell 106 = .ok (.iload_n 3, 1) := by decide +kernel
theorem dX8_tell_107 : decode cX8_tell 107 = .ok (.iastore, 1) := by decide +kernel
theorem dX8_tell_108 : decode cX8_tell 108 = .ok (.iconst 1, 1) := by decide +kernel
theorem dX8_tell_109 : decode cX8_tell 109 = .ok (.ireturn, 1) := by decide +kernel
set_option maxHeartbeats 4000000 in
theorem st_X8_tell_51 {X : sj_X} {g : sj_G} {s0 : sj_Mem} {N : Nat} {q : Int × sj_VV} :
    ∀ (a0 : Nat) (x1 : Int) (x2 : Int) (x3 : Int) (y0 : Int) (y1 : Int) (V : sj_VV), OK8 g a0 → g_X8_tell_51 N a0 x1 x2 x3 y0 y1 V = some q → sj_T X m_X8_tell s0 (some (sj_i q.1), (g, q.2)) 51 [some (sj_r (some a0)), some (sj_i x1), some (sj_i x2), some (sj_i x3)] [(sj_i y0), (sj_i y1)] (g, V) := by
  intro a0 x1 x2 x3 y0 y1 V ha0 h
  unfold g_X8_tell_51 at h
  refine r_icmp_le (pc := 51) (tgt := 56) h dX8_tell_51 (by decide) (fun h => ?_) (fun h => ?_)
  · refine r_iload_n (pc := 56) dX8_tell_56 rfl rfl ?_
    refine r_iconst (pc := 57) dX8_tell_57 ?_
    refine r_icmp_ne (pc := 58) (tgt := 74) h dX8_tell_58 (by decide) (fun h => ?_) (fun h => ?_)
    · refine r_aload_n (pc := 61) dX8_tell_61 rfl rfl ?_
      refine r_gRs (b := a0 + 1) (pc := 62) dX8_tell_62 fw_X8_12 rfl (ok8 ha0) (ok8_0 ha0).1 ?_
      refine r_gRs (b := (a0 + 1) + 3) (pc := 65) dX8_tell_65 fw_X8_86 rfl (ok0 (ok8_0 ha0).2) (ok0_5 (ok8_0 ha0).2).1 ?_
      refine r_iload_n (pc := 68) dX8_tell_68 rfl rfl ?_
      refine r_iload_n (pc := 69) dX8_tell_69 rfl rfl ?_
      refine r_iastores (pc := 70) h dX8_tell_70 (ok0_5 (ok8_0 ha0).2).2 (fun V5 h => ?_)
      refine r_goto (pc := 71) (tgt := 108) dX8_tell_71 (by decide) ?_
      refine r_iconst (pc := 108) dX8_tell_108 ?_
      exact r_zrets (pc := 109) h rfl dX8_tell_109
    · refine r_iload_n (pc := 74) dX8_tell_74 rfl rfl ?_
      refine r_iconst (pc := 75) dX8_tell_75 ?_
      refine r_icmp_ne (pc := 76) (tgt := 92) h dX8_tell_76 (by decide) (fun h => ?_) (fun h => ?_)
      · refine r_aload_n (pc := 79) dX8_tell_79 rfl rfl ?_
        refine r_gRs (b := a0 + 1) (pc := 80) dX8_tell_80 fw_X8_12 rfl (ok8 ha0) (ok8_0 ha0).1 ?_
        refine r_gRs (b := (a0 + 1) + 4) (pc := 83) dX8_tell_83 fw_X8_90 rfl (ok0 (ok8_0 ha0).2) (ok0_6 (ok8_0 ha0).2).1 ?_
        refine r_iload_n (pc := 86) dX8_tell_86 rfl rfl ?_
        refine r_iload_n (pc := 87) dX8_tell_87 rfl rfl ?_
        refine r_iastores (pc := 88) h dX8_tell_88 (ok0_6 (ok8_0 ha0).2).2 (fun V4 h => ?_)
        refine r_goto (pc := 89) (tgt := 108) dX8_tell_89 (by decide) ?_
        refine r_iconst (pc := 108) dX8_tell_108 ?_
        exact r_zrets (pc := 109) h rfl dX8_tell_109
      · refine r_aload_n (pc := 92) dX8_tell_92 rfl rfl ?_
        refine r_gRs (b := a0 + 1) (pc := 93) dX8_tell_93 fw_X8_12 rfl (ok8 ha0) (ok8_0 ha0).1 ?_
        refine r_gRs (b := (a0 + 1) + 5) (pc := 96) dX8_tell_96 fw_X8_93 rfl (ok0 (ok8_0 ha0).2) (ok0_7 (ok8_0 ha0).2).1 ?_
        refine r_iload_n (pc := 99) dX8_tell_99 rfl rfl ?_
        refine r_iconst (pc := 100) dX8_tell_100 ?_
        refine r_isub (pc := 101) dX8_tell_101 ?_
        refine r_iload_n (pc := 102) dX8_tell_102 rfl rfl ?_
        refine r_callSs (pc := 103) (fun v => some (sj_i v)) (As := [sj_i (x2 - 2), sj_i x1]) (rest := [(sj_r (some ((a0 + 1) + 5)))]) h dX8_tell_103 mw_X8_96 kw_407 (fun _ _ hc => cg_X8_topPlace  hc) rfl ⟨(Nat.le_of_ble_eq_true rfl), (Nat.le_of_ble_eq_true rfl)⟩ (Nat.le_of_ble_eq_true rfl) rfl (fun v2 V1 h => ?_)
        refine r_iload_n (pc := 106) dX8_tell_106 rfl rfl ?_
        refine r_iastores (pc := 107) h dX8_tell_107 (ok0_7 (ok8_0 ha0).2).2 (fun V3 h => ?_)
        refine r_iconst (pc := 108) dX8_tell_108 ?_
        exact r_zrets (pc := 109) h rfl dX8_tell_109
  · refine r_iconst (pc := 54) dX8_tell_54 ?_
    exact r_zrets (pc := 55) h rfl dX8_tell_55
set_option maxHeartbeats 4000000 in
theorem st_X8_tell_0 {X : sj_X} {g : sj_G} {s0 : sj_Mem} {N : Nat} {q : Int × sj_VV} :
    ∀ (a0 : Nat) (x1 : Int) (x2 : Int) (x3 : Int) (V : sj_VV), OK8 g a0 → g_X8_tell N a0 x1 x2 x3 V = some q → sj_T X m_X8_tell s0 (some (sj_i q.1), (g, q.2)) 0 [some (sj_r (some a0)), some (sj_i x1), some (sj_i x2), some (sj_i x3)] [] (g, V) := by
  intro a0 x1 x2 x3 V ha0 h
  unfold g_X8_tell at h
  refine r_aload_n (pc := 0) dX8_tell_0 rfl rfl ?_
  refine r_gRs (b := a0 + 1) (pc := 1) dX8_tell_1 fw_X8_12 rfl (ok8 ha0) (ok8_0 ha0).1 ?_
  refine r_iload_n (pc := 4) dX8_tell_4 rfl rfl ?_
  refine r_callVs (pc := 5) (fun v => some (sj_i v)) (As := [sj_i x1]) (rest := []) (b := (a0 + 1)) (ok0 (ok8_0 ha0).2) h dX8_tell_5 mw_X8_78 vw_X0_hasColumn (fun _ _ hc => cg_X0_hasColumn (ok8_0 ha0).2 hc) rfl ⟨(Nat.le_of_ble_eq_true rfl), (Nat.le_of_ble_eq_true rfl)⟩ (Nat.le_of_ble_eq_true rfl) rfl (fun v2 V1 h => ?_)
  refine r_if_eq (pc := 8) (tgt := 24) h dX8_tell_8 (by decide) (fun h => ?_) (fun h => ?_)
  · refine r_iconst (pc := 24) dX8_tell_24 ?_
    exact r_zrets (pc := 25) h rfl dX8_tell_25
  · refine r_iload_n (pc := 11) dX8_tell_11 rfl rfl ?_
    refine r_if_lt (pc := 12) (tgt := 24) h dX8_tell_12 (by decide) (fun h => ?_) (fun h => ?_)
    · refine r_iconst (pc := 24) dX8_tell_24 ?_
      exact r_zrets (pc := 25) h rfl dX8_tell_25
    · refine r_iload_n (pc := 15) dX8_tell_15 rfl rfl ?_
      refine r_iconst (pc := 16) dX8_tell_16 ?_
      refine r_icmp_gt (pc := 17) (tgt := 24) h dX8_tell_17 (by decide) (fun h => ?_) (fun h => ?_)
      · refine r_iconst (pc := 24) dX8_tell_24 ?_
        exact r_zrets (pc := 25) h rfl dX8_tell_25
      · refine r_iload_n (pc := 20) dX8_tell_20 rfl rfl ?_
        refine r_if_ge (pc := 21) (tgt := 26) h dX8_tell_21 (by decide) (fun h => ?_) (fun h => ?_)
        · refine r_iload_n (pc := 26) dX8_tell_26 rfl rfl ?_
          refine r_if_ne (pc := 27) (tgt := 37) h dX8_tell_27 (by decide) (fun h => ?_) (fun h => ?_)
          · refine r_aload_n (pc := 30) dX8_tell_30 rfl rfl ?_
            refine r_iload_n (pc := 31) dX8_tell_31 rfl rfl ?_
            refine r_iload_n (pc := 32) dX8_tell_32 rfl rfl ?_
            refine r_callVs (pc := 33) (fun v => some (sj_i v)) (As := [sj_i x1, sj_i x3]) (rest := []) (b := a0) (ok8 ha0) h dX8_tell_33 mw_X8_82 vw_X8_tellRock (fun _ _ hc => cg_X8_tellRock ha0 hc) rfl ⟨(Nat.le_of_ble_eq_true rfl), (Nat.le_of_ble_eq_true rfl)⟩ (Nat.le_of_ble_eq_true rfl) rfl (fun v4 V3 h => ?_)
            exact r_zrets (pc := 36) h rfl dX8_tell_36
          · refine r_iload_n (pc := 37) dX8_tell_37 rfl rfl ?_
            refine r_iload_n (pc := 38) dX8_tell_38 rfl rfl ?_
            refine r_iconst (pc := 39) dX8_tell_39 ?_
            refine r_icmp_ne (pc := 40) (tgt := 49) h dX8_tell_40 (by decide) (fun h => ?_) (fun h => ?_)
            · refine r_sipush (pc := 43) dX8_tell_43 ⟨by decide, by decide⟩ ?_
              refine r_goto (pc := 46) (tgt := 51) dX8_tell_46 (by decide) ?_
              exact sj_weak (l2 := [some (sj_r (some a0)), some (sj_i x1), some (sj_i x2), some (sj_i x3)]) (⟨rfl, ⟨rfl, ⟨rfl, ⟨rfl, trivial⟩⟩⟩⟩) (st_X8_tell_51 a0 x1 x2 x3 500 x3 V1 ha0 h)
            · refine r_bipush (pc := 49) dX8_tell_49 ⟨by decide, by decide⟩ ?_
              exact sj_weak (l2 := [some (sj_r (some a0)), some (sj_i x1), some (sj_i x2), some (sj_i x3)]) (⟨rfl, ⟨rfl, ⟨rfl, ⟨rfl, trivial⟩⟩⟩⟩) (st_X8_tell_51 a0 x1 x2 x3 100 x3 V1 ha0 h)
        · refine r_iconst (pc := 24) dX8_tell_24 ?_
          exact r_zrets (pc := 25) h rfl dX8_tell_25
set_option maxHeartbeats 4000000 in
theorem cg_X8_tell {X : sj_X} {g : sj_G} {N : Nat} {a0 : Nat} {x1 : Int} {x2 : Int} {x3 : Int} {V : sj_VV} {q : Int × sj_VV} (ha0 : OK8 g a0) (h : g_X8_tell N a0 x1 x2 x3 V = some q) : sj_C X m_X8_tell [sj_r (some a0), sj_i x1, sj_i x2, sj_i x3] (g, V) (some (sj_i q.1), (g, q.2)) :=
  sj_C_of (by decide +kernel) (Nat.le_of_ble_eq_true rfl) (lo := [some (sj_r (some a0)), some (sj_i x1), some (sj_i x2), some (sj_i x3)]) rfl (sj_weak (l2 := [some (sj_r (some a0)), some (sj_i x1), some (sj_i x2), some (sj_i x3)]) (⟨rfl, ⟨rfl, ⟨rfl, ⟨rfl, trivial⟩⟩⟩⟩) (st_X8_tell_0 a0 x1 x2 x3 V ha0 h))
set_option maxHeartbeats 4000000 in
theorem c_X8_tell {X : sj_X} {N : Nat} {a0 : Nat} {x1 : Int} {x2 : Int} {x3 : Int} {s : sj_Mem} {q : Int × sj_Mem} (h : f_X8_tell N a0 x1 x2 x3 s = some q) : sj_C X m_X8_tell [sj_r (some a0), sj_i x1, sj_i x2, sj_i x3] s (some (sj_i q.1), q.2) := by
  obtain ⟨g, V⟩ := s
  unfold f_X8_tell at h
  obtain ⟨ho, h1⟩ := e_ok_some h
  obtain ⟨q2, h2, rfl⟩ := sj_map_some h1
  exact cg_X8_tell ho h2
theorem dX8_dig_0 : decode cX8_dig 0 = .ok (.aload_n 0, 1) := by decide +kernel
theorem dX8_dig_1 : decode cX8_dig 1 = .ok (.getfield 12, 3) := by decide +kernel
theorem dX8_dig_4 : decode cX8_dig 4 = .ok (.iload_n 1, 1) := by decide +kernel
theorem dX8_dig_5 : decode cX8_dig 5 = .ok (.iload_n 2, 1) := by decide +kernel
theorem dX8_dig_6 : decode cX8_dig 6 = .ok (.invokevirtual 112, 3) := by decide +kernel
theorem dX8_dig_9 : decode cX8_dig 9 = .ok (.ifCond .ne 5, 3) := by decide +kernel
theorem dX8_dig_12 : decode cX8_dig 12 = .ok (.iconst (-1), 1) := by decide +kernel
theorem dX8_dig_13 : decode cX8_dig 13 = .ok (.ireturn, 1) := by decide +kernel
theorem dX8_dig_14 : decode cX8_dig 14 = .ok (.aload_n 0, 1) := by decide +kernel
theorem dX8_dig_15 : decode cX8_dig 15 = .ok (.invokevirtual 75, 3) := by decide +kernel
theorem dX8_dig_18 : decode cX8_dig 18 = .ok (.aload_n 0, 1) := by decide +kernel
theorem dX8_dig_19 : decode cX8_dig 19 = .ok (.getfield 12, 3) := by decide +kernel
theorem dX8_dig_22 : decode cX8_dig 22 = .ok (.getfield 100, 3) := by decide +kernel
theorem dX8_dig_25 : decode cX8_dig 25 = .ok (.iload_n 1, 1) := by decide +kernel
theorem dX8_dig_26 : decode cX8_dig 26 = .ok (.dup2, 1) := by decide +kernel
theorem dX8_dig_27 : decode cX8_dig 27 = .ok (.iaload, 1) := by decide +kernel
theorem dX8_dig_28 : decode cX8_dig 28 = .ok (.iload_n 2, 1) := by decide +kernel
theorem dX8_dig_29 : decode cX8_dig 29 = .ok (.isub, 1) := by decide +kernel
theorem dX8_dig_30 : decode cX8_dig 30 = .ok (.iastore, 1) := by decide +kernel
theorem dX8_dig_31 : decode cX8_dig 31 = .ok (.aload_n 0, 1) := by decide +kernel
theorem dX8_dig_32 : decode cX8_dig 32 = .ok (.getfield 12, 3) := by decide +kernel
theorem dX8_dig_35 : decode cX8_dig 35 = .ok (.getfield 106, 3) := by decide +kernel
theorem dX8_dig_38 : decode cX8_dig 38 = .ok (.invokevirtual 109, 3) := by decide +kernel
theorem dX8_dig_41 : decode cX8_dig 41 = .ok (.aload_n 0, 1) := by decide +kernel
theorem dX8_dig_42 : decode cX8_dig 42 = .ok (.getfield 12, 3) := by decide +kernel
theorem dX8_dig_45 : decode cX8_dig 45 = .ok (.getfield 100, 3) := by decide +kernel
theorem dX8_dig_48 : decode cX8_dig 48 = .ok (.iload_n 1, 1) := by decide +kernel
theorem dX8_dig_49 : decode cX8_dig 49 = .ok (.iaload, 1) := by decide +kernel
theorem dX8_dig_50 : decode cX8_dig 50 = .ok (.ireturn, 1) := by decide +kernel
set_option maxHeartbeats 4000000 in
theorem st_X8_dig_0 {X : sj_X} {g : sj_G} {s0 : sj_Mem} {N : Nat} {q : Int × sj_VV} :
    ∀ (a0 : Nat) (x1 : Int) (x2 : Int) (V : sj_VV), OK8 g a0 → g_X8_dig N a0 x1 x2 V = some q → sj_T X m_X8_dig s0 (some (sj_i q.1), (g, q.2)) 0 [some (sj_r (some a0)), some (sj_i x1), some (sj_i x2)] [] (g, V) := by
  intro a0 x1 x2 V ha0 h
  unfold g_X8_dig at h
  refine r_aload_n (pc := 0) dX8_dig_0 rfl rfl ?_
  refine r_gRs (b := a0 + 1) (pc := 1) dX8_dig_1 fw_X8_12 rfl (ok8 ha0) (ok8_0 ha0).1 ?_
  refine r_iload_n (pc := 4) dX8_dig_4 rfl rfl ?_
  refine r_iload_n (pc := 5) dX8_dig_5 rfl rfl ?_
  refine r_callVs (pc := 6) (fun v => some (sj_i v)) (As := [sj_i x1, sj_i x2]) (rest := []) (b := (a0 + 1)) (ok0 (ok8_0 ha0).2) h dX8_dig_6 mw_X8_112 vw_X0_canLower (fun _ _ hc => cg_X0_canLower (ok8_0 ha0).2 hc) rfl ⟨(Nat.le_of_ble_eq_true rfl), (Nat.le_of_ble_eq_true rfl)⟩ (Nat.le_of_ble_eq_true rfl) rfl (fun v2 V1 h => ?_)
  refine r_if_ne (pc := 9) (tgt := 14) h dX8_dig_9 (by decide) (fun h => ?_) (fun h => ?_)
  · refine r_iconst (pc := 12) dX8_dig_12 ?_
    exact r_irets (pc := 13) h rfl dX8_dig_13
  · refine r_aload_n (pc := 14) dX8_dig_14 rfl rfl ?_
    refine r_callVs (pc := 15) (fun _ => none) (As := []) (rest := []) (b := a0) (ok8 ha0) h dX8_dig_15 mw_X8_75 vw_X8_keepAct (fun _ _ hc => cg_X8_keepAct ha0 hc) rfl ⟨(Nat.le_of_ble_eq_true rfl), (Nat.le_of_ble_eq_true rfl)⟩ (Nat.le_of_ble_eq_true rfl) rfl (fun _u V3 h => ?_)
    refine r_aload_n (pc := 18) dX8_dig_18 rfl rfl ?_
    refine r_gRs (b := a0 + 1) (pc := 19) dX8_dig_19 fw_X8_12 rfl (ok8 ha0) (ok8_0 ha0).1 ?_
    refine r_gRs (b := (a0 + 1) + 1) (pc := 22) dX8_dig_22 fw_X8_100 rfl (ok0 (ok8_0 ha0).2) (ok0_3 (ok8_0 ha0).2).1 ?_
    refine r_iload_n (pc := 25) dX8_dig_25 rfl rfl ?_
    refine r_dup2_11 (pc := 26) dX8_dig_26 rfl rfl ?_
    refine r_ialoads (pc := 27) h dX8_dig_27 (ok0_3 (ok8_0 ha0).2).2 (fun h => ?_)
    refine r_iload_n (pc := 28) dX8_dig_28 rfl rfl ?_
    refine r_isub (pc := 29) dX8_dig_29 ?_
    refine r_iastores (pc := 30) h dX8_dig_30 (ok0_3 (ok8_0 ha0).2).2 (fun V4 h => ?_)
    refine r_aload_n (pc := 31) dX8_dig_31 rfl rfl ?_
    refine r_gRs (b := a0 + 1) (pc := 32) dX8_dig_32 fw_X8_12 rfl (ok8 ha0) (ok8_0 ha0).1 ?_
    refine r_gRs (b := (a0 + 1) + 12) (pc := 35) dX8_dig_35 fw_X8_106 rfl (ok0 (ok8_0 ha0).2) (ok0_14 (ok8_0 ha0).2).1 ?_
    refine r_callVs (pc := 38) (fun _ => none) (As := []) (rest := []) (b := ((a0 + 1) + 12)) (ok5 (ok0_14 (ok8_0 ha0).2).2) h dX8_dig_38 mw_X8_109 vw_X5_drop (fun _ _ hc => cg_X5_drop (ok0_14 (ok8_0 ha0).2).2 hc) rfl ⟨(Nat.le_of_ble_eq_true rfl), (Nat.le_of_ble_eq_true rfl)⟩ (Nat.le_of_ble_eq_true rfl) rfl (fun _u V5 h => ?_)
    refine r_aload_n (pc := 41) dX8_dig_41 rfl rfl ?_
    refine r_gRs (b := a0 + 1) (pc := 42) dX8_dig_42 fw_X8_12 rfl (ok8 ha0) (ok8_0 ha0).1 ?_
    refine r_gRs (b := (a0 + 1) + 1) (pc := 45) dX8_dig_45 fw_X8_100 rfl (ok0 (ok8_0 ha0).2) (ok0_3 (ok8_0 ha0).2).1 ?_
    refine r_iload_n (pc := 48) dX8_dig_48 rfl rfl ?_
    refine r_ialoads (pc := 49) h dX8_dig_49 (ok0_3 (ok8_0 ha0).2).2 (fun h => ?_)
    exact r_irets (pc := 50) h rfl dX8_dig_50
set_option maxHeartbeats 4000000 in
theorem cg_X8_dig {X : sj_X} {g : sj_G} {N : Nat} {a0 : Nat} {x1 : Int} {x2 : Int} {V : sj_VV} {q : Int × sj_VV} (ha0 : OK8 g a0) (h : g_X8_dig N a0 x1 x2 V = some q) : sj_C X m_X8_dig [sj_r (some a0), sj_i x1, sj_i x2] (g, V) (some (sj_i q.1), (g, q.2)) :=
  sj_C_of (by decide +kernel) (Nat.le_of_ble_eq_true rfl) (lo := [some (sj_r (some a0)), some (sj_i x1), some (sj_i x2)]) rfl (sj_weak (l2 := [some (sj_r (some a0)), some (sj_i x1), some (sj_i x2)]) (⟨rfl, ⟨rfl, ⟨rfl, trivial⟩⟩⟩) (st_X8_dig_0 a0 x1 x2 V ha0 h))
set_option maxHeartbeats 4000000 in
theorem c_X8_dig {X : sj_X} {N : Nat} {a0 : Nat} {x1 : Int} {x2 : Int} {s : sj_Mem} {q : Int × sj_Mem} (h : f_X8_dig N a0 x1 x2 s = some q) : sj_C X m_X8_dig [sj_r (some a0), sj_i x1, sj_i x2] s (some (sj_i q.1), q.2) := by
  obtain ⟨g, V⟩ := s
  unfold f_X8_dig at h
  obtain ⟨ho, h1⟩ := e_ok_some h
  obtain ⟨q2, h2, rfl⟩ := sj_map_some h1
  exact cg_X8_dig ho h2
theorem dX8_soil_0 : decode cX8_soil 0 = .ok (.iload_n 1, 1) := by decide +kernel
theorem dX8_soil_1 : decode cX8_soil 1 = .ok (.ifCond .lt 43, 3) := by decide +kernel
theorem dX8_soil_4 : decode cX8_soil 4 = .ok (.iload_n 1, 1) := by decide +kernel
theorem dX8_soil_5 : decode cX8_soil 5 = .ok (.iconst 4, 1) := by decide +kernel
theorem dX8_soil_6 : decode cX8_soil 6 = .ok (.if_icmp .ge 38, 3) := by decide +kernel
theorem dX8_soil_9 : decode cX8_soil 9 = .ok (.iload_n 2, 1) := by decide +kernel
theorem dX8_soil_10 : decode cX8_soil 10 = .ok (.iconst 1, 1) := by decide +kernel
theorem dX8_soil_11 : decode cX8_soil 11 = .ok (.if_icmp .lt 33, 3) := by decide +kernel
theorem dX8_soil_14 : decode cX8_soil 14 = .ok (.iload_n 2, 1) := by decide +kernel
theorem dX8_soil_15 : decode cX8_soil 15 = .ok (.bipush 30, 2) := by decide +kernel
theorem dX8_soil_17 : decode cX8_soil 17 = .ok (.if_icmp .gt 27, 3) := by decide +kernel
theorem dX8_soil_20 : decode cX8_soil 20 = .ok (.iload_n 3, 1) := by decide +kernel
theorem dX8_soil_21 : decode cX8_soil 21 = .ok (.ifCond .lt 23, 3) := by decide +kernel
theorem dX8_soil_24 : decode cX8_soil 24 = .ok (.iload_n 3, 1) := by decide +kernel
theorem dX8_soil_25 : decode cX8_soil 25 = .ok (.sipush 200, 3) := by decide +kernel
theorem dX8_soil_28 : decode cX8_soil 28 = .ok (.if_icmp .gt 16, 3) := by decide +kernel
theorem dX8_soil_31 : decode cX8_soil 31 = .ok (.iload 4, 2) := by decide +kernel
theorem dX8_soil_33 : decode cX8_soil 33 = .ok (.ifCond .lt 11, 3) := by decide +kernel
theorem dX8_soil_36 : decode cX8_soil 36 = .ok (.iload 4, 2) := by decide +kernel
theorem dX8_soil_38 : decode cX8_soil 38 = .ok (.sipush 1500, 3) := by decide +kernel
theorem dX8_soil_41 : decode cX8_soil 41 = .ok (.if_icmp .le 5, 3) := by decide +kernel
theorem dX8_soil_44 : decode cX8_soil 44 = .ok (.iconst 0, 1) := by decide +kernel
theorem dX8_soil_45 : decode cX8_soil 45 = .ok (.ireturn, 1) := by decide +kernel
theorem dX8_soil_46 : decode cX8_soil 46 = .ok (.aload_n 0, 1) := by decide +kernel
theorem dX8_soil_47 : decode cX8_soil 47 = .ok (.getfield 12, 3) := by decide +kernel
theorem dX8_soil_50 : decode cX8_soil 50 = .ok (.getfield 115, 3) := by decide +kernel
theorem dX8_soil_53 : decode cX8_soil 53 = .ok (.iload_n 1, 1) := by decide +kernel
theorem dX8_soil_54 : decode cX8_soil 54 = .ok (.iload_n 2, 1) := by decide +kernel
theorem dX8_soil_55 : decode cX8_soil 55 = .ok (.iastore, 1) := by decide +kernel
theorem dX8_soil_56 : decode cX8_soil 56 = .ok (.aload_n 0, 1) := by decide +kernel
theorem dX8_soil_57 : decode cX8_soil 57 = .ok (.getfield 12, 3) := by decide +kernel
theorem dX8_soil_60 : decode cX8_soil 60 = .ok (.getfield 118, 3) := by decide +kernel
theorem dX8_soil_63 : decode cX8_soil 63 = .ok (.iload_n 1, 1) := by decide +kernel
theorem dX8_soil_64 : decode cX8_soil 64 = .ok (.iload_n 3, 1) := by decide +kernel
theorem dX8_soil_65 : decode cX8_soil 65 = .ok (.iastore, 1) := by decide +kernel
theorem dX8_soil_66 : decode cX8_soil 66 = .ok (.aload_n 0, 1) := by decide +kernel
theorem dX8_soil_67 : decode cX8_soil 67 = .ok (.getfield 12, 3) := by decide +kernel
theorem dX8_soil_70 : decode cX8_soil 70 = .ok (.getfield 121, 3) := by decide +kernel
theorem dX8_soil_73 : decode cX8_soil 73 = .ok (.iload_n 1, 1) := by decide +kernel
theorem dX8_soil_74 : decode cX8_soil 74 = .ok (.iload 4, 2) := by decide +kernel
theorem dX8_soil_76 : decode cX8_soil 76 = .ok (.iastore, 1) := by decide +kernel
theorem dX8_soil_77 : decode cX8_soil 77 = .ok (.iconst 1, 1) := by decide +kernel
theorem dX8_soil_78 : decode cX8_soil 78 = .ok (.ireturn, 1) := by decide +kernel
set_option maxHeartbeats 4000000 in
theorem st_X8_soil_0 {X : sj_X} {g : sj_G} {s0 : sj_Mem} {N : Nat} {q : Int × sj_VV} :
    ∀ (a0 : Nat) (x1 : Int) (x2 : Int) (x3 : Int) (x4 : Int) (V : sj_VV), OK8 g a0 → g_X8_soil N a0 x1 x2 x3 x4 V = some q → sj_T X m_X8_soil s0 (some (sj_i q.1), (g, q.2)) 0 [some (sj_r (some a0)), some (sj_i x1), some (sj_i x2), some (sj_i x3), some (sj_i x4)] [] (g, V) := by
  intro a0 x1 x2 x3 x4 V ha0 h
  unfold g_X8_soil at h
  refine r_iload_n (pc := 0) dX8_soil_0 rfl rfl ?_
  refine r_if_lt (pc := 1) (tgt := 44) h dX8_soil_1 (by decide) (fun h => ?_) (fun h => ?_)
  · refine r_iconst (pc := 44) dX8_soil_44 ?_
    exact r_zrets (pc := 45) h rfl dX8_soil_45
  · refine r_iload_n (pc := 4) dX8_soil_4 rfl rfl ?_
    refine r_iconst (pc := 5) dX8_soil_5 ?_
    refine r_icmp_ge (pc := 6) (tgt := 44) h dX8_soil_6 (by decide) (fun h => ?_) (fun h => ?_)
    · refine r_iconst (pc := 44) dX8_soil_44 ?_
      exact r_zrets (pc := 45) h rfl dX8_soil_45
    · refine r_iload_n (pc := 9) dX8_soil_9 rfl rfl ?_
      refine r_iconst (pc := 10) dX8_soil_10 ?_
      refine r_icmp_lt (pc := 11) (tgt := 44) h dX8_soil_11 (by decide) (fun h => ?_) (fun h => ?_)
      · refine r_iconst (pc := 44) dX8_soil_44 ?_
        exact r_zrets (pc := 45) h rfl dX8_soil_45
      · refine r_iload_n (pc := 14) dX8_soil_14 rfl rfl ?_
        refine r_bipush (pc := 15) dX8_soil_15 ⟨by decide, by decide⟩ ?_
        refine r_icmp_gt (pc := 17) (tgt := 44) h dX8_soil_17 (by decide) (fun h => ?_) (fun h => ?_)
        · refine r_iconst (pc := 44) dX8_soil_44 ?_
          exact r_zrets (pc := 45) h rfl dX8_soil_45
        · refine r_iload_n (pc := 20) dX8_soil_20 rfl rfl ?_
          refine r_if_lt (pc := 21) (tgt := 44) h dX8_soil_21 (by decide) (fun h => ?_) (fun h => ?_)
          · refine r_iconst (pc := 44) dX8_soil_44 ?_
            exact r_zrets (pc := 45) h rfl dX8_soil_45
          · refine r_iload_n (pc := 24) dX8_soil_24 rfl rfl ?_
            refine r_sipush (pc := 25) dX8_soil_25 ⟨by decide, by decide⟩ ?_
            refine r_icmp_gt (pc := 28) (tgt := 44) h dX8_soil_28 (by decide) (fun h => ?_) (fun h => ?_)
            · refine r_iconst (pc := 44) dX8_soil_44 ?_
              exact r_zrets (pc := 45) h rfl dX8_soil_45
            · refine r_iload (pc := 31) dX8_soil_31 rfl ?_
              refine r_if_lt (pc := 33) (tgt := 44) h dX8_soil_33 (by decide) (fun h => ?_) (fun h => ?_)
              · refine r_iconst (pc := 44) dX8_soil_44 ?_
                exact r_zrets (pc := 45) h rfl dX8_soil_45
              · refine r_iload (pc := 36) dX8_soil_36 rfl ?_
                refine r_sipush (pc := 38) dX8_soil_38 ⟨by decide, by decide⟩ ?_
                refine r_icmp_le (pc := 41) (tgt := 46) h dX8_soil_41 (by decide) (fun h => ?_) (fun h => ?_)
                · refine r_aload_n (pc := 46) dX8_soil_46 rfl rfl ?_
                  refine r_gRs (b := a0 + 1) (pc := 47) dX8_soil_47 fw_X8_12 rfl (ok8 ha0) (ok8_0 ha0).1 ?_
                  refine r_gRs (b := (a0 + 1) + 6) (pc := 50) dX8_soil_50 fw_X8_115 rfl (ok0 (ok8_0 ha0).2) (ok0_8 (ok8_0 ha0).2).1 ?_
                  refine r_iload_n (pc := 53) dX8_soil_53 rfl rfl ?_
                  refine r_iload_n (pc := 54) dX8_soil_54 rfl rfl ?_
                  refine r_iastores (pc := 55) h dX8_soil_55 (ok0_8 (ok8_0 ha0).2).2 (fun V1 h => ?_)
                  refine r_aload_n (pc := 56) dX8_soil_56 rfl rfl ?_
                  refine r_gRs (b := a0 + 1) (pc := 57) dX8_soil_57 fw_X8_12 rfl (ok8 ha0) (ok8_0 ha0).1 ?_
                  refine r_gRs (b := (a0 + 1) + 7) (pc := 60) dX8_soil_60 fw_X8_118 rfl (ok0 (ok8_0 ha0).2) (ok0_9 (ok8_0 ha0).2).1 ?_
                  refine r_iload_n (pc := 63) dX8_soil_63 rfl rfl ?_
                  refine r_iload_n (pc := 64) dX8_soil_64 rfl rfl ?_
                  refine r_iastores (pc := 65) h dX8_soil_65 (ok0_9 (ok8_0 ha0).2).2 (fun V2 h => ?_)
                  refine r_aload_n (pc := 66) dX8_soil_66 rfl rfl ?_
                  refine r_gRs (b := a0 + 1) (pc := 67) dX8_soil_67 fw_X8_12 rfl (ok8 ha0) (ok8_0 ha0).1 ?_
                  refine r_gRs (b := (a0 + 1) + 8) (pc := 70) dX8_soil_70 fw_X8_121 rfl (ok0 (ok8_0 ha0).2) (ok0_10 (ok8_0 ha0).2).1 ?_
                  refine r_iload_n (pc := 73) dX8_soil_73 rfl rfl ?_
                  refine r_iload (pc := 74) dX8_soil_74 rfl ?_
                  refine r_iastores (pc := 76) h dX8_soil_76 (ok0_10 (ok8_0 ha0).2).2 (fun V3 h => ?_)
                  refine r_iconst (pc := 77) dX8_soil_77 ?_
                  exact r_zrets (pc := 78) h rfl dX8_soil_78
                · refine r_iconst (pc := 44) dX8_soil_44 ?_
                  exact r_zrets (pc := 45) h rfl dX8_soil_45
set_option maxHeartbeats 4000000 in
theorem cg_X8_soil {X : sj_X} {g : sj_G} {N : Nat} {a0 : Nat} {x1 : Int} {x2 : Int} {x3 : Int} {x4 : Int} {V : sj_VV} {q : Int × sj_VV} (ha0 : OK8 g a0) (h : g_X8_soil N a0 x1 x2 x3 x4 V = some q) : sj_C X m_X8_soil [sj_r (some a0), sj_i x1, sj_i x2, sj_i x3, sj_i x4] (g, V) (some (sj_i q.1), (g, q.2)) :=
  sj_C_of (by decide +kernel) (Nat.le_of_ble_eq_true rfl) (lo := [some (sj_r (some a0)), some (sj_i x1), some (sj_i x2), some (sj_i x3), some (sj_i x4)]) rfl (sj_weak (l2 := [some (sj_r (some a0)), some (sj_i x1), some (sj_i x2), some (sj_i x3), some (sj_i x4)]) (⟨rfl, ⟨rfl, ⟨rfl, ⟨rfl, ⟨rfl, trivial⟩⟩⟩⟩⟩) (st_X8_soil_0 a0 x1 x2 x3 x4 V ha0 h))
set_option maxHeartbeats 4000000 in
theorem c_X8_soil {X : sj_X} {N : Nat} {a0 : Nat} {x1 : Int} {x2 : Int} {x3 : Int} {x4 : Int} {s : sj_Mem} {q : Int × sj_Mem} (h : f_X8_soil N a0 x1 x2 x3 x4 s = some q) : sj_C X m_X8_soil [sj_r (some a0), sj_i x1, sj_i x2, sj_i x3, sj_i x4] s (some (sj_i q.1), q.2) := by
  obtain ⟨g, V⟩ := s
  unfold f_X8_soil at h
  obtain ⟨ho, h1⟩ := e_ok_some h
  obtain ⟨q2, h2, rfl⟩ := sj_map_some h1
  exact cg_X8_soil ho h2
theorem dX8_quake_0 : decode cX8_quake 0 = .ok (.iload_n 1, 1) := by decide +kernel
theorem dX8_quake_1 : decode cX8_quake 1 = .ok (.ifCond .lt 10, 3) := by decide +kernel
theorem dX8_quake_4 : decode cX8_quake 4 = .ok (.iload_n 1, 1) := by decide +kernel
theorem dX8_quake_5 : decode cX8_quake 5 = .ok (.sipush 500, 3) := by decide +kernel
theorem dX8_quake_8 : decode cX8_quake 8 = .ok (.if_icmp .le 5, 3) := by decide +kernel
theorem dX8_quake_11 : decode cX8_quake 11 = .ok (.iconst 0, 1) := by decide +kernel
theorem dX8_quake_12 : decode cX8_quake 12 = .ok (.ireturn, 1) := by decide +kernel
theorem dX8_quake_13 : decode cX8_quake 13 = .ok (.aload_n 0, 1) := by decide +kernel
theorem dX8_quake_14 : decode cX8_quake 14 = .ok (.getfield 12, 3) := by decide +kernel
theorem dX8_quake_17 : decode cX8_quake 17 = .ok (.iload_n 1, 1) := by decide +kernel
theorem dX8_quake_18 : decode cX8_quake 18 = .ok (.putfield 124, 3) := by decide +kernel
theorem dX8_quake_21 : decode cX8_quake 21 = .ok (.iconst 1, 1) := by decide +kernel
theorem dX8_quake_22 : decode cX8_quake 22 = .ok (.ireturn, 1) := by decide +kernel
set_option maxHeartbeats 4000000 in
theorem st_X8_quake_0 {X : sj_X} {g : sj_G} {s0 : sj_Mem} {N : Nat} {q : Int × sj_VV} :
    ∀ (a0 : Nat) (x1 : Int) (V : sj_VV), OK8 g a0 → g_X8_quake N a0 x1 V = some q → sj_T X m_X8_quake s0 (some (sj_i q.1), (g, q.2)) 0 [some (sj_r (some a0)), some (sj_i x1)] [] (g, V) := by
  intro a0 x1 V ha0 h
  unfold g_X8_quake at h
  refine r_iload_n (pc := 0) dX8_quake_0 rfl rfl ?_
  refine r_if_lt (pc := 1) (tgt := 11) h dX8_quake_1 (by decide) (fun h => ?_) (fun h => ?_)
  · refine r_iconst (pc := 11) dX8_quake_11 ?_
    exact r_zrets (pc := 12) h rfl dX8_quake_12
  · refine r_iload_n (pc := 4) dX8_quake_4 rfl rfl ?_
    refine r_sipush (pc := 5) dX8_quake_5 ⟨by decide, by decide⟩ ?_
    refine r_icmp_le (pc := 8) (tgt := 13) h dX8_quake_8 (by decide) (fun h => ?_) (fun h => ?_)
    · refine r_aload_n (pc := 13) dX8_quake_13 rfl rfl ?_
      refine r_gRs (b := a0 + 1) (pc := 14) dX8_quake_14 fw_X8_12 rfl (ok8 ha0) (ok8_0 ha0).1 ?_
      refine r_iload_n (pc := 17) dX8_quake_17 rfl rfl ?_
      refine r_pIs (pc := 18) h dX8_quake_18 fw_X8_124 rfl rfl (nf0_2) (ok0 (ok8_0 ha0).2) (fun V1 h => ?_)
      refine r_iconst (pc := 21) dX8_quake_21 ?_
      exact r_zrets (pc := 22) h rfl dX8_quake_22
    · refine r_iconst (pc := 11) dX8_quake_11 ?_
      exact r_zrets (pc := 12) h rfl dX8_quake_12
set_option maxHeartbeats 4000000 in
theorem cg_X8_quake {X : sj_X} {g : sj_G} {N : Nat} {a0 : Nat} {x1 : Int} {V : sj_VV} {q : Int × sj_VV} (ha0 : OK8 g a0) (h : g_X8_quake N a0 x1 V = some q) : sj_C X m_X8_quake [sj_r (some a0), sj_i x1] (g, V) (some (sj_i q.1), (g, q.2)) :=
  sj_C_of (by decide +kernel) (Nat.le_of_ble_eq_true rfl) (lo := [some (sj_r (some a0)), some (sj_i x1)]) rfl (sj_weak (l2 := [some (sj_r (some a0)), some (sj_i x1)]) (⟨rfl, ⟨rfl, trivial⟩⟩) (st_X8_quake_0 a0 x1 V ha0 h))
set_option maxHeartbeats 4000000 in
theorem c_X8_quake {X : sj_X} {N : Nat} {a0 : Nat} {x1 : Int} {s : sj_Mem} {q : Int × sj_Mem} (h : f_X8_quake N a0 x1 s = some q) : sj_C X m_X8_quake [sj_r (some a0), sj_i x1] s (some (sj_i q.1), q.2) := by
  obtain ⟨g, V⟩ := s
  unfold f_X8_quake at h
  obtain ⟨ho, h1⟩ := e_ok_some h
  obtain ⟨q2, h2, rfl⟩ := sj_map_some h1
  exact cg_X8_quake ho h2
theorem dX8_anchor_0 : decode cX8_anchor 0 = .ok (.iload_n 1, 1) := by decide +kernel
theorem dX8_anchor_1 : decode cX8_anchor 1 = .ok (.ifCond .lt 43, 3) := by decide +kernel
theorem dX8_anchor_4 : decode cX8_anchor 4 = .ok (.iload_n 1, 1) := by decide +kernel
theorem dX8_anchor_5 : decode cX8_anchor 5 = .ok (.bipush 6, 2) := by decide +kernel
theorem dX8_anchor_7 : decode cX8_anchor 7 = .ok (.if_icmp .ge 37, 3) := by decide +kernel
theorem dX8_anchor_10 : decode cX8_anchor 10 = .ok (.aload_n 0, 1) := by decide +kernel
theorem dX8_anchor_11 : decode cX8_anchor 11 = .ok (.getfield 12, 3) := by decide +kernel
theorem dX8_anchor_14 : decode cX8_anchor 14 = .ok (.iload_n 2, 1) := by decide +kernel
theorem dX8_anchor_15 : decode cX8_anchor 15 = .ok (.invokevirtual 78, 3) := by decide +kernel
theorem dX8_anchor_18 : decode cX8_anchor 18 = .ok (.ifCond .eq 26, 3) := by decide +kernel
theorem dX8_anchor_21 : decode cX8_anchor 21 = .ok (.iload_n 3, 1) := by decide +kernel
theorem dX8_anchor_22 : decode cX8_anchor 22 = .ok (.ifCond .lt 22, 3) := by decide +kernel
theorem dX8_anchor_25 : decode cX8_anchor 25 = .ok (.iload_n 3, 1) := by decide +kernel
theorem dX8_anchor_26 : decode cX8_anchor 26 = .ok (.bipush 100, 2) := by decide +kernel
theorem dX8_anchor_28 : decode cX8_anchor 28 = .ok (.if_icmp .gt 16, 3) := by decide +kernel
theorem dX8_anchor_31 : decode cX8_anchor 31 = .ok (.iload 4, 2) := by decide +kernel
theorem dX8_anchor_33 : decode cX8_anchor 33 = .ok (.ifCond .lt 11, 3) := by decide +kernel
theorem dX8_anchor_36 : decode cX8_anchor 36 = .ok (.iload 4, 2) := by decide +kernel
theorem dX8_anchor_38 : decode cX8_anchor 38 = .ok (.sipush 500, 3) := by decide +kernel
theorem dX8_anchor_41 : decode cX8_anchor 41 = .ok (.if_icmp .le 5, 3) := by decide +kernel
theorem dX8_anchor_44 : decode cX8_anchor 44 = .ok (.iconst 0, 1) := by decide +kernel
theorem dX8_anchor_45 : decode cX8_anchor 45 = .ok (.ireturn, 1) := by decide +kernel
theorem dX8_anchor_46 : decode cX8_anchor 46 = .ok (.aload_n 0, 1) := by decide +kernel
theorem dX8_anchor_47 : decode cX8_anchor 47 = .ok (.getfield 12, 3) := by decide +kernel
theorem dX8_anchor_50 : decode cX8_anchor 50 = .ok (.getfield 128, 3) := by decide +kernel
theorem dX8_anchor_53 : decode cX8_anchor 53 = .ok (.iload_n 1, 1) := by decide +kernel
theorem dX8_anchor_54 : decode cX8_anchor 54 = .ok (.iload_n 2, 1) := by decide +kernel
theorem dX8_anchor_55 : decode cX8_anchor 55 = .ok (.iastore, 1) := by decide +kernel
theorem dX8_anchor_56 : decode cX8_anchor 56 = .ok (.aload_n 0, 1) := by decide +kernel
theorem dX8_anchor_57 : decode cX8_anchor 57 = .ok (.getfield 12, 3) := by decide +kernel
theorem dX8_anchor_60 : decode cX8_anchor 60 = .ok (.getfield 131, 3) := by decide +kernel
theorem dX8_anchor_63 : decode cX8_anchor 63 = .ok (.iload_n 1, 1) := by decide +kernel
theorem dX8_anchor_64 : decode cX8_anchor 64 = .ok (.iload_n 3, 1) := by decide +kernel
theorem dX8_anchor_65 : decode cX8_anchor 65 = .ok (.iastore, 1) := by decide +kernel
theorem dX8_anchor_66 : decode cX8_anchor 66 = .ok (.aload_n 0, 1) := by decide +kernel
theorem dX8_anchor_67 : decode cX8_anchor 67 = .ok (.getfield 12, 3) := by decide +kernel
theorem dX8_anchor_70 : decode cX8_anchor 70 = .ok (.getfield 134, 3) := by decide +kernel
theorem dX8_anchor_73 : decode cX8_anchor 73 = .ok (.iload_n 1, 1) := by decide +kernel
theorem dX8_anchor_74 : decode cX8_anchor 74 = .ok (.iload 4, 2) := by decide +kernel
theorem dX8_anchor_76 : decode cX8_anchor 76 = .ok (.iastore, 1) := by decide +kernel
theorem dX8_anchor_77 : decode cX8_anchor 77 = .ok (.iconst 1, 1) := by decide +kernel
theorem dX8_anchor_78 : decode cX8_anchor 78 = .ok (.ireturn, 1) := by decide +kernel
set_option maxHeartbeats 4000000 in
theorem st_X8_anchor_0 {X : sj_X} {g : sj_G} {s0 : sj_Mem} {N : Nat} {q : Int × sj_VV} :
    ∀ (a0 : Nat) (x1 : Int) (x2 : Int) (x3 : Int) (x4 : Int) (V : sj_VV), OK8 g a0 → g_X8_anchor N a0 x1 x2 x3 x4 V = some q → sj_T X m_X8_anchor s0 (some (sj_i q.1), (g, q.2)) 0 [some (sj_r (some a0)), some (sj_i x1), some (sj_i x2), some (sj_i x3), some (sj_i x4)] [] (g, V) := by
  intro a0 x1 x2 x3 x4 V ha0 h
  unfold g_X8_anchor at h
  refine r_iload_n (pc := 0) dX8_anchor_0 rfl rfl ?_
  refine r_if_lt (pc := 1) (tgt := 44) h dX8_anchor_1 (by decide) (fun h => ?_) (fun h => ?_)
  · refine r_iconst (pc := 44) dX8_anchor_44 ?_
    exact r_zrets (pc := 45) h rfl dX8_anchor_45
  · refine r_iload_n (pc := 4) dX8_anchor_4 rfl rfl ?_
    refine r_bipush (pc := 5) dX8_anchor_5 ⟨by decide, by decide⟩ ?_
    refine r_icmp_ge (pc := 7) (tgt := 44) h dX8_anchor_7 (by decide) (fun h => ?_) (fun h => ?_)
    · refine r_iconst (pc := 44) dX8_anchor_44 ?_
      exact r_zrets (pc := 45) h rfl dX8_anchor_45
    · refine r_aload_n (pc := 10) dX8_anchor_10 rfl rfl ?_
      refine r_gRs (b := a0 + 1) (pc := 11) dX8_anchor_11 fw_X8_12 rfl (ok8 ha0) (ok8_0 ha0).1 ?_
      refine r_iload_n (pc := 14) dX8_anchor_14 rfl rfl ?_
      refine r_callVs (pc := 15) (fun v => some (sj_i v)) (As := [sj_i x2]) (rest := []) (b := (a0 + 1)) (ok0 (ok8_0 ha0).2) h dX8_anchor_15 mw_X8_78 vw_X0_hasColumn (fun _ _ hc => cg_X0_hasColumn (ok8_0 ha0).2 hc) rfl ⟨(Nat.le_of_ble_eq_true rfl), (Nat.le_of_ble_eq_true rfl)⟩ (Nat.le_of_ble_eq_true rfl) rfl (fun v2 V1 h => ?_)
      refine r_if_eq (pc := 18) (tgt := 44) h dX8_anchor_18 (by decide) (fun h => ?_) (fun h => ?_)
      · refine r_iconst (pc := 44) dX8_anchor_44 ?_
        exact r_zrets (pc := 45) h rfl dX8_anchor_45
      · refine r_iload_n (pc := 21) dX8_anchor_21 rfl rfl ?_
        refine r_if_lt (pc := 22) (tgt := 44) h dX8_anchor_22 (by decide) (fun h => ?_) (fun h => ?_)
        · refine r_iconst (pc := 44) dX8_anchor_44 ?_
          exact r_zrets (pc := 45) h rfl dX8_anchor_45
        · refine r_iload_n (pc := 25) dX8_anchor_25 rfl rfl ?_
          refine r_bipush (pc := 26) dX8_anchor_26 ⟨by decide, by decide⟩ ?_
          refine r_icmp_gt (pc := 28) (tgt := 44) h dX8_anchor_28 (by decide) (fun h => ?_) (fun h => ?_)
          · refine r_iconst (pc := 44) dX8_anchor_44 ?_
            exact r_zrets (pc := 45) h rfl dX8_anchor_45
          · refine r_iload (pc := 31) dX8_anchor_31 rfl ?_
            refine r_if_lt (pc := 33) (tgt := 44) h dX8_anchor_33 (by decide) (fun h => ?_) (fun h => ?_)
            · refine r_iconst (pc := 44) dX8_anchor_44 ?_
              exact r_zrets (pc := 45) h rfl dX8_anchor_45
            · refine r_iload (pc := 36) dX8_anchor_36 rfl ?_
              refine r_sipush (pc := 38) dX8_anchor_38 ⟨by decide, by decide⟩ ?_
              refine r_icmp_le (pc := 41) (tgt := 46) h dX8_anchor_41 (by decide) (fun h => ?_) (fun h => ?_)
              · refine r_aload_n (pc := 46) dX8_anchor_46 rfl rfl ?_
                refine r_gRs (b := a0 + 1) (pc := 47) dX8_anchor_47 fw_X8_12 rfl (ok8 ha0) (ok8_0 ha0).1 ?_
                refine r_gRs (b := (a0 + 1) + 9) (pc := 50) dX8_anchor_50 fw_X8_128 rfl (ok0 (ok8_0 ha0).2) (ok0_11 (ok8_0 ha0).2).1 ?_
                refine r_iload_n (pc := 53) dX8_anchor_53 rfl rfl ?_
                refine r_iload_n (pc := 54) dX8_anchor_54 rfl rfl ?_
                refine r_iastores (pc := 55) h dX8_anchor_55 (ok0_11 (ok8_0 ha0).2).2 (fun V3 h => ?_)
                refine r_aload_n (pc := 56) dX8_anchor_56 rfl rfl ?_
                refine r_gRs (b := a0 + 1) (pc := 57) dX8_anchor_57 fw_X8_12 rfl (ok8 ha0) (ok8_0 ha0).1 ?_
                refine r_gRs (b := (a0 + 1) + 10) (pc := 60) dX8_anchor_60 fw_X8_131 rfl (ok0 (ok8_0 ha0).2) (ok0_12 (ok8_0 ha0).2).1 ?_
                refine r_iload_n (pc := 63) dX8_anchor_63 rfl rfl ?_
                refine r_iload_n (pc := 64) dX8_anchor_64 rfl rfl ?_
                refine r_iastores (pc := 65) h dX8_anchor_65 (ok0_12 (ok8_0 ha0).2).2 (fun V4 h => ?_)
                refine r_aload_n (pc := 66) dX8_anchor_66 rfl rfl ?_
                refine r_gRs (b := a0 + 1) (pc := 67) dX8_anchor_67 fw_X8_12 rfl (ok8 ha0) (ok8_0 ha0).1 ?_
                refine r_gRs (b := (a0 + 1) + 11) (pc := 70) dX8_anchor_70 fw_X8_134 rfl (ok0 (ok8_0 ha0).2) (ok0_13 (ok8_0 ha0).2).1 ?_
                refine r_iload_n (pc := 73) dX8_anchor_73 rfl rfl ?_
                refine r_iload (pc := 74) dX8_anchor_74 rfl ?_
                refine r_iastores (pc := 76) h dX8_anchor_76 (ok0_13 (ok8_0 ha0).2).2 (fun V5 h => ?_)
                refine r_iconst (pc := 77) dX8_anchor_77 ?_
                exact r_zrets (pc := 78) h rfl dX8_anchor_78
              · refine r_iconst (pc := 44) dX8_anchor_44 ?_
                exact r_zrets (pc := 45) h rfl dX8_anchor_45
set_option maxHeartbeats 4000000 in
theorem cg_X8_anchor {X : sj_X} {g : sj_G} {N : Nat} {a0 : Nat} {x1 : Int} {x2 : Int} {x3 : Int} {x4 : Int} {V : sj_VV} {q : Int × sj_VV} (ha0 : OK8 g a0) (h : g_X8_anchor N a0 x1 x2 x3 x4 V = some q) : sj_C X m_X8_anchor [sj_r (some a0), sj_i x1, sj_i x2, sj_i x3, sj_i x4] (g, V) (some (sj_i q.1), (g, q.2)) :=
  sj_C_of (by decide +kernel) (Nat.le_of_ble_eq_true rfl) (lo := [some (sj_r (some a0)), some (sj_i x1), some (sj_i x2), some (sj_i x3), some (sj_i x4)]) rfl (sj_weak (l2 := [some (sj_r (some a0)), some (sj_i x1), some (sj_i x2), some (sj_i x3), some (sj_i x4)]) (⟨rfl, ⟨rfl, ⟨rfl, ⟨rfl, ⟨rfl, trivial⟩⟩⟩⟩⟩) (st_X8_anchor_0 a0 x1 x2 x3 x4 V ha0 h))
set_option maxHeartbeats 4000000 in
theorem c_X8_anchor {X : sj_X} {N : Nat} {a0 : Nat} {x1 : Int} {x2 : Int} {x3 : Int} {x4 : Int} {s : sj_Mem} {q : Int × sj_Mem} (h : f_X8_anchor N a0 x1 x2 x3 x4 s = some q) : sj_C X m_X8_anchor [sj_r (some a0), sj_i x1, sj_i x2, sj_i x3, sj_i x4] s (some (sj_i q.1), q.2) := by
  obtain ⟨g, V⟩ := s
  unfold f_X8_anchor at h
  obtain ⟨ho, h1⟩ := e_ok_some h
  obtain ⟨q2, h2, rfl⟩ := sj_map_some h1
  exact cg_X8_anchor ho h2
theorem dX8_feed_0 : decode cX8_feed 0 = .ok (.aload_n 0, 1) := by decide +kernel
theorem dX8_feed_1 : decode cX8_feed 1 = .ok (.getfield 46, 3) := by decide +kernel
theorem dX8_feed_4 : decode cX8_feed 4 = .ok (.getfield 137, 3) := by decide +kernel
theorem dX8_feed_7 : decode cX8_feed 7 = .ok (.sipush 580, 3) := by decide +kernel
theorem dX8_feed_10 : decode cX8_feed 10 = .ok (.if_icmp .le 5, 3) := by decide +kernel
theorem dX8_feed_13 : decode cX8_feed 13 = .ok (.iconst (-1), 1) := by decide +kernel
theorem dX8_feed_14 : decode cX8_feed 14 = .ok (.ireturn, 1) := by decide +kernel
theorem dX8_feed_15 : decode cX8_feed 15 = .ok (.aload_n 0, 1) := by decide +kernel
theorem dX8_feed_16 : decode cX8_feed 16 = .ok (.getfield 46, 3) := by decide +kernel
theorem dX8_feed_19 : decode cX8_feed 19 = .ok (.iload_n 1, 1) := by decide +kernel
theorem dX8_feed_20 : decode cX8_feed 20 = .ok (.invokevirtual 140, 3) := by decide +kernel
theorem dX8_feed_23 : decode cX8_feed 23 = .ok (.aload_n 0, 1) := by decide +kernel
theorem dX8_feed_24 : decode cX8_feed 24 = .ok (.getfield 46, 3) := by decide +kernel
theorem dX8_feed_27 : decode cX8_feed 27 = .ok (.iload_n 2, 1) := by decide +kernel
theorem dX8_feed_28 : decode cX8_feed 28 = .ok (.invokevirtual 140, 3) := by decide +kernel
theorem dX8_feed_31 : decode cX8_feed 31 = .ok (.aload_n 0, 1) := by decide +kernel
theorem dX8_feed_32 : decode cX8_feed 32 = .ok (.getfield 46, 3) := by decide +kernel
theorem dX8_feed_35 : decode cX8_feed 35 = .ok (.iload_n 3, 1) := by decide +kernel
theorem dX8_feed_36 : decode cX8_feed 36 = .ok (.invokevirtual 140, 3) := by decide +kernel
theorem dX8_feed_39 : decode cX8_feed 39 = .ok (.aload_n 0, 1) := by decide +kernel
theorem dX8_feed_40 : decode cX8_feed 40 = .ok (.getfield 46, 3) := by decide +kernel
theorem dX8_feed_43 : decode cX8_feed 43 = .ok (.iload 4, 2) := by decide +kernel
theorem dX8_feed_45 : decode cX8_feed 45 = .ok (.invokevirtual 140, 3) := by decide +kernel
theorem dX8_feed_48 : decode cX8_feed 48 = .ok (.aload_n 0, 1) := by decide +kernel
theorem dX8_feed_49 : decode cX8_feed 49 = .ok (.getfield 46, 3) := by decide +kernel
theorem dX8_feed_52 : decode cX8_feed 52 = .ok (.iload 5, 2) := by decide +kernel
theorem dX8_feed_54 : decode cX8_feed 54 = .ok (.invokevirtual 140, 3) := by decide +kernel
theorem dX8_feed_57 : decode cX8_feed 57 = .ok (.aload_n 0, 1) := by decide +kernel
theorem dX8_feed_58 : decode cX8_feed 58 = .ok (.getfield 46, 3) := by decide +kernel
theorem dX8_feed_61 : decode cX8_feed 61 = .ok (.getfield 137, 3) := by decide +kernel
theorem dX8_feed_64 : decode cX8_feed 64 = .ok (.ireturn, 1) := by decide +kernel
set_option maxHeartbeats 4000000 in
theorem st_X8_feed_0 {X : sj_X} {g : sj_G} {s0 : sj_Mem} {N : Nat} {q : Int × sj_VV} :
    ∀ (a0 : Nat) (x1 : Int) (x2 : Int) (x3 : Int) (x4 : Int) (x5 : Int) (V : sj_VV), OK8 g a0 → g_X8_feed N a0 x1 x2 x3 x4 x5 V = some q → sj_T X m_X8_feed s0 (some (sj_i q.1), (g, q.2)) 0 [some (sj_r (some a0)), some (sj_i x1), some (sj_i x2), some (sj_i x3), some (sj_i x4), some (sj_i x5)] [] (g, V) := by
  intro a0 x1 x2 x3 x4 x5 V ha0 h
  unfold g_X8_feed at h
  refine r_aload_n (pc := 0) dX8_feed_0 rfl rfl ?_
  refine r_gRs (b := a0 + 52) (pc := 1) dX8_feed_1 fw_X8_46 rfl (ok8 ha0) (ok8_7 ha0).1 ?_
  refine r_gIs (pc := 4) dX8_feed_4 fw_X8_137 rfl (ok7 (ok8_7 ha0).2) ?_
  refine r_sipush (pc := 7) dX8_feed_7 ⟨by decide, by decide⟩ ?_
  refine r_icmp_le (pc := 10) (tgt := 15) h dX8_feed_10 (by decide) (fun h => ?_) (fun h => ?_)
  · refine r_aload_n (pc := 15) dX8_feed_15 rfl rfl ?_
    refine r_gRs (b := a0 + 52) (pc := 16) dX8_feed_16 fw_X8_46 rfl (ok8 ha0) (ok8_7 ha0).1 ?_
    refine r_iload_n (pc := 19) dX8_feed_19 rfl rfl ?_
    refine r_callVs (pc := 20) (fun _ => none) (As := [sj_i x1]) (rest := []) (b := (a0 + 52)) (ok7 (ok8_7 ha0).2) h dX8_feed_20 mw_X8_140 vw_X7_put (fun _ _ hc => cg_X7_put (ok8_7 ha0).2 hc) rfl ⟨(Nat.le_of_ble_eq_true rfl), (Nat.le_of_ble_eq_true rfl)⟩ (Nat.le_of_ble_eq_true rfl) rfl (fun _u V1 h => ?_)
    refine r_aload_n (pc := 23) dX8_feed_23 rfl rfl ?_
    refine r_gRs (b := a0 + 52) (pc := 24) dX8_feed_24 fw_X8_46 rfl (ok8 ha0) (ok8_7 ha0).1 ?_
    refine r_iload_n (pc := 27) dX8_feed_27 rfl rfl ?_
    refine r_callVs (pc := 28) (fun _ => none) (As := [sj_i x2]) (rest := []) (b := (a0 + 52)) (ok7 (ok8_7 ha0).2) h dX8_feed_28 mw_X8_140 vw_X7_put (fun _ _ hc => cg_X7_put (ok8_7 ha0).2 hc) rfl ⟨(Nat.le_of_ble_eq_true rfl), (Nat.le_of_ble_eq_true rfl)⟩ (Nat.le_of_ble_eq_true rfl) rfl (fun _u V2 h => ?_)
    refine r_aload_n (pc := 31) dX8_feed_31 rfl rfl ?_
    refine r_gRs (b := a0 + 52) (pc := 32) dX8_feed_32 fw_X8_46 rfl (ok8 ha0) (ok8_7 ha0).1 ?_
    refine r_iload_n (pc := 35) dX8_feed_35 rfl rfl ?_
    refine r_callVs (pc := 36) (fun _ => none) (As := [sj_i x3]) (rest := []) (b := (a0 + 52)) (ok7 (ok8_7 ha0).2) h dX8_feed_36 mw_X8_140 vw_X7_put (fun _ _ hc => cg_X7_put (ok8_7 ha0).2 hc) rfl ⟨(Nat.le_of_ble_eq_true rfl), (Nat.le_of_ble_eq_true rfl)⟩ (Nat.le_of_ble_eq_true rfl) rfl (fun _u V3 h => ?_)
    refine r_aload_n (pc := 39) dX8_feed_39 rfl rfl ?_
    refine r_gRs (b := a0 + 52) (pc := 40) dX8_feed_40 fw_X8_46 rfl (ok8 ha0) (ok8_7 ha0).1 ?_
    refine r_iload (pc := 43) dX8_feed_43 rfl ?_
    refine r_callVs (pc := 45) (fun _ => none) (As := [sj_i x4]) (rest := []) (b := (a0 + 52)) (ok7 (ok8_7 ha0).2) h dX8_feed_45 mw_X8_140 vw_X7_put (fun _ _ hc => cg_X7_put (ok8_7 ha0).2 hc) rfl ⟨(Nat.le_of_ble_eq_true rfl), (Nat.le_of_ble_eq_true rfl)⟩ (Nat.le_of_ble_eq_true rfl) rfl (fun _u V4 h => ?_)
    refine r_aload_n (pc := 48) dX8_feed_48 rfl rfl ?_
    refine r_gRs (b := a0 + 52) (pc := 49) dX8_feed_49 fw_X8_46 rfl (ok8 ha0) (ok8_7 ha0).1 ?_
    refine r_iload (pc := 52) dX8_feed_52 rfl ?_
    refine r_callVs (pc := 54) (fun _ => none) (As := [sj_i x5]) (rest := []) (b := (a0 + 52)) (ok7 (ok8_7 ha0).2) h dX8_feed_54 mw_X8_140 vw_X7_put (fun _ _ hc => cg_X7_put (ok8_7 ha0).2 hc) rfl ⟨(Nat.le_of_ble_eq_true rfl), (Nat.le_of_ble_eq_true rfl)⟩ (Nat.le_of_ble_eq_true rfl) rfl (fun _u V5 h => ?_)
    refine r_aload_n (pc := 57) dX8_feed_57 rfl rfl ?_
    refine r_gRs (b := a0 + 52) (pc := 58) dX8_feed_58 fw_X8_46 rfl (ok8 ha0) (ok8_7 ha0).1 ?_
    refine r_gIs (pc := 61) dX8_feed_61 fw_X8_137 rfl (ok7 (ok8_7 ha0).2) ?_
    exact r_irets (pc := 64) h rfl dX8_feed_64
  · refine r_iconst (pc := 13) dX8_feed_13 ?_
    exact r_irets (pc := 14) h rfl dX8_feed_14
set_option maxHeartbeats 4000000 in
theorem cg_X8_feed {X : sj_X} {g : sj_G} {N : Nat} {a0 : Nat} {x1 : Int} {x2 : Int} {x3 : Int} {x4 : Int} {x5 : Int} {V : sj_VV} {q : Int × sj_VV} (ha0 : OK8 g a0) (h : g_X8_feed N a0 x1 x2 x3 x4 x5 V = some q) : sj_C X m_X8_feed [sj_r (some a0), sj_i x1, sj_i x2, sj_i x3, sj_i x4, sj_i x5] (g, V) (some (sj_i q.1), (g, q.2)) :=
  sj_C_of (by decide +kernel) (Nat.le_of_ble_eq_true rfl) (lo := [some (sj_r (some a0)), some (sj_i x1), some (sj_i x2), some (sj_i x3), some (sj_i x4), some (sj_i x5)]) rfl (sj_weak (l2 := [some (sj_r (some a0)), some (sj_i x1), some (sj_i x2), some (sj_i x3), some (sj_i x4), some (sj_i x5)]) (⟨rfl, ⟨rfl, ⟨rfl, ⟨rfl, ⟨rfl, ⟨rfl, trivial⟩⟩⟩⟩⟩⟩) (st_X8_feed_0 a0 x1 x2 x3 x4 x5 V ha0 h))
set_option maxHeartbeats 4000000 in
theorem c_X8_feed {X : sj_X} {N : Nat} {a0 : Nat} {x1 : Int} {x2 : Int} {x3 : Int} {x4 : Int} {x5 : Int} {s : sj_Mem} {q : Int × sj_Mem} (h : f_X8_feed N a0 x1 x2 x3 x4 x5 s = some q) : sj_C X m_X8_feed [sj_r (some a0), sj_i x1, sj_i x2, sj_i x3, sj_i x4, sj_i x5] s (some (sj_i q.1), q.2) := by
  obtain ⟨g, V⟩ := s
  unfold f_X8_feed at h
  obtain ⟨ho, h1⟩ := e_ok_some h
  obtain ⟨q2, h2, rfl⟩ := sj_map_some h1
  exact cg_X8_feed ho h2
theorem dX8_end_0 : decode cX8_end 0 = .ok (.iload_n 1, 1) := by decide +kernel
theorem dX8_end_1 : decode cX8_end 1 = .ok (.ifCond .lt 14, 3) := by decide +kernel
theorem dX8_end_4 : decode cX8_end 4 = .ok (.iload_n 1, 1) := by decide +kernel
theorem dX8_end_5 : decode cX8_end 5 = .ok (.aload_n 0, 1) := by decide +kernel
theorem dX8_end_6 : decode cX8_end 6 = .ok (.getfield 46, 3) := by decide +kernel
theorem dX8_end_9 : decode cX8_end 9 = .ok (.getfield 137, 3) := by decide +kernel
theorem dX8_end_12 : decode cX8_end 12 = .ok (.if_icmp .le 5, 3) := by decide +kernel
theorem dX8_end_15 : decode cX8_end 15 = .ok (.iconst 0, 1) := by decide +kernel
theorem dX8_end_16 : decode cX8_end 16 = .ok (.ireturn, 1) := by decide +kernel
theorem dX8_end_17 : decode cX8_end 17 = .ok (.aload_n 0, 1) := by decide +kernel
theorem dX8_end_18 : decode cX8_end 18 = .ok (.getfield 46, 3) := by decide +kernel
theorem dX8_end_21 : decode cX8_end 21 = .ok (.iload_n 1, 1) := by decide +kernel
theorem dX8_end_22 : decode cX8_end 22 = .ok (.putfield 137, 3) := by decide +kernel
theorem dX8_end_25 : decode cX8_end 25 = .ok (.iconst 1, 1) := by decide +kernel
theorem dX8_end_26 : decode cX8_end 26 = .ok (.ireturn, 1) := by decide +kernel
set_option maxHeartbeats 4000000 in
theorem st_X8_end_0 {X : sj_X} {g : sj_G} {s0 : sj_Mem} {N : Nat} {q : Int × sj_VV} :
    ∀ (a0 : Nat) (x1 : Int) (V : sj_VV), OK8 g a0 → g_X8_end N a0 x1 V = some q → sj_T X m_X8_end s0 (some (sj_i q.1), (g, q.2)) 0 [some (sj_r (some a0)), some (sj_i x1)] [] (g, V) := by
  intro a0 x1 V ha0 h
  unfold g_X8_end at h
  refine r_iload_n (pc := 0) dX8_end_0 rfl rfl ?_
  refine r_if_lt (pc := 1) (tgt := 15) h dX8_end_1 (by decide) (fun h => ?_) (fun h => ?_)
  · refine r_iconst (pc := 15) dX8_end_15 ?_
    exact r_zrets (pc := 16) h rfl dX8_end_16
  · refine r_iload_n (pc := 4) dX8_end_4 rfl rfl ?_
    refine r_aload_n (pc := 5) dX8_end_5 rfl rfl ?_
    refine r_gRs (b := a0 + 52) (pc := 6) dX8_end_6 fw_X8_46 rfl (ok8 ha0) (ok8_7 ha0).1 ?_
    refine r_gIs (pc := 9) dX8_end_9 fw_X8_137 rfl (ok7 (ok8_7 ha0).2) ?_
    refine r_icmp_le (pc := 12) (tgt := 17) h dX8_end_12 (by decide) (fun h => ?_) (fun h => ?_)
    · refine r_aload_n (pc := 17) dX8_end_17 rfl rfl ?_
      refine r_gRs (b := a0 + 52) (pc := 18) dX8_end_18 fw_X8_46 rfl (ok8 ha0) (ok8_7 ha0).1 ?_
      refine r_iload_n (pc := 21) dX8_end_21 rfl rfl ?_
      refine r_pIs (pc := 22) h dX8_end_22 fw_X8_137 rfl rfl (nf7_1) (ok7 (ok8_7 ha0).2) (fun V1 h => ?_)
      refine r_iconst (pc := 25) dX8_end_25 ?_
      exact r_zrets (pc := 26) h rfl dX8_end_26
    · refine r_iconst (pc := 15) dX8_end_15 ?_
      exact r_zrets (pc := 16) h rfl dX8_end_16
set_option maxHeartbeats 4000000 in
theorem cg_X8_end {X : sj_X} {g : sj_G} {N : Nat} {a0 : Nat} {x1 : Int} {V : sj_VV} {q : Int × sj_VV} (ha0 : OK8 g a0) (h : g_X8_end N a0 x1 V = some q) : sj_C X m_X8_end [sj_r (some a0), sj_i x1] (g, V) (some (sj_i q.1), (g, q.2)) :=
  sj_C_of (by decide +kernel) (Nat.le_of_ble_eq_true rfl) (lo := [some (sj_r (some a0)), some (sj_i x1)]) rfl (sj_weak (l2 := [some (sj_r (some a0)), some (sj_i x1)]) (⟨rfl, ⟨rfl, trivial⟩⟩) (st_X8_end_0 a0 x1 V ha0 h))
set_option maxHeartbeats 4000000 in
theorem c_X8_end {X : sj_X} {N : Nat} {a0 : Nat} {x1 : Int} {s : sj_Mem} {q : Int × sj_Mem} (h : f_X8_end N a0 x1 s = some q) : sj_C X m_X8_end [sj_r (some a0), sj_i x1] s (some (sj_i q.1), q.2) := by
  obtain ⟨g, V⟩ := s
  unfold f_X8_end at h
  obtain ⟨ho, h1⟩ := e_ok_some h
  obtain ⟨q2, h2, rfl⟩ := sj_map_some h1
  exact cg_X8_end ho h2
theorem dX8_text_0 : decode cX8_text 0 = .ok (.aload_n 0, 1) := by decide +kernel
theorem dX8_text_1 : decode cX8_text 1 = .ok (.getfield 46, 3) := by decide +kernel
theorem dX8_text_4 : decode cX8_text 4 = .ok (.aload_n 0, 1) := by decide +kernel
theorem dX8_text_5 : decode cX8_text 5 = .ok (.getfield 16, 3) := by decide +kernel
theorem dX8_text_8 : decode cX8_text 8 = .ok (.invokevirtual 144, 3) := by decide +kernel
theorem dX8_text_11 : decode cX8_text 11 = .ok (.istore_n 1, 1) := by decide +kernel
theorem dX8_text_12 : decode cX8_text 12 = .ok (.aload_n 0, 1) := by decide +kernel
theorem dX8_text_13 : decode cX8_text 13 = .ok (.getfield 46, 3) := by decide +kernel
theorem dX8_text_16 : decode cX8_text 16 = .ok (.iconst 0, 1) := by decide +kernel
theorem dX8_text_17 : decode cX8_text 17 = .ok (.putfield 137, 3) := by decide +kernel
theorem dX8_text_20 : decode cX8_text 20 = .ok (.iload_n 1, 1) := by decide +kernel
theorem dX8_text_21 : decode cX8_text 21 = .ok (.iconst (-1), 1) := by decide +kernel
theorem dX8_text_22 : decode cX8_text 22 = .ok (.if_icmp .ne 5, 3) := by decide +kernel
theorem dX8_text_25 : decode cX8_text 25 = .ok (.iconst (-1), 1) := by decide +kernel
theorem dX8_text_26 : decode cX8_text 26 = .ok (.ireturn, 1) := by decide +kernel
theorem dX8_text_27 : decode cX8_text 27 = .ok (.aload_n 0, 1) := by decide +kernel
theorem dX8_text_28 : decode cX8_text 28 = .ok (.invokevirtual 75, 3) := by decide +kernel
theorem dX8_text_31 : decode cX8_text 31 = .ok (.aload_n 0, 1) := by decide +kernel
theorem dX8_text_32 : decode cX8_text 32 = .ok (.getfield 12, 3) := by decide +kernel
theorem dX8_text_35 : decode cX8_text 35 = .ok (.aload_n 0, 1) := by decide +kernel
theorem dX8_text_36 : decode cX8_text 36 = .ok (.getfield 16, 3) := by decide +kernel
theorem dX8_text_39 : decode cX8_text 39 = .ok (.invokevirtual 148, 3) := by decide +kernel
theorem dX8_text_42 : decode cX8_text 42 = .ok (.iload_n 1, 1) := by decide +kernel
theorem dX8_text_43 : decode cX8_text 43 = .ok (.ireturn, 1) := by decide +kernel
set_option maxHeartbeats 4000000 in
theorem st_X8_text_0 {X : sj_X} {g : sj_G} {s0 : sj_Mem} {N : Nat} {q : Int × sj_VV} :
    ∀ (a0 : Nat) (V : sj_VV), OK8 g a0 → g_X8_text N a0 V = some q → sj_T X m_X8_text s0 (some (sj_i q.1), (g, q.2)) 0 [some (sj_r (some a0)), none] [] (g, V) := by
  intro a0 V ha0 h
  unfold g_X8_text at h
  refine r_aload_n (pc := 0) dX8_text_0 rfl rfl ?_
  refine r_gRs (b := a0 + 52) (pc := 1) dX8_text_1 fw_X8_46 rfl (ok8 ha0) (ok8_7 ha0).1 ?_
  refine r_aload_n (pc := 4) dX8_text_4 rfl rfl ?_
  refine r_gRs (b := a0 + 15) (pc := 5) dX8_text_5 fw_X8_16 rfl (ok8 ha0) (ok8_1 ha0).1 ?_
  refine r_callVs (pc := 8) (fun v => some (sj_i v)) (As := [sj_r (some (a0 + 15))]) (rest := []) (b := (a0 + 52)) (ok7 (ok8_7 ha0).2) h dX8_text_8 mw_X8_144 vw_X7_read (fun _ _ hc => cg_X7_read (ok8_7 ha0).2 (ok8_1 ha0).2 hc) rfl ⟨(Nat.le_of_ble_eq_true rfl), (Nat.le_of_ble_eq_true rfl)⟩ (Nat.le_of_ble_eq_true rfl) rfl (fun v2 V1 h => ?_)
  refine r_istore_n (ln := [some (sj_r (some a0)), some (sj_i v2)]) (pc := 11) dX8_text_11 rfl (Nat.le_of_ble_eq_true rfl) rfl ?_
  refine r_aload_n (pc := 12) dX8_text_12 rfl rfl ?_
  refine r_gRs (b := a0 + 52) (pc := 13) dX8_text_13 fw_X8_46 rfl (ok8 ha0) (ok8_7 ha0).1 ?_
  refine r_iconst (pc := 16) dX8_text_16 ?_
  refine r_pIs (pc := 17) h dX8_text_17 fw_X8_137 rfl rfl (nf7_1) (ok7 (ok8_7 ha0).2) (fun V3 h => ?_)
  refine r_iload_n (pc := 20) dX8_text_20 rfl rfl ?_
  refine r_iconst (pc := 21) dX8_text_21 ?_
  refine r_icmp_ne (pc := 22) (tgt := 27) h dX8_text_22 (by decide) (fun h => ?_) (fun h => ?_)
  · refine r_iconst (pc := 25) dX8_text_25 ?_
    exact r_irets (pc := 26) h rfl dX8_text_26
  · refine r_aload_n (pc := 27) dX8_text_27 rfl rfl ?_
    refine r_callVs (pc := 28) (fun _ => none) (As := []) (rest := []) (b := a0) (ok8 ha0) h dX8_text_28 mw_X8_75 vw_X8_keepAct (fun _ _ hc => cg_X8_keepAct ha0 hc) rfl ⟨(Nat.le_of_ble_eq_true rfl), (Nat.le_of_ble_eq_true rfl)⟩ (Nat.le_of_ble_eq_true rfl) rfl (fun _u V4 h => ?_)
    refine r_aload_n (pc := 31) dX8_text_31 rfl rfl ?_
    refine r_gRs (b := a0 + 1) (pc := 32) dX8_text_32 fw_X8_12 rfl (ok8 ha0) (ok8_0 ha0).1 ?_
    refine r_aload_n (pc := 35) dX8_text_35 rfl rfl ?_
    refine r_gRs (b := a0 + 15) (pc := 36) dX8_text_36 fw_X8_16 rfl (ok8 ha0) (ok8_1 ha0).1 ?_
    refine r_callVs (pc := 39) (fun _ => none) (As := [sj_r (some (a0 + 15))]) (rest := []) (b := (a0 + 1)) (ok0 (ok8_0 ha0).2) h dX8_text_39 mw_X8_148 vw_X0_copy (fun _ _ hc => cg_X0_copy (ok8_0 ha0).2 (ok8_1 ha0).2 hc) rfl ⟨(Nat.le_of_ble_eq_true rfl), (Nat.le_of_ble_eq_true rfl)⟩ (Nat.le_of_ble_eq_true rfl) rfl (fun _u V5 h => ?_)
    refine r_iload_n (pc := 42) dX8_text_42 rfl rfl ?_
    exact r_irets (pc := 43) h rfl dX8_text_43
set_option maxHeartbeats 4000000 in
theorem cg_X8_text {X : sj_X} {g : sj_G} {N : Nat} {a0 : Nat} {V : sj_VV} {q : Int × sj_VV} (ha0 : OK8 g a0) (h : g_X8_text N a0 V = some q) : sj_C X m_X8_text [sj_r (some a0)] (g, V) (some (sj_i q.1), (g, q.2)) :=
  sj_C_of (by decide +kernel) (Nat.le_of_ble_eq_true rfl) (lo := [some (sj_r (some a0)), none]) rfl (sj_weak (l2 := [some (sj_r (some a0)), none]) (⟨rfl, trivial⟩) (st_X8_text_0 a0 V ha0 h))
set_option maxHeartbeats 4000000 in
theorem c_X8_text {X : sj_X} {N : Nat} {a0 : Nat} {s : sj_Mem} {q : Int × sj_Mem} (h : f_X8_text N a0 s = some q) : sj_C X m_X8_text [sj_r (some a0)] s (some (sj_i q.1), q.2) := by
  obtain ⟨g, V⟩ := s
  unfold f_X8_text at h
  obtain ⟨ho, h1⟩ := e_ok_some h
  obtain ⟨q2, h2, rfl⟩ := sj_map_some h1
  exact cg_X8_text ho h2
theorem dX8_fault_0 : decode cX8_fault 0 = .ok (.iload_n 1, 1) := by decide +kernel
theorem dX8_fault_1 : decode cX8_fault 1 = .ok (.ifCond .ne 11, 3) := by decide +kernel
theorem dX8_fault_4 : decode cX8_fault 4 = .ok (.aload_n 0, 1) := by decide +kernel
theorem dX8_fault_5 : decode cX8_fault 5 = .ok (.getfield 46, 3) := by decide +kernel
theorem dX8_fault_8 : decode cX8_fault 8 = .ok (.getfield 152, 3) := by decide +kernel
theorem dX8_fault_11 : decode cX8_fault 11 = .ok (.ireturn, 1) := by decide +kernel
theorem dX8_fault_12 : decode cX8_fault 12 = .ok (.iload_n 1, 1) := by decide +kernel
theorem dX8_fault_13 : decode cX8_fault 13 = .ok (.iconst 1, 1) := by decide +kernel
theorem dX8_fault_14 : decode cX8_fault 14 = .ok (.if_icmp .ne 13, 3) := by decide +kernel
theorem dX8_fault_17 : decode cX8_fault 17 = .ok (.aload_n 0, 1) := by decide +kernel
theorem dX8_fault_18 : decode cX8_fault 18 = .ok (.getfield 46, 3) := by decide +kernel
theorem dX8_fault_21 : decode cX8_fault 21 = .ok (.getfield 155, 3) := by decide +kernel
theorem dX8_fault_24 : decode cX8_fault 24 = .ok (.goto 4, 3) := by decide +kernel
theorem dX8_fault_27 : decode cX8_fault 27 = .ok (.iconst (-1), 1) := by decide +kernel
theorem dX8_fault_28 : decode cX8_fault 28 = .ok (.ireturn, 1) := by decide +kernel
set_option maxHeartbeats 4000000 in
theorem st_X8_fault_0 {X : sj_X} {g : sj_G} {s0 : sj_Mem} {N : Nat} {q : Int × sj_VV} :
    ∀ (a0 : Nat) (x1 : Int) (V : sj_VV), OK8 g a0 → g_X8_fault N a0 x1 V = some q → sj_T X m_X8_fault s0 (some (sj_i q.1), (g, q.2)) 0 [some (sj_r (some a0)), some (sj_i x1)] [] (g, V) := by
  intro a0 x1 V ha0 h
  unfold g_X8_fault at h
  refine r_iload_n (pc := 0) dX8_fault_0 rfl rfl ?_
  refine r_if_ne (pc := 1) (tgt := 12) h dX8_fault_1 (by decide) (fun h => ?_) (fun h => ?_)
  · refine r_aload_n (pc := 4) dX8_fault_4 rfl rfl ?_
    refine r_gRs (b := a0 + 52) (pc := 5) dX8_fault_5 fw_X8_46 rfl (ok8 ha0) (ok8_7 ha0).1 ?_
    refine r_gIs (pc := 8) dX8_fault_8 fw_X8_152 rfl (ok7 (ok8_7 ha0).2) ?_
    exact r_irets (pc := 11) h rfl dX8_fault_11
  · refine r_iload_n (pc := 12) dX8_fault_12 rfl rfl ?_
    refine r_iconst (pc := 13) dX8_fault_13 ?_
    refine r_icmp_ne (pc := 14) (tgt := 27) h dX8_fault_14 (by decide) (fun h => ?_) (fun h => ?_)
    · refine r_aload_n (pc := 17) dX8_fault_17 rfl rfl ?_
      refine r_gRs (b := a0 + 52) (pc := 18) dX8_fault_18 fw_X8_46 rfl (ok8 ha0) (ok8_7 ha0).1 ?_
      refine r_gIs (pc := 21) dX8_fault_21 fw_X8_155 rfl (ok7 (ok8_7 ha0).2) ?_
      refine r_goto (pc := 24) (tgt := 28) dX8_fault_24 (by decide) ?_
      exact r_irets (pc := 28) h rfl dX8_fault_28
    · refine r_iconst (pc := 27) dX8_fault_27 ?_
      exact r_irets (pc := 28) h rfl dX8_fault_28
set_option maxHeartbeats 4000000 in
theorem cg_X8_fault {X : sj_X} {g : sj_G} {N : Nat} {a0 : Nat} {x1 : Int} {V : sj_VV} {q : Int × sj_VV} (ha0 : OK8 g a0) (h : g_X8_fault N a0 x1 V = some q) : sj_C X m_X8_fault [sj_r (some a0), sj_i x1] (g, V) (some (sj_i q.1), (g, q.2)) :=
  sj_C_of (by decide +kernel) (Nat.le_of_ble_eq_true rfl) (lo := [some (sj_r (some a0)), some (sj_i x1)]) rfl (sj_weak (l2 := [some (sj_r (some a0)), some (sj_i x1)]) (⟨rfl, ⟨rfl, trivial⟩⟩) (st_X8_fault_0 a0 x1 V ha0 h))
set_option maxHeartbeats 4000000 in
theorem c_X8_fault {X : sj_X} {N : Nat} {a0 : Nat} {x1 : Int} {s : sj_Mem} {q : Int × sj_Mem} (h : f_X8_fault N a0 x1 s = some q) : sj_C X m_X8_fault [sj_r (some a0), sj_i x1] s (some (sj_i q.1), q.2) := by
  obtain ⟨g, V⟩ := s
  unfold f_X8_fault at h
  obtain ⟨ho, h1⟩ := e_ok_some h
  obtain ⟨q2, h2, rfl⟩ := sj_map_some h1
  exact cg_X8_fault ho h2
theorem dX8_takeTrial_0 : decode cX8_takeTrial 0 = .ok (.aload_n 0, 1) := by decide +kernel
theorem dX8_takeTrial_1 : decode cX8_takeTrial 1 = .ok (.getfield 12, 3) := by decide +kernel
theorem dX8_takeTrial_4 : decode cX8_takeTrial 4 = .ok (.getfield 106, 3) := by decide +kernel
theorem dX8_takeTrial_7 : decode cX8_takeTrial 7 = .ok (.aload_n 0, 1) := by decide +kernel
theorem dX8_takeTrial_8 : decode cX8_takeTrial 8 = .ok (.getfield 67, 3) := by decide +kernel
theorem dX8_takeTrial_11 : decode cX8_takeTrial 11 = .ok (.invokevirtual 196, 3) := by decide +kernel
theorem dX8_takeTrial_14 : decode cX8_takeTrial 14 = .ok (.aload_n 0, 1) := by decide +kernel
theorem dX8_takeTrial_15 : decode cX8_takeTrial 15 = .ok (.getfield 12, 3) := by decide +kernel
theorem dX8_takeTrial_18 : decode cX8_takeTrial 18 = .ok (.getfield 106, 3) := by decide +kernel
theorem dX8_takeTrial_21 : decode cX8_takeTrial 21 = .ok (.invokevirtual 199, 3) := by decide +kernel
theorem dX8_takeTrial_24 : decode cX8_takeTrial 24 = .ok (.ireturn, 1) := by decide +kernel
set_option maxHeartbeats 4000000 in
theorem st_X8_takeTrial_0 {X : sj_X} {g : sj_G} {s0 : sj_Mem} {N : Nat} {q : Int × sj_VV} :
    ∀ (a0 : Nat) (V : sj_VV), OK8 g a0 → g_X8_takeTrial N a0 V = some q → sj_T X m_X8_takeTrial s0 (some (sj_i q.1), (g, q.2)) 0 [some (sj_r (some a0))] [] (g, V) := by
  intro a0 V ha0 h
  unfold g_X8_takeTrial at h
  refine r_aload_n (pc := 0) dX8_takeTrial_0 rfl rfl ?_
  refine r_gRs (b := a0 + 1) (pc := 1) dX8_takeTrial_1 fw_X8_12 rfl (ok8 ha0) (ok8_0 ha0).1 ?_
  refine r_gRs (b := (a0 + 1) + 12) (pc := 4) dX8_takeTrial_4 fw_X8_106 rfl (ok0 (ok8_0 ha0).2) (ok0_14 (ok8_0 ha0).2).1 ?_
  refine r_aload_n (pc := 7) dX8_takeTrial_7 rfl rfl ?_
  refine r_gRs (b := a0 + 75) (pc := 8) dX8_takeTrial_8 fw_X8_67 rfl (ok8 ha0) (ok8_10 ha0).1 ?_
  refine r_callVs (pc := 11) (fun _ => none) (As := [sj_r (some (a0 + 75))]) (rest := []) (b := ((a0 + 1) + 12)) (ok5 (ok0_14 (ok8_0 ha0).2).2) h dX8_takeTrial_11 mw_X8_196 vw_X5_copy (fun _ _ hc => cg_X5_copy (ok0_14 (ok8_0 ha0).2).2 (ok8_10 ha0).2 hc) rfl ⟨(Nat.le_of_ble_eq_true rfl), (Nat.le_of_ble_eq_true rfl)⟩ (Nat.le_of_ble_eq_true rfl) rfl (fun _u V1 h => ?_)
  refine r_aload_n (pc := 14) dX8_takeTrial_14 rfl rfl ?_
  refine r_gRs (b := a0 + 1) (pc := 15) dX8_takeTrial_15 fw_X8_12 rfl (ok8 ha0) (ok8_0 ha0).1 ?_
  refine r_gRs (b := (a0 + 1) + 12) (pc := 18) dX8_takeTrial_18 fw_X8_106 rfl (ok0 (ok8_0 ha0).2) (ok0_14 (ok8_0 ha0).2).1 ?_
  refine r_callVs (pc := 21) (fun v => some (sj_i v)) (As := []) (rest := []) (b := ((a0 + 1) + 12)) (ok5 (ok0_14 (ok8_0 ha0).2).2) h dX8_takeTrial_21 mw_X8_199 vw_X5_count (fun _ _ hc => cg_X5_count (ok0_14 (ok8_0 ha0).2).2 hc) rfl ⟨(Nat.le_of_ble_eq_true rfl), (Nat.le_of_ble_eq_true rfl)⟩ (Nat.le_of_ble_eq_true rfl) rfl (fun v3 V2 h => ?_)
  exact r_irets (pc := 24) h rfl dX8_takeTrial_24
set_option maxHeartbeats 4000000 in
theorem cg_X8_takeTrial {X : sj_X} {g : sj_G} {N : Nat} {a0 : Nat} {V : sj_VV} {q : Int × sj_VV} (ha0 : OK8 g a0) (h : g_X8_takeTrial N a0 V = some q) : sj_C X m_X8_takeTrial [sj_r (some a0)] (g, V) (some (sj_i q.1), (g, q.2)) :=
  sj_C_of (by decide +kernel) (Nat.le_of_ble_eq_true rfl) (lo := [some (sj_r (some a0))]) rfl (sj_weak (l2 := [some (sj_r (some a0))]) (⟨rfl, trivial⟩) (st_X8_takeTrial_0 a0 V ha0 h))
set_option maxHeartbeats 4000000 in
theorem c_X8_takeTrial {X : sj_X} {N : Nat} {a0 : Nat} {s : sj_Mem} {q : Int × sj_Mem} (h : f_X8_takeTrial N a0 s = some q) : sj_C X m_X8_takeTrial [sj_r (some a0)] s (some (sj_i q.1), q.2) := by
  obtain ⟨g, V⟩ := s
  unfold f_X8_takeTrial at h
  obtain ⟨ho, h1⟩ := e_ok_some h
  obtain ⟨q2, h2, rfl⟩ := sj_map_some h1
  exact cg_X8_takeTrial ho h2
theorem dX8_circle_0 : decode cX8_circle 0 = .ok (.iload_n 1, 1) := by decide +kernel
theorem dX8_circle_1 : decode cX8_circle 1 = .ok (.iload_n 2, 1) := by decide +kernel
theorem dX8_circle_2 : decode cX8_circle 2 = .ok (.iload_n 3, 1) := by decide +kernel
theorem dX8_circle_3 : decode cX8_circle 3 = .ok (.invokestatic 158, 3) := by decide +kernel
theorem dX8_circle_6 : decode cX8_circle 6 = .ok (.ifCond .eq 22, 3) := by decide +kernel
theorem dX8_circle_9 : decode cX8_circle 9 = .ok (.aload_n 0, 1) := by decide +kernel
theorem dX8_circle_10 : decode cX8_circle 10 = .ok (.getfield 67, 3) := by decide +kernel
theorem dX8_circle_13 : decode cX8_circle 13 = .ok (.aload_n 0, 1) := by decide +kernel
theorem dX8_circle_14 : decode cX8_circle 14 = .ok (.getfield 12, 3) := by decide +kernel
theorem dX8_circle_17 : decode cX8_circle 17 = .ok (.iload_n 1, 1) := by decide +kernel
theorem dX8_circle_18 : decode cX8_circle 18 = .ok (.iload_n 2, 1) := by decide +kernel
theorem dX8_circle_19 : decode cX8_circle 19 = .ok (.iload_n 3, 1) := by decide +kernel
theorem dX8_circle_20 : decode cX8_circle 20 = .ok (.iload 4, 2) := by decide +kernel
theorem dX8_circle_22 : decode cX8_circle 22 = .ok (.invokevirtual 162, 3) := by decide +kernel
theorem dX8_circle_25 : decode cX8_circle 25 = .ok (.ifCond .ne 5, 3) := by decide +kernel
theorem dX8_circle_28 : decode cX8_circle 28 = .ok (.iconst (-1), 1) := by decide +kernel
theorem dX8_circle_29 : decode cX8_circle 29 = .ok (.ireturn, 1) := by decide +kernel
theorem dX8_circle_30 : decode cX8_circle 30 = .ok (.aload_n 0, 1) := by decide +kernel
theorem dX8_circle_31 : decode cX8_circle 31 = .ok (.invokevirtual 166, 3) := by decide +kernel
theorem dX8_circle_34 : decode cX8_circle 34 = .ok (.ireturn, 1) := by decide +kernel
set_option maxHeartbeats 4000000 in
theorem st_X8_circle_0 {X : sj_X} {g : sj_G} {s0 : sj_Mem} {N : Nat} {q : Int × sj_VV} :
    ∀ (a0 : Nat) (x1 : Int) (x2 : Int) (x3 : Int) (x4 : Int) (V : sj_VV), OK8 g a0 → g_X8_circle N a0 x1 x2 x3 x4 V = some q → sj_T X m_X8_circle s0 (some (sj_i q.1), (g, q.2)) 0 [some (sj_r (some a0)), some (sj_i x1), some (sj_i x2), some (sj_i x3), some (sj_i x4)] [] (g, V) := by
  intro a0 x1 x2 x3 x4 V ha0 h
  unfold g_X8_circle at h
  refine r_iload_n (pc := 0) dX8_circle_0 rfl rfl ?_
  refine r_iload_n (pc := 1) dX8_circle_1 rfl rfl ?_
  refine r_iload_n (pc := 2) dX8_circle_2 rfl rfl ?_
  refine r_callSs (pc := 3) (fun v => some (sj_i v)) (As := [sj_i x1, sj_i x2, sj_i x3]) (rest := []) h dX8_circle_3 mw_X8_158 kw_600 (fun _ _ hc => cg_X8_isCircle  hc) rfl ⟨(Nat.le_of_ble_eq_true rfl), (Nat.le_of_ble_eq_true rfl)⟩ (Nat.le_of_ble_eq_true rfl) rfl (fun v2 V1 h => ?_)
  refine r_if_eq (pc := 6) (tgt := 28) h dX8_circle_6 (by decide) (fun h => ?_) (fun h => ?_)
  · refine r_iconst (pc := 28) dX8_circle_28 ?_
    exact r_irets (pc := 29) h rfl dX8_circle_29
  · refine r_aload_n (pc := 9) dX8_circle_9 rfl rfl ?_
    refine r_gRs (b := a0 + 75) (pc := 10) dX8_circle_10 fw_X8_67 rfl (ok8 ha0) (ok8_10 ha0).1 ?_
    refine r_aload_n (pc := 13) dX8_circle_13 rfl rfl ?_
    refine r_gRs (b := a0 + 1) (pc := 14) dX8_circle_14 fw_X8_12 rfl (ok8 ha0) (ok8_0 ha0).1 ?_
    refine r_iload_n (pc := 17) dX8_circle_17 rfl rfl ?_
    refine r_iload_n (pc := 18) dX8_circle_18 rfl rfl ?_
    refine r_iload_n (pc := 19) dX8_circle_19 rfl rfl ?_
    refine r_iload (pc := 20) dX8_circle_20 rfl ?_
    refine r_callVs (pc := 22) (fun v => some (sj_i v)) (As := [sj_r (some (a0 + 1)), sj_i x1, sj_i x2, sj_i x3, sj_i x4]) (rest := []) (b := (a0 + 75)) (ok5 (ok8_10 ha0).2) h dX8_circle_22 mw_X8_162 vw_X5_cut (fun _ _ hc => cg_X5_cut (ok8_10 ha0).2 (ok8_0 ha0).2 hc) rfl ⟨(Nat.le_of_ble_eq_true rfl), (Nat.le_of_ble_eq_true rfl)⟩ (Nat.le_of_ble_eq_true rfl) rfl (fun v4 V3 h => ?_)
    refine r_if_ne (pc := 25) (tgt := 30) h dX8_circle_25 (by decide) (fun h => ?_) (fun h => ?_)
    · refine r_iconst (pc := 28) dX8_circle_28 ?_
      exact r_irets (pc := 29) h rfl dX8_circle_29
    · refine r_aload_n (pc := 30) dX8_circle_30 rfl rfl ?_
      refine r_callVs (pc := 31) (fun v => some (sj_i v)) (As := []) (rest := []) (b := a0) (ok8 ha0) h dX8_circle_31 mw_X8_166 vw_X8_takeTrial (fun _ _ hc => cg_X8_takeTrial ha0 hc) rfl ⟨(Nat.le_of_ble_eq_true rfl), (Nat.le_of_ble_eq_true rfl)⟩ (Nat.le_of_ble_eq_true rfl) rfl (fun v6 V5 h => ?_)
      exact r_irets (pc := 34) h rfl dX8_circle_34
set_option maxHeartbeats 4000000 in
theorem cg_X8_circle {X : sj_X} {g : sj_G} {N : Nat} {a0 : Nat} {x1 : Int} {x2 : Int} {x3 : Int} {x4 : Int} {V : sj_VV} {q : Int × sj_VV} (ha0 : OK8 g a0) (h : g_X8_circle N a0 x1 x2 x3 x4 V = some q) : sj_C X m_X8_circle [sj_r (some a0), sj_i x1, sj_i x2, sj_i x3, sj_i x4] (g, V) (some (sj_i q.1), (g, q.2)) :=
  sj_C_of (by decide +kernel) (Nat.le_of_ble_eq_true rfl) (lo := [some (sj_r (some a0)), some (sj_i x1), some (sj_i x2), some (sj_i x3), some (sj_i x4)]) rfl (sj_weak (l2 := [some (sj_r (some a0)), some (sj_i x1), some (sj_i x2), some (sj_i x3), some (sj_i x4)]) (⟨rfl, ⟨rfl, ⟨rfl, ⟨rfl, ⟨rfl, trivial⟩⟩⟩⟩⟩) (st_X8_circle_0 a0 x1 x2 x3 x4 V ha0 h))
set_option maxHeartbeats 4000000 in
theorem c_X8_circle {X : sj_X} {N : Nat} {a0 : Nat} {x1 : Int} {x2 : Int} {x3 : Int} {x4 : Int} {s : sj_Mem} {q : Int × sj_Mem} (h : f_X8_circle N a0 x1 x2 x3 x4 s = some q) : sj_C X m_X8_circle [sj_r (some a0), sj_i x1, sj_i x2, sj_i x3, sj_i x4] s (some (sj_i q.1), q.2) := by
  obtain ⟨g, V⟩ := s
  unfold f_X8_circle at h
  obtain ⟨ho, h1⟩ := e_ok_some h
  obtain ⟨q2, h2, rfl⟩ := sj_map_some h1
  exact cg_X8_circle ho h2
theorem dX8_point_0 : decode cX8_point 0 = .ok (.iload_n 1, 1) := by decide +kernel
theorem dX8_point_1 : decode cX8_point 1 = .ok (.iconst (-1), 1) := by decide +kernel
theorem dX8_point_2 : decode cX8_point 2 = .ok (.if_icmp .ne 13, 3) := by decide +kernel
theorem dX8_point_5 : decode cX8_point 5 = .ok (.aload_n 0, 1) := by decide +kernel
theorem dX8_point_6 : decode cX8_point 6 = .ok (.getfield 25, 3) := by decide +kernel
theorem dX8_point_9 : decode cX8_point 9 = .ok (.iconst 0, 1) := by decide +kernel
theorem dX8_point_10 : decode cX8_point 10 = .ok (.putfield 170, 3) := by decide +kernel
theorem dX8_point_13 : decode cX8_point 13 = .ok (.iconst 0, 1) := by decide +kernel
theorem dX8_point_14 : decode cX8_point 14 = .ok (.ireturn, 1) := by decide +kernel
theorem dX8_point_15 : decode cX8_point 15 = .ok (.aload_n 0, 1) := by decide +kernel
theorem dX8_point_16 : decode cX8_point 16 = .ok (.getfield 25, 3) := by decide +kernel
theorem dX8_point_19 : decode cX8_point 19 = .ok (.getfield 170, 3) := by decide +kernel
theorem dX8_point_22 : decode cX8_point 22 = .ok (.ifCond .ne 7, 3) := by decide +kernel
theorem dX8_point_25 : decode cX8_point 25 = .ok (.iconst (-1), 1) := by decide +kernel
theorem dX8_point_26 : decode cX8_point 26 = .ok (.goto 20, 3) := by decide +kernel
theorem dX8_point_29 : decode cX8_point 29 = .ok (.aload_n 0, 1) := by decide +kernel
theorem dX8_point_30 : decode cX8_point 30 = .ok (.getfield 25, 3) := by decide +kernel
theorem dX8_point_33 : decode cX8_point 33 = .ok (.getfield 173, 3) := by decide +kernel
theorem dX8_point_36 : decode cX8_point 36 = .ok (.aload_n 0, 1) := by decide +kernel
theorem dX8_point_37 : decode cX8_point 37 = .ok (.getfield 25, 3) := by decide +kernel
theorem dX8_point_40 : decode cX8_point 40 = .ok (.getfield 170, 3) := by decide +kernel
theorem dX8_point_43 : decode cX8_point 43 = .ok (.iconst 1, 1) := by decide +kernel
theorem dX8_point_44 : decode cX8_point 44 = .ok (.isub, 1) := by decide +kernel
theorem dX8_point_45 : decode cX8_point 45 = .ok (.iaload, 1) := by decide +kernel
theorem dX8_point_46 : decode cX8_point 46 = .ok (.istore_n 3, 1) := by decide +kernel
theorem dX8_point_47 : decode cX8_point 47 = .ok (.aload_n 0, 1) := by decide +kernel
theorem dX8_point_48 : decode cX8_point 48 = .ok (.getfield 12, 3) := by decide +kernel
theorem dX8_point_51 : decode cX8_point 51 = .ok (.iload_n 1, 1) := by decide +kernel
theorem dX8_point_52 : decode cX8_point 52 = .ok (.invokevirtual 78, 3) := by decide +kernel
theorem dX8_point_55 : decode cX8_point 55 = .ok (.ifCond .eq 30, 3) := by decide +kernel
theorem dX8_point_58 : decode cX8_point 58 = .ok (.iload_n 1, 1) := by decide +kernel
theorem dX8_point_59 : decode cX8_point 59 = .ok (.iload_n 3, 1) := by decide +kernel
theorem dX8_point_60 : decode cX8_point 60 = .ok (.if_icmp .le 25, 3) := by decide +kernel
theorem dX8_point_63 : decode cX8_point 63 = .ok (.iload_n 2, 1) := by decide +kernel
theorem dX8_point_64 : decode cX8_point 64 = .ok (.ifCond .lt 21, 3) := by decide +kernel
theorem dX8_point_67 : decode cX8_point 67 = .ok (.iload_n 2, 1) := by decide +kernel
theorem dX8_point_68 : decode cX8_point 68 = .ok (.bipush 100, 2) := by decide +kernel
theorem dX8_point_70 : decode cX8_point 70 = .ok (.if_icmp .gt 15, 3) := by decide +kernel
theorem dX8_point_73 : decode cX8_point 73 = .ok (.aload_n 0, 1) := by decide +kernel
theorem dX8_point_74 : decode cX8_point 74 = .ok (.getfield 25, 3) := by decide +kernel
theorem dX8_point_77 : decode cX8_point 77 = .ok (.getfield 170, 3) := by decide +kernel
theorem dX8_point_80 : decode cX8_point 80 = .ok (.bipush 12, 2) := by decide +kernel
theorem dX8_point_82 : decode cX8_point 82 = .ok (.if_icmp .lt 5, 3) := by decide +kernel
theorem dX8_point_85 : decode cX8_point 85 = .ok (.iconst (-1), 1) := by decide +kernel
theorem dX8_point_86 : decode cX8_point 86 = .ok (.ireturn, 1) := by decide +kernel
theorem dX8_point_87 : decode cX8_point 87 = .ok (.aload_n 0, 1) := by decide +kernel
theorem dX8_point_88 : decode cX8_point 88 = .ok (.getfield 25, 3) := by decide +kernel
theorem dX8_point_91 : decode cX8_point 91 = .ok (.getfield 173, 3) := by decide +kernel
theorem dX8_point_94 : decode cX8_point 94 = .ok (.aload_n 0, 1) := by decide +kernel
theorem dX8_point_95 : decode cX8_point 95 = .ok (.getfield 25, 3) := by decide +kernel
theorem dX8_point_98 : decode cX8_point 98 = .ok (.getfield 170, 3) := by decide +kernel
theorem dX8_point_101 : decode cX8_point 101 = .ok (.iload_n 1, 1) := by decide +kernel
theorem dX8_point_102 : decode cX8_point 102 = .ok (.iastore, 1) := by decide +kernel
theorem dX8_point_103 : decode cX8_point 103 = .ok (.aload_n 0, 1) := by decide +kernel
theorem dX8_point_104 : decode cX8_point 104 = .ok (.getfield 25, 3) := by decide +kernel
theorem dX8_point_107 : decode cX8_point 107 = .ok (.getfield 176, 3) := by decide +kernel
theorem dX8_point_110 : decode cX8_point 110 = .ok (.aload_n 0, 1) := by decide +kernel
theorem dX8_point_111 : decode cX8_point 111 = .ok (.getfield 25, 3) := by decide +kernel
theorem dX8_point_114 : decode cX8_point 114 = .ok (.getfield 170, 3) := by decide +kernel
theorem dX8_point_117 : decode cX8_point 117 = .ok (.iload_n 2, 1) := by decide +kernel
theorem dX8_point_118 : decode cX8_point 118 = .ok (.iastore, 1) := by decide +kernel
theorem dX8_point_119 : decode cX8_point 119 = .ok (.aload_n 0, 1) := by decide +kernel
theorem dX8_point_120 : decode cX8_point 120 = .ok (.getfield 25, 3) := by decide +kernel
theorem dX8_point_123 : decode cX8_point 123 = .ok (.dup, 1) := by decide +kernel
theorem dX8_point_124 : decode cX8_point 124 = .ok (.getfield 170, 3) := by decide +kernel
theorem dX8_point_127 : decode cX8_point 127 = .ok (.iconst 1, 1) := by decide +kernel
theorem dX8_point_128 : decode cX8_point 128 = .ok (.iadd, 1) := by decide +kernel
theorem dX8_point_129 : decode cX8_point 129 = .ok (.putfield 170, 3) := by decide +kernel
theorem dX8_point_132 : decode cX8_point 132 = .ok (.aload_n 0, 1) := by decide +kernel
theorem dX8_point_133 : decode cX8_point 133 = .ok (.getfield 25, 3) := by decide +kernel
theorem dX8_point_136 : decode cX8_point 136 = .ok (.getfield 170, 3) := by decide +kernel
theorem dX8_point_139 : decode cX8_point 139 = .ok (.ireturn, 1) := by decide +kernel
set_option maxHeartbeats 4000000 in
theorem st_X8_point_46 {X : sj_X} {g : sj_G} {s0 : sj_Mem} {N : Nat} {q : Int × sj_VV} :
    ∀ (a0 : Nat) (x1 : Int) (x2 : Int) (y0 : Int) (V : sj_VV), OK8 g a0 → g_X8_point_46 N a0 x1 x2 y0 V = some q → sj_T X m_X8_point s0 (some (sj_i q.1), (g, q.2)) 46 [some (sj_r (some a0)), some (sj_i x1), some (sj_i x2), none] [(sj_i y0)] (g, V) := by
  intro a0 x1 x2 y0 V ha0 h
  unfold g_X8_point_46 at h
  refine r_istore_n (ln := [some (sj_r (some a0)), some (sj_i x1), some (sj_i x2), some (sj_i y0)]) (pc := 46) dX8_point_46 rfl (Nat.le_of_ble_eq_true rfl) rfl ?_
  refine r_aload_n (pc := 47) dX8_point_47 rfl rfl ?_
  refine r_gRs (b := a0 + 1) (pc := 48) dX8_point_48 fw_X8_12 rfl (ok8 ha0) (ok8_0 ha0).1 ?_
  refine r_iload_n (pc := 51) dX8_point_51 rfl rfl ?_
  refine r_callVs (pc := 52) (fun v => some (sj_i v)) (As := [sj_i x1]) (rest := []) (b := (a0 + 1)) (ok0 (ok8_0 ha0).2) h dX8_point_52 mw_X8_78 vw_X0_hasColumn (fun _ _ hc => cg_X0_hasColumn (ok8_0 ha0).2 hc) rfl ⟨(Nat.le_of_ble_eq_true rfl), (Nat.le_of_ble_eq_true rfl)⟩ (Nat.le_of_ble_eq_true rfl) rfl (fun v2 V1 h => ?_)
  refine r_if_eq (pc := 55) (tgt := 85) h dX8_point_55 (by decide) (fun h => ?_) (fun h => ?_)
  · refine r_iconst (pc := 85) dX8_point_85 ?_
    exact r_irets (pc := 86) h rfl dX8_point_86
  · refine r_iload_n (pc := 58) dX8_point_58 rfl rfl ?_
    refine r_iload_n (pc := 59) dX8_point_59 rfl rfl ?_
    refine r_icmp_le (pc := 60) (tgt := 85) h dX8_point_60 (by decide) (fun h => ?_) (fun h => ?_)
    · refine r_iconst (pc := 85) dX8_point_85 ?_
      exact r_irets (pc := 86) h rfl dX8_point_86
    · refine r_iload_n (pc := 63) dX8_point_63 rfl rfl ?_
      refine r_if_lt (pc := 64) (tgt := 85) h dX8_point_64 (by decide) (fun h => ?_) (fun h => ?_)
      · refine r_iconst (pc := 85) dX8_point_85 ?_
        exact r_irets (pc := 86) h rfl dX8_point_86
      · refine r_iload_n (pc := 67) dX8_point_67 rfl rfl ?_
        refine r_bipush (pc := 68) dX8_point_68 ⟨by decide, by decide⟩ ?_
        refine r_icmp_gt (pc := 70) (tgt := 85) h dX8_point_70 (by decide) (fun h => ?_) (fun h => ?_)
        · refine r_iconst (pc := 85) dX8_point_85 ?_
          exact r_irets (pc := 86) h rfl dX8_point_86
        · refine r_aload_n (pc := 73) dX8_point_73 rfl rfl ?_
          refine r_gRs (b := a0 + 43) (pc := 74) dX8_point_74 fw_X8_25 rfl (ok8 ha0) (ok8_3 ha0).1 ?_
          refine r_gIs (pc := 77) dX8_point_77 fw_X8_170 rfl (ok1 (ok8_3 ha0).2) ?_
          refine r_bipush (pc := 80) dX8_point_80 ⟨by decide, by decide⟩ ?_
          refine r_icmp_lt (pc := 82) (tgt := 87) h dX8_point_82 (by decide) (fun h => ?_) (fun h => ?_)
          · refine r_aload_n (pc := 87) dX8_point_87 rfl rfl ?_
            refine r_gRs (b := a0 + 43) (pc := 88) dX8_point_88 fw_X8_25 rfl (ok8 ha0) (ok8_3 ha0).1 ?_
            refine r_gRs (b := (a0 + 43) + 1) (pc := 91) dX8_point_91 fw_X8_173 rfl (ok1 (ok8_3 ha0).2) (ok1_0 (ok8_3 ha0).2).1 ?_
            refine r_aload_n (pc := 94) dX8_point_94 rfl rfl ?_
            refine r_gRs (b := a0 + 43) (pc := 95) dX8_point_95 fw_X8_25 rfl (ok8 ha0) (ok8_3 ha0).1 ?_
            refine r_gIs (pc := 98) dX8_point_98 fw_X8_170 rfl (ok1 (ok8_3 ha0).2) ?_
            refine r_iload_n (pc := 101) dX8_point_101 rfl rfl ?_
            refine r_iastores (pc := 102) h dX8_point_102 (ok1_0 (ok8_3 ha0).2).2 (fun V3 h => ?_)
            refine r_aload_n (pc := 103) dX8_point_103 rfl rfl ?_
            refine r_gRs (b := a0 + 43) (pc := 104) dX8_point_104 fw_X8_25 rfl (ok8 ha0) (ok8_3 ha0).1 ?_
            refine r_gRs (b := (a0 + 43) + 2) (pc := 107) dX8_point_107 fw_X8_176 rfl (ok1 (ok8_3 ha0).2) (ok1_1 (ok8_3 ha0).2).1 ?_
            refine r_aload_n (pc := 110) dX8_point_110 rfl rfl ?_
            refine r_gRs (b := a0 + 43) (pc := 111) dX8_point_111 fw_X8_25 rfl (ok8 ha0) (ok8_3 ha0).1 ?_
            refine r_gIs (pc := 114) dX8_point_114 fw_X8_170 rfl (ok1 (ok8_3 ha0).2) ?_
            refine r_iload_n (pc := 117) dX8_point_117 rfl rfl ?_
            refine r_iastores (pc := 118) h dX8_point_118 (ok1_1 (ok8_3 ha0).2).2 (fun V4 h => ?_)
            refine r_aload_n (pc := 119) dX8_point_119 rfl rfl ?_
            refine r_gRs (b := a0 + 43) (pc := 120) dX8_point_120 fw_X8_25 rfl (ok8 ha0) (ok8_3 ha0).1 ?_
            refine r_dup (pc := 123) dX8_point_123 rfl ?_
            refine r_gIs (pc := 124) dX8_point_124 fw_X8_170 rfl (ok1 (ok8_3 ha0).2) ?_
            refine r_iconst (pc := 127) dX8_point_127 ?_
            refine r_iadd (pc := 128) dX8_point_128 ?_
            refine r_pIs (pc := 129) h dX8_point_129 fw_X8_170 rfl rfl (nf1_2) (ok1 (ok8_3 ha0).2) (fun V5 h => ?_)
            refine r_aload_n (pc := 132) dX8_point_132 rfl rfl ?_
            refine r_gRs (b := a0 + 43) (pc := 133) dX8_point_133 fw_X8_25 rfl (ok8 ha0) (ok8_3 ha0).1 ?_
            refine r_gIs (pc := 136) dX8_point_136 fw_X8_170 rfl (ok1 (ok8_3 ha0).2) ?_
            exact r_irets (pc := 139) h rfl dX8_point_139
          · refine r_iconst (pc := 85) dX8_point_85 ?_
            exact r_irets (pc := 86) h rfl dX8_point_86
set_option maxHeartbeats 4000000 in
theorem st_X8_point_0 {X : sj_X} {g : sj_G} {s0 : sj_Mem} {N : Nat} {q : Int × sj_VV} :
    ∀ (a0 : Nat) (x1 : Int) (x2 : Int) (V : sj_VV), OK8 g a0 → g_X8_point N a0 x1 x2 V = some q → sj_T X m_X8_point s0 (some (sj_i q.1), (g, q.2)) 0 [some (sj_r (some a0)), some (sj_i x1), some (sj_i x2), none] [] (g, V) := by
  intro a0 x1 x2 V ha0 h
  unfold g_X8_point at h
  refine r_iload_n (pc := 0) dX8_point_0 rfl rfl ?_
  refine r_iconst (pc := 1) dX8_point_1 ?_
  refine r_icmp_ne (pc := 2) (tgt := 15) h dX8_point_2 (by decide) (fun h => ?_) (fun h => ?_)
  · refine r_aload_n (pc := 5) dX8_point_5 rfl rfl ?_
    refine r_gRs (b := a0 + 43) (pc := 6) dX8_point_6 fw_X8_25 rfl (ok8 ha0) (ok8_3 ha0).1 ?_
    refine r_iconst (pc := 9) dX8_point_9 ?_
    refine r_pIs (pc := 10) h dX8_point_10 fw_X8_170 rfl rfl (nf1_2) (ok1 (ok8_3 ha0).2) (fun V1 h => ?_)
    refine r_iconst (pc := 13) dX8_point_13 ?_
    exact r_irets (pc := 14) h rfl dX8_point_14
  · refine r_aload_n (pc := 15) dX8_point_15 rfl rfl ?_
    refine r_gRs (b := a0 + 43) (pc := 16) dX8_point_16 fw_X8_25 rfl (ok8 ha0) (ok8_3 ha0).1 ?_
    refine r_gIs (pc := 19) dX8_point_19 fw_X8_170 rfl (ok1 (ok8_3 ha0).2) ?_
    refine r_if_ne (pc := 22) (tgt := 29) h dX8_point_22 (by decide) (fun h => ?_) (fun h => ?_)
    · refine r_iconst (pc := 25) dX8_point_25 ?_
      refine r_goto (pc := 26) (tgt := 46) dX8_point_26 (by decide) ?_
      exact sj_weak (l2 := [some (sj_r (some a0)), some (sj_i x1), some (sj_i x2), none]) (⟨rfl, ⟨rfl, ⟨rfl, trivial⟩⟩⟩) (st_X8_point_46 a0 x1 x2 ((-1)) V ha0 h)
    · refine r_aload_n (pc := 29) dX8_point_29 rfl rfl ?_
      refine r_gRs (b := a0 + 43) (pc := 30) dX8_point_30 fw_X8_25 rfl (ok8 ha0) (ok8_3 ha0).1 ?_
      refine r_gRs (b := (a0 + 43) + 1) (pc := 33) dX8_point_33 fw_X8_173 rfl (ok1 (ok8_3 ha0).2) (ok1_0 (ok8_3 ha0).2).1 ?_
      refine r_aload_n (pc := 36) dX8_point_36 rfl rfl ?_
      refine r_gRs (b := a0 + 43) (pc := 37) dX8_point_37 fw_X8_25 rfl (ok8 ha0) (ok8_3 ha0).1 ?_
      refine r_gIs (pc := 40) dX8_point_40 fw_X8_170 rfl (ok1 (ok8_3 ha0).2) ?_
      refine r_iconst (pc := 43) dX8_point_43 ?_
      refine r_isub (pc := 44) dX8_point_44 ?_
      refine r_ialoads (pc := 45) h dX8_point_45 (ok1_0 (ok8_3 ha0).2).2 (fun h => ?_)
      exact sj_weak (l2 := [some (sj_r (some a0)), some (sj_i x1), some (sj_i x2), none]) (⟨rfl, ⟨rfl, ⟨rfl, trivial⟩⟩⟩) (st_X8_point_46 a0 x1 x2 (V ((a0 + 43) + 1) ((V (a0 + 43) 2) - 1).toNat) V ha0 h)
set_option maxHeartbeats 4000000 in
theorem cg_X8_point {X : sj_X} {g : sj_G} {N : Nat} {a0 : Nat} {x1 : Int} {x2 : Int} {V : sj_VV} {q : Int × sj_VV} (ha0 : OK8 g a0) (h : g_X8_point N a0 x1 x2 V = some q) : sj_C X m_X8_point [sj_r (some a0), sj_i x1, sj_i x2] (g, V) (some (sj_i q.1), (g, q.2)) :=
  sj_C_of (by decide +kernel) (Nat.le_of_ble_eq_true rfl) (lo := [some (sj_r (some a0)), some (sj_i x1), some (sj_i x2), none]) rfl (sj_weak (l2 := [some (sj_r (some a0)), some (sj_i x1), some (sj_i x2), none]) (⟨rfl, ⟨rfl, ⟨rfl, trivial⟩⟩⟩) (st_X8_point_0 a0 x1 x2 V ha0 h))
set_option maxHeartbeats 4000000 in
theorem c_X8_point {X : sj_X} {N : Nat} {a0 : Nat} {x1 : Int} {x2 : Int} {s : sj_Mem} {q : Int × sj_Mem} (h : f_X8_point N a0 x1 x2 s = some q) : sj_C X m_X8_point [sj_r (some a0), sj_i x1, sj_i x2] s (some (sj_i q.1), q.2) := by
  obtain ⟨g, V⟩ := s
  unfold f_X8_point at h
  obtain ⟨ho, h1⟩ := e_ok_some h
  obtain ⟨q2, h2, rfl⟩ := sj_map_some h1
  exact cg_X8_point ho h2
theorem dX8_points_0 : decode cX8_points 0 = .ok (.aload_n 0, 1) := by decide +kernel
theorem dX8_points_1 : decode cX8_points 1 = .ok (.getfield 67, 3) := by decide +kernel
theorem dX8_points_4 : decode cX8_points 4 = .ok (.aload_n 0, 1) := by decide +kernel
theorem dX8_points_5 : decode cX8_points 5 = .ok (.getfield 12, 3) := by decide +kernel
theorem dX8_points_8 : decode cX8_points 8 = .ok (.aload_n 0, 1) := by decide +kernel
theorem dX8_points_9 : decode cX8_points 9 = .ok (.getfield 25, 3) := by decide +kernel
theorem dX8_points_12 : decode cX8_points 12 = .ok (.iload_n 1, 1) := by decide +kernel
theorem dX8_points_13 : decode cX8_points 13 = .ok (.invokevirtual 179, 3) := by decide +kernel
theorem dX8_points_16 : decode cX8_points 16 = .ok (.ifCond .eq 10, 3) := by decide +kernel
theorem dX8_points_19 : decode cX8_points 19 = .ok (.aload_n 0, 1) := by decide +kernel
theorem dX8_points_20 : decode cX8_points 20 = .ok (.invokevirtual 166, 3) := by decide +kernel
theorem dX8_points_23 : decode cX8_points 23 = .ok (.goto 4, 3) := by decide +kernel
theorem dX8_points_26 : decode cX8_points 26 = .ok (.iconst (-1), 1) := by decide +kernel
theorem dX8_points_27 : decode cX8_points 27 = .ok (.ireturn, 1) := by decide +kernel
set_option maxHeartbeats 4000000 in
theorem st_X8_points_0 {X : sj_X} {g : sj_G} {s0 : sj_Mem} {N : Nat} {q : Int × sj_VV} :
    ∀ (a0 : Nat) (x1 : Int) (V : sj_VV), OK8 g a0 → g_X8_points N a0 x1 V = some q → sj_T X m_X8_points s0 (some (sj_i q.1), (g, q.2)) 0 [some (sj_r (some a0)), some (sj_i x1)] [] (g, V) := by
  intro a0 x1 V ha0 h
  unfold g_X8_points at h
  refine r_aload_n (pc := 0) dX8_points_0 rfl rfl ?_
  refine r_gRs (b := a0 + 75) (pc := 1) dX8_points_1 fw_X8_67 rfl (ok8 ha0) (ok8_10 ha0).1 ?_
  refine r_aload_n (pc := 4) dX8_points_4 rfl rfl ?_
  refine r_gRs (b := a0 + 1) (pc := 5) dX8_points_5 fw_X8_12 rfl (ok8 ha0) (ok8_0 ha0).1 ?_
  refine r_aload_n (pc := 8) dX8_points_8 rfl rfl ?_
  refine r_gRs (b := a0 + 43) (pc := 9) dX8_points_9 fw_X8_25 rfl (ok8 ha0) (ok8_3 ha0).1 ?_
  refine r_iload_n (pc := 12) dX8_points_12 rfl rfl ?_
  refine r_callVs (pc := 13) (fun v => some (sj_i v)) (As := [sj_r (some (a0 + 1)), sj_r (some (a0 + 43)), sj_i x1]) (rest := []) (b := (a0 + 75)) (ok5 (ok8_10 ha0).2) h dX8_points_13 mw_X8_179 vw_X5_follow (fun _ _ hc => cg_X5_follow (ok8_10 ha0).2 (ok8_0 ha0).2 (ok8_3 ha0).2 hc) rfl ⟨(Nat.le_of_ble_eq_true rfl), (Nat.le_of_ble_eq_true rfl)⟩ (Nat.le_of_ble_eq_true rfl) rfl (fun v2 V1 h => ?_)
  refine r_if_eq (pc := 16) (tgt := 26) h dX8_points_16 (by decide) (fun h => ?_) (fun h => ?_)
  · refine r_iconst (pc := 26) dX8_points_26 ?_
    exact r_irets (pc := 27) h rfl dX8_points_27
  · refine r_aload_n (pc := 19) dX8_points_19 rfl rfl ?_
    refine r_callVs (pc := 20) (fun v => some (sj_i v)) (As := []) (rest := []) (b := a0) (ok8 ha0) h dX8_points_20 mw_X8_166 vw_X8_takeTrial (fun _ _ hc => cg_X8_takeTrial ha0 hc) rfl ⟨(Nat.le_of_ble_eq_true rfl), (Nat.le_of_ble_eq_true rfl)⟩ (Nat.le_of_ble_eq_true rfl) rfl (fun v4 V3 h => ?_)
    refine r_goto (pc := 23) (tgt := 27) dX8_points_23 (by decide) ?_
    exact r_irets (pc := 27) h rfl dX8_points_27
set_option maxHeartbeats 4000000 in
theorem cg_X8_points {X : sj_X} {g : sj_G} {N : Nat} {a0 : Nat} {x1 : Int} {V : sj_VV} {q : Int × sj_VV} (ha0 : OK8 g a0) (h : g_X8_points N a0 x1 V = some q) : sj_C X m_X8_points [sj_r (some a0), sj_i x1] (g, V) (some (sj_i q.1), (g, q.2)) :=
  sj_C_of (by decide +kernel) (Nat.le_of_ble_eq_true rfl) (lo := [some (sj_r (some a0)), some (sj_i x1)]) rfl (sj_weak (l2 := [some (sj_r (some a0)), some (sj_i x1)]) (⟨rfl, ⟨rfl, trivial⟩⟩) (st_X8_points_0 a0 x1 V ha0 h))
set_option maxHeartbeats 4000000 in
theorem c_X8_points {X : sj_X} {N : Nat} {a0 : Nat} {x1 : Int} {s : sj_Mem} {q : Int × sj_Mem} (h : f_X8_points N a0 x1 s = some q) : sj_C X m_X8_points [sj_r (some a0), sj_i x1] s (some (sj_i q.1), q.2) := by
  obtain ⟨g, V⟩ := s
  unfold f_X8_points at h
  obtain ⟨ho, h1⟩ := e_ok_some h
  obtain ⟨q2, h2, rfl⟩ := sj_map_some h1
  exact cg_X8_points ho h2
theorem dX8_mirror_0 : decode cX8_mirror 0 = .ok (.aload_n 0, 1) := by decide +kernel
theorem dX8_mirror_1 : decode cX8_mirror 1 = .ok (.invokevirtual 75, 3) := by decide +kernel
theorem dX8_mirror_4 : decode cX8_mirror 4 = .ok (.aload_n 0, 1) := by decide +kernel
theorem dX8_mirror_5 : decode cX8_mirror 5 = .ok (.getfield 12, 3) := by decide +kernel
theorem dX8_mirror_8 : decode cX8_mirror 8 = .ok (.invokevirtual 202, 3) := by decide +kernel
theorem dX8_mirror_11 : decode cX8_mirror 11 = .ok (.aload_n 0, 1) := by decide +kernel
theorem dX8_mirror_12 : decode cX8_mirror 12 = .ok (.getfield 12, 3) := by decide +kernel
theorem dX8_mirror_15 : decode cX8_mirror 15 = .ok (.getfield 106, 3) := by decide +kernel
theorem dX8_mirror_18 : decode cX8_mirror 18 = .ok (.invokevirtual 192, 3) := by decide +kernel
theorem dX8_mirror_21 : decode cX8_mirror 21 = .ok (.ifCond .ne 7, 3) := by decide +kernel
theorem dX8_mirror_24 : decode cX8_mirror 24 = .ok (.iconst 1, 1) := by decide +kernel
theorem dX8_mirror_25 : decode cX8_mirror 25 = .ok (.goto 4, 3) := by decide +kernel
theorem dX8_mirror_28 : decode cX8_mirror 28 = .ok (.iconst 0, 1) := by decide +kernel
theorem dX8_mirror_29 : decode cX8_mirror 29 = .ok (.ireturn, 1) := by decide +kernel
set_option maxHeartbeats 4000000 in
theorem st_X8_mirror_0 {X : sj_X} {g : sj_G} {s0 : sj_Mem} {N : Nat} {q : Int × sj_VV} :
    ∀ (a0 : Nat) (V : sj_VV), OK8 g a0 → g_X8_mirror N a0 V = some q → sj_T X m_X8_mirror s0 (some (sj_i q.1), (g, q.2)) 0 [some (sj_r (some a0))] [] (g, V) := by
  intro a0 V ha0 h
  unfold g_X8_mirror at h
  refine r_aload_n (pc := 0) dX8_mirror_0 rfl rfl ?_
  refine r_callVs (pc := 1) (fun _ => none) (As := []) (rest := []) (b := a0) (ok8 ha0) h dX8_mirror_1 mw_X8_75 vw_X8_keepAct (fun _ _ hc => cg_X8_keepAct ha0 hc) rfl ⟨(Nat.le_of_ble_eq_true rfl), (Nat.le_of_ble_eq_true rfl)⟩ (Nat.le_of_ble_eq_true rfl) rfl (fun _u V1 h => ?_)
  refine r_aload_n (pc := 4) dX8_mirror_4 rfl rfl ?_
  refine r_gRs (b := a0 + 1) (pc := 5) dX8_mirror_5 fw_X8_12 rfl (ok8 ha0) (ok8_0 ha0).1 ?_
  refine r_callVs (pc := 8) (fun _ => none) (As := []) (rest := []) (b := (a0 + 1)) (ok0 (ok8_0 ha0).2) h dX8_mirror_8 mw_X8_202 vw_X0_turn (fun _ _ hc => cg_X0_turn (ok8_0 ha0).2 hc) rfl ⟨(Nat.le_of_ble_eq_true rfl), (Nat.le_of_ble_eq_true rfl)⟩ (Nat.le_of_ble_eq_true rfl) rfl (fun _u V2 h => ?_)
  refine r_aload_n (pc := 11) dX8_mirror_11 rfl rfl ?_
  refine r_gRs (b := a0 + 1) (pc := 12) dX8_mirror_12 fw_X8_12 rfl (ok8 ha0) (ok8_0 ha0).1 ?_
  refine r_gRs (b := (a0 + 1) + 12) (pc := 15) dX8_mirror_15 fw_X8_106 rfl (ok0 (ok8_0 ha0).2) (ok0_14 (ok8_0 ha0).2).1 ?_
  refine r_callVs (pc := 18) (fun v => some (sj_i v)) (As := []) (rest := []) (b := ((a0 + 1) + 12)) (ok5 (ok0_14 (ok8_0 ha0).2).2) h dX8_mirror_18 mw_X8_192 vw_X5_isNone (fun _ _ hc => cg_X5_isNone (ok0_14 (ok8_0 ha0).2).2 hc) rfl ⟨(Nat.le_of_ble_eq_true rfl), (Nat.le_of_ble_eq_true rfl)⟩ (Nat.le_of_ble_eq_true rfl) rfl (fun v4 V3 h => ?_)
  refine r_if_ne (pc := 21) (tgt := 28) h dX8_mirror_21 (by decide) (fun h => ?_) (fun h => ?_)
  · refine r_iconst (pc := 24) dX8_mirror_24 ?_
    refine r_goto (pc := 25) (tgt := 29) dX8_mirror_25 (by decide) ?_
    exact r_zrets (pc := 29) h rfl dX8_mirror_29
  · refine r_iconst (pc := 28) dX8_mirror_28 ?_
    exact r_zrets (pc := 29) h rfl dX8_mirror_29
set_option maxHeartbeats 4000000 in
theorem cg_X8_mirror {X : sj_X} {g : sj_G} {N : Nat} {a0 : Nat} {V : sj_VV} {q : Int × sj_VV} (ha0 : OK8 g a0) (h : g_X8_mirror N a0 V = some q) : sj_C X m_X8_mirror [sj_r (some a0)] (g, V) (some (sj_i q.1), (g, q.2)) :=
  sj_C_of (by decide +kernel) (Nat.le_of_ble_eq_true rfl) (lo := [some (sj_r (some a0))]) rfl (sj_weak (l2 := [some (sj_r (some a0))]) (⟨rfl, trivial⟩) (st_X8_mirror_0 a0 V ha0 h))
set_option maxHeartbeats 4000000 in
theorem c_X8_mirror {X : sj_X} {N : Nat} {a0 : Nat} {s : sj_Mem} {q : Int × sj_Mem} (h : f_X8_mirror N a0 s = some q) : sj_C X m_X8_mirror [sj_r (some a0)] s (some (sj_i q.1), q.2) := by
  obtain ⟨g, V⟩ := s
  unfold f_X8_mirror at h
  obtain ⟨ho, h1⟩ := e_ok_some h
  obtain ⟨q2, h2, rfl⟩ := sj_map_some h1
  exact cg_X8_mirror ho h2
theorem dX8_undo_0 : decode cX8_undo 0 = .ok (.aload_n 0, 1) := by decide +kernel
theorem dX8_undo_1 : decode cX8_undo 1 = .ok (.getfield 208, 3) := by decide +kernel
theorem dX8_undo_4 : decode cX8_undo 4 = .ok (.ifCond .ne 5, 3) := by decide +kernel
theorem dX8_undo_7 : decode cX8_undo 7 = .ok (.iconst (-1), 1) := by decide +kernel
theorem dX8_undo_8 : decode cX8_undo 8 = .ok (.ireturn, 1) := by decide +kernel
theorem dX8_undo_9 : decode cX8_undo 9 = .ok (.aload_n 0, 1) := by decide +kernel
theorem dX8_undo_10 : decode cX8_undo 10 = .ok (.aload_n 0, 1) := by decide +kernel
theorem dX8_undo_11 : decode cX8_undo 11 = .ok (.getfield 205, 3) := by decide +kernel
theorem dX8_undo_14 : decode cX8_undo 14 = .ok (.bipush 8, 2) := by decide +kernel
theorem dX8_undo_16 : decode cX8_undo 16 = .ok (.iadd, 1) := by decide +kernel
theorem dX8_undo_17 : decode cX8_undo 17 = .ok (.iconst 1, 1) := by decide +kernel
theorem dX8_undo_18 : decode cX8_undo 18 = .ok (.isub, 1) := by decide +kernel
theorem dX8_undo_19 : decode cX8_undo 19 = .ok (.bipush 8, 2) := by decide +kernel
theorem dX8_undo_21 : decode cX8_undo 21 = .ok (.irem, 1) := by decide +kernel
theorem dX8_undo_22 : decode cX8_undo 22 = .ok (.putfield 205, 3) := by decide +kernel
theorem dX8_undo_25 : decode cX8_undo 25 = .ok (.aload_n 0, 1) := by decide +kernel
theorem dX8_undo_26 : decode cX8_undo 26 = .ok (.getfield 12, 3) := by decide +kernel
theorem dX8_undo_29 : decode cX8_undo 29 = .ok (.aload_n 0, 1) := by decide +kernel
theorem dX8_undo_30 : decode cX8_undo 30 = .ok (.getfield 39, 3) := by decide +kernel
theorem dX8_undo_33 : decode cX8_undo 33 = .ok (.aload_n 0, 1) := by decide +kernel
theorem dX8_undo_34 : decode cX8_undo 34 = .ok (.getfield 205, 3) := by decide +kernel
theorem dX8_undo_37 : decode cX8_undo 37 = .ok (.aaload, 1) := by decide +kernel
theorem dX8_undo_38 : decode cX8_undo 38 = .ok (.invokevirtual 148, 3) := by decide +kernel
theorem dX8_undo_41 : decode cX8_undo 41 = .ok (.aload_n 0, 1) := by decide +kernel
theorem dX8_undo_42 : decode cX8_undo 42 = .ok (.dup, 1) := by decide +kernel
theorem dX8_undo_43 : decode cX8_undo 43 = .ok (.getfield 208, 3) := by decide +kernel
theorem dX8_undo_46 : decode cX8_undo 46 = .ok (.iconst 1, 1) := by decide +kernel
theorem dX8_undo_47 : decode cX8_undo 47 = .ok (.isub, 1) := by decide +kernel
theorem dX8_undo_48 : decode cX8_undo 48 = .ok (.putfield 208, 3) := by decide +kernel
theorem dX8_undo_51 : decode cX8_undo 51 = .ok (.aload_n 0, 1) := by decide +kernel
theorem dX8_undo_52 : decode cX8_undo 52 = .ok (.getfield 208, 3) := by decide +kernel
theorem dX8_undo_55 : decode cX8_undo 55 = .ok (.ireturn, 1) := by decide +kernel
set_option maxHeartbeats 4000000 in
theorem st_X8_undo_0 {X : sj_X} {g : sj_G} {s0 : sj_Mem} {N : Nat} {q : Int × sj_VV} :
    ∀ (a0 : Nat) (V : sj_VV), OK8 g a0 → g_X8_undo N a0 V = some q → sj_T X m_X8_undo s0 (some (sj_i q.1), (g, q.2)) 0 [some (sj_r (some a0))] [] (g, V) := by
  intro a0 V ha0 h
  unfold g_X8_undo at h
  refine r_aload_n (pc := 0) dX8_undo_0 rfl rfl ?_
  refine r_gIs (pc := 1) dX8_undo_1 fw_X8_208 rfl (ok8 ha0) ?_
  refine r_if_ne (pc := 4) (tgt := 9) h dX8_undo_4 (by decide) (fun h => ?_) (fun h => ?_)
  · refine r_iconst (pc := 7) dX8_undo_7 ?_
    exact r_irets (pc := 8) h rfl dX8_undo_8
  · refine r_aload_n (pc := 9) dX8_undo_9 rfl rfl ?_
    refine r_aload_n (pc := 10) dX8_undo_10 rfl rfl ?_
    refine r_gIs (pc := 11) dX8_undo_11 fw_X8_205 rfl (ok8 ha0) ?_
    refine r_bipush (pc := 14) dX8_undo_14 ⟨by decide, by decide⟩ ?_
    refine r_iadd (pc := 16) dX8_undo_16 ?_
    refine r_iconst (pc := 17) dX8_undo_17 ?_
    refine r_isub (pc := 18) dX8_undo_18 ?_
    refine r_bipush (pc := 19) dX8_undo_19 ⟨by decide, by decide⟩ ?_
    refine r_irem (pc := 21) h dX8_undo_21 (fun v1 h => ?_)
    refine r_pIs (pc := 22) h dX8_undo_22 fw_X8_205 rfl rfl (nf8_14) (ok8 ha0) (fun V2 h => ?_)
    refine r_aload_n (pc := 25) dX8_undo_25 rfl rfl ?_
    refine r_gRs (b := a0 + 1) (pc := 26) dX8_undo_26 fw_X8_12 rfl (ok8 ha0) (ok8_0 ha0).1 ?_
    refine r_aload_n (pc := 29) dX8_undo_29 rfl rfl ?_
    refine r_gRs (b := a0 + 51) (pc := 30) dX8_undo_30 fw_X8_39 rfl (ok8 ha0) (ok8_6 ha0).1 ?_
    refine r_aload_n (pc := 33) dX8_undo_33 rfl rfl ?_
    refine r_gIs (pc := 34) dX8_undo_34 fw_X8_205 rfl (ok8 ha0) ?_
    refine r_aaloads (b := fun j => a0 + 77 + 14 * j) (pc := 37) h dX8_undo_37 (ok8_6 ha0).2.1 (fun j hj => ((ok8_6 ha0).2.2 j hj).1) (fun hj3 h => ?_)
    refine r_callVs (pc := 38) (fun _ => none) (As := [sj_r (some (a0 + 77 + 14 * (V2 a0 14).toNat))]) (rest := []) (b := (a0 + 1)) (ok0 (ok8_0 ha0).2) h dX8_undo_38 mw_X8_148 vw_X0_copy (fun _ _ hc => cg_X0_copy (ok8_0 ha0).2 ((ok8_6 ha0).2.2 _ hj3).2 hc) rfl ⟨(Nat.le_of_ble_eq_true rfl), (Nat.le_of_ble_eq_true rfl)⟩ (Nat.le_of_ble_eq_true rfl) rfl (fun _u V4 h => ?_)
    refine r_aload_n (pc := 41) dX8_undo_41 rfl rfl ?_
    refine r_dup (pc := 42) dX8_undo_42 rfl ?_
    refine r_gIs (pc := 43) dX8_undo_43 fw_X8_208 rfl (ok8 ha0) ?_
    refine r_iconst (pc := 46) dX8_undo_46 ?_
    refine r_isub (pc := 47) dX8_undo_47 ?_
    refine r_pIs (pc := 48) h dX8_undo_48 fw_X8_208 rfl rfl (nf8_13) (ok8 ha0) (fun V5 h => ?_)
    refine r_aload_n (pc := 51) dX8_undo_51 rfl rfl ?_
    refine r_gIs (pc := 52) dX8_undo_52 fw_X8_208 rfl (ok8 ha0) ?_
    exact r_irets (pc := 55) h rfl dX8_undo_55
set_option maxHeartbeats 4000000 in
theorem cg_X8_undo {X : sj_X} {g : sj_G} {N : Nat} {a0 : Nat} {V : sj_VV} {q : Int × sj_VV} (ha0 : OK8 g a0) (h : g_X8_undo N a0 V = some q) : sj_C X m_X8_undo [sj_r (some a0)] (g, V) (some (sj_i q.1), (g, q.2)) :=
  sj_C_of (by decide +kernel) (Nat.le_of_ble_eq_true rfl) (lo := [some (sj_r (some a0))]) rfl (sj_weak (l2 := [some (sj_r (some a0))]) (⟨rfl, trivial⟩) (st_X8_undo_0 a0 V ha0 h))
set_option maxHeartbeats 4000000 in
theorem c_X8_undo {X : sj_X} {N : Nat} {a0 : Nat} {s : sj_Mem} {q : Int × sj_Mem} (h : f_X8_undo N a0 s = some q) : sj_C X m_X8_undo [sj_r (some a0)] s (some (sj_i q.1), q.2) := by
  obtain ⟨g, V⟩ := s
  unfold f_X8_undo at h
  obtain ⟨ho, h1⟩ := e_ok_some h
  obtain ⟨q2, h2, rfl⟩ := sj_map_some h1
  exact cg_X8_undo ho h2
theorem dX8_image_0 : decode cX8_image 0 = .ok (.iload_n 1, 1) := by decide +kernel
theorem dX8_image_1 : decode cX8_image 1 = .ok (.ifCond .eq 32, 3) := by decide +kernel
theorem dX8_image_4 : decode cX8_image 4 = .ok (.aload_n 0, 1) := by decide +kernel
theorem dX8_image_5 : decode cX8_image 5 = .ok (.getfield 19, 3) := by decide +kernel
theorem dX8_image_8 : decode cX8_image 8 = .ok (.aload_n 0, 1) := by decide +kernel
theorem dX8_image_9 : decode cX8_image 9 = .ok (.getfield 12, 3) := by decide +kernel
theorem dX8_image_12 : decode cX8_image 12 = .ok (.invokevirtual 148, 3) := by decide +kernel
theorem dX8_image_15 : decode cX8_image 15 = .ok (.aload_n 0, 1) := by decide +kernel
theorem dX8_image_16 : decode cX8_image 16 = .ok (.getfield 29, 3) := by decide +kernel
theorem dX8_image_19 : decode cX8_image 19 = .ok (.aload_n 0, 1) := by decide +kernel
theorem dX8_image_20 : decode cX8_image 20 = .ok (.getfield 25, 3) := by decide +kernel
theorem dX8_image_23 : decode cX8_image 23 = .ok (.invokevirtual 211, 3) := by decide +kernel
theorem dX8_image_26 : decode cX8_image 26 = .ok (.aload_n 0, 1) := by decide +kernel
theorem dX8_image_27 : decode cX8_image 27 = .ok (.iconst 1, 1) := by decide +kernel
theorem dX8_image_28 : decode cX8_image 28 = .ok (.putfield 214, 3) := by decide +kernel
theorem dX8_image_31 : decode cX8_image 31 = .ok (.iconst 1, 1) := by decide +kernel
theorem dX8_image_32 : decode cX8_image 32 = .ok (.ireturn, 1) := by decide +kernel
theorem dX8_image_33 : decode cX8_image 33 = .ok (.aload_n 0, 1) := by decide +kernel
theorem dX8_image_34 : decode cX8_image 34 = .ok (.getfield 214, 3) := by decide +kernel
theorem dX8_image_37 : decode cX8_image 37 = .ok (.ifCond .ne 5, 3) := by decide +kernel
theorem dX8_image_40 : decode cX8_image 40 = .ok (.iconst 0, 1) := by decide +kernel
theorem dX8_image_41 : decode cX8_image 41 = .ok (.ireturn, 1) := by decide +kernel
theorem dX8_image_42 : decode cX8_image 42 = .ok (.aload_n 0, 1) := by decide +kernel
theorem dX8_image_43 : decode cX8_image 43 = .ok (.getfield 12, 3) := by decide +kernel
theorem dX8_image_46 : decode cX8_image 46 = .ok (.aload_n 0, 1) := by decide +kernel
theorem dX8_image_47 : decode cX8_image 47 = .ok (.getfield 19, 3) := by decide +kernel
theorem dX8_image_50 : decode cX8_image 50 = .ok (.invokevirtual 148, 3) := by decide +kernel
theorem dX8_image_53 : decode cX8_image 53 = .ok (.aload_n 0, 1) := by decide +kernel
theorem dX8_image_54 : decode cX8_image 54 = .ok (.getfield 25, 3) := by decide +kernel
theorem dX8_image_57 : decode cX8_image 57 = .ok (.aload_n 0, 1) := by decide +kernel
theorem dX8_image_58 : decode cX8_image 58 = .ok (.getfield 29, 3) := by decide +kernel
theorem dX8_image_61 : decode cX8_image 61 = .ok (.invokevirtual 211, 3) := by decide +kernel
theorem dX8_image_64 : decode cX8_image 64 = .ok (.aload_n 0, 1) := by decide +kernel
theorem dX8_image_65 : decode cX8_image 65 = .ok (.iconst 0, 1) := by decide +kernel
theorem dX8_image_66 : decode cX8_image 66 = .ok (.putfield 208, 3) := by decide +kernel
theorem dX8_image_69 : decode cX8_image 69 = .ok (.iconst 1, 1) := by decide +kernel
theorem dX8_image_70 : decode cX8_image 70 = .ok (.ireturn, 1) := by decide +kernel
set_option maxHeartbeats 4000000 in
theorem st_X8_image_0 {X : sj_X} {g : sj_G} {s0 : sj_Mem} {N : Nat} {q : Int × sj_VV} :
    ∀ (a0 : Nat) (x1 : Int) (V : sj_VV), OK8 g a0 → g_X8_image N a0 x1 V = some q → sj_T X m_X8_image s0 (some (sj_i q.1), (g, q.2)) 0 [some (sj_r (some a0)), some (sj_i x1)] [] (g, V) := by
  intro a0 x1 V ha0 h
  unfold g_X8_image at h
  refine r_iload_n (pc := 0) dX8_image_0 rfl rfl ?_
  refine r_if_eq (pc := 1) (tgt := 33) h dX8_image_1 (by decide) (fun h => ?_) (fun h => ?_)
  · refine r_aload_n (pc := 33) dX8_image_33 rfl rfl ?_
    refine r_gIs (pc := 34) dX8_image_34 fw_X8_214 rfl (ok8 ha0) ?_
    refine r_if_ne (pc := 37) (tgt := 42) h dX8_image_37 (by decide) (fun h => ?_) (fun h => ?_)
    · refine r_iconst (pc := 40) dX8_image_40 ?_
      exact r_zrets (pc := 41) h rfl dX8_image_41
    · refine r_aload_n (pc := 42) dX8_image_42 rfl rfl ?_
      refine r_gRs (b := a0 + 1) (pc := 43) dX8_image_43 fw_X8_12 rfl (ok8 ha0) (ok8_0 ha0).1 ?_
      refine r_aload_n (pc := 46) dX8_image_46 rfl rfl ?_
      refine r_gRs (b := a0 + 29) (pc := 47) dX8_image_47 fw_X8_19 rfl (ok8 ha0) (ok8_2 ha0).1 ?_
      refine r_callVs (pc := 50) (fun _ => none) (As := [sj_r (some (a0 + 29))]) (rest := []) (b := (a0 + 1)) (ok0 (ok8_0 ha0).2) h dX8_image_50 mw_X8_148 vw_X0_copy (fun _ _ hc => cg_X0_copy (ok8_0 ha0).2 (ok8_2 ha0).2 hc) rfl ⟨(Nat.le_of_ble_eq_true rfl), (Nat.le_of_ble_eq_true rfl)⟩ (Nat.le_of_ble_eq_true rfl) rfl (fun _u V1 h => ?_)
      refine r_aload_n (pc := 53) dX8_image_53 rfl rfl ?_
      refine r_gRs (b := a0 + 43) (pc := 54) dX8_image_54 fw_X8_25 rfl (ok8 ha0) (ok8_3 ha0).1 ?_
      refine r_aload_n (pc := 57) dX8_image_57 rfl rfl ?_
      refine r_gRs (b := a0 + 46) (pc := 58) dX8_image_58 fw_X8_29 rfl (ok8 ha0) (ok8_4 ha0).1 ?_
      refine r_callVs (pc := 61) (fun _ => none) (As := [sj_r (some (a0 + 46))]) (rest := []) (b := (a0 + 43)) (ok1 (ok8_3 ha0).2) h dX8_image_61 mw_X8_211 vw_X1_copy (fun _ _ hc => cg_X1_copy (ok8_3 ha0).2 (ok8_4 ha0).2 hc) rfl ⟨(Nat.le_of_ble_eq_true rfl), (Nat.le_of_ble_eq_true rfl)⟩ (Nat.le_of_ble_eq_true rfl) rfl (fun _u V2 h => ?_)
      refine r_aload_n (pc := 64) dX8_image_64 rfl rfl ?_
      refine r_iconst (pc := 65) dX8_image_65 ?_
      refine r_pIs (pc := 66) h dX8_image_66 fw_X8_208 rfl rfl (nf8_13) (ok8 ha0) (fun V3 h => ?_)
      refine r_iconst (pc := 69) dX8_image_69 ?_
      exact r_zrets (pc := 70) h rfl dX8_image_70
  · refine r_aload_n (pc := 4) dX8_image_4 rfl rfl ?_
    refine r_gRs (b := a0 + 29) (pc := 5) dX8_image_5 fw_X8_19 rfl (ok8 ha0) (ok8_2 ha0).1 ?_
    refine r_aload_n (pc := 8) dX8_image_8 rfl rfl ?_
    refine r_gRs (b := a0 + 1) (pc := 9) dX8_image_9 fw_X8_12 rfl (ok8 ha0) (ok8_0 ha0).1 ?_
    refine r_callVs (pc := 12) (fun _ => none) (As := [sj_r (some (a0 + 1))]) (rest := []) (b := (a0 + 29)) (ok0 (ok8_2 ha0).2) h dX8_image_12 mw_X8_148 vw_X0_copy (fun _ _ hc => cg_X0_copy (ok8_2 ha0).2 (ok8_0 ha0).2 hc) rfl ⟨(Nat.le_of_ble_eq_true rfl), (Nat.le_of_ble_eq_true rfl)⟩ (Nat.le_of_ble_eq_true rfl) rfl (fun _u V4 h => ?_)
    refine r_aload_n (pc := 15) dX8_image_15 rfl rfl ?_
    refine r_gRs (b := a0 + 46) (pc := 16) dX8_image_16 fw_X8_29 rfl (ok8 ha0) (ok8_4 ha0).1 ?_
    refine r_aload_n (pc := 19) dX8_image_19 rfl rfl ?_
    refine r_gRs (b := a0 + 43) (pc := 20) dX8_image_20 fw_X8_25 rfl (ok8 ha0) (ok8_3 ha0).1 ?_
    refine r_callVs (pc := 23) (fun _ => none) (As := [sj_r (some (a0 + 43))]) (rest := []) (b := (a0 + 46)) (ok1 (ok8_4 ha0).2) h dX8_image_23 mw_X8_211 vw_X1_copy (fun _ _ hc => cg_X1_copy (ok8_4 ha0).2 (ok8_3 ha0).2 hc) rfl ⟨(Nat.le_of_ble_eq_true rfl), (Nat.le_of_ble_eq_true rfl)⟩ (Nat.le_of_ble_eq_true rfl) rfl (fun _u V5 h => ?_)
    refine r_aload_n (pc := 26) dX8_image_26 rfl rfl ?_
    refine r_iconst (pc := 27) dX8_image_27 ?_
    refine r_pZs (pc := 28) h dX8_image_28 fw_X8_214 rfl rfl (nf8_12) (ok8 ha0) (fun V6 h => ?_)
    refine r_iconst (pc := 31) dX8_image_31 ?_
    exact r_zrets (pc := 32) h rfl dX8_image_32
set_option maxHeartbeats 4000000 in
theorem cg_X8_image {X : sj_X} {g : sj_G} {N : Nat} {a0 : Nat} {x1 : Int} {V : sj_VV} {q : Int × sj_VV} (ha0 : OK8 g a0) (h : g_X8_image N a0 x1 V = some q) : sj_C X m_X8_image [sj_r (some a0), sj_i x1] (g, V) (some (sj_i q.1), (g, q.2)) :=
  sj_C_of (by decide +kernel) (Nat.le_of_ble_eq_true rfl) (lo := [some (sj_r (some a0)), some (sj_i x1)]) rfl (sj_weak (l2 := [some (sj_r (some a0)), some (sj_i x1)]) (⟨rfl, ⟨rfl, trivial⟩⟩) (st_X8_image_0 a0 x1 V ha0 h))
set_option maxHeartbeats 4000000 in
theorem c_X8_image {X : sj_X} {N : Nat} {a0 : Nat} {x1 : Int} {s : sj_Mem} {q : Int × sj_Mem} (h : f_X8_image N a0 x1 s = some q) : sj_C X m_X8_image [sj_r (some a0), sj_i x1] s (some (sj_i q.1), q.2) := by
  obtain ⟨g, V⟩ := s
  unfold f_X8_image at h
  obtain ⟨ho, h1⟩ := e_ok_some h
  obtain ⟨q2, h2, rfl⟩ := sj_map_some h1
  exact cg_X8_image ho h2
theorem dX8_column_0 : decode cX8_column 0 = .ok (.aload_n 0, 1) := by decide +kernel
theorem dX8_column_1 : decode cX8_column 1 = .ok (.getfield 12, 3) := by decide +kernel
theorem dX8_column_4 : decode cX8_column 4 = .ok (.iload_n 1, 1) := by decide +kernel
theorem dX8_column_5 : decode cX8_column 5 = .ok (.invokevirtual 78, 3) := by decide +kernel
theorem dX8_column_8 : decode cX8_column 8 = .ok (.ifCond .ne 6, 3) := by decide +kernel
theorem dX8_column_11 : decode cX8_column 11 = .ok (.bipush (-10), 2) := by decide +kernel
theorem dX8_column_13 : decode cX8_column 13 = .ok (.ireturn, 1) := by decide +kernel
theorem dX8_column_14 : decode cX8_column 14 = .ok (.iload_n 2, 1) := by decide +kernel
theorem dX8_column_15 : decode cX8_column 15 = .ok (.tableswitch 112 0 8 #[49, 59, 69, 78, 88, 88, 88, 88, 100], 49) := by decide +kernel
theorem dX8_column_64 : decode cX8_column 64 = .ok (.aload_n 0, 1) := by decide +kernel
theorem dX8_column_65 : decode cX8_column 65 = .ok (.getfield 12, 3) := by decide +kernel
theorem dX8_column_68 : decode cX8_column 68 = .ok (.getfield 100, 3) := by decide +kernel
theorem dX8_column_71 : decode cX8_column 71 = .ok (.iload_n 1, 1) := by decide +kernel
theorem dX8_column_72 : decode cX8_column 72 = .ok (.iaload, 1) := by decide +kernel
theorem dX8_column_73 : decode cX8_column 73 = .ok (.ireturn, 1) := by decide +kernel
theorem dX8_column_74 : decode cX8_column 74 = .ok (.aload_n 0, 1) := by decide +kernel
theorem dX8_column_75 : decode cX8_column 75 = .ok (.getfield 12, 3) := by decide +kernel
theorem dX8_column_78 : decode cX8_column 78 = .ok (.getfield 103, 3) := by decide +kernel
theorem dX8_column_81 : decode cX8_column 81 = .ok (.iload_n 1, 1) := by decide +kernel
theorem dX8_column_82 : decode cX8_column 82 = .ok (.iaload, 1) := by decide +kernel
theorem dX8_column_83 : decode cX8_column 83 = .ok (.ireturn, 1) := by decide +kernel
theorem dX8_column_84 : decode cX8_column 84 = .ok (.aload_n 0, 1) := by decide +kernel
theorem dX8_column_85 : decode cX8_column 85 = .ok (.getfield 12, 3) := by decide +kernel
theorem dX8_column_88 : decode cX8_column 88 = .ok (.iload_n 1, 1) := by decide +kernel
theorem dX8_column_89 : decode cX8_column 89 = .ok (.invokevirtual 218, 3) := by decide +kernel
theorem dX8_column_92 : decode cX8_column 92 = .ok (.ireturn, 1) := by decide +kernel
theorem dX8_column_93 : decode cX8_column 93 = .ok (.aload_n 0, 1) := by decide +kernel
theorem dX8_column_94 : decode cX8_column 94 = .ok (.getfield 12, 3) := by decide +kernel
theorem dX8_column_97 : decode cX8_column 97 = .ok (.getfield 90, 3) := by decide +kernel
theorem dX8_column_100 : decode cX8_column 100 = .ok (.iload_n 1, 1) := by decide +kernel
theorem dX8_column_101 : decode cX8_column 101 = .ok (.iaload, 1) := by decide +kernel
theorem dX8_column_102 : decode cX8_column 102 = .ok (.ireturn, 1) := by decide +kernel
theorem dX8_column_103 : decode cX8_column 103 = .ok (.aload_n 0, 1) := by decide +kernel
theorem dX8_column_104 : decode cX8_column 104 = .ok (.getfield 12, 3) := by decide +kernel
theorem dX8_column_107 : decode cX8_column 107 = .ok (.iload_n 2, 1) := by decide +kernel
theorem dX8_column_108 : decode cX8_column 108 = .ok (.iconst 4, 1) := by decide +kernel
theorem dX8_column_109 : decode cX8_column 109 = .ok (.isub, 1) := by decide +kernel
theorem dX8_column_110 : decode cX8_column 110 = .ok (.iload_n 1, 1) := by decide +kernel
theorem dX8_column_111 : decode cX8_column 111 = .ok (.invokevirtual 222, 3) := by decide +kernel
theorem dX8_column_114 : decode cX8_column 114 = .ok (.ireturn, 1) := by decide +kernel
theorem dX8_column_115 : decode cX8_column 115 = .ok (.aload_n 0, 1) := by decide +kernel
theorem dX8_column_116 : decode cX8_column 116 = .ok (.getfield 12, 3) := by decide +kernel
theorem dX8_column_119 : decode cX8_column 119 = .ok (.getfield 106, 3) := by decide +kernel
theorem dX8_column_122 : decode cX8_column 122 = .ok (.iload_n 1, 1) := by decide +kernel
theorem dX8_column_123 : decode cX8_column 123 = .ok (.invokevirtual 225, 3) := by decide +kernel
theorem dX8_column_126 : decode cX8_column 126 = .ok (.ireturn, 1) := by decide +kernel
theorem dX8_column_127 : decode cX8_column 127 = .ok (.bipush (-10), 2) := by decide +kernel
theorem dX8_column_129 : decode cX8_column 129 = .ok (.ireturn, 1) := by decide +kernel
set_option maxHeartbeats 4000000 in
theorem st_X8_column_0 {X : sj_X} {g : sj_G} {s0 : sj_Mem} {N : Nat} {q : Int × sj_VV} :
    ∀ (a0 : Nat) (x1 : Int) (x2 : Int) (V : sj_VV), OK8 g a0 → g_X8_column N a0 x1 x2 V = some q → sj_T X m_X8_column s0 (some (sj_i q.1), (g, q.2)) 0 [some (sj_r (some a0)), some (sj_i x1), some (sj_i x2)] [] (g, V) := by
  intro a0 x1 x2 V ha0 h
  unfold g_X8_column at h
  refine r_aload_n (pc := 0) dX8_column_0 rfl rfl ?_
  refine r_gRs (b := a0 + 1) (pc := 1) dX8_column_1 fw_X8_12 rfl (ok8 ha0) (ok8_0 ha0).1 ?_
  refine r_iload_n (pc := 4) dX8_column_4 rfl rfl ?_
  refine r_callVs (pc := 5) (fun v => some (sj_i v)) (As := [sj_i x1]) (rest := []) (b := (a0 + 1)) (ok0 (ok8_0 ha0).2) h dX8_column_5 mw_X8_78 vw_X0_hasColumn (fun _ _ hc => cg_X0_hasColumn (ok8_0 ha0).2 hc) rfl ⟨(Nat.le_of_ble_eq_true rfl), (Nat.le_of_ble_eq_true rfl)⟩ (Nat.le_of_ble_eq_true rfl) rfl (fun v2 V1 h => ?_)
  refine r_if_ne (pc := 8) (tgt := 14) h dX8_column_8 (by decide) (fun h => ?_) (fun h => ?_)
  · refine r_bipush (pc := 11) dX8_column_11 ⟨by decide, by decide⟩ ?_
    exact r_irets (pc := 13) h rfl dX8_column_13
  · refine r_iload_n (pc := 14) dX8_column_14 rfl rfl ?_
    obtain ⟨hr, h⟩ := e_sw_some h
    refine sj_if h (fun c0 h => ?_) (fun c0 h => ?_)
    · refine r_tcase (pc := 15) (tgt := 64) (j := 0) hr c0 dX8_column_15 (by decide) (by decide) rfl (by decide) ?_
      refine r_aload_n (pc := 64) dX8_column_64 rfl rfl ?_
      refine r_gRs (b := a0 + 1) (pc := 65) dX8_column_65 fw_X8_12 rfl (ok8 ha0) (ok8_0 ha0).1 ?_
      refine r_gRs (b := (a0 + 1) + 1) (pc := 68) dX8_column_68 fw_X8_100 rfl (ok0 (ok8_0 ha0).2) (ok0_3 (ok8_0 ha0).2).1 ?_
      refine r_iload_n (pc := 71) dX8_column_71 rfl rfl ?_
      refine r_ialoads (pc := 72) h dX8_column_72 (ok0_3 (ok8_0 ha0).2).2 (fun h => ?_)
      exact r_irets (pc := 73) h rfl dX8_column_73
    refine sj_if h (fun c1 h => ?_) (fun c1 h => ?_)
    · refine r_tcase (pc := 15) (tgt := 74) (j := 1) hr c1 dX8_column_15 (by decide) (by decide) rfl (by decide) ?_
      refine r_aload_n (pc := 74) dX8_column_74 rfl rfl ?_
      refine r_gRs (b := a0 + 1) (pc := 75) dX8_column_75 fw_X8_12 rfl (ok8 ha0) (ok8_0 ha0).1 ?_
      refine r_gRs (b := (a0 + 1) + 2) (pc := 78) dX8_column_78 fw_X8_103 rfl (ok0 (ok8_0 ha0).2) (ok0_4 (ok8_0 ha0).2).1 ?_
      refine r_iload_n (pc := 81) dX8_column_81 rfl rfl ?_
      refine r_ialoads (pc := 82) h dX8_column_82 (ok0_4 (ok8_0 ha0).2).2 (fun h => ?_)
      exact r_irets (pc := 83) h rfl dX8_column_83
    refine sj_if h (fun c2 h => ?_) (fun c2 h => ?_)
    · refine r_tcase (pc := 15) (tgt := 84) (j := 2) hr c2 dX8_column_15 (by decide) (by decide) rfl (by decide) ?_
      refine r_aload_n (pc := 84) dX8_column_84 rfl rfl ?_
      refine r_gRs (b := a0 + 1) (pc := 85) dX8_column_85 fw_X8_12 rfl (ok8 ha0) (ok8_0 ha0).1 ?_
      refine r_iload_n (pc := 88) dX8_column_88 rfl rfl ?_
      refine r_callVs (pc := 89) (fun v => some (sj_i v)) (As := [sj_i x1]) (rest := []) (b := (a0 + 1)) (ok0 (ok8_0 ha0).2) h dX8_column_89 mw_X8_218 vw_X0_waterAt (fun _ _ hc => cg_X0_waterAt (ok8_0 ha0).2 hc) rfl ⟨(Nat.le_of_ble_eq_true rfl), (Nat.le_of_ble_eq_true rfl)⟩ (Nat.le_of_ble_eq_true rfl) rfl (fun v4 V3 h => ?_)
      exact r_irets (pc := 92) h rfl dX8_column_92
    refine sj_if h (fun c3 h => ?_) (fun c3 h => ?_)
    · refine r_tcase (pc := 15) (tgt := 93) (j := 3) hr c3 dX8_column_15 (by decide) (by decide) rfl (by decide) ?_
      refine r_aload_n (pc := 93) dX8_column_93 rfl rfl ?_
      refine r_gRs (b := a0 + 1) (pc := 94) dX8_column_94 fw_X8_12 rfl (ok8 ha0) (ok8_0 ha0).1 ?_
      refine r_gRs (b := (a0 + 1) + 4) (pc := 97) dX8_column_97 fw_X8_90 rfl (ok0 (ok8_0 ha0).2) (ok0_6 (ok8_0 ha0).2).1 ?_
      refine r_iload_n (pc := 100) dX8_column_100 rfl rfl ?_
      refine r_ialoads (pc := 101) h dX8_column_101 (ok0_6 (ok8_0 ha0).2).2 (fun h => ?_)
      exact r_irets (pc := 102) h rfl dX8_column_102
    refine sj_if h (fun c4 h => ?_) (fun c4 h => ?_)
    · refine r_tcase (pc := 15) (tgt := 103) (j := 4) hr c4 dX8_column_15 (by decide) (by decide) rfl (by decide) ?_
      refine r_aload_n (pc := 103) dX8_column_103 rfl rfl ?_
      refine r_gRs (b := a0 + 1) (pc := 104) dX8_column_104 fw_X8_12 rfl (ok8 ha0) (ok8_0 ha0).1 ?_
      refine r_iload_n (pc := 107) dX8_column_107 rfl rfl ?_
      refine r_iconst (pc := 108) dX8_column_108 ?_
      refine r_isub (pc := 109) dX8_column_109 ?_
      refine r_iload_n (pc := 110) dX8_column_110 rfl rfl ?_
      refine r_callVs (pc := 111) (fun v => some (sj_i v)) (As := [sj_i (x2 - 4), sj_i x1]) (rest := []) (b := (a0 + 1)) (ok0 (ok8_0 ha0).2) h dX8_column_111 mw_X8_222 vw_X0_topAt (fun _ _ hc => cg_X0_topAt (ok8_0 ha0).2 hc) rfl ⟨(Nat.le_of_ble_eq_true rfl), (Nat.le_of_ble_eq_true rfl)⟩ (Nat.le_of_ble_eq_true rfl) rfl (fun v6 V5 h => ?_)
      exact r_irets (pc := 114) h rfl dX8_column_114
    refine sj_if h (fun c5 h => ?_) (fun c5 h => ?_)
    · refine r_tcase (pc := 15) (tgt := 103) (j := 5) hr c5 dX8_column_15 (by decide) (by decide) rfl (by decide) ?_
      refine r_aload_n (pc := 103) dX8_column_103 rfl rfl ?_
      refine r_gRs (b := a0 + 1) (pc := 104) dX8_column_104 fw_X8_12 rfl (ok8 ha0) (ok8_0 ha0).1 ?_
      refine r_iload_n (pc := 107) dX8_column_107 rfl rfl ?_
      refine r_iconst (pc := 108) dX8_column_108 ?_
      refine r_isub (pc := 109) dX8_column_109 ?_
      refine r_iload_n (pc := 110) dX8_column_110 rfl rfl ?_
      refine r_callVs (pc := 111) (fun v => some (sj_i v)) (As := [sj_i (x2 - 4), sj_i x1]) (rest := []) (b := (a0 + 1)) (ok0 (ok8_0 ha0).2) h dX8_column_111 mw_X8_222 vw_X0_topAt (fun _ _ hc => cg_X0_topAt (ok8_0 ha0).2 hc) rfl ⟨(Nat.le_of_ble_eq_true rfl), (Nat.le_of_ble_eq_true rfl)⟩ (Nat.le_of_ble_eq_true rfl) rfl (fun v8 V7 h => ?_)
      exact r_irets (pc := 114) h rfl dX8_column_114
    refine sj_if h (fun c6 h => ?_) (fun c6 h => ?_)
    · refine r_tcase (pc := 15) (tgt := 103) (j := 6) hr c6 dX8_column_15 (by decide) (by decide) rfl (by decide) ?_
      refine r_aload_n (pc := 103) dX8_column_103 rfl rfl ?_
      refine r_gRs (b := a0 + 1) (pc := 104) dX8_column_104 fw_X8_12 rfl (ok8 ha0) (ok8_0 ha0).1 ?_
      refine r_iload_n (pc := 107) dX8_column_107 rfl rfl ?_
      refine r_iconst (pc := 108) dX8_column_108 ?_
      refine r_isub (pc := 109) dX8_column_109 ?_
      refine r_iload_n (pc := 110) dX8_column_110 rfl rfl ?_
      refine r_callVs (pc := 111) (fun v => some (sj_i v)) (As := [sj_i (x2 - 4), sj_i x1]) (rest := []) (b := (a0 + 1)) (ok0 (ok8_0 ha0).2) h dX8_column_111 mw_X8_222 vw_X0_topAt (fun _ _ hc => cg_X0_topAt (ok8_0 ha0).2 hc) rfl ⟨(Nat.le_of_ble_eq_true rfl), (Nat.le_of_ble_eq_true rfl)⟩ (Nat.le_of_ble_eq_true rfl) rfl (fun v10 V9 h => ?_)
      exact r_irets (pc := 114) h rfl dX8_column_114
    refine sj_if h (fun c7 h => ?_) (fun c7 h => ?_)
    · refine r_tcase (pc := 15) (tgt := 103) (j := 7) hr c7 dX8_column_15 (by decide) (by decide) rfl (by decide) ?_
      refine r_aload_n (pc := 103) dX8_column_103 rfl rfl ?_
      refine r_gRs (b := a0 + 1) (pc := 104) dX8_column_104 fw_X8_12 rfl (ok8 ha0) (ok8_0 ha0).1 ?_
      refine r_iload_n (pc := 107) dX8_column_107 rfl rfl ?_
      refine r_iconst (pc := 108) dX8_column_108 ?_
      refine r_isub (pc := 109) dX8_column_109 ?_
      refine r_iload_n (pc := 110) dX8_column_110 rfl rfl ?_
      refine r_callVs (pc := 111) (fun v => some (sj_i v)) (As := [sj_i (x2 - 4), sj_i x1]) (rest := []) (b := (a0 + 1)) (ok0 (ok8_0 ha0).2) h dX8_column_111 mw_X8_222 vw_X0_topAt (fun _ _ hc => cg_X0_topAt (ok8_0 ha0).2 hc) rfl ⟨(Nat.le_of_ble_eq_true rfl), (Nat.le_of_ble_eq_true rfl)⟩ (Nat.le_of_ble_eq_true rfl) rfl (fun v12 V11 h => ?_)
      exact r_irets (pc := 114) h rfl dX8_column_114
    refine sj_if h (fun c8 h => ?_) (fun c8 h => ?_)
    · refine r_tcase (pc := 15) (tgt := 115) (j := 8) hr c8 dX8_column_15 (by decide) (by decide) rfl (by decide) ?_
      refine r_aload_n (pc := 115) dX8_column_115 rfl rfl ?_
      refine r_gRs (b := a0 + 1) (pc := 116) dX8_column_116 fw_X8_12 rfl (ok8 ha0) (ok8_0 ha0).1 ?_
      refine r_gRs (b := (a0 + 1) + 12) (pc := 119) dX8_column_119 fw_X8_106 rfl (ok0 (ok8_0 ha0).2) (ok0_14 (ok8_0 ha0).2).1 ?_
      refine r_iload_n (pc := 122) dX8_column_122 rfl rfl ?_
      refine r_callVs (pc := 123) (fun v => some (sj_i v)) (As := [sj_i x1]) (rest := []) (b := ((a0 + 1) + 12)) (ok5 (ok0_14 (ok8_0 ha0).2).2) h dX8_column_123 mw_X8_225 vw_X5_baseAt (fun _ _ hc => cg_X5_baseAt (ok0_14 (ok8_0 ha0).2).2 hc) rfl ⟨(Nat.le_of_ble_eq_true rfl), (Nat.le_of_ble_eq_true rfl)⟩ (Nat.le_of_ble_eq_true rfl) rfl (fun v14 V13 h => ?_)
      exact r_irets (pc := 126) h rfl dX8_column_126
    refine r_tdflt (pc := 15) (tgt := 127) hr dX8_column_15 (by omega) (by decide) ?_
    refine r_bipush (pc := 127) dX8_column_127 ⟨by decide, by decide⟩ ?_
    exact r_irets (pc := 129) h rfl dX8_column_129
set_option maxHeartbeats 4000000 in
theorem cg_X8_column {X : sj_X} {g : sj_G} {N : Nat} {a0 : Nat} {x1 : Int} {x2 : Int} {V : sj_VV} {q : Int × sj_VV} (ha0 : OK8 g a0) (h : g_X8_column N a0 x1 x2 V = some q) : sj_C X m_X8_column [sj_r (some a0), sj_i x1, sj_i x2] (g, V) (some (sj_i q.1), (g, q.2)) :=
  sj_C_of (by decide +kernel) (Nat.le_of_ble_eq_true rfl) (lo := [some (sj_r (some a0)), some (sj_i x1), some (sj_i x2)]) rfl (sj_weak (l2 := [some (sj_r (some a0)), some (sj_i x1), some (sj_i x2)]) (⟨rfl, ⟨rfl, ⟨rfl, trivial⟩⟩⟩) (st_X8_column_0 a0 x1 x2 V ha0 h))
set_option maxHeartbeats 4000000 in
theorem c_X8_column {X : sj_X} {N : Nat} {a0 : Nat} {x1 : Int} {x2 : Int} {s : sj_Mem} {q : Int × sj_Mem} (h : f_X8_column N a0 x1 x2 s = some q) : sj_C X m_X8_column [sj_r (some a0), sj_i x1, sj_i x2] s (some (sj_i q.1), q.2) := by
  obtain ⟨g, V⟩ := s
  unfold f_X8_column at h
  obtain ⟨ho, h1⟩ := e_ok_some h
  obtain ⟨q2, h2, rfl⟩ := sj_map_some h1
  exact cg_X8_column ho h2
theorem dX8_layer_0 : decode cX8_layer 0 = .ok (.iload_n 1, 1) := by decide +kernel
theorem dX8_layer_1 : decode cX8_layer 1 = .ok (.ifCond .lt 8, 3) := by decide +kernel
theorem dX8_layer_4 : decode cX8_layer 4 = .ok (.iload_n 1, 1) := by decide +kernel
theorem dX8_layer_5 : decode cX8_layer 5 = .ok (.iconst 4, 1) := by decide +kernel
theorem dX8_layer_6 : decode cX8_layer 6 = .ok (.if_icmp .lt 5, 3) := by decide +kernel
theorem dX8_layer_9 : decode cX8_layer 9 = .ok (.iconst (-1), 1) := by decide +kernel
theorem dX8_layer_10 : decode cX8_layer 10 = .ok (.ireturn, 1) := by decide +kernel
theorem dX8_layer_11 : decode cX8_layer 11 = .ok (.iload_n 2, 1) := by decide +kernel
theorem dX8_layer_12 : decode cX8_layer 12 = .ok (.tableswitch 58 0 2 #[28, 38, 48], 28) := by decide +kernel
theorem dX8_layer_40 : decode cX8_layer 40 = .ok (.aload_n 0, 1) := by decide +kernel
theorem dX8_layer_41 : decode cX8_layer 41 = .ok (.getfield 12, 3) := by decide +kernel
theorem dX8_layer_44 : decode cX8_layer 44 = .ok (.getfield 115, 3) := by decide +kernel
theorem dX8_layer_47 : decode cX8_layer 47 = .ok (.iload_n 1, 1) := by decide +kernel
theorem dX8_layer_48 : decode cX8_layer 48 = .ok (.iaload, 1) := by decide +kernel
theorem dX8_layer_49 : decode cX8_layer 49 = .ok (.ireturn, 1) := by decide +kernel
theorem dX8_layer_50 : decode cX8_layer 50 = .ok (.aload_n 0, 1) := by decide +kernel
theorem dX8_layer_51 : decode cX8_layer 51 = .ok (.getfield 12, 3) := by decide +kernel
theorem dX8_layer_54 : decode cX8_layer 54 = .ok (.getfield 118, 3) := by decide +kernel
theorem dX8_layer_57 : decode cX8_layer 57 = .ok (.iload_n 1, 1) := by decide +kernel
theorem dX8_layer_58 : decode cX8_layer 58 = .ok (.iaload, 1) := by decide +kernel
theorem dX8_layer_59 : decode cX8_layer 59 = .ok (.ireturn, 1) := by decide +kernel
theorem dX8_layer_60 : decode cX8_layer 60 = .ok (.aload_n 0, 1) := by decide +kernel
theorem dX8_layer_61 : decode cX8_layer 61 = .ok (.getfield 12, 3) := by decide +kernel
theorem dX8_layer_64 : decode cX8_layer 64 = .ok (.getfield 121, 3) := by decide +kernel
theorem dX8_layer_67 : decode cX8_layer 67 = .ok (.iload_n 1, 1) := by decide +kernel
theorem dX8_layer_68 : decode cX8_layer 68 = .ok (.iaload, 1) := by decide +kernel
theorem dX8_layer_69 : decode cX8_layer 69 = .ok (.ireturn, 1) := by decide +kernel
theorem dX8_layer_70 : decode cX8_layer 70 = .ok (.iconst (-1), 1) := by decide +kernel
theorem dX8_layer_71 : decode cX8_layer 71 = .ok (.ireturn, 1) := by decide +kernel
set_option maxHeartbeats 4000000 in
theorem st_X8_layer_0 {X : sj_X} {g : sj_G} {s0 : sj_Mem} {N : Nat} {q : Int × sj_VV} :
    ∀ (a0 : Nat) (x1 : Int) (x2 : Int) (V : sj_VV), OK8 g a0 → g_X8_layer N a0 x1 x2 V = some q → sj_T X m_X8_layer s0 (some (sj_i q.1), (g, q.2)) 0 [some (sj_r (some a0)), some (sj_i x1), some (sj_i x2)] [] (g, V) := by
  intro a0 x1 x2 V ha0 h
  unfold g_X8_layer at h
  refine r_iload_n (pc := 0) dX8_layer_0 rfl rfl ?_
  refine r_if_lt (pc := 1) (tgt := 9) h dX8_layer_1 (by decide) (fun h => ?_) (fun h => ?_)
  · refine r_iconst (pc := 9) dX8_layer_9 ?_
    exact r_irets (pc := 10) h rfl dX8_layer_10
  · refine r_iload_n (pc := 4) dX8_layer_4 rfl rfl ?_
    refine r_iconst (pc := 5) dX8_layer_5 ?_
    refine r_icmp_lt (pc := 6) (tgt := 11) h dX8_layer_6 (by decide) (fun h => ?_) (fun h => ?_)
    · refine r_iload_n (pc := 11) dX8_layer_11 rfl rfl ?_
      obtain ⟨hr, h⟩ := e_sw_some h
      refine sj_if h (fun c0 h => ?_) (fun c0 h => ?_)
      · refine r_tcase (pc := 12) (tgt := 40) (j := 0) hr c0 dX8_layer_12 (by decide) (by decide) rfl (by decide) ?_
        refine r_aload_n (pc := 40) dX8_layer_40 rfl rfl ?_
        refine r_gRs (b := a0 + 1) (pc := 41) dX8_layer_41 fw_X8_12 rfl (ok8 ha0) (ok8_0 ha0).1 ?_
        refine r_gRs (b := (a0 + 1) + 6) (pc := 44) dX8_layer_44 fw_X8_115 rfl (ok0 (ok8_0 ha0).2) (ok0_8 (ok8_0 ha0).2).1 ?_
        refine r_iload_n (pc := 47) dX8_layer_47 rfl rfl ?_
        refine r_ialoads (pc := 48) h dX8_layer_48 (ok0_8 (ok8_0 ha0).2).2 (fun h => ?_)
        exact r_irets (pc := 49) h rfl dX8_layer_49
      refine sj_if h (fun c1 h => ?_) (fun c1 h => ?_)
      · refine r_tcase (pc := 12) (tgt := 50) (j := 1) hr c1 dX8_layer_12 (by decide) (by decide) rfl (by decide) ?_
        refine r_aload_n (pc := 50) dX8_layer_50 rfl rfl ?_
        refine r_gRs (b := a0 + 1) (pc := 51) dX8_layer_51 fw_X8_12 rfl (ok8 ha0) (ok8_0 ha0).1 ?_
        refine r_gRs (b := (a0 + 1) + 7) (pc := 54) dX8_layer_54 fw_X8_118 rfl (ok0 (ok8_0 ha0).2) (ok0_9 (ok8_0 ha0).2).1 ?_
        refine r_iload_n (pc := 57) dX8_layer_57 rfl rfl ?_
        refine r_ialoads (pc := 58) h dX8_layer_58 (ok0_9 (ok8_0 ha0).2).2 (fun h => ?_)
        exact r_irets (pc := 59) h rfl dX8_layer_59
      refine sj_if h (fun c2 h => ?_) (fun c2 h => ?_)
      · refine r_tcase (pc := 12) (tgt := 60) (j := 2) hr c2 dX8_layer_12 (by decide) (by decide) rfl (by decide) ?_
        refine r_aload_n (pc := 60) dX8_layer_60 rfl rfl ?_
        refine r_gRs (b := a0 + 1) (pc := 61) dX8_layer_61 fw_X8_12 rfl (ok8 ha0) (ok8_0 ha0).1 ?_
        refine r_gRs (b := (a0 + 1) + 8) (pc := 64) dX8_layer_64 fw_X8_121 rfl (ok0 (ok8_0 ha0).2) (ok0_10 (ok8_0 ha0).2).1 ?_
        refine r_iload_n (pc := 67) dX8_layer_67 rfl rfl ?_
        refine r_ialoads (pc := 68) h dX8_layer_68 (ok0_10 (ok8_0 ha0).2).2 (fun h => ?_)
        exact r_irets (pc := 69) h rfl dX8_layer_69
      refine r_tdflt (pc := 12) (tgt := 70) hr dX8_layer_12 (by omega) (by decide) ?_
      refine r_iconst (pc := 70) dX8_layer_70 ?_
      exact r_irets (pc := 71) h rfl dX8_layer_71
    · refine r_iconst (pc := 9) dX8_layer_9 ?_
      exact r_irets (pc := 10) h rfl dX8_layer_10
set_option maxHeartbeats 4000000 in
theorem cg_X8_layer {X : sj_X} {g : sj_G} {N : Nat} {a0 : Nat} {x1 : Int} {x2 : Int} {V : sj_VV} {q : Int × sj_VV} (ha0 : OK8 g a0) (h : g_X8_layer N a0 x1 x2 V = some q) : sj_C X m_X8_layer [sj_r (some a0), sj_i x1, sj_i x2] (g, V) (some (sj_i q.1), (g, q.2)) :=
  sj_C_of (by decide +kernel) (Nat.le_of_ble_eq_true rfl) (lo := [some (sj_r (some a0)), some (sj_i x1), some (sj_i x2)]) rfl (sj_weak (l2 := [some (sj_r (some a0)), some (sj_i x1), some (sj_i x2)]) (⟨rfl, ⟨rfl, ⟨rfl, trivial⟩⟩⟩) (st_X8_layer_0 a0 x1 x2 V ha0 h))
set_option maxHeartbeats 4000000 in
theorem c_X8_layer {X : sj_X} {N : Nat} {a0 : Nat} {x1 : Int} {x2 : Int} {s : sj_Mem} {q : Int × sj_Mem} (h : f_X8_layer N a0 x1 x2 s = some q) : sj_C X m_X8_layer [sj_r (some a0), sj_i x1, sj_i x2] s (some (sj_i q.1), q.2) := by
  obtain ⟨g, V⟩ := s
  unfold f_X8_layer at h
  obtain ⟨ho, h1⟩ := e_ok_some h
  obtain ⟨q2, h2, rfl⟩ := sj_map_some h1
  exact cg_X8_layer ho h2
theorem dX8_anchored_0 : decode cX8_anchored 0 = .ok (.iload_n 1, 1) := by decide +kernel
theorem dX8_anchored_1 : decode cX8_anchored 1 = .ok (.ifCond .lt 21, 3) := by decide +kernel
theorem dX8_anchored_4 : decode cX8_anchored 4 = .ok (.iload_n 1, 1) := by decide +kernel
theorem dX8_anchored_5 : decode cX8_anchored 5 = .ok (.bipush 6, 2) := by decide +kernel
theorem dX8_anchored_7 : decode cX8_anchored 7 = .ok (.if_icmp .ge 15, 3) := by decide +kernel
theorem dX8_anchored_10 : decode cX8_anchored 10 = .ok (.aload_n 0, 1) := by decide +kernel
theorem dX8_anchored_11 : decode cX8_anchored 11 = .ok (.getfield 12, 3) := by decide +kernel
theorem dX8_anchored_14 : decode cX8_anchored 14 = .ok (.getfield 134, 3) := by decide +kernel
theorem dX8_anchored_17 : decode cX8_anchored 17 = .ok (.iload_n 1, 1) := by decide +kernel
theorem dX8_anchored_18 : decode cX8_anchored 18 = .ok (.iaload, 1) := by decide +kernel
theorem dX8_anchored_19 : decode cX8_anchored 19 = .ok (.ifCond .ne 5, 3) := by decide +kernel
theorem dX8_anchored_22 : decode cX8_anchored 22 = .ok (.iconst (-1), 1) := by decide +kernel
theorem dX8_anchored_23 : decode cX8_anchored 23 = .ok (.ireturn, 1) := by decide +kernel
theorem dX8_anchored_24 : decode cX8_anchored 24 = .ok (.iload_n 2, 1) := by decide +kernel
theorem dX8_anchored_25 : decode cX8_anchored 25 = .ok (.tableswitch 85 0 3 #[31, 41, 51, 61], 31) := by decide +kernel
theorem dX8_anchored_56 : decode cX8_anchored 56 = .ok (.aload_n 0, 1) := by decide +kernel
theorem dX8_anchored_57 : decode cX8_anchored 57 = .ok (.getfield 12, 3) := by decide +kernel
theorem dX8_anchored_60 : decode cX8_anchored 60 = .ok (.getfield 128, 3) := by decide +kernel
theorem dX8_anchored_63 : decode cX8_anchored 63 = .ok (.iload_n 1, 1) := by decide +kernel
theorem dX8_anchored_64 : decode cX8_anchored 64 = .ok (.iaload, 1) := by decide +kernel
theorem dX8_anchored_65 : decode cX8_anchored 65 = .ok (.ireturn, 1) := by decide +kernel
theorem dX8_anchored_66 : decode cX8_anchored 66 = .ok (.aload_n 0, 1) := by decide +kernel
theorem dX8_anchored_67 : decode cX8_anchored 67 = .ok (.getfield 12, 3) := by decide +kernel
theorem dX8_anchored_70 : decode cX8_anchored 70 = .ok (.getfield 131, 3) := by decide +kernel
theorem dX8_anchored_73 : decode cX8_anchored 73 = .ok (.iload_n 1, 1) := by decide +kernel
theorem dX8_anchored_74 : decode cX8_anchored 74 = .ok (.iaload, 1) := by decide +kernel
theorem dX8_anchored_75 : decode cX8_anchored 75 = .ok (.ireturn, 1) := by decide +kernel
theorem dX8_anchored_76 : decode cX8_anchored 76 = .ok (.aload_n 0, 1) := by decide +kernel
theorem dX8_anchored_77 : decode cX8_anchored 77 = .ok (.getfield 12, 3) := by decide +kernel
theorem dX8_anchored_80 : decode cX8_anchored 80 = .ok (.getfield 134, 3) := by decide +kernel
theorem dX8_anchored_83 : decode cX8_anchored 83 = .ok (.iload_n 1, 1) := by decide +kernel
theorem dX8_anchored_84 : decode cX8_anchored 84 = .ok (.iaload, 1) := by decide +kernel
theorem dX8_anchored_85 : decode cX8_anchored 85 = .ok (.ireturn, 1) := by decide +kernel
theorem dX8_anchored_86 : decode cX8_anchored 86 = .ok (.aload_n 0, 1) := by decide +kernel
theorem dX8_anchored_87 : decode cX8_anchored 87 = .ok (.getfield 12, 3) := by decide +kernel
theorem dX8_anchored_90 : decode cX8_anchored 90 = .ok (.iload_n 1, 1) := by decide +kernel
theorem dX8_anchored_91 : decode cX8_anchored 91 = .ok (.aload_n 0, 1) := by decide +kernel
theorem dX8_anchored_92 : decode cX8_anchored 92 = .ok (.getfield 12, 3) := by decide +kernel
theorem dX8_anchored_95 : decode cX8_anchored 95 = .ok (.getfield 106, 3) := by decide +kernel
theorem dX8_anchored_98 : decode cX8_anchored 98 = .ok (.invokevirtual 228, 3) := by decide +kernel
theorem dX8_anchored_101 : decode cX8_anchored 101 = .ok (.ifCond .eq 7, 3) := by decide +kernel
theorem dX8_anchored_104 : decode cX8_anchored 104 = .ok (.iconst 1, 1) := by decide +kernel
theorem dX8_anchored_105 : decode cX8_anchored 105 = .ok (.goto 4, 3) := by decide +kernel
theorem dX8_anchored_108 : decode cX8_anchored 108 = .ok (.iconst 0, 1) := by decide +kernel
theorem dX8_anchored_109 : decode cX8_anchored 109 = .ok (.ireturn, 1) := by decide +kernel
theorem dX8_anchored_110 : decode cX8_anchored 110 = .ok (.iconst (-1), 1) := by decide +kernel
theorem dX8_anchored_111 : decode cX8_anchored 111 = .ok (.ireturn, 1) := by decide +kernel
set_option maxHeartbeats 4000000 in
theorem st_X8_anchored_0 {X : sj_X} {g : sj_G} {s0 : sj_Mem} {N : Nat} {q : Int × sj_VV} :
    ∀ (a0 : Nat) (x1 : Int) (x2 : Int) (V : sj_VV), OK8 g a0 → g_X8_anchored N a0 x1 x2 V = some q → sj_T X m_X8_anchored s0 (some (sj_i q.1), (g, q.2)) 0 [some (sj_r (some a0)), some (sj_i x1), some (sj_i x2)] [] (g, V) := by
  intro a0 x1 x2 V ha0 h
  unfold g_X8_anchored at h
  refine r_iload_n (pc := 0) dX8_anchored_0 rfl rfl ?_
  refine r_if_lt (pc := 1) (tgt := 22) h dX8_anchored_1 (by decide) (fun h => ?_) (fun h => ?_)
  · refine r_iconst (pc := 22) dX8_anchored_22 ?_
    exact r_irets (pc := 23) h rfl dX8_anchored_23
  · refine r_iload_n (pc := 4) dX8_anchored_4 rfl rfl ?_
    refine r_bipush (pc := 5) dX8_anchored_5 ⟨by decide, by decide⟩ ?_
    refine r_icmp_ge (pc := 7) (tgt := 22) h dX8_anchored_7 (by decide) (fun h => ?_) (fun h => ?_)
    · refine r_iconst (pc := 22) dX8_anchored_22 ?_
      exact r_irets (pc := 23) h rfl dX8_anchored_23
    · refine r_aload_n (pc := 10) dX8_anchored_10 rfl rfl ?_
      refine r_gRs (b := a0 + 1) (pc := 11) dX8_anchored_11 fw_X8_12 rfl (ok8 ha0) (ok8_0 ha0).1 ?_
      refine r_gRs (b := (a0 + 1) + 11) (pc := 14) dX8_anchored_14 fw_X8_134 rfl (ok0 (ok8_0 ha0).2) (ok0_13 (ok8_0 ha0).2).1 ?_
      refine r_iload_n (pc := 17) dX8_anchored_17 rfl rfl ?_
      refine r_ialoads (pc := 18) h dX8_anchored_18 (ok0_13 (ok8_0 ha0).2).2 (fun h => ?_)
      refine r_if_ne (pc := 19) (tgt := 24) h dX8_anchored_19 (by decide) (fun h => ?_) (fun h => ?_)
      · refine r_iconst (pc := 22) dX8_anchored_22 ?_
        exact r_irets (pc := 23) h rfl dX8_anchored_23
      · refine r_iload_n (pc := 24) dX8_anchored_24 rfl rfl ?_
        obtain ⟨hr, h⟩ := e_sw_some h
        refine sj_if h (fun c0 h => ?_) (fun c0 h => ?_)
        · refine r_tcase (pc := 25) (tgt := 56) (j := 0) hr c0 dX8_anchored_25 (by decide) (by decide) rfl (by decide) ?_
          refine r_aload_n (pc := 56) dX8_anchored_56 rfl rfl ?_
          refine r_gRs (b := a0 + 1) (pc := 57) dX8_anchored_57 fw_X8_12 rfl (ok8 ha0) (ok8_0 ha0).1 ?_
          refine r_gRs (b := (a0 + 1) + 9) (pc := 60) dX8_anchored_60 fw_X8_128 rfl (ok0 (ok8_0 ha0).2) (ok0_11 (ok8_0 ha0).2).1 ?_
          refine r_iload_n (pc := 63) dX8_anchored_63 rfl rfl ?_
          refine r_ialoads (pc := 64) h dX8_anchored_64 (ok0_11 (ok8_0 ha0).2).2 (fun h => ?_)
          exact r_irets (pc := 65) h rfl dX8_anchored_65
        refine sj_if h (fun c1 h => ?_) (fun c1 h => ?_)
        · refine r_tcase (pc := 25) (tgt := 66) (j := 1) hr c1 dX8_anchored_25 (by decide) (by decide) rfl (by decide) ?_
          refine r_aload_n (pc := 66) dX8_anchored_66 rfl rfl ?_
          refine r_gRs (b := a0 + 1) (pc := 67) dX8_anchored_67 fw_X8_12 rfl (ok8 ha0) (ok8_0 ha0).1 ?_
          refine r_gRs (b := (a0 + 1) + 10) (pc := 70) dX8_anchored_70 fw_X8_131 rfl (ok0 (ok8_0 ha0).2) (ok0_12 (ok8_0 ha0).2).1 ?_
          refine r_iload_n (pc := 73) dX8_anchored_73 rfl rfl ?_
          refine r_ialoads (pc := 74) h dX8_anchored_74 (ok0_12 (ok8_0 ha0).2).2 (fun h => ?_)
          exact r_irets (pc := 75) h rfl dX8_anchored_75
        refine sj_if h (fun c2 h => ?_) (fun c2 h => ?_)
        · refine r_tcase (pc := 25) (tgt := 76) (j := 2) hr c2 dX8_anchored_25 (by decide) (by decide) rfl (by decide) ?_
          refine r_aload_n (pc := 76) dX8_anchored_76 rfl rfl ?_
          refine r_gRs (b := a0 + 1) (pc := 77) dX8_anchored_77 fw_X8_12 rfl (ok8 ha0) (ok8_0 ha0).1 ?_
          refine r_gRs (b := (a0 + 1) + 11) (pc := 80) dX8_anchored_80 fw_X8_134 rfl (ok0 (ok8_0 ha0).2) (ok0_13 (ok8_0 ha0).2).1 ?_
          refine r_iload_n (pc := 83) dX8_anchored_83 rfl rfl ?_
          refine r_ialoads (pc := 84) h dX8_anchored_84 (ok0_13 (ok8_0 ha0).2).2 (fun h => ?_)
          exact r_irets (pc := 85) h rfl dX8_anchored_85
        refine sj_if h (fun c3 h => ?_) (fun c3 h => ?_)
        · refine r_tcase (pc := 25) (tgt := 86) (j := 3) hr c3 dX8_anchored_25 (by decide) (by decide) rfl (by decide) ?_
          refine r_aload_n (pc := 86) dX8_anchored_86 rfl rfl ?_
          refine r_gRs (b := a0 + 1) (pc := 87) dX8_anchored_87 fw_X8_12 rfl (ok8 ha0) (ok8_0 ha0).1 ?_
          refine r_iload_n (pc := 90) dX8_anchored_90 rfl rfl ?_
          refine r_aload_n (pc := 91) dX8_anchored_91 rfl rfl ?_
          refine r_gRs (b := a0 + 1) (pc := 92) dX8_anchored_92 fw_X8_12 rfl (ok8 ha0) (ok8_0 ha0).1 ?_
          refine r_gRs (b := (a0 + 1) + 12) (pc := 95) dX8_anchored_95 fw_X8_106 rfl (ok0 (ok8_0 ha0).2) (ok0_14 (ok8_0 ha0).2).1 ?_
          refine r_callVs (pc := 98) (fun v => some (sj_i v)) (As := [sj_i x1, sj_r (some ((a0 + 1) + 12))]) (rest := []) (b := (a0 + 1)) (ok0 (ok8_0 ha0).2) h dX8_anchored_98 mw_X8_228 vw_X0_anchorCounts (fun _ _ hc => cg_X0_anchorCounts (ok8_0 ha0).2 (ok0_14 (ok8_0 ha0).2).2 hc) rfl ⟨(Nat.le_of_ble_eq_true rfl), (Nat.le_of_ble_eq_true rfl)⟩ (Nat.le_of_ble_eq_true rfl) rfl (fun v2 V1 h => ?_)
          refine r_if_eq (pc := 101) (tgt := 108) h dX8_anchored_101 (by decide) (fun h => ?_) (fun h => ?_)
          · refine r_iconst (pc := 108) dX8_anchored_108 ?_
            exact r_irets (pc := 109) h rfl dX8_anchored_109
          · refine r_iconst (pc := 104) dX8_anchored_104 ?_
            refine r_goto (pc := 105) (tgt := 109) dX8_anchored_105 (by decide) ?_
            exact r_irets (pc := 109) h rfl dX8_anchored_109
        refine r_tdflt (pc := 25) (tgt := 110) hr dX8_anchored_25 (by omega) (by decide) ?_
        refine r_iconst (pc := 110) dX8_anchored_110 ?_
        exact r_irets (pc := 111) h rfl dX8_anchored_111
set_option maxHeartbeats 4000000 in
theorem cg_X8_anchored {X : sj_X} {g : sj_G} {N : Nat} {a0 : Nat} {x1 : Int} {x2 : Int} {V : sj_VV} {q : Int × sj_VV} (ha0 : OK8 g a0) (h : g_X8_anchored N a0 x1 x2 V = some q) : sj_C X m_X8_anchored [sj_r (some a0), sj_i x1, sj_i x2] (g, V) (some (sj_i q.1), (g, q.2)) :=
  sj_C_of (by decide +kernel) (Nat.le_of_ble_eq_true rfl) (lo := [some (sj_r (some a0)), some (sj_i x1), some (sj_i x2)]) rfl (sj_weak (l2 := [some (sj_r (some a0)), some (sj_i x1), some (sj_i x2)]) (⟨rfl, ⟨rfl, ⟨rfl, trivial⟩⟩⟩) (st_X8_anchored_0 a0 x1 x2 V ha0 h))
set_option maxHeartbeats 4000000 in
theorem c_X8_anchored {X : sj_X} {N : Nat} {a0 : Nat} {x1 : Int} {x2 : Int} {s : sj_Mem} {q : Int × sj_Mem} (h : f_X8_anchored N a0 x1 x2 s = some q) : sj_C X m_X8_anchored [sj_r (some a0), sj_i x1, sj_i x2] s (some (sj_i q.1), q.2) := by
  obtain ⟨g, V⟩ := s
  unfold f_X8_anchored at h
  obtain ⟨ho, h1⟩ := e_ok_some h
  obtain ⟨q2, h2, rfl⟩ := sj_map_some h1
  exact cg_X8_anchored ho h2
theorem dX8_look_0 : decode cX8_look 0 = .ok (.iload_n 1, 1) := by decide +kernel
theorem dX8_look_1 : decode cX8_look 1 = .ok (.tableswitch 217 0 13 #[71, 79, 87, 95, 103, 114, 125, 136, 172, 180, 185, 193, 201, 209], 71) := by decide +kernel
theorem dX8_look_72 : decode cX8_look 72 = .ok (.aload_n 0, 1) := by decide +kernel
theorem dX8_look_73 : decode cX8_look 73 = .ok (.getfield 12, 3) := by decide +kernel
theorem dX8_look_76 : decode cX8_look 76 = .ok (.getfield 232, 3) := by decide +kernel
theorem dX8_look_79 : decode cX8_look 79 = .ok (.ireturn, 1) := by decide +kernel
theorem dX8_look_80 : decode cX8_look 80 = .ok (.aload_n 0, 1) := by decide +kernel
theorem dX8_look_81 : decode cX8_look 81 = .ok (.getfield 12, 3) := by decide +kernel
theorem dX8_look_84 : decode cX8_look 84 = .ok (.getfield 235, 3) := by decide +kernel
theorem dX8_look_87 : decode cX8_look 87 = .ok (.ireturn, 1) := by decide +kernel
theorem dX8_look_88 : decode cX8_look 88 = .ok (.aload_n 0, 1) := by decide +kernel
theorem dX8_look_89 : decode cX8_look 89 = .ok (.getfield 12, 3) := by decide +kernel
theorem dX8_look_92 : decode cX8_look 92 = .ok (.getfield 124, 3) := by decide +kernel
theorem dX8_look_95 : decode cX8_look 95 = .ok (.ireturn, 1) := by decide +kernel
theorem dX8_look_96 : decode cX8_look 96 = .ok (.aload_n 0, 1) := by decide +kernel
theorem dX8_look_97 : decode cX8_look 97 = .ok (.getfield 12, 3) := by decide +kernel
theorem dX8_look_100 : decode cX8_look 100 = .ok (.invokevirtual 238, 3) := by decide +kernel
theorem dX8_look_103 : decode cX8_look 103 = .ok (.ireturn, 1) := by decide +kernel
theorem dX8_look_104 : decode cX8_look 104 = .ok (.aload_n 0, 1) := by decide +kernel
theorem dX8_look_105 : decode cX8_look 105 = .ok (.getfield 12, 3) := by decide +kernel
theorem dX8_look_108 : decode cX8_look 108 = .ok (.getfield 106, 3) := by decide +kernel
theorem dX8_look_111 : decode cX8_look 111 = .ok (.invokevirtual 199, 3) := by decide +kernel
theorem dX8_look_114 : decode cX8_look 114 = .ok (.ireturn, 1) := by decide +kernel
theorem dX8_look_115 : decode cX8_look 115 = .ok (.aload_n 0, 1) := by decide +kernel
theorem dX8_look_116 : decode cX8_look 116 = .ok (.getfield 12, 3) := by decide +kernel
theorem dX8_look_119 : decode cX8_look 119 = .ok (.getfield 106, 3) := by decide +kernel
theorem dX8_look_122 : decode cX8_look 122 = .ok (.getfield 241, 3) := by decide +kernel
theorem dX8_look_125 : decode cX8_look 125 = .ok (.ireturn, 1) := by decide +kernel
theorem dX8_look_126 : decode cX8_look 126 = .ok (.aload_n 0, 1) := by decide +kernel
theorem dX8_look_127 : decode cX8_look 127 = .ok (.getfield 12, 3) := by decide +kernel
theorem dX8_look_130 : decode cX8_look 130 = .ok (.getfield 106, 3) := by decide +kernel
theorem dX8_look_133 : decode cX8_look 133 = .ok (.getfield 244, 3) := by decide +kernel
theorem dX8_look_136 : decode cX8_look 136 = .ok (.ireturn, 1) := by decide +kernel
theorem dX8_look_137 : decode cX8_look 137 = .ok (.aload_n 0, 1) := by decide +kernel
theorem dX8_look_138 : decode cX8_look 138 = .ok (.getfield 12, 3) := by decide +kernel
theorem dX8_look_141 : decode cX8_look 141 = .ok (.getfield 106, 3) := by decide +kernel
theorem dX8_look_144 : decode cX8_look 144 = .ok (.invokevirtual 192, 3) := by decide +kernel
theorem dX8_look_147 : decode cX8_look 147 = .ok (.ifCond .eq 7, 3) := by decide +kernel
theorem dX8_look_150 : decode cX8_look 150 = .ok (.iconst (-1), 1) := by decide +kernel
theorem dX8_look_151 : decode cX8_look 151 = .ok (.goto 21, 3) := by decide +kernel
theorem dX8_look_154 : decode cX8_look 154 = .ok (.aload_n 0, 1) := by decide +kernel
theorem dX8_look_155 : decode cX8_look 155 = .ok (.getfield 12, 3) := by decide +kernel
theorem dX8_look_158 : decode cX8_look 158 = .ok (.getfield 106, 3) := by decide +kernel
theorem dX8_look_161 : decode cX8_look 161 = .ok (.getfield 247, 3) := by decide +kernel
theorem dX8_look_164 : decode cX8_look 164 = .ok (.ifCond .eq 7, 3) := by decide +kernel
theorem dX8_look_167 : decode cX8_look 167 = .ok (.iconst 1, 1) := by decide +kernel
theorem dX8_look_168 : decode cX8_look 168 = .ok (.goto 4, 3) := by decide +kernel
theorem dX8_look_171 : decode cX8_look 171 = .ok (.iconst 0, 1) := by decide +kernel
theorem dX8_look_172 : decode cX8_look 172 = .ok (.ireturn, 1) := by decide +kernel
theorem dX8_look_173 : decode cX8_look 173 = .ok (.aload_n 0, 1) := by decide +kernel
theorem dX8_look_174 : decode cX8_look 174 = .ok (.getfield 25, 3) := by decide +kernel
theorem dX8_look_177 : decode cX8_look 177 = .ok (.getfield 170, 3) := by decide +kernel
theorem dX8_look_180 : decode cX8_look 180 = .ok (.ireturn, 1) := by decide +kernel
theorem dX8_look_181 : decode cX8_look 181 = .ok (.aload_n 0, 1) := by decide +kernel
theorem dX8_look_182 : decode cX8_look 182 = .ok (.getfield 208, 3) := by decide +kernel
theorem dX8_look_185 : decode cX8_look 185 = .ok (.ireturn, 1) := by decide +kernel
theorem dX8_look_186 : decode cX8_look 186 = .ok (.aload_n 0, 1) := by decide +kernel
theorem dX8_look_187 : decode cX8_look 187 = .ok (.getfield 46, 3) := by decide +kernel
theorem dX8_look_190 : decode cX8_look 190 = .ok (.getfield 137, 3) := by decide +kernel
theorem dX8_look_193 : decode cX8_look 193 = .ok (.ireturn, 1) := by decide +kernel
theorem dX8_look_194 : decode cX8_look 194 = .ok (.aload_n 0, 1) := by decide +kernel
theorem dX8_look_195 : decode cX8_look 195 = .ok (.getfield 12, 3) := by decide +kernel
theorem dX8_look_198 : decode cX8_look 198 = .ok (.invokevirtual 250, 3) := by decide +kernel
theorem dX8_look_201 : decode cX8_look 201 = .ok (.ireturn, 1) := by decide +kernel
theorem dX8_look_202 : decode cX8_look 202 = .ok (.aload_n 0, 1) := by decide +kernel
theorem dX8_look_203 : decode cX8_look 203 = .ok (.getfield 12, 3) := by decide +kernel
theorem dX8_look_206 : decode cX8_look 206 = .ok (.invokevirtual 253, 3) := by decide +kernel
theorem dX8_look_209 : decode cX8_look 209 = .ok (.ireturn, 1) := by decide +kernel
theorem dX8_look_210 : decode cX8_look 210 = .ok (.aload_n 0, 1) := by decide +kernel
theorem dX8_look_211 : decode cX8_look 211 = .ok (.getfield 25, 3) := by decide +kernel
theorem dX8_look_214 : decode cX8_look 214 = .ok (.getfield 256, 3) := by decide +kernel
theorem dX8_look_217 : decode cX8_look 217 = .ok (.ireturn, 1) := by decide +kernel
theorem dX8_look_218 : decode cX8_look 218 = .ok (.bipush (-10), 2) := by decide +kernel
theorem dX8_look_220 : decode cX8_look 220 = .ok (.ireturn, 1) := by decide +kernel
set_option maxHeartbeats 4000000 in
theorem st_X8_look_0 {X : sj_X} {g : sj_G} {s0 : sj_Mem} {N : Nat} {q : Int × sj_VV} :
    ∀ (a0 : Nat) (x1 : Int) (V : sj_VV), OK8 g a0 → g_X8_look N a0 x1 V = some q → sj_T X m_X8_look s0 (some (sj_i q.1), (g, q.2)) 0 [some (sj_r (some a0)), some (sj_i x1)] [] (g, V) := by
  intro a0 x1 V ha0 h
  unfold g_X8_look at h
  refine r_iload_n (pc := 0) dX8_look_0 rfl rfl ?_
  obtain ⟨hr, h⟩ := e_sw_some h
  refine sj_if h (fun c0 h => ?_) (fun c0 h => ?_)
  · refine r_tcase (pc := 1) (tgt := 72) (j := 0) hr c0 dX8_look_1 (by decide) (by decide) rfl (by decide) ?_
    refine r_aload_n (pc := 72) dX8_look_72 rfl rfl ?_
    refine r_gRs (b := a0 + 1) (pc := 73) dX8_look_73 fw_X8_12 rfl (ok8 ha0) (ok8_0 ha0).1 ?_
    refine r_gIs (pc := 76) dX8_look_76 fw_X8_232 rfl (ok0 (ok8_0 ha0).2) ?_
    exact r_irets (pc := 79) h rfl dX8_look_79
  refine sj_if h (fun c1 h => ?_) (fun c1 h => ?_)
  · refine r_tcase (pc := 1) (tgt := 80) (j := 1) hr c1 dX8_look_1 (by decide) (by decide) rfl (by decide) ?_
    refine r_aload_n (pc := 80) dX8_look_80 rfl rfl ?_
    refine r_gRs (b := a0 + 1) (pc := 81) dX8_look_81 fw_X8_12 rfl (ok8 ha0) (ok8_0 ha0).1 ?_
    refine r_gIs (pc := 84) dX8_look_84 fw_X8_235 rfl (ok0 (ok8_0 ha0).2) ?_
    exact r_irets (pc := 87) h rfl dX8_look_87
  refine sj_if h (fun c2 h => ?_) (fun c2 h => ?_)
  · refine r_tcase (pc := 1) (tgt := 88) (j := 2) hr c2 dX8_look_1 (by decide) (by decide) rfl (by decide) ?_
    refine r_aload_n (pc := 88) dX8_look_88 rfl rfl ?_
    refine r_gRs (b := a0 + 1) (pc := 89) dX8_look_89 fw_X8_12 rfl (ok8 ha0) (ok8_0 ha0).1 ?_
    refine r_gIs (pc := 92) dX8_look_92 fw_X8_124 rfl (ok0 (ok8_0 ha0).2) ?_
    exact r_irets (pc := 95) h rfl dX8_look_95
  refine sj_if h (fun c3 h => ?_) (fun c3 h => ?_)
  · refine r_tcase (pc := 1) (tgt := 96) (j := 3) hr c3 dX8_look_1 (by decide) (by decide) rfl (by decide) ?_
    refine r_aload_n (pc := 96) dX8_look_96 rfl rfl ?_
    refine r_gRs (b := a0 + 1) (pc := 97) dX8_look_97 fw_X8_12 rfl (ok8 ha0) (ok8_0 ha0).1 ?_
    refine r_callVs (pc := 100) (fun v => some (sj_i v)) (As := []) (rest := []) (b := (a0 + 1)) (ok0 (ok8_0 ha0).2) h dX8_look_100 mw_X8_238 vw_X0_anchorSet (fun _ _ hc => cg_X0_anchorSet (ok8_0 ha0).2 hc) rfl ⟨(Nat.le_of_ble_eq_true rfl), (Nat.le_of_ble_eq_true rfl)⟩ (Nat.le_of_ble_eq_true rfl) rfl (fun v2 V1 h => ?_)
    exact r_irets (pc := 103) h rfl dX8_look_103
  refine sj_if h (fun c4 h => ?_) (fun c4 h => ?_)
  · refine r_tcase (pc := 1) (tgt := 104) (j := 4) hr c4 dX8_look_1 (by decide) (by decide) rfl (by decide) ?_
    refine r_aload_n (pc := 104) dX8_look_104 rfl rfl ?_
    refine r_gRs (b := a0 + 1) (pc := 105) dX8_look_105 fw_X8_12 rfl (ok8 ha0) (ok8_0 ha0).1 ?_
    refine r_gRs (b := (a0 + 1) + 12) (pc := 108) dX8_look_108 fw_X8_106 rfl (ok0 (ok8_0 ha0).2) (ok0_14 (ok8_0 ha0).2).1 ?_
    refine r_callVs (pc := 111) (fun v => some (sj_i v)) (As := []) (rest := []) (b := ((a0 + 1) + 12)) (ok5 (ok0_14 (ok8_0 ha0).2).2) h dX8_look_111 mw_X8_199 vw_X5_count (fun _ _ hc => cg_X5_count (ok0_14 (ok8_0 ha0).2).2 hc) rfl ⟨(Nat.le_of_ble_eq_true rfl), (Nat.le_of_ble_eq_true rfl)⟩ (Nat.le_of_ble_eq_true rfl) rfl (fun v4 V3 h => ?_)
    exact r_irets (pc := 114) h rfl dX8_look_114
  refine sj_if h (fun c5 h => ?_) (fun c5 h => ?_)
  · refine r_tcase (pc := 1) (tgt := 115) (j := 5) hr c5 dX8_look_1 (by decide) (by decide) rfl (by decide) ?_
    refine r_aload_n (pc := 115) dX8_look_115 rfl rfl ?_
    refine r_gRs (b := a0 + 1) (pc := 116) dX8_look_116 fw_X8_12 rfl (ok8 ha0) (ok8_0 ha0).1 ?_
    refine r_gRs (b := (a0 + 1) + 12) (pc := 119) dX8_look_119 fw_X8_106 rfl (ok0 (ok8_0 ha0).2) (ok0_14 (ok8_0 ha0).2).1 ?_
    refine r_gIs (pc := 122) dX8_look_122 fw_X8_241 rfl (ok5 (ok0_14 (ok8_0 ha0).2).2) ?_
    exact r_irets (pc := 125) h rfl dX8_look_125
  refine sj_if h (fun c6 h => ?_) (fun c6 h => ?_)
  · refine r_tcase (pc := 1) (tgt := 126) (j := 6) hr c6 dX8_look_1 (by decide) (by decide) rfl (by decide) ?_
    refine r_aload_n (pc := 126) dX8_look_126 rfl rfl ?_
    refine r_gRs (b := a0 + 1) (pc := 127) dX8_look_127 fw_X8_12 rfl (ok8 ha0) (ok8_0 ha0).1 ?_
    refine r_gRs (b := (a0 + 1) + 12) (pc := 130) dX8_look_130 fw_X8_106 rfl (ok0 (ok8_0 ha0).2) (ok0_14 (ok8_0 ha0).2).1 ?_
    refine r_gIs (pc := 133) dX8_look_133 fw_X8_244 rfl (ok5 (ok0_14 (ok8_0 ha0).2).2) ?_
    exact r_irets (pc := 136) h rfl dX8_look_136
  refine sj_if h (fun c7 h => ?_) (fun c7 h => ?_)
  · refine r_tcase (pc := 1) (tgt := 137) (j := 7) hr c7 dX8_look_1 (by decide) (by decide) rfl (by decide) ?_
    refine r_aload_n (pc := 137) dX8_look_137 rfl rfl ?_
    refine r_gRs (b := a0 + 1) (pc := 138) dX8_look_138 fw_X8_12 rfl (ok8 ha0) (ok8_0 ha0).1 ?_
    refine r_gRs (b := (a0 + 1) + 12) (pc := 141) dX8_look_141 fw_X8_106 rfl (ok0 (ok8_0 ha0).2) (ok0_14 (ok8_0 ha0).2).1 ?_
    refine r_callVs (pc := 144) (fun v => some (sj_i v)) (As := []) (rest := []) (b := ((a0 + 1) + 12)) (ok5 (ok0_14 (ok8_0 ha0).2).2) h dX8_look_144 mw_X8_192 vw_X5_isNone (fun _ _ hc => cg_X5_isNone (ok0_14 (ok8_0 ha0).2).2 hc) rfl ⟨(Nat.le_of_ble_eq_true rfl), (Nat.le_of_ble_eq_true rfl)⟩ (Nat.le_of_ble_eq_true rfl) rfl (fun v6 V5 h => ?_)
    refine r_if_eq (pc := 147) (tgt := 154) h dX8_look_147 (by decide) (fun h => ?_) (fun h => ?_)
    · refine r_aload_n (pc := 154) dX8_look_154 rfl rfl ?_
      refine r_gRs (b := a0 + 1) (pc := 155) dX8_look_155 fw_X8_12 rfl (ok8 ha0) (ok8_0 ha0).1 ?_
      refine r_gRs (b := (a0 + 1) + 12) (pc := 158) dX8_look_158 fw_X8_106 rfl (ok0 (ok8_0 ha0).2) (ok0_14 (ok8_0 ha0).2).1 ?_
      refine r_gIs (pc := 161) dX8_look_161 fw_X8_247 rfl (ok5 (ok0_14 (ok8_0 ha0).2).2) ?_
      refine r_if_eq (pc := 164) (tgt := 171) h dX8_look_164 (by decide) (fun h => ?_) (fun h => ?_)
      · refine r_iconst (pc := 171) dX8_look_171 ?_
        exact r_irets (pc := 172) h rfl dX8_look_172
      · refine r_iconst (pc := 167) dX8_look_167 ?_
        refine r_goto (pc := 168) (tgt := 172) dX8_look_168 (by decide) ?_
        exact r_irets (pc := 172) h rfl dX8_look_172
    · refine r_iconst (pc := 150) dX8_look_150 ?_
      refine r_goto (pc := 151) (tgt := 172) dX8_look_151 (by decide) ?_
      exact r_irets (pc := 172) h rfl dX8_look_172
  refine sj_if h (fun c8 h => ?_) (fun c8 h => ?_)
  · refine r_tcase (pc := 1) (tgt := 173) (j := 8) hr c8 dX8_look_1 (by decide) (by decide) rfl (by decide) ?_
    refine r_aload_n (pc := 173) dX8_look_173 rfl rfl ?_
    refine r_gRs (b := a0 + 43) (pc := 174) dX8_look_174 fw_X8_25 rfl (ok8 ha0) (ok8_3 ha0).1 ?_
    refine r_gIs (pc := 177) dX8_look_177 fw_X8_170 rfl (ok1 (ok8_3 ha0).2) ?_
    exact r_irets (pc := 180) h rfl dX8_look_180
  refine sj_if h (fun c9 h => ?_) (fun c9 h => ?_)
  · refine r_tcase (pc := 1) (tgt := 181) (j := 9) hr c9 dX8_look_1 (by decide) (by decide) rfl (by decide) ?_
    refine r_aload_n (pc := 181) dX8_look_181 rfl rfl ?_
    refine r_gIs (pc := 182) dX8_look_182 fw_X8_208 rfl (ok8 ha0) ?_
    exact r_irets (pc := 185) h rfl dX8_look_185
  refine sj_if h (fun c10 h => ?_) (fun c10 h => ?_)
  · refine r_tcase (pc := 1) (tgt := 186) (j := 10) hr c10 dX8_look_1 (by decide) (by decide) rfl (by decide) ?_
    refine r_aload_n (pc := 186) dX8_look_186 rfl rfl ?_
    refine r_gRs (b := a0 + 52) (pc := 187) dX8_look_187 fw_X8_46 rfl (ok8 ha0) (ok8_7 ha0).1 ?_
    refine r_gIs (pc := 190) dX8_look_190 fw_X8_137 rfl (ok7 (ok8_7 ha0).2) ?_
    exact r_irets (pc := 193) h rfl dX8_look_193
  refine sj_if h (fun c11 h => ?_) (fun c11 h => ?_)
  · refine r_tcase (pc := 1) (tgt := 194) (j := 11) hr c11 dX8_look_1 (by decide) (by decide) rfl (by decide) ?_
    refine r_aload_n (pc := 194) dX8_look_194 rfl rfl ?_
    refine r_gRs (b := a0 + 1) (pc := 195) dX8_look_195 fw_X8_12 rfl (ok8 ha0) (ok8_0 ha0).1 ?_
    refine r_callVs (pc := 198) (fun v => some (sj_i v)) (As := []) (rest := []) (b := (a0 + 1)) (ok0 (ok8_0 ha0).2) h dX8_look_198 mw_X8_250 vw_X0_greatestGround (fun _ _ hc => cg_X0_greatestGround (ok8_0 ha0).2 hc) rfl ⟨(Nat.le_of_ble_eq_true rfl), (Nat.le_of_ble_eq_true rfl)⟩ (Nat.le_of_ble_eq_true rfl) rfl (fun v8 V7 h => ?_)
    exact r_irets (pc := 201) h rfl dX8_look_201
  refine sj_if h (fun c12 h => ?_) (fun c12 h => ?_)
  · refine r_tcase (pc := 1) (tgt := 202) (j := 12) hr c12 dX8_look_1 (by decide) (by decide) rfl (by decide) ?_
    refine r_aload_n (pc := 202) dX8_look_202 rfl rfl ?_
    refine r_gRs (b := a0 + 1) (pc := 203) dX8_look_203 fw_X8_12 rfl (ok8 ha0) (ok8_0 ha0).1 ?_
    refine r_callVs (pc := 206) (fun v => some (sj_i v)) (As := []) (rest := []) (b := (a0 + 1)) (ok0 (ok8_0 ha0).2) h dX8_look_206 mw_X8_253 vw_X0_allSoil (fun _ _ hc => cg_X0_allSoil (ok8_0 ha0).2 hc) rfl ⟨(Nat.le_of_ble_eq_true rfl), (Nat.le_of_ble_eq_true rfl)⟩ (Nat.le_of_ble_eq_true rfl) rfl (fun v10 V9 h => ?_)
    exact r_irets (pc := 209) h rfl dX8_look_209
  refine sj_if h (fun c13 h => ?_) (fun c13 h => ?_)
  · refine r_tcase (pc := 1) (tgt := 210) (j := 13) hr c13 dX8_look_1 (by decide) (by decide) rfl (by decide) ?_
    refine r_aload_n (pc := 210) dX8_look_210 rfl rfl ?_
    refine r_gRs (b := a0 + 43) (pc := 211) dX8_look_211 fw_X8_25 rfl (ok8 ha0) (ok8_3 ha0).1 ?_
    refine r_gIs (pc := 214) dX8_look_214 fw_X8_256 rfl (ok1 (ok8_3 ha0).2) ?_
    exact r_irets (pc := 217) h rfl dX8_look_217
  refine r_tdflt (pc := 1) (tgt := 218) hr dX8_look_1 (by omega) (by decide) ?_
  refine r_bipush (pc := 218) dX8_look_218 ⟨by decide, by decide⟩ ?_
  exact r_irets (pc := 220) h rfl dX8_look_220
set_option maxHeartbeats 4000000 in
theorem cg_X8_look {X : sj_X} {g : sj_G} {N : Nat} {a0 : Nat} {x1 : Int} {V : sj_VV} {q : Int × sj_VV} (ha0 : OK8 g a0) (h : g_X8_look N a0 x1 V = some q) : sj_C X m_X8_look [sj_r (some a0), sj_i x1] (g, V) (some (sj_i q.1), (g, q.2)) :=
  sj_C_of (by decide +kernel) (Nat.le_of_ble_eq_true rfl) (lo := [some (sj_r (some a0)), some (sj_i x1)]) rfl (sj_weak (l2 := [some (sj_r (some a0)), some (sj_i x1)]) (⟨rfl, ⟨rfl, trivial⟩⟩) (st_X8_look_0 a0 x1 V ha0 h))
set_option maxHeartbeats 4000000 in
theorem c_X8_look {X : sj_X} {N : Nat} {a0 : Nat} {x1 : Int} {s : sj_Mem} {q : Int × sj_Mem} (h : f_X8_look N a0 x1 s = some q) : sj_C X m_X8_look [sj_r (some a0), sj_i x1] s (some (sj_i q.1), q.2) := by
  obtain ⟨g, V⟩ := s
  unfold f_X8_look at h
  obtain ⟨ho, h1⟩ := e_ok_some h
  obtain ⟨q2, h2, rfl⟩ := sj_map_some h1
  exact cg_X8_look ho h2
theorem dX8_cutUp_0 : decode cX8_cutUp 0 = .ok (.aload_n 0, 1) := by decide +kernel
theorem dX8_cutUp_1 : decode cX8_cutUp 1 = .ok (.getfield 12, 3) := by decide +kernel
theorem dX8_cutUp_4 : decode cX8_cutUp 4 = .ok (.getfield 106, 3) := by decide +kernel
theorem dX8_cutUp_7 : decode cX8_cutUp 7 = .ok (.invokevirtual 192, 3) := by decide +kernel
theorem dX8_cutUp_10 : decode cX8_cutUp 10 = .ok (.ifCond .eq 5, 3) := by decide +kernel
theorem dX8_cutUp_13 : decode cX8_cutUp 13 = .ok (.iconst 0, 1) := by decide +kernel
theorem dX8_cutUp_14 : decode cX8_cutUp 14 = .ok (.ireturn, 1) := by decide +kernel
theorem dX8_cutUp_15 : decode cX8_cutUp 15 = .ok (.aload_n 0, 1) := by decide +kernel
theorem dX8_cutUp_16 : decode cX8_cutUp 16 = .ok (.getfield 53, 3) := by decide +kernel
theorem dX8_cutUp_19 : decode cX8_cutUp 19 = .ok (.aload_n 0, 1) := by decide +kernel
theorem dX8_cutUp_20 : decode cX8_cutUp 20 = .ok (.getfield 12, 3) := by decide +kernel
theorem dX8_cutUp_23 : decode cX8_cutUp 23 = .ok (.aload_n 0, 1) := by decide +kernel
theorem dX8_cutUp_24 : decode cX8_cutUp 24 = .ok (.getfield 12, 3) := by decide +kernel
theorem dX8_cutUp_27 : decode cX8_cutUp 27 = .ok (.getfield 106, 3) := by decide +kernel
theorem dX8_cutUp_30 : decode cX8_cutUp 30 = .ok (.invokevirtual 259, 3) := by decide +kernel
theorem dX8_cutUp_33 : decode cX8_cutUp 33 = .ok (.aload_n 0, 1) := by decide +kernel
theorem dX8_cutUp_34 : decode cX8_cutUp 34 = .ok (.getfield 53, 3) := by decide +kernel
theorem dX8_cutUp_37 : decode cX8_cutUp 37 = .ok (.aload_n 0, 1) := by decide +kernel
theorem dX8_cutUp_38 : decode cX8_cutUp 38 = .ok (.getfield 12, 3) := by decide +kernel
theorem dX8_cutUp_41 : decode cX8_cutUp 41 = .ok (.iconst 0, 1) := by decide +kernel
theorem dX8_cutUp_42 : decode cX8_cutUp 42 = .ok (.invokevirtual 263, 3) := by decide +kernel
theorem dX8_cutUp_45 : decode cX8_cutUp 45 = .ok (.iconst 1, 1) := by decide +kernel
theorem dX8_cutUp_46 : decode cX8_cutUp 46 = .ok (.ireturn, 1) := by decide +kernel
set_option maxHeartbeats 4000000 in
theorem st_X8_cutUp_0 {X : sj_X} {g : sj_G} {s0 : sj_Mem} {N : Nat} {q : Int × sj_VV} :
    ∀ (a0 : Nat) (V : sj_VV), OK8 g a0 → g_X8_cutUp N a0 V = some q → sj_T X m_X8_cutUp s0 (some (sj_i q.1), (g, q.2)) 0 [some (sj_r (some a0))] [] (g, V) := by
  intro a0 V ha0 h
  unfold g_X8_cutUp at h
  refine r_aload_n (pc := 0) dX8_cutUp_0 rfl rfl ?_
  refine r_gRs (b := a0 + 1) (pc := 1) dX8_cutUp_1 fw_X8_12 rfl (ok8 ha0) (ok8_0 ha0).1 ?_
  refine r_gRs (b := (a0 + 1) + 12) (pc := 4) dX8_cutUp_4 fw_X8_106 rfl (ok0 (ok8_0 ha0).2) (ok0_14 (ok8_0 ha0).2).1 ?_
  refine r_callVs (pc := 7) (fun v => some (sj_i v)) (As := []) (rest := []) (b := ((a0 + 1) + 12)) (ok5 (ok0_14 (ok8_0 ha0).2).2) h dX8_cutUp_7 mw_X8_192 vw_X5_isNone (fun _ _ hc => cg_X5_isNone (ok0_14 (ok8_0 ha0).2).2 hc) rfl ⟨(Nat.le_of_ble_eq_true rfl), (Nat.le_of_ble_eq_true rfl)⟩ (Nat.le_of_ble_eq_true rfl) rfl (fun v2 V1 h => ?_)
  refine r_if_eq (pc := 10) (tgt := 15) h dX8_cutUp_10 (by decide) (fun h => ?_) (fun h => ?_)
  · refine r_aload_n (pc := 15) dX8_cutUp_15 rfl rfl ?_
    refine r_gRs (b := a0 + 54) (pc := 16) dX8_cutUp_16 fw_X8_53 rfl (ok8 ha0) (ok8_8 ha0).1 ?_
    refine r_aload_n (pc := 19) dX8_cutUp_19 rfl rfl ?_
    refine r_gRs (b := a0 + 1) (pc := 20) dX8_cutUp_20 fw_X8_12 rfl (ok8 ha0) (ok8_0 ha0).1 ?_
    refine r_aload_n (pc := 23) dX8_cutUp_23 rfl rfl ?_
    refine r_gRs (b := a0 + 1) (pc := 24) dX8_cutUp_24 fw_X8_12 rfl (ok8 ha0) (ok8_0 ha0).1 ?_
    refine r_gRs (b := (a0 + 1) + 12) (pc := 27) dX8_cutUp_27 fw_X8_106 rfl (ok0 (ok8_0 ha0).2) (ok0_14 (ok8_0 ha0).2).1 ?_
    refine r_callVs (pc := 30) (fun _ => none) (As := [sj_r (some (a0 + 1)), sj_r (some ((a0 + 1) + 12))]) (rest := []) (b := (a0 + 54)) (ok4 (ok8_8 ha0).2) h dX8_cutUp_30 mw_X8_259 vw_X4_weigh (fun _ _ hc => cg_X4_weigh (ok8_8 ha0).2 (ok8_0 ha0).2 (ok0_14 (ok8_0 ha0).2).2 hc) rfl ⟨(Nat.le_of_ble_eq_true rfl), (Nat.le_of_ble_eq_true rfl)⟩ (Nat.le_of_ble_eq_true rfl) rfl (fun _u V3 h => ?_)
    refine r_aload_n (pc := 33) dX8_cutUp_33 rfl rfl ?_
    refine r_gRs (b := a0 + 54) (pc := 34) dX8_cutUp_34 fw_X8_53 rfl (ok8 ha0) (ok8_8 ha0).1 ?_
    refine r_aload_n (pc := 37) dX8_cutUp_37 rfl rfl ?_
    refine r_gRs (b := a0 + 1) (pc := 38) dX8_cutUp_38 fw_X8_12 rfl (ok8 ha0) (ok8_0 ha0).1 ?_
    refine r_iconst (pc := 41) dX8_cutUp_41 ?_
    refine r_callVs (pc := 42) (fun _ => none) (As := [sj_r (some (a0 + 1)), sj_i 0]) (rest := []) (b := (a0 + 54)) (ok4 (ok8_8 ha0).2) h dX8_cutUp_42 mw_X8_263 vw_X4_settle (fun _ _ hc => cg_X4_settle (ok8_8 ha0).2 (ok8_0 ha0).2 hc) rfl ⟨(Nat.le_of_ble_eq_true rfl), (Nat.le_of_ble_eq_true rfl)⟩ (Nat.le_of_ble_eq_true rfl) rfl (fun _u V4 h => ?_)
    refine r_iconst (pc := 45) dX8_cutUp_45 ?_
    exact r_zrets (pc := 46) h rfl dX8_cutUp_46
  · refine r_iconst (pc := 13) dX8_cutUp_13 ?_
    exact r_zrets (pc := 14) h rfl dX8_cutUp_14
set_option maxHeartbeats 4000000 in
theorem cg_X8_cutUp {X : sj_X} {g : sj_G} {N : Nat} {a0 : Nat} {V : sj_VV} {q : Int × sj_VV} (ha0 : OK8 g a0) (h : g_X8_cutUp N a0 V = some q) : sj_C X m_X8_cutUp [sj_r (some a0)] (g, V) (some (sj_i q.1), (g, q.2)) :=
  sj_C_of (by decide +kernel) (Nat.le_of_ble_eq_true rfl) (lo := [some (sj_r (some a0))]) rfl (sj_weak (l2 := [some (sj_r (some a0))]) (⟨rfl, trivial⟩) (st_X8_cutUp_0 a0 V ha0 h))
set_option maxHeartbeats 4000000 in
theorem c_X8_cutUp {X : sj_X} {N : Nat} {a0 : Nat} {s : sj_Mem} {q : Int × sj_Mem} (h : f_X8_cutUp N a0 s = some q) : sj_C X m_X8_cutUp [sj_r (some a0)] s (some (sj_i q.1), q.2) := by
  obtain ⟨g, V⟩ := s
  unfold f_X8_cutUp at h
  obtain ⟨ho, h1⟩ := e_ok_some h
  obtain ⟨q2, h2, rfl⟩ := sj_map_some h1
  exact cg_X8_cutUp ho h2
theorem dX8_isK_0 : decode cX8_isK 0 = .ok (.iload_n 0, 1) := by decide +kernel
theorem dX8_isK_1 : decode cX8_isK 1 = .ok (.iconst 1, 1) := by decide +kernel
theorem dX8_isK_2 : decode cX8_isK 2 = .ok (.if_icmp .lt 14, 3) := by decide +kernel
theorem dX8_isK_5 : decode cX8_isK 5 = .ok (.iload_n 0, 1) := by decide +kernel
theorem dX8_isK_6 : decode cX8_isK 6 = .ok (.sipush 20000, 3) := by decide +kernel
theorem dX8_isK_9 : decode cX8_isK 9 = .ok (.if_icmp .gt 7, 3) := by decide +kernel
theorem dX8_isK_12 : decode cX8_isK 12 = .ok (.iconst 1, 1) := by decide +kernel
theorem dX8_isK_13 : decode cX8_isK 13 = .ok (.goto 4, 3) := by decide +kernel
theorem dX8_isK_16 : decode cX8_isK 16 = .ok (.iconst 0, 1) := by decide +kernel
theorem dX8_isK_17 : decode cX8_isK 17 = .ok (.ireturn, 1) := by decide +kernel
set_option maxHeartbeats 4000000 in
theorem st_X8_isK_0 {X : sj_X} {g : sj_G} {s0 : sj_Mem} {N : Nat} {q : Int × sj_VV} :
    ∀ (x0 : Int) (V : sj_VV), g_X8_isK N x0 V = some q → sj_T X m_X8_isK s0 (some (sj_i q.1), (g, q.2)) 0 [some (sj_i x0)] [] (g, V) := by
  intro x0 V  h
  unfold g_X8_isK at h
  refine r_iload_n (pc := 0) dX8_isK_0 rfl rfl ?_
  refine r_iconst (pc := 1) dX8_isK_1 ?_
  refine r_icmp_lt (pc := 2) (tgt := 16) h dX8_isK_2 (by decide) (fun h => ?_) (fun h => ?_)
  · refine r_iconst (pc := 16) dX8_isK_16 ?_
    exact r_zrets (pc := 17) h rfl dX8_isK_17
  · refine r_iload_n (pc := 5) dX8_isK_5 rfl rfl ?_
    refine r_sipush (pc := 6) dX8_isK_6 ⟨by decide, by decide⟩ ?_
    refine r_icmp_gt (pc := 9) (tgt := 16) h dX8_isK_9 (by decide) (fun h => ?_) (fun h => ?_)
    · refine r_iconst (pc := 16) dX8_isK_16 ?_
      exact r_zrets (pc := 17) h rfl dX8_isK_17
    · refine r_iconst (pc := 12) dX8_isK_12 ?_
      refine r_goto (pc := 13) (tgt := 17) dX8_isK_13 (by decide) ?_
      exact r_zrets (pc := 17) h rfl dX8_isK_17
set_option maxHeartbeats 4000000 in
theorem cg_X8_isK {X : sj_X} {g : sj_G} {N : Nat} {x0 : Int} {V : sj_VV} {q : Int × sj_VV} (h : g_X8_isK N x0 V = some q) : sj_C X m_X8_isK [sj_i x0] (g, V) (some (sj_i q.1), (g, q.2)) :=
  sj_C_of (by decide +kernel) (Nat.le_of_ble_eq_true rfl) (lo := [some (sj_i x0)]) rfl (sj_weak (l2 := [some (sj_i x0)]) (⟨rfl, trivial⟩) (st_X8_isK_0 x0 V h))
set_option maxHeartbeats 4000000 in
theorem c_X8_isK {X : sj_X} {N : Nat} {x0 : Int} {s : sj_Mem} {q : Int × sj_Mem} (h : f_X8_isK N x0 s = some q) : sj_C X m_X8_isK [sj_i x0] s (some (sj_i q.1), q.2) := by
  obtain ⟨g, V⟩ := s
  unfold f_X8_isK at h
  obtain ⟨ho, h1⟩ := e_ok_some h
  obtain ⟨q2, h2, rfl⟩ := sj_map_some h1
  exact cg_X8_isK  h2
