theorem dX9_standsWith_0 : decode cX9_standsWith 0 = .ok (.lconst 0, 1) := by decide +kernel
theorem dX9_standsWith_1 : decode cX9_standsWith 1 = .ok (.lstore 4, 2) := by decide +kernel
theorem dX9_standsWith_3 : decode cX9_standsWith 3 = .ok (.aload_n 0, 1) := by decide +kernel
theorem dX9_standsWith_4 : decode cX9_standsWith 4 = .ok (.invokevirtual 164, 3) := by decide +kernel
theorem dX9_standsWith_7 : decode cX9_standsWith 7 = .ok (.lneg, 1) := by decide +kernel
theorem dX9_standsWith_8 : decode cX9_standsWith 8 = .ok (.lload_n 2, 1) := by decide +kernel
theorem dX9_standsWith_9 : decode cX9_standsWith 9 = .ok (.lsub, 1) := by decide +kernel
theorem dX9_standsWith_10 : decode cX9_standsWith 10 = .ok (.lstore 6, 2) := by decide +kernel
theorem dX9_standsWith_12 : decode cX9_standsWith 12 = .ok (.aload_n 0, 1) := by decide +kernel
theorem dX9_standsWith_13 : decode cX9_standsWith 13 = .ok (.getfield 22, 3) := by decide +kernel
theorem dX9_standsWith_16 : decode cX9_standsWith 16 = .ok (.istore 8, 2) := by decide +kernel
theorem dX9_standsWith_18 : decode cX9_standsWith 18 = .ok (.iload 8, 2) := by decide +kernel
theorem dX9_standsWith_20 : decode cX9_standsWith 20 = .ok (.aload_n 0, 1) := by decide +kernel
theorem dX9_standsWith_21 : decode cX9_standsWith 21 = .ok (.getfield 150, 3) := by decide +kernel
theorem dX9_standsWith_24 : decode cX9_standsWith 24 = .ok (.if_icmp .ge 49, 3) := by decide +kernel
theorem dX9_standsWith_27 : decode cX9_standsWith 27 = .ok (.aload_n 0, 1) := by decide +kernel
theorem dX9_standsWith_28 : decode cX9_standsWith 28 = .ok (.iload 8, 2) := by decide +kernel
theorem dX9_standsWith_30 : decode cX9_standsWith 30 = .ok (.invokevirtual 168, 3) := by decide +kernel
theorem dX9_standsWith_33 : decode cX9_standsWith 33 = .ok (.aload_n 0, 1) := by decide +kernel
theorem dX9_standsWith_34 : decode cX9_standsWith 34 = .ok (.iload_n 1, 1) := by decide +kernel
theorem dX9_standsWith_35 : decode cX9_standsWith 35 = .ok (.invokevirtual 171, 3) := by decide +kernel
theorem dX9_standsWith_38 : decode cX9_standsWith 38 = .ok (.lstore 9, 2) := by decide +kernel
theorem dX9_standsWith_40 : decode cX9_standsWith 40 = .ok (.lload 9, 2) := by decide +kernel
theorem dX9_standsWith_42 : decode cX9_standsWith 42 = .ok (.ldc2_w 148, 3) := by decide +kernel
theorem dX9_standsWith_45 : decode cX9_standsWith 45 = .ok (.lcmp, 1) := by decide +kernel
theorem dX9_standsWith_46 : decode cX9_standsWith 46 = .ok (.ifCond .ne 5, 3) := by decide +kernel
theorem dX9_standsWith_49 : decode cX9_standsWith 49 = .ok (.iconst 1, 1) := by decide +kernel
theorem dX9_standsWith_50 : decode cX9_standsWith 50 = .ok (.ireturn, 1) := by decide +kernel
theorem dX9_standsWith_51 : decode cX9_standsWith 51 = .ok (.lload 4, 2) := by decide +kernel
theorem dX9_standsWith_53 : decode cX9_standsWith 53 = .ok (.lload 9, 2) := by decide +kernel
theorem dX9_standsWith_55 : decode cX9_standsWith 55 = .ok (.ladd, 1) := by decide +kernel
theorem dX9_standsWith_56 : decode cX9_standsWith 56 = .ok (.lstore 4, 2) := by decide +kernel
theorem dX9_standsWith_58 : decode cX9_standsWith 58 = .ok (.lload 6, 2) := by decide +kernel
theorem dX9_standsWith_60 : decode cX9_standsWith 60 = .ok (.aload_n 0, 1) := by decide +kernel
theorem dX9_standsWith_61 : decode cX9_standsWith 61 = .ok (.getfield 145, 3) := by decide +kernel
theorem dX9_standsWith_64 : decode cX9_standsWith 64 = .ok (.ladd, 1) := by decide +kernel
theorem dX9_standsWith_65 : decode cX9_standsWith 65 = .ok (.lstore 6, 2) := by decide +kernel
theorem dX9_standsWith_67 : decode cX9_standsWith 67 = .ok (.iinc 8 1, 3) := by decide +kernel
theorem dX9_standsWith_70 : decode cX9_standsWith 70 = .ok (.goto (-52), 3) := by decide +kernel
theorem dX9_standsWith_73 : decode cX9_standsWith 73 = .ok (.lload 4, 2) := by decide +kernel
theorem dX9_standsWith_75 : decode cX9_standsWith 75 = .ok (.iload_n 1, 1) := by decide +kernel
theorem dX9_standsWith_76 : decode cX9_standsWith 76 = .ok (.i2l, 1) := by decide +kernel
theorem dX9_standsWith_77 : decode cX9_standsWith 77 = .ok (.lload 6, 2) := by decide +kernel
theorem dX9_standsWith_79 : decode cX9_standsWith 79 = .ok (.lmul, 1) := by decide +kernel
theorem dX9_standsWith_80 : decode cX9_standsWith 80 = .ok (.ldc2_w 143, 3) := by decide +kernel
theorem dX9_standsWith_83 : decode cX9_standsWith 83 = .ok (.invokestatic 175, 3) := by decide +kernel
theorem dX9_standsWith_86 : decode cX9_standsWith 86 = .ok (.lcmp, 1) := by decide +kernel
theorem dX9_standsWith_87 : decode cX9_standsWith 87 = .ok (.ifCond .lt 7, 3) := by decide +kernel
theorem dX9_standsWith_90 : decode cX9_standsWith 90 = .ok (.iconst 1, 1) := by decide +kernel
theorem dX9_standsWith_91 : decode cX9_standsWith 91 = .ok (.goto 4, 3) := by decide +kernel
theorem dX9_standsWith_94 : decode cX9_standsWith 94 = .ok (.iconst 0, 1) := by decide +kernel
theorem dX9_standsWith_95 : decode cX9_standsWith 95 = .ok (.ireturn, 1) := by decide +kernel
set_option maxHeartbeats 4000000 in
theorem t_X9_standsWith_18_b {X : sj_X} {s0 : sj_Mem} {N : Nat} {q : Int × sj_Mem} {k18 : Nat → Int → Int → Int → Int → sj_Mem → Option (Int × sj_Mem)} (hk18 : ∀ (a0 : Nat) (x1 : Int) (x4 : Int) (x6 : Int) (x8 : Int) (s : sj_Mem), k18 a0 x1 x4 x6 x8 s = some q → sj_T X m_X9_standsWith s0 (some (sj_i q.1), q.2) 18 [some (sj_r (some a0)), some (sj_i x1), none, none, some (sj_j x4), none, some (sj_j x6), none, some (sj_i x8), none, none] [] s) :
    ∀ (a0 : Nat) (x1 : Int) (x4 : Int) (x6 : Int) (x8 : Int) (s : sj_Mem), f_X9_standsWith_18_b N k18 a0 x1 x4 x6 x8 s = some q → sj_T X m_X9_standsWith s0 (some (sj_i q.1), q.2) 18 [some (sj_r (some a0)), some (sj_i x1), none, none, some (sj_j x4), none, some (sj_j x6), none, some (sj_i x8), none, none] [] s := by
  intro a0 x1 x4 x6 x8 s h
  unfold f_X9_standsWith_18_b at h
  refine r_iload (pc := 18) dX9_standsWith_18 rfl ?_
  refine r_aload_n (pc := 20) dX9_standsWith_20 rfl rfl ?_
  refine r_gI (pc := 21) h dX9_standsWith_21 fw_X9_150 rfl (fun v1 h => ?_)
  refine r_icmp_ge (pc := 24) (tgt := 73) h dX9_standsWith_24 (by decide) (fun h => ?_) (fun h => ?_)
  · refine r_lload (pc := 73) dX9_standsWith_73 rfl ?_
    refine r_iload_n (pc := 75) dX9_standsWith_75 rfl rfl ?_
    refine r_i2l (pc := 76) h dX9_standsWith_76 (fun v2 h => ?_)
    refine r_lload (pc := 77) dX9_standsWith_77 rfl ?_
    refine r_lmul (pc := 79) dX9_standsWith_79 ?_
    refine r_ldc2 (n := 1000) (pc := 80) dX9_standsWith_80 kc_X9_143 ?_
    refine r_callS (pc := 83) (fun v => some (sj_j v)) (As := [sj_j (v2 * x6), sj_j 1000]) (rest := [(sj_j x4)]) h dX9_standsWith_83 mw_X9_175 kw_1365 (fun _ _ hc => c_X9_upwards hc) rfl ⟨(Nat.le_of_ble_eq_true rfl), (Nat.le_of_ble_eq_true rfl)⟩ (Nat.le_of_ble_eq_true rfl) rfl (fun v4 s3 h => ?_)
    refine r_llt (pc := 86) (tgt := 94) h dX9_standsWith_86 rfl dX9_standsWith_87 (by decide) (fun h => ?_) (fun h => ?_)
    · refine r_iconst (pc := 94) dX9_standsWith_94 ?_
      exact r_zret (pc := 95) h rfl dX9_standsWith_95
    · refine r_iconst (pc := 90) dX9_standsWith_90 ?_
      refine r_goto (pc := 91) (tgt := 95) dX9_standsWith_91 (by decide) ?_
      exact r_zret (pc := 95) h rfl dX9_standsWith_95
  · refine r_aload_n (pc := 27) dX9_standsWith_27 rfl rfl ?_
    refine r_iload (pc := 28) dX9_standsWith_28 rfl ?_
    refine r_callV (pc := 30) (fun _ => none) (As := [sj_i x8]) (rest := []) h dX9_standsWith_30 mw_X9_168 vw_X9_laysAt (fun _ _ hc => c_X9_laysAt hc) rfl ⟨(Nat.le_of_ble_eq_true rfl), (Nat.le_of_ble_eq_true rfl)⟩ (Nat.le_of_ble_eq_true rfl) rfl (fun _u s5 h => ?_)
    refine r_aload_n (pc := 33) dX9_standsWith_33 rfl rfl ?_
    refine r_iload_n (pc := 34) dX9_standsWith_34 rfl rfl ?_
    refine r_callV (pc := 35) (fun v => some (sj_j v)) (As := [sj_i x1]) (rest := []) h dX9_standsWith_35 mw_X9_171 vw_X9_rubsOf (fun _ _ hc => c_X9_rubsOf hc) rfl ⟨(Nat.le_of_ble_eq_true rfl), (Nat.le_of_ble_eq_true rfl)⟩ (Nat.le_of_ble_eq_true rfl) rfl (fun v7 s6 h => ?_)
    refine r_lstore (ln := [some (sj_r (some a0)), some (sj_i x1), none, none, some (sj_j x4), none, some (sj_j x6), none, some (sj_i x8), some (sj_j v7), none]) (pc := 38) dX9_standsWith_38 (Nat.le_of_ble_eq_true rfl) rfl ?_
    refine r_lload (pc := 40) dX9_standsWith_40 rfl ?_
    refine r_ldc2 (n := -1) (pc := 42) dX9_standsWith_42 kc_X9_148 ?_
    refine r_lne (pc := 45) (tgt := 51) h dX9_standsWith_45 rfl dX9_standsWith_46 (by decide) (fun h => ?_) (fun h => ?_)
    · refine r_iconst (pc := 49) dX9_standsWith_49 ?_
      exact r_zret (pc := 50) h rfl dX9_standsWith_50
    · refine r_lload (pc := 51) dX9_standsWith_51 rfl ?_
      refine r_lload (pc := 53) dX9_standsWith_53 rfl ?_
      refine r_ladd (pc := 55) dX9_standsWith_55 ?_
      refine r_lstoreL (ln := fun w => [some (sj_r (some a0)), some (sj_i x1), none, none, some (sj_j w), none, some (sj_j x6), none, some (sj_i x8), some (sj_j v7), none]) (pc := 56) h dX9_standsWith_56 (Nat.le_of_ble_eq_true rfl) (fun _ => rfl) (fun v8 h => ?_)
      refine r_lload (pc := 58) dX9_standsWith_58 rfl ?_
      refine r_aload_n (pc := 60) dX9_standsWith_60 rfl rfl ?_
      refine r_gJ (pc := 61) h dX9_standsWith_61 fw_X9_145 rfl (fun v9 h => ?_)
      refine r_ladd (pc := 64) dX9_standsWith_64 ?_
      refine r_lstoreL (ln := fun w => [some (sj_r (some a0)), some (sj_i x1), none, none, some (sj_j v8), none, some (sj_j w), none, some (sj_i x8), some (sj_j v7), none]) (pc := 65) h dX9_standsWith_65 (Nat.le_of_ble_eq_true rfl) (fun _ => rfl) (fun v10 h => ?_)
      refine r_iinc (ln := fun w => [some (sj_r (some a0)), some (sj_i x1), none, none, some (sj_j v8), none, some (sj_j v10), none, some (sj_i w), some (sj_j v7), none]) (pc := 67) h dX9_standsWith_67 rfl (Nat.le_of_ble_eq_true rfl) (fun _ => rfl) (fun v11 h => ?_)
      refine r_goto (pc := 70) (tgt := 18) dX9_standsWith_70 (by decide) ?_
      exact sj_weak (l2 := [some (sj_r (some a0)), some (sj_i x1), none, none, some (sj_j v8), none, some (sj_j v10), none, some (sj_i v11), none, none]) (⟨rfl, ⟨rfl, ⟨rfl, ⟨rfl, ⟨rfl, trivial⟩⟩⟩⟩⟩) (hk18 a0 x1 v8 v10 v11 s6 h)
set_option maxHeartbeats 4000000 in
theorem t_X9_standsWith_18 {X : sj_X} {s0 : sj_Mem} {N : Nat} {q : Int × sj_Mem} :
    ∀ (n : Nat) (a0 : Nat) (x1 : Int) (x4 : Int) (x6 : Int) (x8 : Int) (s : sj_Mem), f_X9_standsWith_18 N n a0 x1 x4 x6 x8 s = some q → sj_T X m_X9_standsWith s0 (some (sj_i q.1), q.2) 18 [some (sj_r (some a0)), some (sj_i x1), none, none, some (sj_j x4), none, some (sj_j x6), none, some (sj_i x8), none, none] [] s := by
  intro n
  induction n with
  | zero => intro a0 x1 x4 x6 x8 s h; exact nomatch h
  | succ n ih => intro a0 x1 x4 x6 x8 s h; exact t_X9_standsWith_18_b (N := N) ih a0 x1 x4 x6 x8 s h
set_option maxHeartbeats 4000000 in
theorem t_X9_standsWith_0 {X : sj_X} {s0 : sj_Mem} {N : Nat} {q : Int × sj_Mem} :
    ∀ (a0 : Nat) (x1 : Int) (x2 : Int) (s : sj_Mem), f_X9_standsWith N a0 x1 x2 s = some q → sj_T X m_X9_standsWith s0 (some (sj_i q.1), q.2) 0 [some (sj_r (some a0)), some (sj_i x1), some (sj_j x2), none, none, none, none, none, none, none, none] [] s := by
  intro a0 x1 x2 s h
  unfold f_X9_standsWith at h
  refine r_lconst0 (pc := 0) dX9_standsWith_0 ?_
  refine r_lstore (ln := [some (sj_r (some a0)), some (sj_i x1), some (sj_j x2), none, some (sj_j 0), none, none, none, none, none, none]) (pc := 1) dX9_standsWith_1 (Nat.le_of_ble_eq_true rfl) rfl ?_
  refine r_aload_n (pc := 3) dX9_standsWith_3 rfl rfl ?_
  refine r_callV (pc := 4) (fun v => some (sj_j v)) (As := []) (rest := []) h dX9_standsWith_4 mw_X9_164 vw_X9_pulls (fun _ _ hc => c_X9_pulls hc) rfl ⟨(Nat.le_of_ble_eq_true rfl), (Nat.le_of_ble_eq_true rfl)⟩ (Nat.le_of_ble_eq_true rfl) rfl (fun v2 s1 h => ?_)
  refine r_lneg (pc := 7) dX9_standsWith_7 ?_
  refine r_lload_n (pc := 8) dX9_standsWith_8 rfl rfl ?_
  refine r_lsub (pc := 9) dX9_standsWith_9 ?_
  refine r_lstoreL (ln := fun w => [some (sj_r (some a0)), some (sj_i x1), some (sj_j x2), none, some (sj_j 0), none, some (sj_j w), none, none, none, none]) (pc := 10) h dX9_standsWith_10 (Nat.le_of_ble_eq_true rfl) (fun _ => rfl) (fun v3 h => ?_)
  refine r_aload_n (pc := 12) dX9_standsWith_12 rfl rfl ?_
  refine r_gI (pc := 13) h dX9_standsWith_13 fw_X9_22 rfl (fun v4 h => ?_)
  refine r_istore (ln := [some (sj_r (some a0)), some (sj_i x1), some (sj_j x2), none, some (sj_j 0), none, some (sj_j v3), none, some (sj_i v4), none, none]) (pc := 16) dX9_standsWith_16 (Nat.le_of_ble_eq_true rfl) rfl ?_
  exact sj_weak (l2 := [some (sj_r (some a0)), some (sj_i x1), none, none, some (sj_j 0), none, some (sj_j v3), none, some (sj_i v4), none, none]) (⟨rfl, ⟨rfl, ⟨rfl, ⟨rfl, ⟨rfl, trivial⟩⟩⟩⟩⟩) (t_X9_standsWith_18 N a0 x1 0 v3 v4 s1 h)
set_option maxHeartbeats 4000000 in
theorem c_X9_standsWith {X : sj_X} {N : Nat} {a0 : Nat} {x1 : Int} {x2 : Int} {s : sj_Mem} {q : Int × sj_Mem} (h : f_X9_standsWith N a0 x1 x2 s = some q) : sj_C X m_X9_standsWith [sj_r (some a0), sj_i x1, sj_j x2] s (some (sj_i q.1), q.2) :=
  sj_C_of (by decide +kernel) (Nat.le_of_ble_eq_true rfl) (lo := [some (sj_r (some a0)), some (sj_i x1), some (sj_j x2), none, none, none, none, none, none, none, none]) rfl (sj_weak (l2 := [some (sj_r (some a0)), some (sj_i x1), some (sj_j x2), none, none, none, none, none, none, none, none]) (⟨rfl, ⟨rfl, ⟨rfl, trivial⟩⟩⟩) (t_X9_standsWith_0 a0 x1 x2 s h))
theorem dX9_isStanding_0 : decode cX9_isStanding 0 = .ok (.aload_n 0, 1) := by decide +kernel
theorem dX9_isStanding_1 : decode cX9_isStanding 1 = .ok (.iload_n 1, 1) := by decide +kernel
theorem dX9_isStanding_2 : decode cX9_isStanding 2 = .ok (.lconst 0, 1) := by decide +kernel
theorem dX9_isStanding_3 : decode cX9_isStanding 3 = .ok (.invokevirtual 179, 3) := by decide +kernel
theorem dX9_isStanding_6 : decode cX9_isStanding 6 = .ok (.ireturn, 1) := by decide +kernel
set_option maxHeartbeats 4000000 in
theorem t_X9_isStanding_0 {X : sj_X} {s0 : sj_Mem} {N : Nat} {q : Int × sj_Mem} :
    ∀ (a0 : Nat) (x1 : Int) (s : sj_Mem), f_X9_isStanding N a0 x1 s = some q → sj_T X m_X9_isStanding s0 (some (sj_i q.1), q.2) 0 [some (sj_r (some a0)), some (sj_i x1)] [] s := by
  intro a0 x1 s h
  unfold f_X9_isStanding at h
  refine r_aload_n (pc := 0) dX9_isStanding_0 rfl rfl ?_
  refine r_iload_n (pc := 1) dX9_isStanding_1 rfl rfl ?_
  refine r_lconst0 (pc := 2) dX9_isStanding_2 ?_
  refine r_callV (pc := 3) (fun v => some (sj_i v)) (As := [sj_i x1, sj_j 0]) (rest := []) h dX9_isStanding_3 mw_X9_179 vw_X9_standsWith (fun _ _ hc => c_X9_standsWith hc) rfl ⟨(Nat.le_of_ble_eq_true rfl), (Nat.le_of_ble_eq_true rfl)⟩ (Nat.le_of_ble_eq_true rfl) rfl (fun v2 s1 h => ?_)
  exact r_zret (pc := 6) h rfl dX9_isStanding_6
set_option maxHeartbeats 4000000 in
theorem c_X9_isStanding {X : sj_X} {N : Nat} {a0 : Nat} {x1 : Int} {s : sj_Mem} {q : Int × sj_Mem} (h : f_X9_isStanding N a0 x1 s = some q) : sj_C X m_X9_isStanding [sj_r (some a0), sj_i x1] s (some (sj_i q.1), q.2) :=
  sj_C_of (by decide +kernel) (Nat.le_of_ble_eq_true rfl) (lo := [some (sj_r (some a0)), some (sj_i x1)]) rfl (sj_weak (l2 := [some (sj_r (some a0)), some (sj_i x1)]) (⟨rfl, ⟨rfl, trivial⟩⟩) (t_X9_isStanding_0 a0 x1 s h))
theorem dX9_factorOf_0 : decode cX9_factorOf 0 = .ok (.iconst 0, 1) := by decide +kernel
theorem dX9_factorOf_1 : decode cX9_factorOf 1 = .ok (.istore_n 1, 1) := by decide +kernel
theorem dX9_factorOf_2 : decode cX9_factorOf 2 = .ok (.sipush 20001, 3) := by decide +kernel
theorem dX9_factorOf_5 : decode cX9_factorOf 5 = .ok (.istore_n 2, 1) := by decide +kernel
theorem dX9_factorOf_6 : decode cX9_factorOf 6 = .ok (.iload_n 2, 1) := by decide +kernel
theorem dX9_factorOf_7 : decode cX9_factorOf 7 = .ok (.iload_n 1, 1) := by decide +kernel
theorem dX9_factorOf_8 : decode cX9_factorOf 8 = .ok (.isub, 1) := by decide +kernel
theorem dX9_factorOf_9 : decode cX9_factorOf 9 = .ok (.iconst 1, 1) := by decide +kernel
theorem dX9_factorOf_10 : decode cX9_factorOf 10 = .ok (.if_icmp .le 27, 3) := by decide +kernel
theorem dX9_factorOf_13 : decode cX9_factorOf 13 = .ok (.iload_n 1, 1) := by decide +kernel
theorem dX9_factorOf_14 : decode cX9_factorOf 14 = .ok (.iload_n 2, 1) := by decide +kernel
theorem dX9_factorOf_15 : decode cX9_factorOf 15 = .ok (.iadd, 1) := by decide +kernel
theorem dX9_factorOf_16 : decode cX9_factorOf 16 = .ok (.iconst 2, 1) := by decide +kernel
theorem dX9_factorOf_17 : decode cX9_factorOf 17 = .ok (.idiv, 1) := by decide +kernel
theorem dX9_factorOf_18 : decode cX9_factorOf 18 = .ok (.istore_n 3, 1) := by decide +kernel
theorem dX9_factorOf_19 : decode cX9_factorOf 19 = .ok (.aload_n 0, 1) := by decide +kernel
theorem dX9_factorOf_20 : decode cX9_factorOf 20 = .ok (.iload_n 3, 1) := by decide +kernel
theorem dX9_factorOf_21 : decode cX9_factorOf 21 = .ok (.invokevirtual 183, 3) := by decide +kernel
theorem dX9_factorOf_24 : decode cX9_factorOf 24 = .ok (.ifCond .eq 8, 3) := by decide +kernel
theorem dX9_factorOf_27 : decode cX9_factorOf 27 = .ok (.iload_n 3, 1) := by decide +kernel
theorem dX9_factorOf_28 : decode cX9_factorOf 28 = .ok (.istore_n 1, 1) := by decide +kernel
theorem dX9_factorOf_29 : decode cX9_factorOf 29 = .ok (.goto 5, 3) := by decide +kernel
theorem dX9_factorOf_32 : decode cX9_factorOf 32 = .ok (.iload_n 3, 1) := by decide +kernel
theorem dX9_factorOf_33 : decode cX9_factorOf 33 = .ok (.istore_n 2, 1) := by decide +kernel
theorem dX9_factorOf_34 : decode cX9_factorOf 34 = .ok (.goto (-28), 3) := by decide +kernel
theorem dX9_factorOf_37 : decode cX9_factorOf 37 = .ok (.iload_n 1, 1) := by decide +kernel
theorem dX9_factorOf_38 : decode cX9_factorOf 38 = .ok (.ireturn, 1) := by decide +kernel
set_option maxHeartbeats 4000000 in
theorem t_X9_factorOf_34 {X : sj_X} {s0 : sj_Mem} {N : Nat} {q : Int × sj_Mem} {k6 : Nat → Int → Int → sj_Mem → Option (Int × sj_Mem)} (hk6 : ∀ (a0 : Nat) (x1 : Int) (x2 : Int) (s : sj_Mem), k6 a0 x1 x2 s = some q → sj_T X m_X9_factorOf s0 (some (sj_i q.1), q.2) 6 [some (sj_r (some a0)), some (sj_i x1), some (sj_i x2), none] [] s) :
    ∀ (a0 : Nat) (x1 : Int) (x2 : Int) (s : sj_Mem), f_X9_factorOf_34 N k6 a0 x1 x2 s = some q → sj_T X m_X9_factorOf s0 (some (sj_i q.1), q.2) 34 [some (sj_r (some a0)), some (sj_i x1), some (sj_i x2), none] [] s := by
  intro a0 x1 x2 s h
  unfold f_X9_factorOf_34 at h
  refine r_goto (pc := 34) (tgt := 6) dX9_factorOf_34 (by decide) ?_
  exact sj_weak (l2 := [some (sj_r (some a0)), some (sj_i x1), some (sj_i x2), none]) (⟨rfl, ⟨rfl, ⟨rfl, trivial⟩⟩⟩) (hk6 a0 x1 x2 s h)
set_option maxHeartbeats 4000000 in
theorem t_X9_factorOf_6_b {X : sj_X} {s0 : sj_Mem} {N : Nat} {q : Int × sj_Mem} {k6 : Nat → Int → Int → sj_Mem → Option (Int × sj_Mem)} (hk6 : ∀ (a0 : Nat) (x1 : Int) (x2 : Int) (s : sj_Mem), k6 a0 x1 x2 s = some q → sj_T X m_X9_factorOf s0 (some (sj_i q.1), q.2) 6 [some (sj_r (some a0)), some (sj_i x1), some (sj_i x2), none] [] s) :
    ∀ (a0 : Nat) (x1 : Int) (x2 : Int) (s : sj_Mem), f_X9_factorOf_6_b N k6 a0 x1 x2 s = some q → sj_T X m_X9_factorOf s0 (some (sj_i q.1), q.2) 6 [some (sj_r (some a0)), some (sj_i x1), some (sj_i x2), none] [] s := by
  intro a0 x1 x2 s h
  unfold f_X9_factorOf_6_b at h
  refine r_iload_n (pc := 6) dX9_factorOf_6 rfl rfl ?_
  refine r_iload_n (pc := 7) dX9_factorOf_7 rfl rfl ?_
  refine r_isub (pc := 8) dX9_factorOf_8 ?_
  refine r_iconst (pc := 9) dX9_factorOf_9 ?_
  refine r_icmp_le (pc := 10) (tgt := 37) h dX9_factorOf_10 (by decide) (fun h => ?_) (fun h => ?_)
  · refine r_iload_n (pc := 37) dX9_factorOf_37 rfl rfl ?_
    exact r_iret (pc := 38) h rfl dX9_factorOf_38
  · refine r_iload_n (pc := 13) dX9_factorOf_13 rfl rfl ?_
    refine r_iload_n (pc := 14) dX9_factorOf_14 rfl rfl ?_
    refine r_iadd (pc := 15) dX9_factorOf_15 ?_
    refine r_iconst (pc := 16) dX9_factorOf_16 ?_
    refine r_idiv (pc := 17) h dX9_factorOf_17 (fun v1 h => ?_)
    refine r_istore_n (ln := [some (sj_r (some a0)), some (sj_i x1), some (sj_i x2), some (sj_i v1)]) (pc := 18) dX9_factorOf_18 rfl (Nat.le_of_ble_eq_true rfl) rfl ?_
    refine r_aload_n (pc := 19) dX9_factorOf_19 rfl rfl ?_
    refine r_iload_n (pc := 20) dX9_factorOf_20 rfl rfl ?_
    refine r_callV (pc := 21) (fun v => some (sj_i v)) (As := [sj_i v1]) (rest := []) h dX9_factorOf_21 mw_X9_183 vw_X9_isStanding (fun _ _ hc => c_X9_isStanding hc) rfl ⟨(Nat.le_of_ble_eq_true rfl), (Nat.le_of_ble_eq_true rfl)⟩ (Nat.le_of_ble_eq_true rfl) rfl (fun v3 s2 h => ?_)
    refine r_if_eq (pc := 24) (tgt := 32) h dX9_factorOf_24 (by decide) (fun h => ?_) (fun h => ?_)
    · refine r_iload_n (pc := 32) dX9_factorOf_32 rfl rfl ?_
      refine r_istore_n (ln := [some (sj_r (some a0)), some (sj_i x1), some (sj_i v1), some (sj_i v1)]) (pc := 33) dX9_factorOf_33 rfl (Nat.le_of_ble_eq_true rfl) rfl ?_
      exact sj_weak (l2 := [some (sj_r (some a0)), some (sj_i x1), some (sj_i v1), none]) (⟨rfl, ⟨rfl, ⟨rfl, trivial⟩⟩⟩) (t_X9_factorOf_34 hk6 a0 x1 v1 s2 h)
    · refine r_iload_n (pc := 27) dX9_factorOf_27 rfl rfl ?_
      refine r_istore_n (ln := [some (sj_r (some a0)), some (sj_i v1), some (sj_i x2), some (sj_i v1)]) (pc := 28) dX9_factorOf_28 rfl (Nat.le_of_ble_eq_true rfl) rfl ?_
      refine r_goto (pc := 29) (tgt := 34) dX9_factorOf_29 (by decide) ?_
      exact sj_weak (l2 := [some (sj_r (some a0)), some (sj_i v1), some (sj_i x2), none]) (⟨rfl, ⟨rfl, ⟨rfl, trivial⟩⟩⟩) (t_X9_factorOf_34 hk6 a0 v1 x2 s2 h)
set_option maxHeartbeats 4000000 in
theorem t_X9_factorOf_6 {X : sj_X} {s0 : sj_Mem} {N : Nat} {q : Int × sj_Mem} :
    ∀ (n : Nat) (a0 : Nat) (x1 : Int) (x2 : Int) (s : sj_Mem), f_X9_factorOf_6 N n a0 x1 x2 s = some q → sj_T X m_X9_factorOf s0 (some (sj_i q.1), q.2) 6 [some (sj_r (some a0)), some (sj_i x1), some (sj_i x2), none] [] s := by
  intro n
  induction n with
  | zero => intro a0 x1 x2 s h; exact nomatch h
  | succ n ih => intro a0 x1 x2 s h; exact t_X9_factorOf_6_b (N := N) ih a0 x1 x2 s h
set_option maxHeartbeats 4000000 in
theorem t_X9_factorOf_0 {X : sj_X} {s0 : sj_Mem} {N : Nat} {q : Int × sj_Mem} :
    ∀ (a0 : Nat) (s : sj_Mem), f_X9_factorOf N a0 s = some q → sj_T X m_X9_factorOf s0 (some (sj_i q.1), q.2) 0 [some (sj_r (some a0)), none, none, none] [] s := by
  intro a0 s h
  unfold f_X9_factorOf at h
  refine r_iconst (pc := 0) dX9_factorOf_0 ?_
  refine r_istore_n (ln := [some (sj_r (some a0)), some (sj_i 0), none, none]) (pc := 1) dX9_factorOf_1 rfl (Nat.le_of_ble_eq_true rfl) rfl ?_
  refine r_sipush (pc := 2) dX9_factorOf_2 ⟨by decide, by decide⟩ ?_
  refine r_istore_n (ln := [some (sj_r (some a0)), some (sj_i 0), some (sj_i 20001), none]) (pc := 5) dX9_factorOf_5 rfl (Nat.le_of_ble_eq_true rfl) rfl ?_
  exact sj_weak (l2 := [some (sj_r (some a0)), some (sj_i 0), some (sj_i 20001), none]) (⟨rfl, ⟨rfl, ⟨rfl, trivial⟩⟩⟩) (t_X9_factorOf_6 N a0 0 20001 s h)
set_option maxHeartbeats 4000000 in
theorem c_X9_factorOf {X : sj_X} {N : Nat} {a0 : Nat} {s : sj_Mem} {q : Int × sj_Mem} (h : f_X9_factorOf N a0 s = some q) : sj_C X m_X9_factorOf [sj_r (some a0)] s (some (sj_i q.1), q.2) :=
  sj_C_of (by decide +kernel) (Nat.le_of_ble_eq_true rfl) (lo := [some (sj_r (some a0)), none, none, none]) rfl (sj_weak (l2 := [some (sj_r (some a0)), none, none, none]) (⟨rfl, trivial⟩) (t_X9_factorOf_0 a0 s h))
theorem dX9_factor_0 : decode cX9_factor 0 = .ok (.aload_n 0, 1) := by decide +kernel
theorem dX9_factor_1 : decode cX9_factor 1 = .ok (.invokevirtual 277, 3) := by decide +kernel
theorem dX9_factor_4 : decode cX9_factor 4 = .ok (.ifCond .eq 10, 3) := by decide +kernel
theorem dX9_factor_7 : decode cX9_factor 7 = .ok (.aload_n 0, 1) := by decide +kernel
theorem dX9_factor_8 : decode cX9_factor 8 = .ok (.invokevirtual 209, 3) := by decide +kernel
theorem dX9_factor_11 : decode cX9_factor 11 = .ok (.goto 4, 3) := by decide +kernel
theorem dX9_factor_14 : decode cX9_factor 14 = .ok (.iconst (-1), 1) := by decide +kernel
theorem dX9_factor_15 : decode cX9_factor 15 = .ok (.ireturn, 1) := by decide +kernel
set_option maxHeartbeats 4000000 in
theorem t_X9_factor_0 {X : sj_X} {s0 : sj_Mem} {N : Nat} {q : Int × sj_Mem} :
    ∀ (a0 : Nat) (s : sj_Mem), f_X9_factor N a0 s = some q → sj_T X m_X9_factor s0 (some (sj_i q.1), q.2) 0 [some (sj_r (some a0))] [] s := by
  intro a0 s h
  unfold f_X9_factor at h
  refine r_aload_n (pc := 0) dX9_factor_0 rfl rfl ?_
  refine r_callV (pc := 1) (fun v => some (sj_i v)) (As := []) (rest := []) h dX9_factor_1 mw_X9_277 vw_X9_takesSlip (fun _ _ hc => c_X9_takesSlip hc) rfl ⟨(Nat.le_of_ble_eq_true rfl), (Nat.le_of_ble_eq_true rfl)⟩ (Nat.le_of_ble_eq_true rfl) rfl (fun v2 s1 h => ?_)
  refine r_if_eq (pc := 4) (tgt := 14) h dX9_factor_4 (by decide) (fun h => ?_) (fun h => ?_)
  · refine r_iconst (pc := 14) dX9_factor_14 ?_
    exact r_iret (pc := 15) h rfl dX9_factor_15
  · refine r_aload_n (pc := 7) dX9_factor_7 rfl rfl ?_
    refine r_callV (pc := 8) (fun v => some (sj_i v)) (As := []) (rest := []) h dX9_factor_8 mw_X9_209 vw_X9_factorOf (fun _ _ hc => c_X9_factorOf hc) rfl ⟨(Nat.le_of_ble_eq_true rfl), (Nat.le_of_ble_eq_true rfl)⟩ (Nat.le_of_ble_eq_true rfl) rfl (fun v4 s3 h => ?_)
    refine r_goto (pc := 11) (tgt := 15) dX9_factor_11 (by decide) ?_
    exact r_iret (pc := 15) h rfl dX9_factor_15
set_option maxHeartbeats 4000000 in
theorem c_X9_factor {X : sj_X} {N : Nat} {a0 : Nat} {s : sj_Mem} {q : Int × sj_Mem} (h : f_X9_factor N a0 s = some q) : sj_C X m_X9_factor [sj_r (some a0)] s (some (sj_i q.1), q.2) :=
  sj_C_of (by decide +kernel) (Nat.le_of_ble_eq_true rfl) (lo := [some (sj_r (some a0))]) rfl (sj_weak (l2 := [some (sj_r (some a0))]) (⟨rfl, trivial⟩) (t_X9_factor_0 a0 s h))
theorem dX9_says_0 : decode cX9_says 0 = .ok (.aload_n 0, 1) := by decide +kernel
theorem dX9_says_1 : decode cX9_says 1 = .ok (.getfield 39, 3) := by decide +kernel
theorem dX9_says_4 : decode cX9_says 4 = .ok (.aload_n 0, 1) := by decide +kernel
theorem dX9_says_5 : decode cX9_says 5 = .ok (.getfield 325, 3) := by decide +kernel
theorem dX9_says_8 : decode cX9_says 8 = .ok (.iload_n 1, 1) := by decide +kernel
theorem dX9_says_9 : decode cX9_says 9 = .ok (.iastore, 1) := by decide +kernel
theorem dX9_says_10 : decode cX9_says 10 = .ok (.aload_n 0, 1) := by decide +kernel
theorem dX9_says_11 : decode cX9_says 11 = .ok (.dup, 1) := by decide +kernel
theorem dX9_says_12 : decode cX9_says 12 = .ok (.getfield 325, 3) := by decide +kernel
theorem dX9_says_15 : decode cX9_says 15 = .ok (.iconst 1, 1) := by decide +kernel
theorem dX9_says_16 : decode cX9_says 16 = .ok (.iadd, 1) := by decide +kernel
theorem dX9_says_17 : decode cX9_says 17 = .ok (.putfield 325, 3) := by decide +kernel
theorem dX9_says_20 : decode cX9_says 20 = .ok (.return_, 1) := by decide +kernel
set_option maxHeartbeats 4000000 in
theorem t_X9_says_0 {X : sj_X} {s0 : sj_Mem} {N : Nat} {q : Unit × sj_Mem} :
    ∀ (a0 : Nat) (x1 : Int) (s : sj_Mem), f_X9_says N a0 x1 s = some q → sj_T X m_X9_says s0 (none, q.2) 0 [some (sj_r (some a0)), some (sj_i x1)] [] s := by
  intro a0 x1 s h
  unfold f_X9_says at h
  refine r_aload_n (pc := 0) dX9_says_0 rfl rfl ?_
  refine r_gR (pc := 1) h dX9_says_1 fw_X9_39 rfl (fun r1 h => ?_)
  refine r_aload_n (pc := 4) dX9_says_4 rfl rfl ?_
  refine r_gI (pc := 5) h dX9_says_5 fw_X9_325 rfl (fun v2 h => ?_)
  refine r_iload_n (pc := 8) dX9_says_8 rfl rfl ?_
  obtain ⟨a3, ea3, g⟩ := e_nn_some h
  clear h
  subst ea3
  have h := g
  clear g
  refine r_iastore (pc := 9) h dX9_says_9 (fun s4 h => ?_)
  refine r_aload_n (pc := 10) dX9_says_10 rfl rfl ?_
  refine r_dup (pc := 11) dX9_says_11 rfl ?_
  refine r_gI (pc := 12) h dX9_says_12 fw_X9_325 rfl (fun v5 h => ?_)
  refine r_iconst (pc := 15) dX9_says_15 ?_
  refine r_iadd (pc := 16) dX9_says_16 ?_
  refine r_pI (pc := 17) h dX9_says_17 fw_X9_325 rfl rfl (fun _ hq => by cases hq; rfl) (fun s6 h => ?_)
  exact r_vret (pc := 20) h rfl dX9_says_20
set_option maxHeartbeats 4000000 in
theorem c_X9_says {X : sj_X} {N : Nat} {a0 : Nat} {x1 : Int} {s : sj_Mem} {q : Unit × sj_Mem} (h : f_X9_says N a0 x1 s = some q) : sj_C X m_X9_says [sj_r (some a0), sj_i x1] s (none, q.2) :=
  sj_C_of (by decide +kernel) (Nat.le_of_ble_eq_true rfl) (lo := [some (sj_r (some a0)), some (sj_i x1)]) rfl (sj_weak (l2 := [some (sj_r (some a0)), some (sj_i x1)]) (⟨rfl, ⟨rfl, trivial⟩⟩) (t_X9_says_0 a0 x1 s h))
theorem dX9_saysNumber_0 : decode cX9_saysNumber 0 = .ok (.iload_n 1, 1) := by decide +kernel
theorem dX9_saysNumber_1 : decode cX9_saysNumber 1 = .ok (.bipush 9, 2) := by decide +kernel
theorem dX9_saysNumber_3 : decode cX9_saysNumber 3 = .ok (.if_icmp .le 11, 3) := by decide +kernel
theorem dX9_saysNumber_6 : decode cX9_saysNumber 6 = .ok (.aload_n 0, 1) := by decide +kernel
theorem dX9_saysNumber_7 : decode cX9_saysNumber 7 = .ok (.iload_n 1, 1) := by decide +kernel
theorem dX9_saysNumber_8 : decode cX9_saysNumber 8 = .ok (.bipush 10, 2) := by decide +kernel
theorem dX9_saysNumber_10 : decode cX9_saysNumber 10 = .ok (.idiv, 1) := by decide +kernel
theorem dX9_saysNumber_11 : decode cX9_saysNumber 11 = .ok (.invokevirtual 328, 3) := by decide +kernel
theorem dX9_saysNumber_14 : decode cX9_saysNumber 14 = .ok (.aload_n 0, 1) := by decide +kernel
theorem dX9_saysNumber_15 : decode cX9_saysNumber 15 = .ok (.bipush 48, 2) := by decide +kernel
theorem dX9_saysNumber_17 : decode cX9_saysNumber 17 = .ok (.iload_n 1, 1) := by decide +kernel
theorem dX9_saysNumber_18 : decode cX9_saysNumber 18 = .ok (.bipush 10, 2) := by decide +kernel
theorem dX9_saysNumber_20 : decode cX9_saysNumber 20 = .ok (.irem, 1) := by decide +kernel
theorem dX9_saysNumber_21 : decode cX9_saysNumber 21 = .ok (.iadd, 1) := by decide +kernel
theorem dX9_saysNumber_22 : decode cX9_saysNumber 22 = .ok (.invokevirtual 331, 3) := by decide +kernel
theorem dX9_saysNumber_25 : decode cX9_saysNumber 25 = .ok (.return_, 1) := by decide +kernel
set_option maxHeartbeats 4000000 in
theorem t_X9_saysNumber_14 {X : sj_X} {s0 : sj_Mem} {N : Nat} {q : Unit × sj_Mem} {rc : Nat → Int → sj_Mem → Option (Unit × sj_Mem)} {d : Nat} (hrc : ∀ (a0 : Nat) (x1 : Int) (s : sj_Mem) (q : Unit × sj_Mem), rc a0 x1 s = some q → sj_C X (m_X9_saysNumber d) [sj_r (some a0), sj_i x1] s (none, q.2)) :
    ∀ (a0 : Nat) (x1 : Int) (s : sj_Mem), f_X9_saysNumber_14 N rc a0 x1 s = some q → sj_T X (m_X9_saysNumber (d + 1)) s0 (none, q.2) 14 [some (sj_r (some a0)), some (sj_i x1)] [] s := by
  intro a0 x1 s h
  unfold f_X9_saysNumber_14 at h
  refine r_aload_n (pc := 14) dX9_saysNumber_14 rfl rfl ?_
  refine r_bipush (pc := 15) dX9_saysNumber_15 ⟨by decide, by decide⟩ ?_
  refine r_iload_n (pc := 17) dX9_saysNumber_17 rfl rfl ?_
  refine r_bipush (pc := 18) dX9_saysNumber_18 ⟨by decide, by decide⟩ ?_
  refine r_irem (pc := 20) h dX9_saysNumber_20 (fun v1 h => ?_)
  refine r_iadd (pc := 21) dX9_saysNumber_21 ?_
  refine r_callV (pc := 22) (fun _ => none) (As := [sj_i (48 + v1)]) (rest := []) h dX9_saysNumber_22 mw_X9_331 vw_X9_says (fun _ _ hc => c_X9_says hc) rfl ⟨by show _ ≤ _ + _; exact Nat.le_add_left _ _, (Nat.le_of_ble_eq_true rfl)⟩ (Nat.le_of_ble_eq_true rfl) rfl (fun _u s2 h => ?_)
  exact r_vret (pc := 25) h rfl dX9_saysNumber_25
set_option maxHeartbeats 4000000 in
theorem t_X9_saysNumber_0 {X : sj_X} {s0 : sj_Mem} {N : Nat} {q : Unit × sj_Mem} {rc : Nat → Int → sj_Mem → Option (Unit × sj_Mem)} {d : Nat} (hrc : ∀ (a0 : Nat) (x1 : Int) (s : sj_Mem) (q : Unit × sj_Mem), rc a0 x1 s = some q → sj_C X (m_X9_saysNumber d) [sj_r (some a0), sj_i x1] s (none, q.2)) :
    ∀ (a0 : Nat) (x1 : Int) (s : sj_Mem), f_X9_saysNumber_r N rc a0 x1 s = some q → sj_T X (m_X9_saysNumber (d + 1)) s0 (none, q.2) 0 [some (sj_r (some a0)), some (sj_i x1)] [] s := by
  intro a0 x1 s h
  unfold f_X9_saysNumber_r at h
  refine r_iload_n (pc := 0) dX9_saysNumber_0 rfl rfl ?_
  refine r_bipush (pc := 1) dX9_saysNumber_1 ⟨by decide, by decide⟩ ?_
  refine r_icmp_le (pc := 3) (tgt := 14) h dX9_saysNumber_3 (by decide) (fun h => ?_) (fun h => ?_)
  · exact sj_weak (l2 := [some (sj_r (some a0)), some (sj_i x1)]) (⟨rfl, ⟨rfl, trivial⟩⟩) (t_X9_saysNumber_14 hrc a0 x1 s h)
  · refine r_aload_n (pc := 6) dX9_saysNumber_6 rfl rfl ?_
    refine r_iload_n (pc := 7) dX9_saysNumber_7 rfl rfl ?_
    refine r_bipush (pc := 8) dX9_saysNumber_8 ⟨by decide, by decide⟩ ?_
    refine r_idiv (pc := 10) h dX9_saysNumber_10 (fun v1 h => ?_)
    refine r_callV (pc := 11) (fun _ => none) (As := [sj_i v1]) (rest := []) h dX9_saysNumber_11 mw_X9_328 vw_X9_saysNumber (fun _ _ hc => hrc _ _ _ (_, _) hc) rfl ⟨Nat.le_refl _, (Nat.le_of_ble_eq_true rfl)⟩ (Nat.le_of_ble_eq_true rfl) rfl (fun _u s2 h => ?_)
    exact sj_weak (l2 := [some (sj_r (some a0)), some (sj_i x1)]) (⟨rfl, ⟨rfl, trivial⟩⟩) (t_X9_saysNumber_14 hrc a0 x1 s2 h)
set_option maxHeartbeats 4000000 in
theorem c_X9_saysNumber {X : sj_X} {N : Nat} : ∀ (d : Nat) (a0 : Nat) (x1 : Int) (s : sj_Mem) (q : Unit × sj_Mem), f_X9_saysNumber N d a0 x1 s = some q → sj_C X (m_X9_saysNumber d) [sj_r (some a0), sj_i x1] s (none, q.2) := by
  intro d
  induction d with
  | zero => intro a0 x1 s q h; exact nomatch h
  | succ d ih =>
    intro a0 x1 s q h
    exact sj_C_of (show plainFor yX9_saysNumber = true by decide +kernel) (Nat.le_of_ble_eq_true rfl) (lo := [some (sj_r (some a0)), some (sj_i x1)]) rfl (t_X9_saysNumber_0 ih a0 x1 s h)
theorem dX9_report_0 : decode cX9_report 0 = .ok (.aload_n 0, 1) := by decide +kernel
theorem dX9_report_1 : decode cX9_report 1 = .ok (.iconst 0, 1) := by decide +kernel
theorem dX9_report_2 : decode cX9_report 2 = .ok (.putfield 325, 3) := by decide +kernel
theorem dX9_report_5 : decode cX9_report 5 = .ok (.aload_n 0, 1) := by decide +kernel
theorem dX9_report_6 : decode cX9_report 6 = .ok (.invokevirtual 334, 3) := by decide +kernel
theorem dX9_report_9 : decode cX9_report 9 = .ok (.istore_n 1, 1) := by decide +kernel
theorem dX9_report_10 : decode cX9_report 10 = .ok (.iload_n 1, 1) := by decide +kernel
theorem dX9_report_11 : decode cX9_report 11 = .ok (.iconst (-1), 1) := by decide +kernel
theorem dX9_report_12 : decode cX9_report 12 = .ok (.if_icmp .ne 5, 3) := by decide +kernel
theorem dX9_report_15 : decode cX9_report 15 = .ok (.iconst (-1), 1) := by decide +kernel
theorem dX9_report_16 : decode cX9_report 16 = .ok (.ireturn, 1) := by decide +kernel
theorem dX9_report_17 : decode cX9_report 17 = .ok (.aload_n 0, 1) := by decide +kernel
theorem dX9_report_18 : decode cX9_report 18 = .ok (.iload_n 1, 1) := by decide +kernel
theorem dX9_report_19 : decode cX9_report 19 = .ok (.sipush 1000, 3) := by decide +kernel
theorem dX9_report_22 : decode cX9_report 22 = .ok (.idiv, 1) := by decide +kernel
theorem dX9_report_23 : decode cX9_report 23 = .ok (.invokevirtual 328, 3) := by decide +kernel
theorem dX9_report_26 : decode cX9_report 26 = .ok (.aload_n 0, 1) := by decide +kernel
theorem dX9_report_27 : decode cX9_report 27 = .ok (.bipush 46, 2) := by decide +kernel
theorem dX9_report_29 : decode cX9_report 29 = .ok (.invokevirtual 331, 3) := by decide +kernel
theorem dX9_report_32 : decode cX9_report 32 = .ok (.aload_n 0, 1) := by decide +kernel
theorem dX9_report_33 : decode cX9_report 33 = .ok (.bipush 48, 2) := by decide +kernel
theorem dX9_report_35 : decode cX9_report 35 = .ok (.iload_n 1, 1) := by decide +kernel
theorem dX9_report_36 : decode cX9_report 36 = .ok (.bipush 100, 2) := by decide +kernel
theorem dX9_report_38 : decode cX9_report 38 = .ok (.idiv, 1) := by decide +kernel
theorem dX9_report_39 : decode cX9_report 39 = .ok (.bipush 10, 2) := by decide +kernel
theorem dX9_report_41 : decode cX9_report 41 = .ok (.irem, 1) := by decide +kernel
theorem dX9_report_42 : decode cX9_report 42 = .ok (.iadd, 1) := by decide +kernel
theorem dX9_report_43 : decode cX9_report 43 = .ok (.invokevirtual 331, 3) := by decide +kernel
theorem dX9_report_46 : decode cX9_report 46 = .ok (.aload_n 0, 1) := by decide +kernel
theorem dX9_report_47 : decode cX9_report 47 = .ok (.bipush 48, 2) := by decide +kernel
theorem dX9_report_49 : decode cX9_report 49 = .ok (.iload_n 1, 1) := by decide +kernel
theorem dX9_report_50 : decode cX9_report 50 = .ok (.bipush 10, 2) := by decide +kernel
theorem dX9_report_52 : decode cX9_report 52 = .ok (.idiv, 1) := by decide +kernel
theorem dX9_report_53 : decode cX9_report 53 = .ok (.bipush 10, 2) := by decide +kernel
theorem dX9_report_55 : decode cX9_report 55 = .ok (.irem, 1) := by decide +kernel
theorem dX9_report_56 : decode cX9_report 56 = .ok (.iadd, 1) := by decide +kernel
theorem dX9_report_57 : decode cX9_report 57 = .ok (.invokevirtual 331, 3) := by decide +kernel
theorem dX9_report_60 : decode cX9_report 60 = .ok (.aload_n 0, 1) := by decide +kernel
theorem dX9_report_61 : decode cX9_report 61 = .ok (.bipush 48, 2) := by decide +kernel
theorem dX9_report_63 : decode cX9_report 63 = .ok (.iload_n 1, 1) := by decide +kernel
theorem dX9_report_64 : decode cX9_report 64 = .ok (.bipush 10, 2) := by decide +kernel
theorem dX9_report_66 : decode cX9_report 66 = .ok (.irem, 1) := by decide +kernel
theorem dX9_report_67 : decode cX9_report 67 = .ok (.iadd, 1) := by decide +kernel
theorem dX9_report_68 : decode cX9_report 68 = .ok (.invokevirtual 331, 3) := by decide +kernel
theorem dX9_report_71 : decode cX9_report 71 = .ok (.aload_n 0, 1) := by decide +kernel
theorem dX9_report_72 : decode cX9_report 72 = .ok (.bipush 32, 2) := by decide +kernel
theorem dX9_report_74 : decode cX9_report 74 = .ok (.invokevirtual 331, 3) := by decide +kernel
theorem dX9_report_77 : decode cX9_report 77 = .ok (.aload_n 0, 1) := by decide +kernel
theorem dX9_report_78 : decode cX9_report 78 = .ok (.aload_n 0, 1) := by decide +kernel
theorem dX9_report_79 : decode cX9_report 79 = .ok (.getfield 22, 3) := by decide +kernel
theorem dX9_report_82 : decode cX9_report 82 = .ok (.invokevirtual 328, 3) := by decide +kernel
theorem dX9_report_85 : decode cX9_report 85 = .ok (.aload_n 0, 1) := by decide +kernel
theorem dX9_report_86 : decode cX9_report 86 = .ok (.bipush 45, 2) := by decide +kernel
theorem dX9_report_88 : decode cX9_report 88 = .ok (.invokevirtual 331, 3) := by decide +kernel
theorem dX9_report_91 : decode cX9_report 91 = .ok (.aload_n 0, 1) := by decide +kernel
theorem dX9_report_92 : decode cX9_report 92 = .ok (.aload_n 0, 1) := by decide +kernel
theorem dX9_report_93 : decode cX9_report 93 = .ok (.getfield 150, 3) := by decide +kernel
theorem dX9_report_96 : decode cX9_report 96 = .ok (.invokevirtual 328, 3) := by decide +kernel
theorem dX9_report_99 : decode cX9_report 99 = .ok (.aload_n 0, 1) := by decide +kernel
theorem dX9_report_100 : decode cX9_report 100 = .ok (.bipush 32, 2) := by decide +kernel
theorem dX9_report_102 : decode cX9_report 102 = .ok (.invokevirtual 331, 3) := by decide +kernel
theorem dX9_report_105 : decode cX9_report 105 = .ok (.aload_n 0, 1) := by decide +kernel
theorem dX9_report_106 : decode cX9_report 106 = .ok (.aload_n 0, 1) := by decide +kernel
theorem dX9_report_107 : decode cX9_report 107 = .ok (.getfield 153, 3) := by decide +kernel
theorem dX9_report_110 : decode cX9_report 110 = .ok (.ifCond .eq 8, 3) := by decide +kernel
theorem dX9_report_113 : decode cX9_report 113 = .ok (.bipush 76, 2) := by decide +kernel
theorem dX9_report_115 : decode cX9_report 115 = .ok (.goto 5, 3) := by decide +kernel
theorem dX9_report_118 : decode cX9_report 118 = .ok (.bipush 82, 2) := by decide +kernel
theorem dX9_report_120 : decode cX9_report 120 = .ok (.invokevirtual 331, 3) := by decide +kernel
theorem dX9_report_123 : decode cX9_report 123 = .ok (.aload_n 0, 1) := by decide +kernel
theorem dX9_report_124 : decode cX9_report 124 = .ok (.getfield 325, 3) := by decide +kernel
theorem dX9_report_127 : decode cX9_report 127 = .ok (.ireturn, 1) := by decide +kernel
set_option maxHeartbeats 4000000 in
theorem t_X9_report_120 {X : sj_X} {s0 : sj_Mem} {N : Nat} {q : Int × sj_Mem} :
    ∀ (a0 : Nat) (y0 : Int) (y1 : Option Nat) (s : sj_Mem), f_X9_report_120 N a0 y0 y1 s = some q → sj_T X m_X9_report s0 (some (sj_i q.1), q.2) 120 [some (sj_r (some a0)), none] [(sj_i y0), (sj_r y1)] s := by
  intro a0 y0 y1 s h
  unfold f_X9_report_120 at h
  obtain ⟨a1, ea1, g⟩ := e_nn_some h
  clear h
  subst ea1
  have h := g
  clear g
  refine r_callV (pc := 120) (fun _ => none) (As := [sj_i y0]) (rest := []) h dX9_report_120 mw_X9_331 vw_X9_says (fun _ _ hc => c_X9_says hc) rfl ⟨(Nat.le_of_ble_eq_true rfl), (Nat.le_of_ble_eq_true rfl)⟩ (Nat.le_of_ble_eq_true rfl) rfl (fun _u s2 h => ?_)
  refine r_aload_n (pc := 123) dX9_report_123 rfl rfl ?_
  refine r_gI (pc := 124) h dX9_report_124 fw_X9_325 rfl (fun v3 h => ?_)
  exact r_iret (pc := 127) h rfl dX9_report_127
set_option maxHeartbeats 4000000 in
theorem t_X9_report_0 {X : sj_X} {s0 : sj_Mem} {N : Nat} {q : Int × sj_Mem} :
    ∀ (a0 : Nat) (s : sj_Mem), f_X9_report N a0 s = some q → sj_T X m_X9_report s0 (some (sj_i q.1), q.2) 0 [some (sj_r (some a0)), none] [] s := by
  intro a0 s h
  unfold f_X9_report at h
  refine r_aload_n (pc := 0) dX9_report_0 rfl rfl ?_
  refine r_iconst (pc := 1) dX9_report_1 ?_
  refine r_pI (pc := 2) h dX9_report_2 fw_X9_325 rfl rfl (fun _ hq => by cases hq; rfl) (fun s1 h => ?_)
  refine r_aload_n (pc := 5) dX9_report_5 rfl rfl ?_
  refine r_callV (pc := 6) (fun v => some (sj_i v)) (As := []) (rest := []) h dX9_report_6 mw_X9_334 vw_X9_factor (fun _ _ hc => c_X9_factor hc) rfl ⟨(Nat.le_of_ble_eq_true rfl), (Nat.le_of_ble_eq_true rfl)⟩ (Nat.le_of_ble_eq_true rfl) rfl (fun v3 s2 h => ?_)
  refine r_istore_n (ln := [some (sj_r (some a0)), some (sj_i v3)]) (pc := 9) dX9_report_9 rfl (Nat.le_of_ble_eq_true rfl) rfl ?_
  refine r_iload_n (pc := 10) dX9_report_10 rfl rfl ?_
  refine r_iconst (pc := 11) dX9_report_11 ?_
  refine r_icmp_ne (pc := 12) (tgt := 17) h dX9_report_12 (by decide) (fun h => ?_) (fun h => ?_)
  · refine r_iconst (pc := 15) dX9_report_15 ?_
    exact r_iret (pc := 16) h rfl dX9_report_16
  · refine r_aload_n (pc := 17) dX9_report_17 rfl rfl ?_
    refine r_iload_n (pc := 18) dX9_report_18 rfl rfl ?_
    refine r_sipush (pc := 19) dX9_report_19 ⟨by decide, by decide⟩ ?_
    refine r_idiv (pc := 22) h dX9_report_22 (fun v4 h => ?_)
    refine r_callV (pc := 23) (fun _ => none) (As := [sj_i v4]) (rest := []) h dX9_report_23 mw_X9_328 vw_X9_saysNumber (fun _ _ hc => c_X9_saysNumber 12 _ _ _ _ hc) rfl ⟨(Nat.le_of_ble_eq_true rfl), (Nat.le_of_ble_eq_true rfl)⟩ (Nat.le_of_ble_eq_true rfl) rfl (fun _u s5 h => ?_)
    refine r_aload_n (pc := 26) dX9_report_26 rfl rfl ?_
    refine r_bipush (pc := 27) dX9_report_27 ⟨by decide, by decide⟩ ?_
    refine r_callV (pc := 29) (fun _ => none) (As := [sj_i 46]) (rest := []) h dX9_report_29 mw_X9_331 vw_X9_says (fun _ _ hc => c_X9_says hc) rfl ⟨(Nat.le_of_ble_eq_true rfl), (Nat.le_of_ble_eq_true rfl)⟩ (Nat.le_of_ble_eq_true rfl) rfl (fun _u s6 h => ?_)
    refine r_aload_n (pc := 32) dX9_report_32 rfl rfl ?_
    refine r_bipush (pc := 33) dX9_report_33 ⟨by decide, by decide⟩ ?_
    refine r_iload_n (pc := 35) dX9_report_35 rfl rfl ?_
    refine r_bipush (pc := 36) dX9_report_36 ⟨by decide, by decide⟩ ?_
    refine r_idiv (pc := 38) h dX9_report_38 (fun v7 h => ?_)
    refine r_bipush (pc := 39) dX9_report_39 ⟨by decide, by decide⟩ ?_
    refine r_irem (pc := 41) h dX9_report_41 (fun v8 h => ?_)
    refine r_iadd (pc := 42) dX9_report_42 ?_
    refine r_callV (pc := 43) (fun _ => none) (As := [sj_i (48 + v8)]) (rest := []) h dX9_report_43 mw_X9_331 vw_X9_says (fun _ _ hc => c_X9_says hc) rfl ⟨(Nat.le_of_ble_eq_true rfl), (Nat.le_of_ble_eq_true rfl)⟩ (Nat.le_of_ble_eq_true rfl) rfl (fun _u s9 h => ?_)
    refine r_aload_n (pc := 46) dX9_report_46 rfl rfl ?_
    refine r_bipush (pc := 47) dX9_report_47 ⟨by decide, by decide⟩ ?_
    refine r_iload_n (pc := 49) dX9_report_49 rfl rfl ?_
    refine r_bipush (pc := 50) dX9_report_50 ⟨by decide, by decide⟩ ?_
    refine r_idiv (pc := 52) h dX9_report_52 (fun v10 h => ?_)
    refine r_bipush (pc := 53) dX9_report_53 ⟨by decide, by decide⟩ ?_
    refine r_irem (pc := 55) h dX9_report_55 (fun v11 h => ?_)
    refine r_iadd (pc := 56) dX9_report_56 ?_
    refine r_callV (pc := 57) (fun _ => none) (As := [sj_i (48 + v11)]) (rest := []) h dX9_report_57 mw_X9_331 vw_X9_says (fun _ _ hc => c_X9_says hc) rfl ⟨(Nat.le_of_ble_eq_true rfl), (Nat.le_of_ble_eq_true rfl)⟩ (Nat.le_of_ble_eq_true rfl) rfl (fun _u s12 h => ?_)
    refine r_aload_n (pc := 60) dX9_report_60 rfl rfl ?_
    refine r_bipush (pc := 61) dX9_report_61 ⟨by decide, by decide⟩ ?_
    refine r_iload_n (pc := 63) dX9_report_63 rfl rfl ?_
    refine r_bipush (pc := 64) dX9_report_64 ⟨by decide, by decide⟩ ?_
    refine r_irem (pc := 66) h dX9_report_66 (fun v13 h => ?_)
    refine r_iadd (pc := 67) dX9_report_67 ?_
    refine r_callV (pc := 68) (fun _ => none) (As := [sj_i (48 + v13)]) (rest := []) h dX9_report_68 mw_X9_331 vw_X9_says (fun _ _ hc => c_X9_says hc) rfl ⟨(Nat.le_of_ble_eq_true rfl), (Nat.le_of_ble_eq_true rfl)⟩ (Nat.le_of_ble_eq_true rfl) rfl (fun _u s14 h => ?_)
    refine r_aload_n (pc := 71) dX9_report_71 rfl rfl ?_
    refine r_bipush (pc := 72) dX9_report_72 ⟨by decide, by decide⟩ ?_
    refine r_callV (pc := 74) (fun _ => none) (As := [sj_i 32]) (rest := []) h dX9_report_74 mw_X9_331 vw_X9_says (fun _ _ hc => c_X9_says hc) rfl ⟨(Nat.le_of_ble_eq_true rfl), (Nat.le_of_ble_eq_true rfl)⟩ (Nat.le_of_ble_eq_true rfl) rfl (fun _u s15 h => ?_)
    refine r_aload_n (pc := 77) dX9_report_77 rfl rfl ?_
    refine r_aload_n (pc := 78) dX9_report_78 rfl rfl ?_
    refine r_gI (pc := 79) h dX9_report_79 fw_X9_22 rfl (fun v16 h => ?_)
    refine r_callV (pc := 82) (fun _ => none) (As := [sj_i v16]) (rest := []) h dX9_report_82 mw_X9_328 vw_X9_saysNumber (fun _ _ hc => c_X9_saysNumber 12 _ _ _ _ hc) rfl ⟨(Nat.le_of_ble_eq_true rfl), (Nat.le_of_ble_eq_true rfl)⟩ (Nat.le_of_ble_eq_true rfl) rfl (fun _u s17 h => ?_)
    refine r_aload_n (pc := 85) dX9_report_85 rfl rfl ?_
    refine r_bipush (pc := 86) dX9_report_86 ⟨by decide, by decide⟩ ?_
    refine r_callV (pc := 88) (fun _ => none) (As := [sj_i 45]) (rest := []) h dX9_report_88 mw_X9_331 vw_X9_says (fun _ _ hc => c_X9_says hc) rfl ⟨(Nat.le_of_ble_eq_true rfl), (Nat.le_of_ble_eq_true rfl)⟩ (Nat.le_of_ble_eq_true rfl) rfl (fun _u s18 h => ?_)
    refine r_aload_n (pc := 91) dX9_report_91 rfl rfl ?_
    refine r_aload_n (pc := 92) dX9_report_92 rfl rfl ?_
    refine r_gI (pc := 93) h dX9_report_93 fw_X9_150 rfl (fun v19 h => ?_)
    refine r_callV (pc := 96) (fun _ => none) (As := [sj_i v19]) (rest := []) h dX9_report_96 mw_X9_328 vw_X9_saysNumber (fun _ _ hc => c_X9_saysNumber 12 _ _ _ _ hc) rfl ⟨(Nat.le_of_ble_eq_true rfl), (Nat.le_of_ble_eq_true rfl)⟩ (Nat.le_of_ble_eq_true rfl) rfl (fun _u s20 h => ?_)
    refine r_aload_n (pc := 99) dX9_report_99 rfl rfl ?_
    refine r_bipush (pc := 100) dX9_report_100 ⟨by decide, by decide⟩ ?_
    refine r_callV (pc := 102) (fun _ => none) (As := [sj_i 32]) (rest := []) h dX9_report_102 mw_X9_331 vw_X9_says (fun _ _ hc => c_X9_says hc) rfl ⟨(Nat.le_of_ble_eq_true rfl), (Nat.le_of_ble_eq_true rfl)⟩ (Nat.le_of_ble_eq_true rfl) rfl (fun _u s21 h => ?_)
    refine r_aload_n (pc := 105) dX9_report_105 rfl rfl ?_
    refine r_aload_n (pc := 106) dX9_report_106 rfl rfl ?_
    refine r_gI (pc := 107) h dX9_report_107 fw_X9_153 rfl (fun v22 h => ?_)
    refine r_if_eq (pc := 110) (tgt := 118) h dX9_report_110 (by decide) (fun h => ?_) (fun h => ?_)
    · refine r_bipush (pc := 118) dX9_report_118 ⟨by decide, by decide⟩ ?_
      exact sj_weak (l2 := [some (sj_r (some a0)), none]) (⟨rfl, trivial⟩) (t_X9_report_120 a0 82 (some a0) s21 h)
    · refine r_bipush (pc := 113) dX9_report_113 ⟨by decide, by decide⟩ ?_
      refine r_goto (pc := 115) (tgt := 120) dX9_report_115 (by decide) ?_
      exact sj_weak (l2 := [some (sj_r (some a0)), none]) (⟨rfl, trivial⟩) (t_X9_report_120 a0 76 (some a0) s21 h)
set_option maxHeartbeats 4000000 in
theorem c_X9_report {X : sj_X} {N : Nat} {a0 : Nat} {s : sj_Mem} {q : Int × sj_Mem} (h : f_X9_report N a0 s = some q) : sj_C X m_X9_report [sj_r (some a0)] s (some (sj_i q.1), q.2) :=
  sj_C_of (by decide +kernel) (Nat.le_of_ble_eq_true rfl) (lo := [some (sj_r (some a0)), none]) rfl (sj_weak (l2 := [some (sj_r (some a0)), none]) (⟨rfl, trivial⟩) (t_X9_report_0 a0 s h))
theorem dX9_isK_0 : decode cX9_isK 0 = .ok (.iload_n 0, 1) := by decide +kernel
theorem dX9_isK_1 : decode cX9_isK 1 = .ok (.i2l, 1) := by decide +kernel
theorem dX9_isK_2 : decode cX9_isK 2 = .ok (.lconst 1, 1) := by decide +kernel
theorem dX9_isK_3 : decode cX9_isK 3 = .ok (.ldc2_w 285, 3) := by decide +kernel
theorem dX9_isK_6 : decode cX9_isK 6 = .ok (.invokestatic 57, 3) := by decide +kernel
theorem dX9_isK_9 : decode cX9_isK 9 = .ok (.ireturn, 1) := by decide +kernel
set_option maxHeartbeats 4000000 in
theorem t_X9_isK_0 {X : sj_X} {s0 : sj_Mem} {N : Nat} {q : Int × sj_Mem} :
    ∀ (x0 : Int) (s : sj_Mem), f_X9_isK N x0 s = some q → sj_T X m_X9_isK s0 (some (sj_i q.1), q.2) 0 [some (sj_i x0)] [] s := by
  intro x0 s h
  unfold f_X9_isK at h
  refine r_iload_n (pc := 0) dX9_isK_0 rfl rfl ?_
  refine r_i2l (pc := 1) h dX9_isK_1 (fun v1 h => ?_)
  refine r_lconst1 (pc := 2) dX9_isK_2 ?_
  refine r_ldc2 (n := 20000) (pc := 3) dX9_isK_3 kc_X9_285 ?_
  refine r_callS (pc := 6) (fun v => some (sj_i v)) (As := [sj_j v1, sj_j 1, sj_j 20000]) (rest := []) h dX9_isK_6 mw_X9_57 kw_1225 (fun _ _ hc => c_X9_isIn hc) rfl ⟨(Nat.le_of_ble_eq_true rfl), (Nat.le_of_ble_eq_true rfl)⟩ (Nat.le_of_ble_eq_true rfl) rfl (fun v3 s2 h => ?_)
  exact r_zret (pc := 9) h rfl dX9_isK_9
set_option maxHeartbeats 4000000 in
theorem c_X9_isK {X : sj_X} {N : Nat} {x0 : Int} {s : sj_Mem} {q : Int × sj_Mem} (h : f_X9_isK N x0 s = some q) : sj_C X m_X9_isK [sj_i x0] s (some (sj_i q.1), q.2) :=
  sj_C_of (by decide +kernel) (Nat.le_of_ble_eq_true rfl) (lo := [some (sj_i x0)]) rfl (sj_weak (l2 := [some (sj_i x0)]) (⟨rfl, trivial⟩) (t_X9_isK_0 x0 s h))
theorem dX9_laysAside_0 : decode cX9_laysAside 0 = .ok (.iconst 0, 1) := by decide +kernel
theorem dX9_laysAside_1 : decode cX9_laysAside 1 = .ok (.istore_n 1, 1) := by decide +kernel
theorem dX9_laysAside_2 : decode cX9_laysAside 2 = .ok (.iload_n 1, 1) := by decide +kernel
theorem dX9_laysAside_3 : decode cX9_laysAside 3 = .ok (.sipush 390, 3) := by decide +kernel
theorem dX9_laysAside_6 : decode cX9_laysAside 6 = .ok (.if_icmp .ge 21, 3) := by decide +kernel
theorem dX9_laysAside_9 : decode cX9_laysAside 9 = .ok (.aload_n 0, 1) := by decide +kernel
theorem dX9_laysAside_10 : decode cX9_laysAside 10 = .ok (.getfield 13, 3) := by decide +kernel
theorem dX9_laysAside_13 : decode cX9_laysAside 13 = .ok (.iload_n 1, 1) := by decide +kernel
theorem dX9_laysAside_14 : decode cX9_laysAside 14 = .ok (.aload_n 0, 1) := by decide +kernel
theorem dX9_laysAside_15 : decode cX9_laysAside 15 = .ok (.getfield 9, 3) := by decide +kernel
theorem dX9_laysAside_18 : decode cX9_laysAside 18 = .ok (.iload_n 1, 1) := by decide +kernel
theorem dX9_laysAside_19 : decode cX9_laysAside 19 = .ok (.iaload, 1) := by decide +kernel
theorem dX9_laysAside_20 : decode cX9_laysAside 20 = .ok (.iastore, 1) := by decide +kernel
theorem dX9_laysAside_21 : decode cX9_laysAside 21 = .ok (.iinc 1 1, 3) := by decide +kernel
theorem dX9_laysAside_24 : decode cX9_laysAside 24 = .ok (.goto (-22), 3) := by decide +kernel
theorem dX9_laysAside_27 : decode cX9_laysAside 27 = .ok (.return_, 1) := by decide +kernel
set_option maxHeartbeats 4000000 in
theorem t_X9_laysAside_2_b {X : sj_X} {s0 : sj_Mem} {N : Nat} {q : Unit × sj_Mem} {k2 : Nat → Int → sj_Mem → Option (Unit × sj_Mem)} (hk2 : ∀ (a0 : Nat) (x1 : Int) (s : sj_Mem), k2 a0 x1 s = some q → sj_T X m_X9_laysAside s0 (none, q.2) 2 [some (sj_r (some a0)), some (sj_i x1)] [] s) :
    ∀ (a0 : Nat) (x1 : Int) (s : sj_Mem), f_X9_laysAside_2_b N k2 a0 x1 s = some q → sj_T X m_X9_laysAside s0 (none, q.2) 2 [some (sj_r (some a0)), some (sj_i x1)] [] s := by
  intro a0 x1 s h
  unfold f_X9_laysAside_2_b at h
  refine r_iload_n (pc := 2) dX9_laysAside_2 rfl rfl ?_
  refine r_sipush (pc := 3) dX9_laysAside_3 ⟨by decide, by decide⟩ ?_
  refine r_icmp_ge (pc := 6) (tgt := 27) h dX9_laysAside_6 (by decide) (fun h => ?_) (fun h => ?_)
  · exact r_vret (pc := 27) h rfl dX9_laysAside_27
  · refine r_aload_n (pc := 9) dX9_laysAside_9 rfl rfl ?_
    refine r_gR (pc := 10) h dX9_laysAside_10 fw_X9_13 rfl (fun r1 h => ?_)
    refine r_iload_n (pc := 13) dX9_laysAside_13 rfl rfl ?_
    refine r_aload_n (pc := 14) dX9_laysAside_14 rfl rfl ?_
    refine r_gR (pc := 15) h dX9_laysAside_15 fw_X9_9 rfl (fun r2 h => ?_)
    refine r_iload_n (pc := 18) dX9_laysAside_18 rfl rfl ?_
    obtain ⟨a3, ea3, g⟩ := e_nn_some h
    clear h
    subst ea3
    have h := g
    clear g
    refine r_iaload (pc := 19) h dX9_laysAside_19 (fun v4 h => ?_)
    obtain ⟨a5, ea5, g⟩ := e_nn_some h
    clear h
    subst ea5
    have h := g
    clear g
    refine r_iastore (pc := 20) h dX9_laysAside_20 (fun s6 h => ?_)
    refine r_iinc (ln := fun w => [some (sj_r (some a0)), some (sj_i w)]) (pc := 21) h dX9_laysAside_21 rfl (Nat.le_of_ble_eq_true rfl) (fun _ => rfl) (fun v7 h => ?_)
    refine r_goto (pc := 24) (tgt := 2) dX9_laysAside_24 (by decide) ?_
    exact sj_weak (l2 := [some (sj_r (some a0)), some (sj_i v7)]) (⟨rfl, ⟨rfl, trivial⟩⟩) (hk2 a0 v7 s6 h)
set_option maxHeartbeats 4000000 in
theorem t_X9_laysAside_2 {X : sj_X} {s0 : sj_Mem} {N : Nat} {q : Unit × sj_Mem} :
    ∀ (n : Nat) (a0 : Nat) (x1 : Int) (s : sj_Mem), f_X9_laysAside_2 N n a0 x1 s = some q → sj_T X m_X9_laysAside s0 (none, q.2) 2 [some (sj_r (some a0)), some (sj_i x1)] [] s := by
  intro n
  induction n with
  | zero => intro a0 x1 s h; exact nomatch h
  | succ n ih => intro a0 x1 s h; exact t_X9_laysAside_2_b (N := N) ih a0 x1 s h
set_option maxHeartbeats 4000000 in
theorem t_X9_laysAside_0 {X : sj_X} {s0 : sj_Mem} {N : Nat} {q : Unit × sj_Mem} :
    ∀ (a0 : Nat) (s : sj_Mem), f_X9_laysAside N a0 s = some q → sj_T X m_X9_laysAside s0 (none, q.2) 0 [some (sj_r (some a0)), none] [] s := by
  intro a0 s h
  unfold f_X9_laysAside at h
  refine r_iconst (pc := 0) dX9_laysAside_0 ?_
  refine r_istore_n (ln := [some (sj_r (some a0)), some (sj_i 0)]) (pc := 1) dX9_laysAside_1 rfl (Nat.le_of_ble_eq_true rfl) rfl ?_
  exact sj_weak (l2 := [some (sj_r (some a0)), some (sj_i 0)]) (⟨rfl, ⟨rfl, trivial⟩⟩) (t_X9_laysAside_2 N a0 0 s h)
set_option maxHeartbeats 4000000 in
theorem c_X9_laysAside {X : sj_X} {N : Nat} {a0 : Nat} {s : sj_Mem} {q : Unit × sj_Mem} (h : f_X9_laysAside N a0 s = some q) : sj_C X m_X9_laysAside [sj_r (some a0)] s (none, q.2) :=
  sj_C_of (by decide +kernel) (Nat.le_of_ble_eq_true rfl) (lo := [some (sj_r (some a0)), none]) rfl (sj_weak (l2 := [some (sj_r (some a0)), none]) (⟨rfl, trivial⟩) (t_X9_laysAside_0 a0 s h))
theorem dX9_comesBack_0 : decode cX9_comesBack 0 = .ok (.iconst 0, 1) := by decide +kernel
theorem dX9_comesBack_1 : decode cX9_comesBack 1 = .ok (.istore_n 1, 1) := by decide +kernel
theorem dX9_comesBack_2 : decode cX9_comesBack 2 = .ok (.iload_n 1, 1) := by decide +kernel
theorem dX9_comesBack_3 : decode cX9_comesBack 3 = .ok (.sipush 390, 3) := by decide +kernel
theorem dX9_comesBack_6 : decode cX9_comesBack 6 = .ok (.if_icmp .ge 21, 3) := by decide +kernel
theorem dX9_comesBack_9 : decode cX9_comesBack 9 = .ok (.aload_n 0, 1) := by decide +kernel
theorem dX9_comesBack_10 : decode cX9_comesBack 10 = .ok (.getfield 9, 3) := by decide +kernel
theorem dX9_comesBack_13 : decode cX9_comesBack 13 = .ok (.iload_n 1, 1) := by decide +kernel
theorem dX9_comesBack_14 : decode cX9_comesBack 14 = .ok (.aload_n 0, 1) := by decide +kernel
theorem dX9_comesBack_15 : decode cX9_comesBack 15 = .ok (.getfield 13, 3) := by decide +kernel
theorem dX9_comesBack_18 : decode cX9_comesBack 18 = .ok (.iload_n 1, 1) := by decide +kernel
theorem dX9_comesBack_19 : decode cX9_comesBack 19 = .ok (.iaload, 1) := by decide +kernel
theorem dX9_comesBack_20 : decode cX9_comesBack 20 = .ok (.iastore, 1) := by decide +kernel
theorem dX9_comesBack_21 : decode cX9_comesBack 21 = .ok (.iinc 1 1, 3) := by decide +kernel
theorem dX9_comesBack_24 : decode cX9_comesBack 24 = .ok (.goto (-22), 3) := by decide +kernel
theorem dX9_comesBack_27 : decode cX9_comesBack 27 = .ok (.return_, 1) := by decide +kernel
set_option maxHeartbeats 4000000 in
theorem t_X9_comesBack_2_b {X : sj_X} {s0 : sj_Mem} {N : Nat} {q : Unit × sj_Mem} {k2 : Nat → Int → sj_Mem → Option (Unit × sj_Mem)} (hk2 : ∀ (a0 : Nat) (x1 : Int) (s : sj_Mem), k2 a0 x1 s = some q → sj_T X m_X9_comesBack s0 (none, q.2) 2 [some (sj_r (some a0)), some (sj_i x1)] [] s) :
    ∀ (a0 : Nat) (x1 : Int) (s : sj_Mem), f_X9_comesBack_2_b N k2 a0 x1 s = some q → sj_T X m_X9_comesBack s0 (none, q.2) 2 [some (sj_r (some a0)), some (sj_i x1)] [] s := by
  intro a0 x1 s h
  unfold f_X9_comesBack_2_b at h
  refine r_iload_n (pc := 2) dX9_comesBack_2 rfl rfl ?_
  refine r_sipush (pc := 3) dX9_comesBack_3 ⟨by decide, by decide⟩ ?_
  refine r_icmp_ge (pc := 6) (tgt := 27) h dX9_comesBack_6 (by decide) (fun h => ?_) (fun h => ?_)
  · exact r_vret (pc := 27) h rfl dX9_comesBack_27
  · refine r_aload_n (pc := 9) dX9_comesBack_9 rfl rfl ?_
    refine r_gR (pc := 10) h dX9_comesBack_10 fw_X9_9 rfl (fun r1 h => ?_)
    refine r_iload_n (pc := 13) dX9_comesBack_13 rfl rfl ?_
    refine r_aload_n (pc := 14) dX9_comesBack_14 rfl rfl ?_
    refine r_gR (pc := 15) h dX9_comesBack_15 fw_X9_13 rfl (fun r2 h => ?_)
    refine r_iload_n (pc := 18) dX9_comesBack_18 rfl rfl ?_
    obtain ⟨a3, ea3, g⟩ := e_nn_some h
    clear h
    subst ea3
    have h := g
    clear g
    refine r_iaload (pc := 19) h dX9_comesBack_19 (fun v4 h => ?_)
    obtain ⟨a5, ea5, g⟩ := e_nn_some h
    clear h
    subst ea5
    have h := g
    clear g
    refine r_iastore (pc := 20) h dX9_comesBack_20 (fun s6 h => ?_)
    refine r_iinc (ln := fun w => [some (sj_r (some a0)), some (sj_i w)]) (pc := 21) h dX9_comesBack_21 rfl (Nat.le_of_ble_eq_true rfl) (fun _ => rfl) (fun v7 h => ?_)
    refine r_goto (pc := 24) (tgt := 2) dX9_comesBack_24 (by decide) ?_
    exact sj_weak (l2 := [some (sj_r (some a0)), some (sj_i v7)]) (⟨rfl, ⟨rfl, trivial⟩⟩) (hk2 a0 v7 s6 h)
set_option maxHeartbeats 4000000 in
theorem t_X9_comesBack_2 {X : sj_X} {s0 : sj_Mem} {N : Nat} {q : Unit × sj_Mem} :
    ∀ (n : Nat) (a0 : Nat) (x1 : Int) (s : sj_Mem), f_X9_comesBack_2 N n a0 x1 s = some q → sj_T X m_X9_comesBack s0 (none, q.2) 2 [some (sj_r (some a0)), some (sj_i x1)] [] s := by
  intro n
  induction n with
  | zero => intro a0 x1 s h; exact nomatch h
  | succ n ih => intro a0 x1 s h; exact t_X9_comesBack_2_b (N := N) ih a0 x1 s h
set_option maxHeartbeats 4000000 in
theorem t_X9_comesBack_0 {X : sj_X} {s0 : sj_Mem} {N : Nat} {q : Unit × sj_Mem} :
    ∀ (a0 : Nat) (s : sj_Mem), f_X9_comesBack N a0 s = some q → sj_T X m_X9_comesBack s0 (none, q.2) 0 [some (sj_r (some a0)), none] [] s := by
  intro a0 s h
  unfold f_X9_comesBack at h
  refine r_iconst (pc := 0) dX9_comesBack_0 ?_
  refine r_istore_n (ln := [some (sj_r (some a0)), some (sj_i 0)]) (pc := 1) dX9_comesBack_1 rfl (Nat.le_of_ble_eq_true rfl) rfl ?_
  exact sj_weak (l2 := [some (sj_r (some a0)), some (sj_i 0)]) (⟨rfl, ⟨rfl, trivial⟩⟩) (t_X9_comesBack_2 N a0 0 s h)
set_option maxHeartbeats 4000000 in
theorem c_X9_comesBack {X : sj_X} {N : Nat} {a0 : Nat} {s : sj_Mem} {q : Unit × sj_Mem} (h : f_X9_comesBack N a0 s = some q) : sj_C X m_X9_comesBack [sj_r (some a0)] s (none, q.2) :=
  sj_C_of (by decide +kernel) (Nat.le_of_ble_eq_true rfl) (lo := [some (sj_r (some a0)), none]) rfl (sj_weak (l2 := [some (sj_r (some a0)), none]) (⟨rfl, trivial⟩) (t_X9_comesBack_0 a0 s h))
theorem dX9_draw_0 : decode cX9_draw 0 = .ok (.aload_n 0, 1) := by decide +kernel
theorem dX9_draw_1 : decode cX9_draw 1 = .ok (.getfield 9, 3) := by decide +kernel
theorem dX9_draw_4 : decode cX9_draw 4 = .ok (.sipush 389, 3) := by decide +kernel
theorem dX9_draw_7 : decode cX9_draw 7 = .ok (.ldc_w 320, 3) := by decide +kernel
theorem dX9_draw_10 : decode cX9_draw 10 = .ok (.aload_n 0, 1) := by decide +kernel
theorem dX9_draw_11 : decode cX9_draw 11 = .ok (.getfield 9, 3) := by decide +kernel
theorem dX9_draw_14 : decode cX9_draw 14 = .ok (.sipush 389, 3) := by decide +kernel
theorem dX9_draw_17 : decode cX9_draw 17 = .ok (.iaload, 1) := by decide +kernel
theorem dX9_draw_18 : decode cX9_draw 18 = .ok (.imul, 1) := by decide +kernel
theorem dX9_draw_19 : decode cX9_draw 19 = .ok (.ldc_w 321, 3) := by decide +kernel
theorem dX9_draw_22 : decode cX9_draw 22 = .ok (.iadd, 1) := by decide +kernel
theorem dX9_draw_23 : decode cX9_draw 23 = .ok (.iastore, 1) := by decide +kernel
theorem dX9_draw_24 : decode cX9_draw 24 = .ok (.aload_n 0, 1) := by decide +kernel
theorem dX9_draw_25 : decode cX9_draw 25 = .ok (.getfield 9, 3) := by decide +kernel
theorem dX9_draw_28 : decode cX9_draw 28 = .ok (.sipush 389, 3) := by decide +kernel
theorem dX9_draw_31 : decode cX9_draw 31 = .ok (.iaload, 1) := by decide +kernel
theorem dX9_draw_32 : decode cX9_draw 32 = .ok (.bipush 8, 2) := by decide +kernel
theorem dX9_draw_34 : decode cX9_draw 34 = .ok (.iushr, 1) := by decide +kernel
theorem dX9_draw_35 : decode cX9_draw 35 = .ok (.iload_n 1, 1) := by decide +kernel
theorem dX9_draw_36 : decode cX9_draw 36 = .ok (.irem, 1) := by decide +kernel
theorem dX9_draw_37 : decode cX9_draw 37 = .ok (.ireturn, 1) := by decide +kernel
set_option maxHeartbeats 4000000 in
theorem t_X9_draw_0 {X : sj_X} {s0 : sj_Mem} {N : Nat} {q : Int × sj_Mem} :
    ∀ (a0 : Nat) (x1 : Int) (s : sj_Mem), f_X9_draw N a0 x1 s = some q → sj_T X m_X9_draw s0 (some (sj_i q.1), q.2) 0 [some (sj_r (some a0)), some (sj_i x1)] [] s := by
  intro a0 x1 s h
  unfold f_X9_draw at h
  refine r_aload_n (pc := 0) dX9_draw_0 rfl rfl ?_
  refine r_gR (pc := 1) h dX9_draw_1 fw_X9_9 rfl (fun r1 h => ?_)
  refine r_sipush (pc := 4) dX9_draw_4 ⟨by decide, by decide⟩ ?_
  refine r_ldc_w (n := 1664525) (pc := 7) dX9_draw_7 kc_X9_320 ?_
  refine r_aload_n (pc := 10) dX9_draw_10 rfl rfl ?_
  refine r_gR (pc := 11) h dX9_draw_11 fw_X9_9 rfl (fun r2 h => ?_)
  refine r_sipush (pc := 14) dX9_draw_14 ⟨by decide, by decide⟩ ?_
  obtain ⟨a3, ea3, g⟩ := e_nn_some h
  clear h
  subst ea3
  have h := g
  clear g
  refine r_iaload (pc := 17) h dX9_draw_17 (fun v4 h => ?_)
  refine r_imul (pc := 18) dX9_draw_18 ?_
  refine r_ldc_w (n := 1013904223) (pc := 19) dX9_draw_19 kc_X9_321 ?_
  refine r_iadd (pc := 22) dX9_draw_22 ?_
  obtain ⟨a5, ea5, g⟩ := e_nn_some h
  clear h
  subst ea5
  have h := g
  clear g
  refine r_iastore (pc := 23) h dX9_draw_23 (fun s6 h => ?_)
  refine r_aload_n (pc := 24) dX9_draw_24 rfl rfl ?_
  refine r_gR (pc := 25) h dX9_draw_25 fw_X9_9 rfl (fun r7 h => ?_)
  refine r_sipush (pc := 28) dX9_draw_28 ⟨by decide, by decide⟩ ?_
  obtain ⟨a8, ea8, g⟩ := e_nn_some h
  clear h
  subst ea8
  have h := g
  clear g
  refine r_iaload (pc := 31) h dX9_draw_31 (fun v9 h => ?_)
  refine r_bipush (pc := 32) dX9_draw_32 ⟨by decide, by decide⟩ ?_
  refine r_iushr (pc := 34) h dX9_draw_34 (fun v10 h => ?_)
  refine r_iload_n (pc := 35) dX9_draw_35 rfl rfl ?_
  refine r_irem (pc := 36) h dX9_draw_36 (fun v11 h => ?_)
  exact r_iret (pc := 37) h rfl dX9_draw_37
set_option maxHeartbeats 4000000 in
theorem c_X9_draw {X : sj_X} {N : Nat} {a0 : Nat} {x1 : Int} {s : sj_Mem} {q : Int × sj_Mem} (h : f_X9_draw N a0 x1 s = some q) : sj_C X m_X9_draw [sj_r (some a0), sj_i x1] s (some (sj_i q.1), q.2) :=
  sj_C_of (by decide +kernel) (Nat.le_of_ble_eq_true rfl) (lo := [some (sj_r (some a0)), some (sj_i x1)]) rfl (sj_weak (l2 := [some (sj_r (some a0)), some (sj_i x1)]) (⟨rfl, ⟨rfl, trivial⟩⟩) (t_X9_draw_0 a0 x1 s h))
theorem dX9_chance_0 : decode cX9_chance 0 = .ok (.iload_n 1, 1) := by decide +kernel
theorem dX9_chance_1 : decode cX9_chance 1 = .ok (.i2l, 1) := by decide +kernel
theorem dX9_chance_2 : decode cX9_chance 2 = .ok (.lconst 1, 1) := by decide +kernel
theorem dX9_chance_3 : decode cX9_chance 3 = .ok (.ldc2_w 66, 3) := by decide +kernel
theorem dX9_chance_6 : decode cX9_chance 6 = .ok (.invokestatic 57, 3) := by decide +kernel
theorem dX9_chance_9 : decode cX9_chance 9 = .ok (.ifCond .eq 29, 3) := by decide +kernel
theorem dX9_chance_12 : decode cX9_chance 12 = .ok (.iload_n 2, 1) := by decide +kernel
theorem dX9_chance_13 : decode cX9_chance 13 = .ok (.i2l, 1) := by decide +kernel
theorem dX9_chance_14 : decode cX9_chance 14 = .ok (.lconst 0, 1) := by decide +kernel
theorem dX9_chance_15 : decode cX9_chance 15 = .ok (.ldc2_w 267, 3) := by decide +kernel
theorem dX9_chance_18 : decode cX9_chance 18 = .ok (.invokestatic 57, 3) := by decide +kernel
theorem dX9_chance_21 : decode cX9_chance 21 = .ok (.ifCond .eq 17, 3) := by decide +kernel
theorem dX9_chance_24 : decode cX9_chance 24 = .ok (.iload_n 3, 1) := by decide +kernel
theorem dX9_chance_25 : decode cX9_chance 25 = .ok (.invokestatic 287, 3) := by decide +kernel
theorem dX9_chance_28 : decode cX9_chance 28 = .ok (.ifCond .eq 10, 3) := by decide +kernel
theorem dX9_chance_31 : decode cX9_chance 31 = .ok (.aload_n 0, 1) := by decide +kernel
theorem dX9_chance_32 : decode cX9_chance 32 = .ok (.invokevirtual 277, 3) := by decide +kernel
theorem dX9_chance_35 : decode cX9_chance 35 = .ok (.ifCond .ne 5, 3) := by decide +kernel
theorem dX9_chance_38 : decode cX9_chance 38 = .ok (.iconst (-1), 1) := by decide +kernel
theorem dX9_chance_39 : decode cX9_chance 39 = .ok (.ireturn, 1) := by decide +kernel
theorem dX9_chance_40 : decode cX9_chance 40 = .ok (.aload_n 0, 1) := by decide +kernel
theorem dX9_chance_41 : decode cX9_chance 41 = .ok (.invokevirtual 301, 3) := by decide +kernel
theorem dX9_chance_44 : decode cX9_chance 44 = .ok (.iconst 0, 1) := by decide +kernel
theorem dX9_chance_45 : decode cX9_chance 45 = .ok (.istore 4, 2) := by decide +kernel
theorem dX9_chance_47 : decode cX9_chance 47 = .ok (.iconst 0, 1) := by decide +kernel
theorem dX9_chance_48 : decode cX9_chance 48 = .ok (.istore 5, 2) := by decide +kernel
theorem dX9_chance_50 : decode cX9_chance 50 = .ok (.iload 5, 2) := by decide +kernel
theorem dX9_chance_52 : decode cX9_chance 52 = .ok (.iload_n 1, 1) := by decide +kernel
theorem dX9_chance_53 : decode cX9_chance 53 = .ok (.if_icmp .ge 107, 3) := by decide +kernel
theorem dX9_chance_56 : decode cX9_chance 56 = .ok (.iconst 0, 1) := by decide +kernel
theorem dX9_chance_57 : decode cX9_chance 57 = .ok (.istore 6, 2) := by decide +kernel
theorem dX9_chance_59 : decode cX9_chance 59 = .ok (.iload 6, 2) := by decide +kernel
theorem dX9_chance_61 : decode cX9_chance 61 = .ok (.iconst 4, 1) := by decide +kernel
theorem dX9_chance_62 : decode cX9_chance 62 = .ok (.if_icmp .ge 74, 3) := by decide +kernel
theorem dX9_chance_65 : decode cX9_chance 65 = .ok (.iconst 1, 1) := by decide +kernel
theorem dX9_chance_66 : decode cX9_chance 66 = .ok (.istore 7, 2) := by decide +kernel
theorem dX9_chance_68 : decode cX9_chance 68 = .ok (.iload 7, 2) := by decide +kernel
theorem dX9_chance_70 : decode cX9_chance 70 = .ok (.iconst 3, 1) := by decide +kernel
theorem dX9_chance_71 : decode cX9_chance 71 = .ok (.if_icmp .ge 59, 3) := by decide +kernel
theorem dX9_chance_74 : decode cX9_chance 74 = .ok (.aload_n 0, 1) := by decide +kernel
theorem dX9_chance_75 : decode cX9_chance 75 = .ok (.getfield 9, 3) := by decide +kernel
theorem dX9_chance_78 : decode cX9_chance 78 = .ok (.sipush 290, 3) := by decide +kernel
theorem dX9_chance_81 : decode cX9_chance 81 = .ok (.iconst 3, 1) := by decide +kernel
theorem dX9_chance_82 : decode cX9_chance 82 = .ok (.iload 6, 2) := by decide +kernel
theorem dX9_chance_84 : decode cX9_chance 84 = .ok (.imul, 1) := by decide +kernel
theorem dX9_chance_85 : decode cX9_chance 85 = .ok (.iadd, 1) := by decide +kernel
theorem dX9_chance_86 : decode cX9_chance 86 = .ok (.iload 7, 2) := by decide +kernel
theorem dX9_chance_88 : decode cX9_chance 88 = .ok (.iadd, 1) := by decide +kernel
theorem dX9_chance_89 : decode cX9_chance 89 = .ok (.aload_n 0, 1) := by decide +kernel
theorem dX9_chance_90 : decode cX9_chance 90 = .ok (.getfield 13, 3) := by decide +kernel
theorem dX9_chance_93 : decode cX9_chance 93 = .ok (.sipush 290, 3) := by decide +kernel
theorem dX9_chance_96 : decode cX9_chance 96 = .ok (.iconst 3, 1) := by decide +kernel
theorem dX9_chance_97 : decode cX9_chance 97 = .ok (.iload 6, 2) := by decide +kernel
theorem dX9_chance_99 : decode cX9_chance 99 = .ok (.imul, 1) := by decide +kernel
theorem dX9_chance_100 : decode cX9_chance 100 = .ok (.iadd, 1) := by decide +kernel
theorem dX9_chance_101 : decode cX9_chance 101 = .ok (.iload 7, 2) := by decide +kernel
theorem dX9_chance_103 : decode cX9_chance 103 = .ok (.iadd, 1) := by decide +kernel
theorem dX9_chance_104 : decode cX9_chance 104 = .ok (.iaload, 1) := by decide +kernel
theorem dX9_chance_105 : decode cX9_chance 105 = .ok (.bipush 100, 2) := by decide +kernel
theorem dX9_chance_107 : decode cX9_chance 107 = .ok (.iload_n 2, 1) := by decide +kernel
theorem dX9_chance_108 : decode cX9_chance 108 = .ok (.isub, 1) := by decide +kernel
theorem dX9_chance_109 : decode cX9_chance 109 = .ok (.aload_n 0, 1) := by decide +kernel
theorem dX9_chance_110 : decode cX9_chance 110 = .ok (.iconst 2, 1) := by decide +kernel
theorem dX9_chance_111 : decode cX9_chance 111 = .ok (.iload_n 2, 1) := by decide +kernel
theorem dX9_chance_112 : decode cX9_chance 112 = .ok (.imul, 1) := by decide +kernel
theorem dX9_chance_113 : decode cX9_chance 113 = .ok (.iconst 1, 1) := by decide +kernel
theorem dX9_chance_114 : decode cX9_chance 114 = .ok (.iadd, 1) := by decide +kernel
theorem dX9_chance_115 : decode cX9_chance 115 = .ok (.invokevirtual 322, 3) := by decide +kernel
theorem dX9_chance_118 : decode cX9_chance 118 = .ok (.iadd, 1) := by decide +kernel
theorem dX9_chance_119 : decode cX9_chance 119 = .ok (.imul, 1) := by decide +kernel
theorem dX9_chance_120 : decode cX9_chance 120 = .ok (.bipush 100, 2) := by decide +kernel
theorem dX9_chance_122 : decode cX9_chance 122 = .ok (.idiv, 1) := by decide +kernel
theorem dX9_chance_123 : decode cX9_chance 123 = .ok (.iastore, 1) := by decide +kernel
theorem dX9_chance_124 : decode cX9_chance 124 = .ok (.iinc 7 1, 3) := by decide +kernel
theorem dX9_chance_127 : decode cX9_chance 127 = .ok (.goto (-59), 3) := by decide +kernel
theorem dX9_chance_130 : decode cX9_chance 130 = .ok (.iinc 6 1, 3) := by decide +kernel
theorem dX9_chance_133 : decode cX9_chance 133 = .ok (.goto (-74), 3) := by decide +kernel
theorem dX9_chance_136 : decode cX9_chance 136 = .ok (.iload 4, 2) := by decide +kernel
theorem dX9_chance_138 : decode cX9_chance 138 = .ok (.aload_n 0, 1) := by decide +kernel
theorem dX9_chance_139 : decode cX9_chance 139 = .ok (.iload_n 3, 1) := by decide +kernel
theorem dX9_chance_140 : decode cX9_chance 140 = .ok (.invokevirtual 183, 3) := by decide +kernel
theorem dX9_chance_143 : decode cX9_chance 143 = .ok (.ifCond .eq 7, 3) := by decide +kernel
theorem dX9_chance_146 : decode cX9_chance 146 = .ok (.iconst 0, 1) := by decide +kernel
theorem dX9_chance_147 : decode cX9_chance 147 = .ok (.goto 4, 3) := by decide +kernel
theorem dX9_chance_150 : decode cX9_chance 150 = .ok (.iconst 1, 1) := by decide +kernel
theorem dX9_chance_151 : decode cX9_chance 151 = .ok (.iadd, 1) := by decide +kernel
theorem dX9_chance_152 : decode cX9_chance 152 = .ok (.istore 4, 2) := by decide +kernel
theorem dX9_chance_154 : decode cX9_chance 154 = .ok (.iinc 5 1, 3) := by decide +kernel
theorem dX9_chance_157 : decode cX9_chance 157 = .ok (.goto (-107), 3) := by decide +kernel
theorem dX9_chance_160 : decode cX9_chance 160 = .ok (.aload_n 0, 1) := by decide +kernel
theorem dX9_chance_161 : decode cX9_chance 161 = .ok (.getfield 9, 3) := by decide +kernel
theorem dX9_chance_164 : decode cX9_chance 164 = .ok (.sipush 389, 3) := by decide +kernel
theorem dX9_chance_167 : decode cX9_chance 167 = .ok (.iaload, 1) := by decide +kernel
theorem dX9_chance_168 : decode cX9_chance 168 = .ok (.istore 5, 2) := by decide +kernel
theorem dX9_chance_170 : decode cX9_chance 170 = .ok (.aload_n 0, 1) := by decide +kernel
theorem dX9_chance_171 : decode cX9_chance 171 = .ok (.invokevirtual 304, 3) := by decide +kernel
theorem dX9_chance_174 : decode cX9_chance 174 = .ok (.aload_n 0, 1) := by decide +kernel
theorem dX9_chance_175 : decode cX9_chance 175 = .ok (.getfield 9, 3) := by decide +kernel
theorem dX9_chance_178 : decode cX9_chance 178 = .ok (.sipush 389, 3) := by decide +kernel
theorem dX9_chance_181 : decode cX9_chance 181 = .ok (.iload 5, 2) := by decide +kernel
theorem dX9_chance_183 : decode cX9_chance 183 = .ok (.iastore, 1) := by decide +kernel
theorem dX9_chance_184 : decode cX9_chance 184 = .ok (.iload 4, 2) := by decide +kernel
theorem dX9_chance_186 : decode cX9_chance 186 = .ok (.ireturn, 1) := by decide +kernel
set_option maxHeartbeats 4000000 in
theorem t_X9_chance_68_b {X : sj_X} {s0 : sj_Mem} {N : Nat} {q : Int × sj_Mem} {k50 : Nat → Int → Int → Int → Int → Int → sj_Mem → Option (Int × sj_Mem)} {k59 : Nat → Int → Int → Int → Int → Int → Int → sj_Mem → Option (Int × sj_Mem)} {k68 : Nat → Int → Int → Int → Int → Int → Int → Int → sj_Mem → Option (Int × sj_Mem)} (hk50 : ∀ (a0 : Nat) (x1 : Int) (x2 : Int) (x3 : Int) (x4 : Int) (x5 : Int) (s : sj_Mem), k50 a0 x1 x2 x3 x4 x5 s = some q → sj_T X m_X9_chance s0 (some (sj_i q.1), q.2) 50 [some (sj_r (some a0)), some (sj_i x1), some (sj_i x2), some (sj_i x3), some (sj_i x4), some (sj_i x5), none, none] [] s) (hk59 : ∀ (a0 : Nat) (x1 : Int) (x2 : Int) (x3 : Int) (x4 : Int) (x5 : Int) (x6 : Int) (s : sj_Mem), k59 a0 x1 x2 x3 x4 x5 x6 s = some q → sj_T X m_X9_chance s0 (some (sj_i q.1), q.2) 59 [some (sj_r (some a0)), some (sj_i x1), some (sj_i x2), some (sj_i x3), some (sj_i x4), some (sj_i x5), some (sj_i x6), none] [] s) (hk68 : ∀ (a0 : Nat) (x1 : Int) (x2 : Int) (x3 : Int) (x4 : Int) (x5 : Int) (x6 : Int) (x7 : Int) (s : sj_Mem), k68 a0 x1 x2 x3 x4 x5 x6 x7 s = some q → sj_T X m_X9_chance s0 (some (sj_i q.1), q.2) 68 [some (sj_r (some a0)), some (sj_i x1), some (sj_i x2), some (sj_i x3), some (sj_i x4), some (sj_i x5), some (sj_i x6), some (sj_i x7)] [] s) :
    ∀ (a0 : Nat) (x1 : Int) (x2 : Int) (x3 : Int) (x4 : Int) (x5 : Int) (x6 : Int) (x7 : Int) (s : sj_Mem), f_X9_chance_68_b N k50 k59 k68 a0 x1 x2 x3 x4 x5 x6 x7 s = some q → sj_T X m_X9_chance s0 (some (sj_i q.1), q.2) 68 [some (sj_r (some a0)), some (sj_i x1), some (sj_i x2), some (sj_i x3), some (sj_i x4), some (sj_i x5), some (sj_i x6), some (sj_i x7)] [] s := by
  intro a0 x1 x2 x3 x4 x5 x6 x7 s h
  unfold f_X9_chance_68_b at h
  refine r_iload (pc := 68) dX9_chance_68 rfl ?_
  refine r_iconst (pc := 70) dX9_chance_70 ?_
  refine r_icmp_ge (pc := 71) (tgt := 130) h dX9_chance_71 (by decide) (fun h => ?_) (fun h => ?_)
  · refine r_iinc (ln := fun w => [some (sj_r (some a0)), some (sj_i x1), some (sj_i x2), some (sj_i x3), some (sj_i x4), some (sj_i x5), some (sj_i w), some (sj_i x7)]) (pc := 130) h dX9_chance_130 rfl (Nat.le_of_ble_eq_true rfl) (fun _ => rfl) (fun v1 h => ?_)
    refine r_goto (pc := 133) (tgt := 59) dX9_chance_133 (by decide) ?_
    exact sj_weak (l2 := [some (sj_r (some a0)), some (sj_i x1), some (sj_i x2), some (sj_i x3), some (sj_i x4), some (sj_i x5), some (sj_i v1), none]) (⟨rfl, ⟨rfl, ⟨rfl, ⟨rfl, ⟨rfl, ⟨rfl, ⟨rfl, trivial⟩⟩⟩⟩⟩⟩⟩) (hk59 a0 x1 x2 x3 x4 x5 v1 s h)
  · refine r_aload_n (pc := 74) dX9_chance_74 rfl rfl ?_
    refine r_gR (pc := 75) h dX9_chance_75 fw_X9_9 rfl (fun r2 h => ?_)
    refine r_sipush (pc := 78) dX9_chance_78 ⟨by decide, by decide⟩ ?_
    refine r_iconst (pc := 81) dX9_chance_81 ?_
    refine r_iload (pc := 82) dX9_chance_82 rfl ?_
    refine r_imul (pc := 84) dX9_chance_84 ?_
    refine r_iadd (pc := 85) dX9_chance_85 ?_
    refine r_iload (pc := 86) dX9_chance_86 rfl ?_
    refine r_iadd (pc := 88) dX9_chance_88 ?_
    refine r_aload_n (pc := 89) dX9_chance_89 rfl rfl ?_
    refine r_gR (pc := 90) h dX9_chance_90 fw_X9_13 rfl (fun r3 h => ?_)
    refine r_sipush (pc := 93) dX9_chance_93 ⟨by decide, by decide⟩ ?_
    refine r_iconst (pc := 96) dX9_chance_96 ?_
    refine r_iload (pc := 97) dX9_chance_97 rfl ?_
    refine r_imul (pc := 99) dX9_chance_99 ?_
    refine r_iadd (pc := 100) dX9_chance_100 ?_
    refine r_iload (pc := 101) dX9_chance_101 rfl ?_
    refine r_iadd (pc := 103) dX9_chance_103 ?_
    obtain ⟨a4, ea4, g⟩ := e_nn_some h
    clear h
    subst ea4
    have h := g
    clear g
    refine r_iaload (pc := 104) h dX9_chance_104 (fun v5 h => ?_)
    refine r_bipush (pc := 105) dX9_chance_105 ⟨by decide, by decide⟩ ?_
    refine r_iload_n (pc := 107) dX9_chance_107 rfl rfl ?_
    refine r_isub (pc := 108) dX9_chance_108 ?_
    refine r_aload_n (pc := 109) dX9_chance_109 rfl rfl ?_
    refine r_iconst (pc := 110) dX9_chance_110 ?_
    refine r_iload_n (pc := 111) dX9_chance_111 rfl rfl ?_
    refine r_imul (pc := 112) dX9_chance_112 ?_
    refine r_iconst (pc := 113) dX9_chance_113 ?_
    refine r_iadd (pc := 114) dX9_chance_114 ?_
    refine r_callV (pc := 115) (fun v => some (sj_i v)) (As := [sj_i ((2 * x2) + 1)]) (rest := [(sj_i (100 - x2)), (sj_i v5), (sj_i ((290 + (3 * x6)) + x7)), (sj_r r2)]) h dX9_chance_115 mw_X9_322 vw_X9_draw (fun _ _ hc => c_X9_draw hc) rfl ⟨(Nat.le_of_ble_eq_true rfl), (Nat.le_of_ble_eq_true rfl)⟩ (Nat.le_of_ble_eq_true rfl) rfl (fun v7 s6 h => ?_)
    refine r_iadd (pc := 118) dX9_chance_118 ?_
    refine r_imul (pc := 119) dX9_chance_119 ?_
    refine r_bipush (pc := 120) dX9_chance_120 ⟨by decide, by decide⟩ ?_
    refine r_idiv (pc := 122) h dX9_chance_122 (fun v8 h => ?_)
    obtain ⟨a9, ea9, g⟩ := e_nn_some h
    clear h
    subst ea9
    have h := g
    clear g
    refine r_iastore (pc := 123) h dX9_chance_123 (fun s10 h => ?_)
    refine r_iinc (ln := fun w => [some (sj_r (some a0)), some (sj_i x1), some (sj_i x2), some (sj_i x3), some (sj_i x4), some (sj_i x5), some (sj_i x6), some (sj_i w)]) (pc := 124) h dX9_chance_124 rfl (Nat.le_of_ble_eq_true rfl) (fun _ => rfl) (fun v11 h => ?_)
    refine r_goto (pc := 127) (tgt := 68) dX9_chance_127 (by decide) ?_
    exact sj_weak (l2 := [some (sj_r (some a0)), some (sj_i x1), some (sj_i x2), some (sj_i x3), some (sj_i x4), some (sj_i x5), some (sj_i x6), some (sj_i v11)]) (⟨rfl, ⟨rfl, ⟨rfl, ⟨rfl, ⟨rfl, ⟨rfl, ⟨rfl, ⟨rfl, trivial⟩⟩⟩⟩⟩⟩⟩⟩) (hk68 a0 x1 x2 x3 x4 x5 x6 v11 s10 h)
set_option maxHeartbeats 4000000 in
theorem t_X9_chance_68 {X : sj_X} {s0 : sj_Mem} {N : Nat} {q : Int × sj_Mem} {k50 : Nat → Int → Int → Int → Int → Int → sj_Mem → Option (Int × sj_Mem)} {k59 : Nat → Int → Int → Int → Int → Int → Int → sj_Mem → Option (Int × sj_Mem)} (hk50 : ∀ (a0 : Nat) (x1 : Int) (x2 : Int) (x3 : Int) (x4 : Int) (x5 : Int) (s : sj_Mem), k50 a0 x1 x2 x3 x4 x5 s = some q → sj_T X m_X9_chance s0 (some (sj_i q.1), q.2) 50 [some (sj_r (some a0)), some (sj_i x1), some (sj_i x2), some (sj_i x3), some (sj_i x4), some (sj_i x5), none, none] [] s) (hk59 : ∀ (a0 : Nat) (x1 : Int) (x2 : Int) (x3 : Int) (x4 : Int) (x5 : Int) (x6 : Int) (s : sj_Mem), k59 a0 x1 x2 x3 x4 x5 x6 s = some q → sj_T X m_X9_chance s0 (some (sj_i q.1), q.2) 59 [some (sj_r (some a0)), some (sj_i x1), some (sj_i x2), some (sj_i x3), some (sj_i x4), some (sj_i x5), some (sj_i x6), none] [] s) :
    ∀ (n : Nat) (a0 : Nat) (x1 : Int) (x2 : Int) (x3 : Int) (x4 : Int) (x5 : Int) (x6 : Int) (x7 : Int) (s : sj_Mem), f_X9_chance_68 N k50 k59 n a0 x1 x2 x3 x4 x5 x6 x7 s = some q → sj_T X m_X9_chance s0 (some (sj_i q.1), q.2) 68 [some (sj_r (some a0)), some (sj_i x1), some (sj_i x2), some (sj_i x3), some (sj_i x4), some (sj_i x5), some (sj_i x6), some (sj_i x7)] [] s := by
  intro n
  induction n with
  | zero => intro a0 x1 x2 x3 x4 x5 x6 x7 s h; exact nomatch h
  | succ n ih => intro a0 x1 x2 x3 x4 x5 x6 x7 s h; exact t_X9_chance_68_b (N := N) hk50 hk59 ih a0 x1 x2 x3 x4 x5 x6 x7 s h
set_option maxHeartbeats 4000000 in
theorem t_X9_chance_151 {X : sj_X} {s0 : sj_Mem} {N : Nat} {q : Int × sj_Mem} {k50 : Nat → Int → Int → Int → Int → Int → sj_Mem → Option (Int × sj_Mem)} (hk50 : ∀ (a0 : Nat) (x1 : Int) (x2 : Int) (x3 : Int) (x4 : Int) (x5 : Int) (s : sj_Mem), k50 a0 x1 x2 x3 x4 x5 s = some q → sj_T X m_X9_chance s0 (some (sj_i q.1), q.2) 50 [some (sj_r (some a0)), some (sj_i x1), some (sj_i x2), some (sj_i x3), some (sj_i x4), some (sj_i x5), none, none] [] s) :
    ∀ (a0 : Nat) (x1 : Int) (x2 : Int) (x3 : Int) (x5 : Int) (y0 : Int) (y1 : Int) (s : sj_Mem), f_X9_chance_151 N k50 a0 x1 x2 x3 x5 y0 y1 s = some q → sj_T X m_X9_chance s0 (some (sj_i q.1), q.2) 151 [some (sj_r (some a0)), some (sj_i x1), some (sj_i x2), some (sj_i x3), none, some (sj_i x5), none, none] [(sj_i y0), (sj_i y1)] s := by
  intro a0 x1 x2 x3 x5 y0 y1 s h
  unfold f_X9_chance_151 at h
  refine r_iadd (pc := 151) dX9_chance_151 ?_
  refine r_istoreL (ln := fun w => [some (sj_r (some a0)), some (sj_i x1), some (sj_i x2), some (sj_i x3), some (sj_i w), some (sj_i x5), none, none]) (pc := 152) h dX9_chance_152 (Nat.le_of_ble_eq_true rfl) (fun _ => rfl) (fun v1 h => ?_)
  refine r_iinc (ln := fun w => [some (sj_r (some a0)), some (sj_i x1), some (sj_i x2), some (sj_i x3), some (sj_i v1), some (sj_i w), none, none]) (pc := 154) h dX9_chance_154 rfl (Nat.le_of_ble_eq_true rfl) (fun _ => rfl) (fun v2 h => ?_)
  refine r_goto (pc := 157) (tgt := 50) dX9_chance_157 (by decide) ?_
  exact sj_weak (l2 := [some (sj_r (some a0)), some (sj_i x1), some (sj_i x2), some (sj_i x3), some (sj_i v1), some (sj_i v2), none, none]) (⟨rfl, ⟨rfl, ⟨rfl, ⟨rfl, ⟨rfl, ⟨rfl, trivial⟩⟩⟩⟩⟩⟩) (hk50 a0 x1 x2 x3 v1 v2 s h)
set_option maxHeartbeats 4000000 in
theorem t_X9_chance_59_b {X : sj_X} {s0 : sj_Mem} {N : Nat} {q : Int × sj_Mem} {k50 : Nat → Int → Int → Int → Int → Int → sj_Mem → Option (Int × sj_Mem)} {k59 : Nat → Int → Int → Int → Int → Int → Int → sj_Mem → Option (Int × sj_Mem)} (hk50 : ∀ (a0 : Nat) (x1 : Int) (x2 : Int) (x3 : Int) (x4 : Int) (x5 : Int) (s : sj_Mem), k50 a0 x1 x2 x3 x4 x5 s = some q → sj_T X m_X9_chance s0 (some (sj_i q.1), q.2) 50 [some (sj_r (some a0)), some (sj_i x1), some (sj_i x2), some (sj_i x3), some (sj_i x4), some (sj_i x5), none, none] [] s) (hk59 : ∀ (a0 : Nat) (x1 : Int) (x2 : Int) (x3 : Int) (x4 : Int) (x5 : Int) (x6 : Int) (s : sj_Mem), k59 a0 x1 x2 x3 x4 x5 x6 s = some q → sj_T X m_X9_chance s0 (some (sj_i q.1), q.2) 59 [some (sj_r (some a0)), some (sj_i x1), some (sj_i x2), some (sj_i x3), some (sj_i x4), some (sj_i x5), some (sj_i x6), none] [] s) :
    ∀ (a0 : Nat) (x1 : Int) (x2 : Int) (x3 : Int) (x4 : Int) (x5 : Int) (x6 : Int) (s : sj_Mem), f_X9_chance_59_b N k50 k59 a0 x1 x2 x3 x4 x5 x6 s = some q → sj_T X m_X9_chance s0 (some (sj_i q.1), q.2) 59 [some (sj_r (some a0)), some (sj_i x1), some (sj_i x2), some (sj_i x3), some (sj_i x4), some (sj_i x5), some (sj_i x6), none] [] s := by
  intro a0 x1 x2 x3 x4 x5 x6 s h
  unfold f_X9_chance_59_b at h
  refine r_iload (pc := 59) dX9_chance_59 rfl ?_
  refine r_iconst (pc := 61) dX9_chance_61 ?_
  refine r_icmp_ge (pc := 62) (tgt := 136) h dX9_chance_62 (by decide) (fun h => ?_) (fun h => ?_)
  · refine r_iload (pc := 136) dX9_chance_136 rfl ?_
    refine r_aload_n (pc := 138) dX9_chance_138 rfl rfl ?_
    refine r_iload_n (pc := 139) dX9_chance_139 rfl rfl ?_
    refine r_callV (pc := 140) (fun v => some (sj_i v)) (As := [sj_i x3]) (rest := [(sj_i x4)]) h dX9_chance_140 mw_X9_183 vw_X9_isStanding (fun _ _ hc => c_X9_isStanding hc) rfl ⟨(Nat.le_of_ble_eq_true rfl), (Nat.le_of_ble_eq_true rfl)⟩ (Nat.le_of_ble_eq_true rfl) rfl (fun v2 s1 h => ?_)
    refine r_if_eq (pc := 143) (tgt := 150) h dX9_chance_143 (by decide) (fun h => ?_) (fun h => ?_)
    · refine r_iconst (pc := 150) dX9_chance_150 ?_
      exact sj_weak (l2 := [some (sj_r (some a0)), some (sj_i x1), some (sj_i x2), some (sj_i x3), none, some (sj_i x5), none, none]) (⟨rfl, ⟨rfl, ⟨rfl, ⟨rfl, ⟨rfl, trivial⟩⟩⟩⟩⟩) (t_X9_chance_151 hk50 a0 x1 x2 x3 x5 1 x4 s1 h)
    · refine r_iconst (pc := 146) dX9_chance_146 ?_
      refine r_goto (pc := 147) (tgt := 151) dX9_chance_147 (by decide) ?_
      exact sj_weak (l2 := [some (sj_r (some a0)), some (sj_i x1), some (sj_i x2), some (sj_i x3), none, some (sj_i x5), none, none]) (⟨rfl, ⟨rfl, ⟨rfl, ⟨rfl, ⟨rfl, trivial⟩⟩⟩⟩⟩) (t_X9_chance_151 hk50 a0 x1 x2 x3 x5 0 x4 s1 h)
  · refine r_iconst (pc := 65) dX9_chance_65 ?_
    refine r_istore (ln := [some (sj_r (some a0)), some (sj_i x1), some (sj_i x2), some (sj_i x3), some (sj_i x4), some (sj_i x5), some (sj_i x6), some (sj_i 1)]) (pc := 66) dX9_chance_66 (Nat.le_of_ble_eq_true rfl) rfl ?_
    exact sj_weak (l2 := [some (sj_r (some a0)), some (sj_i x1), some (sj_i x2), some (sj_i x3), some (sj_i x4), some (sj_i x5), some (sj_i x6), some (sj_i 1)]) (⟨rfl, ⟨rfl, ⟨rfl, ⟨rfl, ⟨rfl, ⟨rfl, ⟨rfl, ⟨rfl, trivial⟩⟩⟩⟩⟩⟩⟩⟩) (t_X9_chance_68 hk50 hk59 N a0 x1 x2 x3 x4 x5 x6 1 s h)
set_option maxHeartbeats 4000000 in
theorem t_X9_chance_59 {X : sj_X} {s0 : sj_Mem} {N : Nat} {q : Int × sj_Mem} {k50 : Nat → Int → Int → Int → Int → Int → sj_Mem → Option (Int × sj_Mem)} (hk50 : ∀ (a0 : Nat) (x1 : Int) (x2 : Int) (x3 : Int) (x4 : Int) (x5 : Int) (s : sj_Mem), k50 a0 x1 x2 x3 x4 x5 s = some q → sj_T X m_X9_chance s0 (some (sj_i q.1), q.2) 50 [some (sj_r (some a0)), some (sj_i x1), some (sj_i x2), some (sj_i x3), some (sj_i x4), some (sj_i x5), none, none] [] s) :
    ∀ (n : Nat) (a0 : Nat) (x1 : Int) (x2 : Int) (x3 : Int) (x4 : Int) (x5 : Int) (x6 : Int) (s : sj_Mem), f_X9_chance_59 N k50 n a0 x1 x2 x3 x4 x5 x6 s = some q → sj_T X m_X9_chance s0 (some (sj_i q.1), q.2) 59 [some (sj_r (some a0)), some (sj_i x1), some (sj_i x2), some (sj_i x3), some (sj_i x4), some (sj_i x5), some (sj_i x6), none] [] s := by
  intro n
  induction n with
  | zero => intro a0 x1 x2 x3 x4 x5 x6 s h; exact nomatch h
  | succ n ih => intro a0 x1 x2 x3 x4 x5 x6 s h; exact t_X9_chance_59_b (N := N) hk50 ih a0 x1 x2 x3 x4 x5 x6 s h
set_option maxHeartbeats 4000000 in
theorem t_X9_chance_50_b {X : sj_X} {s0 : sj_Mem} {N : Nat} {q : Int × sj_Mem} {k50 : Nat → Int → Int → Int → Int → Int → sj_Mem → Option (Int × sj_Mem)} (hk50 : ∀ (a0 : Nat) (x1 : Int) (x2 : Int) (x3 : Int) (x4 : Int) (x5 : Int) (s : sj_Mem), k50 a0 x1 x2 x3 x4 x5 s = some q → sj_T X m_X9_chance s0 (some (sj_i q.1), q.2) 50 [some (sj_r (some a0)), some (sj_i x1), some (sj_i x2), some (sj_i x3), some (sj_i x4), some (sj_i x5), none, none] [] s) :
    ∀ (a0 : Nat) (x1 : Int) (x2 : Int) (x3 : Int) (x4 : Int) (x5 : Int) (s : sj_Mem), f_X9_chance_50_b N k50 a0 x1 x2 x3 x4 x5 s = some q → sj_T X m_X9_chance s0 (some (sj_i q.1), q.2) 50 [some (sj_r (some a0)), some (sj_i x1), some (sj_i x2), some (sj_i x3), some (sj_i x4), some (sj_i x5), none, none] [] s := by
  intro a0 x1 x2 x3 x4 x5 s h
  unfold f_X9_chance_50_b at h
  refine r_iload (pc := 50) dX9_chance_50 rfl ?_
  refine r_iload_n (pc := 52) dX9_chance_52 rfl rfl ?_
  refine r_icmp_ge (pc := 53) (tgt := 160) h dX9_chance_53 (by decide) (fun h => ?_) (fun h => ?_)
  · refine r_aload_n (pc := 160) dX9_chance_160 rfl rfl ?_
    refine r_gR (pc := 161) h dX9_chance_161 fw_X9_9 rfl (fun r1 h => ?_)
    refine r_sipush (pc := 164) dX9_chance_164 ⟨by decide, by decide⟩ ?_
    obtain ⟨a2, ea2, g⟩ := e_nn_some h
    clear h
    subst ea2
    have h := g
    clear g
    refine r_iaload (pc := 167) h dX9_chance_167 (fun v3 h => ?_)
    refine r_istore (ln := [some (sj_r (some a0)), some (sj_i x1), some (sj_i x2), some (sj_i x3), some (sj_i x4), some (sj_i v3), none, none]) (pc := 168) dX9_chance_168 (Nat.le_of_ble_eq_true rfl) rfl ?_
    refine r_aload_n (pc := 170) dX9_chance_170 rfl rfl ?_
    refine r_callV (pc := 171) (fun _ => none) (As := []) (rest := []) h dX9_chance_171 mw_X9_304 vw_X9_comesBack (fun _ _ hc => c_X9_comesBack hc) rfl ⟨(Nat.le_of_ble_eq_true rfl), (Nat.le_of_ble_eq_true rfl)⟩ (Nat.le_of_ble_eq_true rfl) rfl (fun _u s4 h => ?_)
    refine r_aload_n (pc := 174) dX9_chance_174 rfl rfl ?_
    refine r_gR (pc := 175) h dX9_chance_175 fw_X9_9 rfl (fun r5 h => ?_)
    refine r_sipush (pc := 178) dX9_chance_178 ⟨by decide, by decide⟩ ?_
    refine r_iload (pc := 181) dX9_chance_181 rfl ?_
    obtain ⟨a6, ea6, g⟩ := e_nn_some h
    clear h
    subst ea6
    have h := g
    clear g
    refine r_iastore (pc := 183) h dX9_chance_183 (fun s7 h => ?_)
    refine r_iload (pc := 184) dX9_chance_184 rfl ?_
    exact r_iret (pc := 186) h rfl dX9_chance_186
  · refine r_iconst (pc := 56) dX9_chance_56 ?_
    refine r_istore (ln := [some (sj_r (some a0)), some (sj_i x1), some (sj_i x2), some (sj_i x3), some (sj_i x4), some (sj_i x5), some (sj_i 0), none]) (pc := 57) dX9_chance_57 (Nat.le_of_ble_eq_true rfl) rfl ?_
    exact sj_weak (l2 := [some (sj_r (some a0)), some (sj_i x1), some (sj_i x2), some (sj_i x3), some (sj_i x4), some (sj_i x5), some (sj_i 0), none]) (⟨rfl, ⟨rfl, ⟨rfl, ⟨rfl, ⟨rfl, ⟨rfl, ⟨rfl, trivial⟩⟩⟩⟩⟩⟩⟩) (t_X9_chance_59 hk50 N a0 x1 x2 x3 x4 x5 0 s h)
set_option maxHeartbeats 4000000 in
theorem t_X9_chance_50 {X : sj_X} {s0 : sj_Mem} {N : Nat} {q : Int × sj_Mem} :
    ∀ (n : Nat) (a0 : Nat) (x1 : Int) (x2 : Int) (x3 : Int) (x4 : Int) (x5 : Int) (s : sj_Mem), f_X9_chance_50 N n a0 x1 x2 x3 x4 x5 s = some q → sj_T X m_X9_chance s0 (some (sj_i q.1), q.2) 50 [some (sj_r (some a0)), some (sj_i x1), some (sj_i x2), some (sj_i x3), some (sj_i x4), some (sj_i x5), none, none] [] s := by
  intro n
  induction n with
  | zero => intro a0 x1 x2 x3 x4 x5 s h; exact nomatch h
  | succ n ih => intro a0 x1 x2 x3 x4 x5 s h; exact t_X9_chance_50_b (N := N) ih a0 x1 x2 x3 x4 x5 s h
set_option maxHeartbeats 4000000 in
theorem t_X9_chance_0 {X : sj_X} {s0 : sj_Mem} {N : Nat} {q : Int × sj_Mem} :
    ∀ (a0 : Nat) (x1 : Int) (x2 : Int) (x3 : Int) (s : sj_Mem), f_X9_chance N a0 x1 x2 x3 s = some q → sj_T X m_X9_chance s0 (some (sj_i q.1), q.2) 0 [some (sj_r (some a0)), some (sj_i x1), some (sj_i x2), some (sj_i x3), none, none, none, none] [] s := by
  intro a0 x1 x2 x3 s h
  unfold f_X9_chance at h
  refine r_iload_n (pc := 0) dX9_chance_0 rfl rfl ?_
  refine r_i2l (pc := 1) h dX9_chance_1 (fun v1 h => ?_)
  refine r_lconst1 (pc := 2) dX9_chance_2 ?_
  refine r_ldc2 (n := 40) (pc := 3) dX9_chance_3 kc_X9_66 ?_
  refine r_callS (pc := 6) (fun v => some (sj_i v)) (As := [sj_j v1, sj_j 1, sj_j 40]) (rest := []) h dX9_chance_6 mw_X9_57 kw_1225 (fun _ _ hc => c_X9_isIn hc) rfl ⟨(Nat.le_of_ble_eq_true rfl), (Nat.le_of_ble_eq_true rfl)⟩ (Nat.le_of_ble_eq_true rfl) rfl (fun v3 s2 h => ?_)
  refine r_if_eq (pc := 9) (tgt := 38) h dX9_chance_9 (by decide) (fun h => ?_) (fun h => ?_)
  · refine r_iconst (pc := 38) dX9_chance_38 ?_
    exact r_iret (pc := 39) h rfl dX9_chance_39
  · refine r_iload_n (pc := 12) dX9_chance_12 rfl rfl ?_
    refine r_i2l (pc := 13) h dX9_chance_13 (fun v4 h => ?_)
    refine r_lconst0 (pc := 14) dX9_chance_14 ?_
    refine r_ldc2 (n := 50) (pc := 15) dX9_chance_15 kc_X9_267 ?_
    refine r_callS (pc := 18) (fun v => some (sj_i v)) (As := [sj_j v4, sj_j 0, sj_j 50]) (rest := []) h dX9_chance_18 mw_X9_57 kw_1225 (fun _ _ hc => c_X9_isIn hc) rfl ⟨(Nat.le_of_ble_eq_true rfl), (Nat.le_of_ble_eq_true rfl)⟩ (Nat.le_of_ble_eq_true rfl) rfl (fun v6 s5 h => ?_)
    refine r_if_eq (pc := 21) (tgt := 38) h dX9_chance_21 (by decide) (fun h => ?_) (fun h => ?_)
    · refine r_iconst (pc := 38) dX9_chance_38 ?_
      exact r_iret (pc := 39) h rfl dX9_chance_39
    · refine r_iload_n (pc := 24) dX9_chance_24 rfl rfl ?_
      refine r_callS (pc := 25) (fun v => some (sj_i v)) (As := [sj_i x3]) (rest := []) h dX9_chance_25 mw_X9_287 kw_1446 (fun _ _ hc => c_X9_isK hc) rfl ⟨(Nat.le_of_ble_eq_true rfl), (Nat.le_of_ble_eq_true rfl)⟩ (Nat.le_of_ble_eq_true rfl) rfl (fun v8 s7 h => ?_)
      refine r_if_eq (pc := 28) (tgt := 38) h dX9_chance_28 (by decide) (fun h => ?_) (fun h => ?_)
      · refine r_iconst (pc := 38) dX9_chance_38 ?_
        exact r_iret (pc := 39) h rfl dX9_chance_39
      · refine r_aload_n (pc := 31) dX9_chance_31 rfl rfl ?_
        refine r_callV (pc := 32) (fun v => some (sj_i v)) (As := []) (rest := []) h dX9_chance_32 mw_X9_277 vw_X9_takesSlip (fun _ _ hc => c_X9_takesSlip hc) rfl ⟨(Nat.le_of_ble_eq_true rfl), (Nat.le_of_ble_eq_true rfl)⟩ (Nat.le_of_ble_eq_true rfl) rfl (fun v10 s9 h => ?_)
        refine r_if_ne (pc := 35) (tgt := 40) h dX9_chance_35 (by decide) (fun h => ?_) (fun h => ?_)
        · refine r_iconst (pc := 38) dX9_chance_38 ?_
          exact r_iret (pc := 39) h rfl dX9_chance_39
        · refine r_aload_n (pc := 40) dX9_chance_40 rfl rfl ?_
          refine r_callV (pc := 41) (fun _ => none) (As := []) (rest := []) h dX9_chance_41 mw_X9_301 vw_X9_laysAside (fun _ _ hc => c_X9_laysAside hc) rfl ⟨(Nat.le_of_ble_eq_true rfl), (Nat.le_of_ble_eq_true rfl)⟩ (Nat.le_of_ble_eq_true rfl) rfl (fun _u s11 h => ?_)
          refine r_iconst (pc := 44) dX9_chance_44 ?_
          refine r_istore (ln := [some (sj_r (some a0)), some (sj_i x1), some (sj_i x2), some (sj_i x3), some (sj_i 0), none, none, none]) (pc := 45) dX9_chance_45 (Nat.le_of_ble_eq_true rfl) rfl ?_
          refine r_iconst (pc := 47) dX9_chance_47 ?_
          refine r_istore (ln := [some (sj_r (some a0)), some (sj_i x1), some (sj_i x2), some (sj_i x3), some (sj_i 0), some (sj_i 0), none, none]) (pc := 48) dX9_chance_48 (Nat.le_of_ble_eq_true rfl) rfl ?_
          exact sj_weak (l2 := [some (sj_r (some a0)), some (sj_i x1), some (sj_i x2), some (sj_i x3), some (sj_i 0), some (sj_i 0), none, none]) (⟨rfl, ⟨rfl, ⟨rfl, ⟨rfl, ⟨rfl, ⟨rfl, trivial⟩⟩⟩⟩⟩⟩) (t_X9_chance_50 N a0 x1 x2 x3 0 0 s11 h)
set_option maxHeartbeats 4000000 in
theorem c_X9_chance {X : sj_X} {N : Nat} {a0 : Nat} {x1 : Int} {x2 : Int} {x3 : Int} {s : sj_Mem} {q : Int × sj_Mem} (h : f_X9_chance N a0 x1 x2 x3 s = some q) : sj_C X m_X9_chance [sj_r (some a0), sj_i x1, sj_i x2, sj_i x3] s (some (sj_i q.1), q.2) :=
  sj_C_of (by decide +kernel) (Nat.le_of_ble_eq_true rfl) (lo := [some (sj_r (some a0)), some (sj_i x1), some (sj_i x2), some (sj_i x3), none, none, none, none]) rfl (sj_weak (l2 := [some (sj_r (some a0)), some (sj_i x1), some (sj_i x2), some (sj_i x3), none, none, none, none]) (⟨rfl, ⟨rfl, ⟨rfl, ⟨rfl, trivial⟩⟩⟩⟩) (t_X9_chance_0 a0 x1 x2 x3 s h))
theorem dX9_state_0 : decode cX9_state 0 = .ok (.aload_n 0, 1) := by decide +kernel
theorem dX9_state_1 : decode cX9_state 1 = .ok (.getfield 9, 3) := by decide +kernel
theorem dX9_state_4 : decode cX9_state 4 = .ok (.sipush 389, 3) := by decide +kernel
theorem dX9_state_7 : decode cX9_state 7 = .ok (.iaload, 1) := by decide +kernel
theorem dX9_state_8 : decode cX9_state 8 = .ok (.istore_n 2, 1) := by decide +kernel
theorem dX9_state_9 : decode cX9_state 9 = .ok (.aload_n 0, 1) := by decide +kernel
theorem dX9_state_10 : decode cX9_state 10 = .ok (.getfield 9, 3) := by decide +kernel
theorem dX9_state_13 : decode cX9_state 13 = .ok (.sipush 389, 3) := by decide +kernel
theorem dX9_state_16 : decode cX9_state 16 = .ok (.iload_n 1, 1) := by decide +kernel
theorem dX9_state_17 : decode cX9_state 17 = .ok (.iastore, 1) := by decide +kernel
theorem dX9_state_18 : decode cX9_state 18 = .ok (.iload_n 2, 1) := by decide +kernel
theorem dX9_state_19 : decode cX9_state 19 = .ok (.ireturn, 1) := by decide +kernel
set_option maxHeartbeats 4000000 in
theorem t_X9_state_0 {X : sj_X} {s0 : sj_Mem} {N : Nat} {q : Int × sj_Mem} :
    ∀ (a0 : Nat) (x1 : Int) (s : sj_Mem), f_X9_state N a0 x1 s = some q → sj_T X m_X9_state s0 (some (sj_i q.1), q.2) 0 [some (sj_r (some a0)), some (sj_i x1), none] [] s := by
  intro a0 x1 s h
  unfold f_X9_state at h
  refine r_aload_n (pc := 0) dX9_state_0 rfl rfl ?_
  refine r_gR (pc := 1) h dX9_state_1 fw_X9_9 rfl (fun r1 h => ?_)
  refine r_sipush (pc := 4) dX9_state_4 ⟨by decide, by decide⟩ ?_
  obtain ⟨a2, ea2, g⟩ := e_nn_some h
  clear h
  subst ea2
  have h := g
  clear g
  refine r_iaload (pc := 7) h dX9_state_7 (fun v3 h => ?_)
  refine r_istore_n (ln := [some (sj_r (some a0)), some (sj_i x1), some (sj_i v3)]) (pc := 8) dX9_state_8 rfl (Nat.le_of_ble_eq_true rfl) rfl ?_
  refine r_aload_n (pc := 9) dX9_state_9 rfl rfl ?_
  refine r_gR (pc := 10) h dX9_state_10 fw_X9_9 rfl (fun r4 h => ?_)
  refine r_sipush (pc := 13) dX9_state_13 ⟨by decide, by decide⟩ ?_
  refine r_iload_n (pc := 16) dX9_state_16 rfl rfl ?_
  obtain ⟨a5, ea5, g⟩ := e_nn_some h
  clear h
  subst ea5
  have h := g
  clear g
  refine r_iastore (pc := 17) h dX9_state_17 (fun s6 h => ?_)
  refine r_iload_n (pc := 18) dX9_state_18 rfl rfl ?_
  exact r_iret (pc := 19) h rfl dX9_state_19
set_option maxHeartbeats 4000000 in
theorem c_X9_state {X : sj_X} {N : Nat} {a0 : Nat} {x1 : Int} {s : sj_Mem} {q : Int × sj_Mem} (h : f_X9_state N a0 x1 s = some q) : sj_C X m_X9_state [sj_r (some a0), sj_i x1] s (some (sj_i q.1), q.2) :=
  sj_C_of (by decide +kernel) (Nat.le_of_ble_eq_true rfl) (lo := [some (sj_r (some a0)), some (sj_i x1), none]) rfl (sj_weak (l2 := [some (sj_r (some a0)), some (sj_i x1), none]) (⟨rfl, ⟨rfl, trivial⟩⟩) (t_X9_state_0 a0 x1 s h))
theorem dX9_isCircle_0 : decode cX9_isCircle 0 = .ok (.iload_n 0, 1) := by decide +kernel
theorem dX9_isCircle_1 : decode cX9_isCircle 1 = .ok (.i2l, 1) := by decide +kernel
theorem dX9_isCircle_2 : decode cX9_isCircle 2 = .ok (.ldc2_w 186, 3) := by decide +kernel
theorem dX9_isCircle_5 : decode cX9_isCircle 5 = .ok (.ldc2_w 188, 3) := by decide +kernel
theorem dX9_isCircle_8 : decode cX9_isCircle 8 = .ok (.invokestatic 57, 3) := by decide +kernel
theorem dX9_isCircle_11 : decode cX9_isCircle 11 = .ok (.ifCond .eq 33, 3) := by decide +kernel
theorem dX9_isCircle_14 : decode cX9_isCircle 14 = .ok (.iload_n 1, 1) := by decide +kernel
theorem dX9_isCircle_15 : decode cX9_isCircle 15 = .ok (.i2l, 1) := by decide +kernel
theorem dX9_isCircle_16 : decode cX9_isCircle 16 = .ok (.ldc2_w 186, 3) := by decide +kernel
theorem dX9_isCircle_19 : decode cX9_isCircle 19 = .ok (.ldc2_w 188, 3) := by decide +kernel
theorem dX9_isCircle_22 : decode cX9_isCircle 22 = .ok (.invokestatic 57, 3) := by decide +kernel
theorem dX9_isCircle_25 : decode cX9_isCircle 25 = .ok (.ifCond .eq 19, 3) := by decide +kernel
theorem dX9_isCircle_28 : decode cX9_isCircle 28 = .ok (.iload_n 2, 1) := by decide +kernel
theorem dX9_isCircle_29 : decode cX9_isCircle 29 = .ok (.i2l, 1) := by decide +kernel
theorem dX9_isCircle_30 : decode cX9_isCircle 30 = .ok (.lconst 1, 1) := by decide +kernel
theorem dX9_isCircle_31 : decode cX9_isCircle 31 = .ok (.ldc2_w 80, 3) := by decide +kernel
theorem dX9_isCircle_34 : decode cX9_isCircle 34 = .ok (.invokestatic 57, 3) := by decide +kernel
theorem dX9_isCircle_37 : decode cX9_isCircle 37 = .ok (.ifCond .eq 7, 3) := by decide +kernel
theorem dX9_isCircle_40 : decode cX9_isCircle 40 = .ok (.iconst 1, 1) := by decide +kernel
theorem dX9_isCircle_41 : decode cX9_isCircle 41 = .ok (.goto 4, 3) := by decide +kernel
theorem dX9_isCircle_44 : decode cX9_isCircle 44 = .ok (.iconst 0, 1) := by decide +kernel
theorem dX9_isCircle_45 : decode cX9_isCircle 45 = .ok (.ireturn, 1) := by decide +kernel
set_option maxHeartbeats 4000000 in
theorem t_X9_isCircle_0 {X : sj_X} {s0 : sj_Mem} {N : Nat} {q : Int × sj_Mem} :
    ∀ (x0 : Int) (x1 : Int) (x2 : Int) (s : sj_Mem), f_X9_isCircle N x0 x1 x2 s = some q → sj_T X m_X9_isCircle s0 (some (sj_i q.1), q.2) 0 [some (sj_i x0), some (sj_i x1), some (sj_i x2)] [] s := by
  intro x0 x1 x2 s h
  unfold f_X9_isCircle at h
  refine r_iload_n (pc := 0) dX9_isCircle_0 rfl rfl ?_
  refine r_i2l (pc := 1) h dX9_isCircle_1 (fun v1 h => ?_)
  refine r_ldc2 (n := -50) (pc := 2) dX9_isCircle_2 kc_X9_186 ?_
  refine r_ldc2 (n := 450) (pc := 5) dX9_isCircle_5 kc_X9_188 ?_
  refine r_callS (pc := 8) (fun v => some (sj_i v)) (As := [sj_j v1, sj_j ((-50)), sj_j 450]) (rest := []) h dX9_isCircle_8 mw_X9_57 kw_1225 (fun _ _ hc => c_X9_isIn hc) rfl ⟨(Nat.le_of_ble_eq_true rfl), (Nat.le_of_ble_eq_true rfl)⟩ (Nat.le_of_ble_eq_true rfl) rfl (fun v3 s2 h => ?_)
  refine r_if_eq (pc := 11) (tgt := 44) h dX9_isCircle_11 (by decide) (fun h => ?_) (fun h => ?_)
  · refine r_iconst (pc := 44) dX9_isCircle_44 ?_
    exact r_zret (pc := 45) h rfl dX9_isCircle_45
  · refine r_iload_n (pc := 14) dX9_isCircle_14 rfl rfl ?_
    refine r_i2l (pc := 15) h dX9_isCircle_15 (fun v4 h => ?_)
    refine r_ldc2 (n := -50) (pc := 16) dX9_isCircle_16 kc_X9_186 ?_
    refine r_ldc2 (n := 450) (pc := 19) dX9_isCircle_19 kc_X9_188 ?_
    refine r_callS (pc := 22) (fun v => some (sj_i v)) (As := [sj_j v4, sj_j ((-50)), sj_j 450]) (rest := []) h dX9_isCircle_22 mw_X9_57 kw_1225 (fun _ _ hc => c_X9_isIn hc) rfl ⟨(Nat.le_of_ble_eq_true rfl), (Nat.le_of_ble_eq_true rfl)⟩ (Nat.le_of_ble_eq_true rfl) rfl (fun v6 s5 h => ?_)
    refine r_if_eq (pc := 25) (tgt := 44) h dX9_isCircle_25 (by decide) (fun h => ?_) (fun h => ?_)
    · refine r_iconst (pc := 44) dX9_isCircle_44 ?_
      exact r_zret (pc := 45) h rfl dX9_isCircle_45
    · refine r_iload_n (pc := 28) dX9_isCircle_28 rfl rfl ?_
      refine r_i2l (pc := 29) h dX9_isCircle_29 (fun v7 h => ?_)
      refine r_lconst1 (pc := 30) dX9_isCircle_30 ?_
      refine r_ldc2 (n := 500) (pc := 31) dX9_isCircle_31 kc_X9_80 ?_
      refine r_callS (pc := 34) (fun v => some (sj_i v)) (As := [sj_j v7, sj_j 1, sj_j 500]) (rest := []) h dX9_isCircle_34 mw_X9_57 kw_1225 (fun _ _ hc => c_X9_isIn hc) rfl ⟨(Nat.le_of_ble_eq_true rfl), (Nat.le_of_ble_eq_true rfl)⟩ (Nat.le_of_ble_eq_true rfl) rfl (fun v9 s8 h => ?_)
      refine r_if_eq (pc := 37) (tgt := 44) h dX9_isCircle_37 (by decide) (fun h => ?_) (fun h => ?_)
      · refine r_iconst (pc := 44) dX9_isCircle_44 ?_
        exact r_zret (pc := 45) h rfl dX9_isCircle_45
      · refine r_iconst (pc := 40) dX9_isCircle_40 ?_
        refine r_goto (pc := 41) (tgt := 45) dX9_isCircle_41 (by decide) ?_
        exact r_zret (pc := 45) h rfl dX9_isCircle_45
set_option maxHeartbeats 4000000 in
theorem c_X9_isCircle {X : sj_X} {N : Nat} {x0 : Int} {x1 : Int} {x2 : Int} {s : sj_Mem} {q : Int × sj_Mem} (h : f_X9_isCircle N x0 x1 x2 s = some q) : sj_C X m_X9_isCircle [sj_i x0, sj_i x1, sj_i x2] s (some (sj_i q.1), q.2) :=
  sj_C_of (by decide +kernel) (Nat.le_of_ble_eq_true rfl) (lo := [some (sj_i x0), some (sj_i x1), some (sj_i x2)]) rfl (sj_weak (l2 := [some (sj_i x0), some (sj_i x1), some (sj_i x2)]) (⟨rfl, ⟨rfl, ⟨rfl, trivial⟩⟩⟩) (t_X9_isCircle_0 x0 x1 x2 s h))
theorem dX9_root_0 : decode cX9_root 0 = .ok (.iconst 0, 1) := by decide +kernel
theorem dX9_root_1 : decode cX9_root 1 = .ok (.istore_n 1, 1) := by decide +kernel
theorem dX9_root_2 : decode cX9_root 2 = .ok (.iload_n 1, 1) := by decide +kernel
theorem dX9_root_3 : decode cX9_root 3 = .ok (.iconst 1, 1) := by decide +kernel
theorem dX9_root_4 : decode cX9_root 4 = .ok (.iadd, 1) := by decide +kernel
theorem dX9_root_5 : decode cX9_root 5 = .ok (.iload_n 1, 1) := by decide +kernel
theorem dX9_root_6 : decode cX9_root 6 = .ok (.iconst 1, 1) := by decide +kernel
theorem dX9_root_7 : decode cX9_root 7 = .ok (.iadd, 1) := by decide +kernel
theorem dX9_root_8 : decode cX9_root 8 = .ok (.imul, 1) := by decide +kernel
theorem dX9_root_9 : decode cX9_root 9 = .ok (.iload_n 0, 1) := by decide +kernel
theorem dX9_root_10 : decode cX9_root 10 = .ok (.if_icmp .gt 9, 3) := by decide +kernel
theorem dX9_root_13 : decode cX9_root 13 = .ok (.iinc 1 1, 3) := by decide +kernel
theorem dX9_root_16 : decode cX9_root 16 = .ok (.goto (-14), 3) := by decide +kernel
theorem dX9_root_19 : decode cX9_root 19 = .ok (.iload_n 1, 1) := by decide +kernel
theorem dX9_root_20 : decode cX9_root 20 = .ok (.ireturn, 1) := by decide +kernel
set_option maxHeartbeats 4000000 in
theorem t_X9_root_2_b {X : sj_X} {s0 : sj_Mem} {N : Nat} {q : Int × sj_Mem} {k2 : Int → Int → sj_Mem → Option (Int × sj_Mem)} (hk2 : ∀ (x0 : Int) (x1 : Int) (s : sj_Mem), k2 x0 x1 s = some q → sj_T X m_X9_root s0 (some (sj_i q.1), q.2) 2 [some (sj_i x0), some (sj_i x1)] [] s) :
    ∀ (x0 : Int) (x1 : Int) (s : sj_Mem), f_X9_root_2_b N k2 x0 x1 s = some q → sj_T X m_X9_root s0 (some (sj_i q.1), q.2) 2 [some (sj_i x0), some (sj_i x1)] [] s := by
  intro x0 x1 s h
  unfold f_X9_root_2_b at h
  refine r_iload_n (pc := 2) dX9_root_2 rfl rfl ?_
  refine r_iconst (pc := 3) dX9_root_3 ?_
  refine r_iadd (pc := 4) dX9_root_4 ?_
  refine r_iload_n (pc := 5) dX9_root_5 rfl rfl ?_
  refine r_iconst (pc := 6) dX9_root_6 ?_
  refine r_iadd (pc := 7) dX9_root_7 ?_
  refine r_imul (pc := 8) dX9_root_8 ?_
  refine r_iload_n (pc := 9) dX9_root_9 rfl rfl ?_
  refine r_icmp_gt (pc := 10) (tgt := 19) h dX9_root_10 (by decide) (fun h => ?_) (fun h => ?_)
  · refine r_iload_n (pc := 19) dX9_root_19 rfl rfl ?_
    exact r_iret (pc := 20) h rfl dX9_root_20
  · refine r_iinc (ln := fun w => [some (sj_i x0), some (sj_i w)]) (pc := 13) h dX9_root_13 rfl (Nat.le_of_ble_eq_true rfl) (fun _ => rfl) (fun v1 h => ?_)
    refine r_goto (pc := 16) (tgt := 2) dX9_root_16 (by decide) ?_
    exact sj_weak (l2 := [some (sj_i x0), some (sj_i v1)]) (⟨rfl, ⟨rfl, trivial⟩⟩) (hk2 x0 v1 s h)
set_option maxHeartbeats 4000000 in
theorem t_X9_root_2 {X : sj_X} {s0 : sj_Mem} {N : Nat} {q : Int × sj_Mem} :
    ∀ (n : Nat) (x0 : Int) (x1 : Int) (s : sj_Mem), f_X9_root_2 N n x0 x1 s = some q → sj_T X m_X9_root s0 (some (sj_i q.1), q.2) 2 [some (sj_i x0), some (sj_i x1)] [] s := by
  intro n
  induction n with
  | zero => intro x0 x1 s h; exact nomatch h
  | succ n ih => intro x0 x1 s h; exact t_X9_root_2_b (N := N) ih x0 x1 s h
set_option maxHeartbeats 4000000 in
theorem t_X9_root_0 {X : sj_X} {s0 : sj_Mem} {N : Nat} {q : Int × sj_Mem} :
    ∀ (x0 : Int) (s : sj_Mem), f_X9_root N x0 s = some q → sj_T X m_X9_root s0 (some (sj_i q.1), q.2) 0 [some (sj_i x0), none] [] s := by
  intro x0 s h
  unfold f_X9_root at h
  refine r_iconst (pc := 0) dX9_root_0 ?_
  refine r_istore_n (ln := [some (sj_i x0), some (sj_i 0)]) (pc := 1) dX9_root_1 rfl (Nat.le_of_ble_eq_true rfl) rfl ?_
  exact sj_weak (l2 := [some (sj_i x0), some (sj_i 0)]) (⟨rfl, ⟨rfl, trivial⟩⟩) (t_X9_root_2 N x0 0 s h)
set_option maxHeartbeats 4000000 in
theorem c_X9_root {X : sj_X} {N : Nat} {x0 : Int} {s : sj_Mem} {q : Int × sj_Mem} (h : f_X9_root N x0 s = some q) : sj_C X m_X9_root [sj_i x0] s (some (sj_i q.1), q.2) :=
  sj_C_of (by decide +kernel) (Nat.le_of_ble_eq_true rfl) (lo := [some (sj_i x0), none]) rfl (sj_weak (l2 := [some (sj_i x0), none]) (⟨rfl, trivial⟩) (t_X9_root_0 x0 s h))
theorem dX9_isBelow_0 : decode cX9_isBelow 0 = .ok (.aload_n 0, 1) := by decide +kernel
theorem dX9_isBelow_1 : decode cX9_isBelow 1 = .ok (.getfield 9, 3) := by decide +kernel
theorem dX9_isBelow_4 : decode cX9_isBelow 4 = .ok (.iconst 1, 1) := by decide +kernel
theorem dX9_isBelow_5 : decode cX9_isBelow 5 = .ok (.iaload, 1) := by decide +kernel
theorem dX9_isBelow_6 : decode cX9_isBelow 6 = .ok (.iload_n 1, 1) := by decide +kernel
theorem dX9_isBelow_7 : decode cX9_isBelow 7 = .ok (.imul, 1) := by decide +kernel
theorem dX9_isBelow_8 : decode cX9_isBelow 8 = .ok (.iload_n 2, 1) := by decide +kernel
theorem dX9_isBelow_9 : decode cX9_isBelow 9 = .ok (.isub, 1) := by decide +kernel
theorem dX9_isBelow_10 : decode cX9_isBelow 10 = .ok (.istore 5, 2) := by decide +kernel
theorem dX9_isBelow_12 : decode cX9_isBelow 12 = .ok (.iload 4, 2) := by decide +kernel
theorem dX9_isBelow_14 : decode cX9_isBelow 14 = .ok (.iload 4, 2) := by decide +kernel
theorem dX9_isBelow_16 : decode cX9_isBelow 16 = .ok (.imul, 1) := by decide +kernel
theorem dX9_isBelow_17 : decode cX9_isBelow 17 = .ok (.iload 5, 2) := by decide +kernel
theorem dX9_isBelow_19 : decode cX9_isBelow 19 = .ok (.iload 5, 2) := by decide +kernel
theorem dX9_isBelow_21 : decode cX9_isBelow 21 = .ok (.imul, 1) := by decide +kernel
theorem dX9_isBelow_22 : decode cX9_isBelow 22 = .ok (.isub, 1) := by decide +kernel
theorem dX9_isBelow_23 : decode cX9_isBelow 23 = .ok (.istore 6, 2) := by decide +kernel
theorem dX9_isBelow_25 : decode cX9_isBelow 25 = .ok (.iload 6, 2) := by decide +kernel
theorem dX9_isBelow_27 : decode cX9_isBelow 27 = .ok (.ifCond .ge 5, 3) := by decide +kernel
theorem dX9_isBelow_30 : decode cX9_isBelow 30 = .ok (.iconst 0, 1) := by decide +kernel
theorem dX9_isBelow_31 : decode cX9_isBelow 31 = .ok (.ireturn, 1) := by decide +kernel
theorem dX9_isBelow_32 : decode cX9_isBelow 32 = .ok (.aload_n 0, 1) := by decide +kernel
theorem dX9_isBelow_33 : decode cX9_isBelow 33 = .ok (.getfield 26, 3) := by decide +kernel
theorem dX9_isBelow_36 : decode cX9_isBelow 36 = .ok (.iload_n 1, 1) := by decide +kernel
theorem dX9_isBelow_37 : decode cX9_isBelow 37 = .ok (.iload_n 3, 1) := by decide +kernel
theorem dX9_isBelow_38 : decode cX9_isBelow 38 = .ok (.iload 6, 2) := by decide +kernel
theorem dX9_isBelow_40 : decode cX9_isBelow 40 = .ok (.invokestatic 190, 3) := by decide +kernel
theorem dX9_isBelow_43 : decode cX9_isBelow 43 = .ok (.isub, 1) := by decide +kernel
theorem dX9_isBelow_44 : decode cX9_isBelow 44 = .ok (.aload_n 0, 1) := by decide +kernel
theorem dX9_isBelow_45 : decode cX9_isBelow 45 = .ok (.getfield 9, 3) := by decide +kernel
theorem dX9_isBelow_48 : decode cX9_isBelow 48 = .ok (.bipush 44, 2) := by decide +kernel
theorem dX9_isBelow_50 : decode cX9_isBelow 50 = .ok (.iload_n 1, 1) := by decide +kernel
theorem dX9_isBelow_51 : decode cX9_isBelow 51 = .ok (.iadd, 1) := by decide +kernel
theorem dX9_isBelow_52 : decode cX9_isBelow 52 = .ok (.iaload, 1) := by decide +kernel
theorem dX9_isBelow_53 : decode cX9_isBelow 53 = .ok (.invokestatic 111, 3) := by decide +kernel
theorem dX9_isBelow_56 : decode cX9_isBelow 56 = .ok (.iastore, 1) := by decide +kernel
theorem dX9_isBelow_57 : decode cX9_isBelow 57 = .ok (.aload_n 0, 1) := by decide +kernel
theorem dX9_isBelow_58 : decode cX9_isBelow 58 = .ok (.getfield 26, 3) := by decide +kernel
theorem dX9_isBelow_61 : decode cX9_isBelow 61 = .ok (.iload_n 1, 1) := by decide +kernel
theorem dX9_isBelow_62 : decode cX9_isBelow 62 = .ok (.iaload, 1) := by decide +kernel
theorem dX9_isBelow_63 : decode cX9_isBelow 63 = .ok (.aload_n 0, 1) := by decide +kernel
theorem dX9_isBelow_64 : decode cX9_isBelow 64 = .ok (.getfield 9, 3) := by decide +kernel
theorem dX9_isBelow_67 : decode cX9_isBelow 67 = .ok (.iconst 3, 1) := by decide +kernel
theorem dX9_isBelow_68 : decode cX9_isBelow 68 = .ok (.iload_n 1, 1) := by decide +kernel
theorem dX9_isBelow_69 : decode cX9_isBelow 69 = .ok (.iadd, 1) := by decide +kernel
theorem dX9_isBelow_70 : decode cX9_isBelow 70 = .ok (.iaload, 1) := by decide +kernel
theorem dX9_isBelow_71 : decode cX9_isBelow 71 = .ok (.if_icmp .ge 7, 3) := by decide +kernel
theorem dX9_isBelow_74 : decode cX9_isBelow 74 = .ok (.iconst 1, 1) := by decide +kernel
theorem dX9_isBelow_75 : decode cX9_isBelow 75 = .ok (.goto 4, 3) := by decide +kernel
theorem dX9_isBelow_78 : decode cX9_isBelow 78 = .ok (.iconst 0, 1) := by decide +kernel
theorem dX9_isBelow_79 : decode cX9_isBelow 79 = .ok (.ireturn, 1) := by decide +kernel
set_option maxHeartbeats 4000000 in
theorem t_X9_isBelow_0 {X : sj_X} {s0 : sj_Mem} {N : Nat} {q : Int × sj_Mem} :
    ∀ (a0 : Nat) (x1 : Int) (x2 : Int) (x3 : Int) (x4 : Int) (s : sj_Mem), f_X9_isBelow N a0 x1 x2 x3 x4 s = some q → sj_T X m_X9_isBelow s0 (some (sj_i q.1), q.2) 0 [some (sj_r (some a0)), some (sj_i x1), some (sj_i x2), some (sj_i x3), some (sj_i x4), none, none] [] s := by
  intro a0 x1 x2 x3 x4 s h
  unfold f_X9_isBelow at h
  refine r_aload_n (pc := 0) dX9_isBelow_0 rfl rfl ?_
  refine r_gR (pc := 1) h dX9_isBelow_1 fw_X9_9 rfl (fun r1 h => ?_)
  refine r_iconst (pc := 4) dX9_isBelow_4 ?_
  obtain ⟨a2, ea2, g⟩ := e_nn_some h
  clear h
  subst ea2
  have h := g
  clear g
  refine r_iaload (pc := 5) h dX9_isBelow_5 (fun v3 h => ?_)
  refine r_iload_n (pc := 6) dX9_isBelow_6 rfl rfl ?_
  refine r_imul (pc := 7) dX9_isBelow_7 ?_
  refine r_iload_n (pc := 8) dX9_isBelow_8 rfl rfl ?_
  refine r_isub (pc := 9) dX9_isBelow_9 ?_
  refine r_istoreL (ln := fun w => [some (sj_r (some a0)), some (sj_i x1), some (sj_i x2), some (sj_i x3), some (sj_i x4), some (sj_i w), none]) (pc := 10) h dX9_isBelow_10 (Nat.le_of_ble_eq_true rfl) (fun _ => rfl) (fun v4 h => ?_)
  refine r_iload (pc := 12) dX9_isBelow_12 rfl ?_
  refine r_iload (pc := 14) dX9_isBelow_14 rfl ?_
  refine r_imul (pc := 16) dX9_isBelow_16 ?_
  refine r_iload (pc := 17) dX9_isBelow_17 rfl ?_
  refine r_iload (pc := 19) dX9_isBelow_19 rfl ?_
  refine r_imul (pc := 21) dX9_isBelow_21 ?_
  refine r_isub (pc := 22) dX9_isBelow_22 ?_
  refine r_istoreL (ln := fun w => [some (sj_r (some a0)), some (sj_i x1), some (sj_i x2), some (sj_i x3), some (sj_i x4), some (sj_i v4), some (sj_i w)]) (pc := 23) h dX9_isBelow_23 (Nat.le_of_ble_eq_true rfl) (fun _ => rfl) (fun v5 h => ?_)
  refine r_iload (pc := 25) dX9_isBelow_25 rfl ?_
  refine r_if_ge (pc := 27) (tgt := 32) h dX9_isBelow_27 (by decide) (fun h => ?_) (fun h => ?_)
  · refine r_aload_n (pc := 32) dX9_isBelow_32 rfl rfl ?_
    refine r_gR (pc := 33) h dX9_isBelow_33 fw_X9_26 rfl (fun r6 h => ?_)
    refine r_iload_n (pc := 36) dX9_isBelow_36 rfl rfl ?_
    refine r_iload_n (pc := 37) dX9_isBelow_37 rfl rfl ?_
    refine r_iload (pc := 38) dX9_isBelow_38 rfl ?_
    refine r_callS (pc := 40) (fun v => some (sj_i v)) (As := [sj_i v5]) (rest := [(sj_i x3), (sj_i x1), (sj_r r6)]) h dX9_isBelow_40 mw_X9_190 kw_1297 (fun _ _ hc => c_X9_root hc) rfl ⟨(Nat.le_of_ble_eq_true rfl), (Nat.le_of_ble_eq_true rfl)⟩ (Nat.le_of_ble_eq_true rfl) rfl (fun v8 s7 h => ?_)
    refine r_isub (pc := 43) dX9_isBelow_43 ?_
    refine r_aload_n (pc := 44) dX9_isBelow_44 rfl rfl ?_
    refine r_gR (pc := 45) h dX9_isBelow_45 fw_X9_9 rfl (fun r9 h => ?_)
    refine r_bipush (pc := 48) dX9_isBelow_48 ⟨by decide, by decide⟩ ?_
    refine r_iload_n (pc := 50) dX9_isBelow_50 rfl rfl ?_
    refine r_iadd (pc := 51) dX9_isBelow_51 ?_
    obtain ⟨a10, ea10, g⟩ := e_nn_some h
    clear h
    subst ea10
    have h := g
    clear g
    refine r_iaload (pc := 52) h dX9_isBelow_52 (fun v11 h => ?_)
    refine r_callS (pc := 53) (fun v => some (sj_i v)) (As := [sj_i (x3 - v8), sj_i v11]) (rest := [(sj_i x1), (sj_r r6)]) h dX9_isBelow_53 mw_X9_111 kw_1300 (fun _ _ hc => c_X9_most hc) rfl ⟨(Nat.le_of_ble_eq_true rfl), (Nat.le_of_ble_eq_true rfl)⟩ (Nat.le_of_ble_eq_true rfl) rfl (fun v13 s12 h => ?_)
    obtain ⟨a14, ea14, g⟩ := e_nn_some h
    clear h
    subst ea14
    have h := g
    clear g
    refine r_iastore (pc := 56) h dX9_isBelow_56 (fun s15 h => ?_)
    refine r_aload_n (pc := 57) dX9_isBelow_57 rfl rfl ?_
    refine r_gR (pc := 58) h dX9_isBelow_58 fw_X9_26 rfl (fun r16 h => ?_)
    refine r_iload_n (pc := 61) dX9_isBelow_61 rfl rfl ?_
    obtain ⟨a17, ea17, g⟩ := e_nn_some h
    clear h
    subst ea17
    have h := g
    clear g
    refine r_iaload (pc := 62) h dX9_isBelow_62 (fun v18 h => ?_)
    refine r_aload_n (pc := 63) dX9_isBelow_63 rfl rfl ?_
    refine r_gR (pc := 64) h dX9_isBelow_64 fw_X9_9 rfl (fun r19 h => ?_)
    refine r_iconst (pc := 67) dX9_isBelow_67 ?_
    refine r_iload_n (pc := 68) dX9_isBelow_68 rfl rfl ?_
    refine r_iadd (pc := 69) dX9_isBelow_69 ?_
    obtain ⟨a20, ea20, g⟩ := e_nn_some h
    clear h
    subst ea20
    have h := g
    clear g
    refine r_iaload (pc := 70) h dX9_isBelow_70 (fun v21 h => ?_)
    refine r_icmp_ge (pc := 71) (tgt := 78) h dX9_isBelow_71 (by decide) (fun h => ?_) (fun h => ?_)
    · refine r_iconst (pc := 78) dX9_isBelow_78 ?_
      exact r_zret (pc := 79) h rfl dX9_isBelow_79
    · refine r_iconst (pc := 74) dX9_isBelow_74 ?_
      refine r_goto (pc := 75) (tgt := 79) dX9_isBelow_75 (by decide) ?_
      exact r_zret (pc := 79) h rfl dX9_isBelow_79
  · refine r_iconst (pc := 30) dX9_isBelow_30 ?_
    exact r_zret (pc := 31) h rfl dX9_isBelow_31
set_option maxHeartbeats 4000000 in
theorem c_X9_isBelow {X : sj_X} {N : Nat} {a0 : Nat} {x1 : Int} {x2 : Int} {x3 : Int} {x4 : Int} {s : sj_Mem} {q : Int × sj_Mem} (h : f_X9_isBelow N a0 x1 x2 x3 x4 s = some q) : sj_C X m_X9_isBelow [sj_r (some a0), sj_i x1, sj_i x2, sj_i x3, sj_i x4] s (some (sj_i q.1), q.2) :=
  sj_C_of (by decide +kernel) (Nat.le_of_ble_eq_true rfl) (lo := [some (sj_r (some a0)), some (sj_i x1), some (sj_i x2), some (sj_i x3), some (sj_i x4), none, none]) rfl (sj_weak (l2 := [some (sj_r (some a0)), some (sj_i x1), some (sj_i x2), some (sj_i x3), some (sj_i x4), none, none]) (⟨rfl, ⟨rfl, ⟨rfl, ⟨rfl, ⟨rfl, trivial⟩⟩⟩⟩⟩) (t_X9_isBelow_0 a0 x1 x2 x3 x4 s h))
theorem dX9_cuts_0 : decode cX9_cuts 0 = .ok (.iconst 0, 1) := by decide +kernel
theorem dX9_cuts_1 : decode cX9_cuts 1 = .ok (.istore 5, 2) := by decide +kernel
theorem dX9_cuts_3 : decode cX9_cuts 3 = .ok (.iload 5, 2) := by decide +kernel
theorem dX9_cuts_5 : decode cX9_cuts 5 = .ok (.aload_n 0, 1) := by decide +kernel
theorem dX9_cuts_6 : decode cX9_cuts 6 = .ok (.getfield 9, 3) := by decide +kernel
theorem dX9_cuts_9 : decode cX9_cuts 9 = .ok (.iconst 0, 1) := by decide +kernel
theorem dX9_cuts_10 : decode cX9_cuts 10 = .ok (.iaload, 1) := by decide +kernel
theorem dX9_cuts_11 : decode cX9_cuts 11 = .ok (.if_icmp .gt 21, 3) := by decide +kernel
theorem dX9_cuts_14 : decode cX9_cuts 14 = .ok (.aload_n 0, 1) := by decide +kernel
theorem dX9_cuts_15 : decode cX9_cuts 15 = .ok (.iload 5, 2) := by decide +kernel
theorem dX9_cuts_17 : decode cX9_cuts 17 = .ok (.iload_n 1, 1) := by decide +kernel
theorem dX9_cuts_18 : decode cX9_cuts 18 = .ok (.iload_n 2, 1) := by decide +kernel
theorem dX9_cuts_19 : decode cX9_cuts 19 = .ok (.iload_n 3, 1) := by decide +kernel
theorem dX9_cuts_20 : decode cX9_cuts 20 = .ok (.invokevirtual 193, 3) := by decide +kernel
theorem dX9_cuts_23 : decode cX9_cuts 23 = .ok (.ifCond .ne 9, 3) := by decide +kernel
theorem dX9_cuts_26 : decode cX9_cuts 26 = .ok (.iinc 5 1, 3) := by decide +kernel
theorem dX9_cuts_29 : decode cX9_cuts 29 = .ok (.goto (-26), 3) := by decide +kernel
theorem dX9_cuts_32 : decode cX9_cuts 32 = .ok (.iload 5, 2) := by decide +kernel
theorem dX9_cuts_34 : decode cX9_cuts 34 = .ok (.ifCond .eq 14, 3) := by decide +kernel
theorem dX9_cuts_37 : decode cX9_cuts 37 = .ok (.iload 5, 2) := by decide +kernel
theorem dX9_cuts_39 : decode cX9_cuts 39 = .ok (.aload_n 0, 1) := by decide +kernel
theorem dX9_cuts_40 : decode cX9_cuts 40 = .ok (.getfield 9, 3) := by decide +kernel
theorem dX9_cuts_43 : decode cX9_cuts 43 = .ok (.iconst 0, 1) := by decide +kernel
theorem dX9_cuts_44 : decode cX9_cuts 44 = .ok (.iaload, 1) := by decide +kernel
theorem dX9_cuts_45 : decode cX9_cuts 45 = .ok (.if_icmp .le 5, 3) := by decide +kernel
theorem dX9_cuts_48 : decode cX9_cuts 48 = .ok (.iconst 0, 1) := by decide +kernel
theorem dX9_cuts_49 : decode cX9_cuts 49 = .ok (.ireturn, 1) := by decide +kernel
theorem dX9_cuts_50 : decode cX9_cuts 50 = .ok (.iload 5, 2) := by decide +kernel
theorem dX9_cuts_52 : decode cX9_cuts 52 = .ok (.istore 6, 2) := by decide +kernel
theorem dX9_cuts_54 : decode cX9_cuts 54 = .ok (.iload 6, 2) := by decide +kernel
theorem dX9_cuts_56 : decode cX9_cuts 56 = .ok (.aload_n 0, 1) := by decide +kernel
theorem dX9_cuts_57 : decode cX9_cuts 57 = .ok (.getfield 9, 3) := by decide +kernel
theorem dX9_cuts_60 : decode cX9_cuts 60 = .ok (.iconst 0, 1) := by decide +kernel
theorem dX9_cuts_61 : decode cX9_cuts 61 = .ok (.iaload, 1) := by decide +kernel
theorem dX9_cuts_62 : decode cX9_cuts 62 = .ok (.if_icmp .gt 21, 3) := by decide +kernel
theorem dX9_cuts_65 : decode cX9_cuts 65 = .ok (.aload_n 0, 1) := by decide +kernel
theorem dX9_cuts_66 : decode cX9_cuts 66 = .ok (.iload 6, 2) := by decide +kernel
theorem dX9_cuts_68 : decode cX9_cuts 68 = .ok (.iload_n 1, 1) := by decide +kernel
theorem dX9_cuts_69 : decode cX9_cuts 69 = .ok (.iload_n 2, 1) := by decide +kernel
theorem dX9_cuts_70 : decode cX9_cuts 70 = .ok (.iload_n 3, 1) := by decide +kernel
theorem dX9_cuts_71 : decode cX9_cuts 71 = .ok (.invokevirtual 193, 3) := by decide +kernel
theorem dX9_cuts_74 : decode cX9_cuts 74 = .ok (.ifCond .eq 9, 3) := by decide +kernel
theorem dX9_cuts_77 : decode cX9_cuts 77 = .ok (.iinc 6 1, 3) := by decide +kernel
theorem dX9_cuts_80 : decode cX9_cuts 80 = .ok (.goto (-26), 3) := by decide +kernel
theorem dX9_cuts_83 : decode cX9_cuts 83 = .ok (.iload 6, 2) := by decide +kernel
theorem dX9_cuts_85 : decode cX9_cuts 85 = .ok (.aload_n 0, 1) := by decide +kernel
theorem dX9_cuts_86 : decode cX9_cuts 86 = .ok (.getfield 9, 3) := by decide +kernel
theorem dX9_cuts_89 : decode cX9_cuts 89 = .ok (.iconst 0, 1) := by decide +kernel
theorem dX9_cuts_90 : decode cX9_cuts 90 = .ok (.iaload, 1) := by decide +kernel
theorem dX9_cuts_91 : decode cX9_cuts 91 = .ok (.if_icmp .le 5, 3) := by decide +kernel
theorem dX9_cuts_94 : decode cX9_cuts 94 = .ok (.iconst 0, 1) := by decide +kernel
theorem dX9_cuts_95 : decode cX9_cuts 95 = .ok (.ireturn, 1) := by decide +kernel
theorem dX9_cuts_96 : decode cX9_cuts 96 = .ok (.aload_n 0, 1) := by decide +kernel
theorem dX9_cuts_97 : decode cX9_cuts 97 = .ok (.iload 5, 2) := by decide +kernel
theorem dX9_cuts_99 : decode cX9_cuts 99 = .ok (.iconst 1, 1) := by decide +kernel
theorem dX9_cuts_100 : decode cX9_cuts 100 = .ok (.isub, 1) := by decide +kernel
theorem dX9_cuts_101 : decode cX9_cuts 101 = .ok (.putfield 22, 3) := by decide +kernel
theorem dX9_cuts_104 : decode cX9_cuts 104 = .ok (.aload_n 0, 1) := by decide +kernel
theorem dX9_cuts_105 : decode cX9_cuts 105 = .ok (.iload 6, 2) := by decide +kernel
theorem dX9_cuts_107 : decode cX9_cuts 107 = .ok (.putfield 150, 3) := by decide +kernel
theorem dX9_cuts_110 : decode cX9_cuts 110 = .ok (.aload_n 0, 1) := by decide +kernel
theorem dX9_cuts_111 : decode cX9_cuts 111 = .ok (.iload 4, 2) := by decide +kernel
theorem dX9_cuts_113 : decode cX9_cuts 113 = .ok (.putfield 153, 3) := by decide +kernel
theorem dX9_cuts_116 : decode cX9_cuts 116 = .ok (.aload_n 0, 1) := by decide +kernel
theorem dX9_cuts_117 : decode cX9_cuts 117 = .ok (.getfield 26, 3) := by decide +kernel
theorem dX9_cuts_120 : decode cX9_cuts 120 = .ok (.aload_n 0, 1) := by decide +kernel
theorem dX9_cuts_121 : decode cX9_cuts 121 = .ok (.getfield 22, 3) := by decide +kernel
theorem dX9_cuts_124 : decode cX9_cuts 124 = .ok (.aload_n 0, 1) := by decide +kernel
theorem dX9_cuts_125 : decode cX9_cuts 125 = .ok (.getfield 9, 3) := by decide +kernel
theorem dX9_cuts_128 : decode cX9_cuts 128 = .ok (.iconst 3, 1) := by decide +kernel
theorem dX9_cuts_129 : decode cX9_cuts 129 = .ok (.aload_n 0, 1) := by decide +kernel
theorem dX9_cuts_130 : decode cX9_cuts 130 = .ok (.getfield 22, 3) := by decide +kernel
theorem dX9_cuts_133 : decode cX9_cuts 133 = .ok (.iadd, 1) := by decide +kernel
theorem dX9_cuts_134 : decode cX9_cuts 134 = .ok (.iaload, 1) := by decide +kernel
theorem dX9_cuts_135 : decode cX9_cuts 135 = .ok (.iastore, 1) := by decide +kernel
theorem dX9_cuts_136 : decode cX9_cuts 136 = .ok (.aload_n 0, 1) := by decide +kernel
theorem dX9_cuts_137 : decode cX9_cuts 137 = .ok (.getfield 26, 3) := by decide +kernel
theorem dX9_cuts_140 : decode cX9_cuts 140 = .ok (.aload_n 0, 1) := by decide +kernel
theorem dX9_cuts_141 : decode cX9_cuts 141 = .ok (.getfield 150, 3) := by decide +kernel
theorem dX9_cuts_144 : decode cX9_cuts 144 = .ok (.aload_n 0, 1) := by decide +kernel
theorem dX9_cuts_145 : decode cX9_cuts 145 = .ok (.getfield 9, 3) := by decide +kernel
theorem dX9_cuts_148 : decode cX9_cuts 148 = .ok (.iconst 3, 1) := by decide +kernel
theorem dX9_cuts_149 : decode cX9_cuts 149 = .ok (.aload_n 0, 1) := by decide +kernel
theorem dX9_cuts_150 : decode cX9_cuts 150 = .ok (.getfield 150, 3) := by decide +kernel
theorem dX9_cuts_153 : decode cX9_cuts 153 = .ok (.iadd, 1) := by decide +kernel
theorem dX9_cuts_154 : decode cX9_cuts 154 = .ok (.iaload, 1) := by decide +kernel
theorem dX9_cuts_155 : decode cX9_cuts 155 = .ok (.iastore, 1) := by decide +kernel
theorem dX9_cuts_156 : decode cX9_cuts 156 = .ok (.iconst 1, 1) := by decide +kernel
theorem dX9_cuts_157 : decode cX9_cuts 157 = .ok (.ireturn, 1) := by decide +kernel
set_option maxHeartbeats 4000000 in
theorem t_X9_cuts_83 {X : sj_X} {s0 : sj_Mem} {N : Nat} {q : Int × sj_Mem} :
    ∀ (a0 : Nat) (x4 : Int) (x5 : Int) (x6 : Int) (s : sj_Mem), f_X9_cuts_83 N a0 x4 x5 x6 s = some q → sj_T X m_X9_cuts s0 (some (sj_i q.1), q.2) 83 [some (sj_r (some a0)), none, none, none, some (sj_i x4), some (sj_i x5), some (sj_i x6)] [] s := by
  intro a0 x4 x5 x6 s h
  unfold f_X9_cuts_83 at h
  refine r_iload (pc := 83) dX9_cuts_83 rfl ?_
  refine r_aload_n (pc := 85) dX9_cuts_85 rfl rfl ?_
  refine r_gR (pc := 86) h dX9_cuts_86 fw_X9_9 rfl (fun r1 h => ?_)
  refine r_iconst (pc := 89) dX9_cuts_89 ?_
  obtain ⟨a2, ea2, g⟩ := e_nn_some h
  clear h
  subst ea2
  have h := g
  clear g
  refine r_iaload (pc := 90) h dX9_cuts_90 (fun v3 h => ?_)
  refine r_icmp_le (pc := 91) (tgt := 96) h dX9_cuts_91 (by decide) (fun h => ?_) (fun h => ?_)
  · refine r_aload_n (pc := 96) dX9_cuts_96 rfl rfl ?_
    refine r_iload (pc := 97) dX9_cuts_97 rfl ?_
    refine r_iconst (pc := 99) dX9_cuts_99 ?_
    refine r_isub (pc := 100) dX9_cuts_100 ?_
    refine r_pI (pc := 101) h dX9_cuts_101 fw_X9_22 rfl rfl (fun _ hq => by cases hq; rfl) (fun s4 h => ?_)
    refine r_aload_n (pc := 104) dX9_cuts_104 rfl rfl ?_
    refine r_iload (pc := 105) dX9_cuts_105 rfl ?_
    refine r_pI (pc := 107) h dX9_cuts_107 fw_X9_150 rfl rfl (fun _ hq => by cases hq; rfl) (fun s5 h => ?_)
    refine r_aload_n (pc := 110) dX9_cuts_110 rfl rfl ?_
    refine r_iload (pc := 111) dX9_cuts_111 rfl ?_
    refine r_pZ (pc := 113) h dX9_cuts_113 fw_X9_153 rfl rfl (fun _ hq => by cases hq; rfl) (fun s6 h => ?_)
    refine r_aload_n (pc := 116) dX9_cuts_116 rfl rfl ?_
    refine r_gR (pc := 117) h dX9_cuts_117 fw_X9_26 rfl (fun r7 h => ?_)
    refine r_aload_n (pc := 120) dX9_cuts_120 rfl rfl ?_
    refine r_gI (pc := 121) h dX9_cuts_121 fw_X9_22 rfl (fun v8 h => ?_)
    refine r_aload_n (pc := 124) dX9_cuts_124 rfl rfl ?_
    refine r_gR (pc := 125) h dX9_cuts_125 fw_X9_9 rfl (fun r9 h => ?_)
    refine r_iconst (pc := 128) dX9_cuts_128 ?_
    refine r_aload_n (pc := 129) dX9_cuts_129 rfl rfl ?_
    refine r_gI (pc := 130) h dX9_cuts_130 fw_X9_22 rfl (fun v10 h => ?_)
    refine r_iadd (pc := 133) dX9_cuts_133 ?_
    obtain ⟨a11, ea11, g⟩ := e_nn_some h
    clear h
    subst ea11
    have h := g
    clear g
    refine r_iaload (pc := 134) h dX9_cuts_134 (fun v12 h => ?_)
    obtain ⟨a13, ea13, g⟩ := e_nn_some h
    clear h
    subst ea13
    have h := g
    clear g
    refine r_iastore (pc := 135) h dX9_cuts_135 (fun s14 h => ?_)
    refine r_aload_n (pc := 136) dX9_cuts_136 rfl rfl ?_
    refine r_gR (pc := 137) h dX9_cuts_137 fw_X9_26 rfl (fun r15 h => ?_)
    refine r_aload_n (pc := 140) dX9_cuts_140 rfl rfl ?_
    refine r_gI (pc := 141) h dX9_cuts_141 fw_X9_150 rfl (fun v16 h => ?_)
    refine r_aload_n (pc := 144) dX9_cuts_144 rfl rfl ?_
    refine r_gR (pc := 145) h dX9_cuts_145 fw_X9_9 rfl (fun r17 h => ?_)
    refine r_iconst (pc := 148) dX9_cuts_148 ?_
    refine r_aload_n (pc := 149) dX9_cuts_149 rfl rfl ?_
    refine r_gI (pc := 150) h dX9_cuts_150 fw_X9_150 rfl (fun v18 h => ?_)
    refine r_iadd (pc := 153) dX9_cuts_153 ?_
    obtain ⟨a19, ea19, g⟩ := e_nn_some h
    clear h
    subst ea19
    have h := g
    clear g
    refine r_iaload (pc := 154) h dX9_cuts_154 (fun v20 h => ?_)
    obtain ⟨a21, ea21, g⟩ := e_nn_some h
    clear h
    subst ea21
    have h := g
    clear g
    refine r_iastore (pc := 155) h dX9_cuts_155 (fun s22 h => ?_)
    refine r_iconst (pc := 156) dX9_cuts_156 ?_
    exact r_zret (pc := 157) h rfl dX9_cuts_157
  · refine r_iconst (pc := 94) dX9_cuts_94 ?_
    exact r_zret (pc := 95) h rfl dX9_cuts_95
set_option maxHeartbeats 4000000 in
theorem t_X9_cuts_54_b {X : sj_X} {s0 : sj_Mem} {N : Nat} {q : Int × sj_Mem} {k54 : Nat → Int → Int → Int → Int → Int → Int → sj_Mem → Option (Int × sj_Mem)} (hk54 : ∀ (a0 : Nat) (x1 : Int) (x2 : Int) (x3 : Int) (x4 : Int) (x5 : Int) (x6 : Int) (s : sj_Mem), k54 a0 x1 x2 x3 x4 x5 x6 s = some q → sj_T X m_X9_cuts s0 (some (sj_i q.1), q.2) 54 [some (sj_r (some a0)), some (sj_i x1), some (sj_i x2), some (sj_i x3), some (sj_i x4), some (sj_i x5), some (sj_i x6)] [] s) :
    ∀ (a0 : Nat) (x1 : Int) (x2 : Int) (x3 : Int) (x4 : Int) (x5 : Int) (x6 : Int) (s : sj_Mem), f_X9_cuts_54_b N k54 a0 x1 x2 x3 x4 x5 x6 s = some q → sj_T X m_X9_cuts s0 (some (sj_i q.1), q.2) 54 [some (sj_r (some a0)), some (sj_i x1), some (sj_i x2), some (sj_i x3), some (sj_i x4), some (sj_i x5), some (sj_i x6)] [] s := by
  intro a0 x1 x2 x3 x4 x5 x6 s h
  unfold f_X9_cuts_54_b at h
  refine r_iload (pc := 54) dX9_cuts_54 rfl ?_
  refine r_aload_n (pc := 56) dX9_cuts_56 rfl rfl ?_
  refine r_gR (pc := 57) h dX9_cuts_57 fw_X9_9 rfl (fun r1 h => ?_)
  refine r_iconst (pc := 60) dX9_cuts_60 ?_
  obtain ⟨a2, ea2, g⟩ := e_nn_some h
  clear h
  subst ea2
  have h := g
  clear g
  refine r_iaload (pc := 61) h dX9_cuts_61 (fun v3 h => ?_)
  refine r_icmp_gt (pc := 62) (tgt := 83) h dX9_cuts_62 (by decide) (fun h => ?_) (fun h => ?_)
  · exact sj_weak (l2 := [some (sj_r (some a0)), none, none, none, some (sj_i x4), some (sj_i x5), some (sj_i x6)]) (⟨rfl, ⟨rfl, ⟨rfl, ⟨rfl, trivial⟩⟩⟩⟩) (t_X9_cuts_83 a0 x4 x5 x6 s h)
  · refine r_aload_n (pc := 65) dX9_cuts_65 rfl rfl ?_
    refine r_iload (pc := 66) dX9_cuts_66 rfl ?_
    refine r_iload_n (pc := 68) dX9_cuts_68 rfl rfl ?_
    refine r_iload_n (pc := 69) dX9_cuts_69 rfl rfl ?_
    refine r_iload_n (pc := 70) dX9_cuts_70 rfl rfl ?_
    refine r_callV (pc := 71) (fun v => some (sj_i v)) (As := [sj_i x6, sj_i x1, sj_i x2, sj_i x3]) (rest := []) h dX9_cuts_71 mw_X9_193 vw_X9_isBelow (fun _ _ hc => c_X9_isBelow hc) rfl ⟨(Nat.le_of_ble_eq_true rfl), (Nat.le_of_ble_eq_true rfl)⟩ (Nat.le_of_ble_eq_true rfl) rfl (fun v5 s4 h => ?_)
    refine r_if_eq (pc := 74) (tgt := 83) h dX9_cuts_74 (by decide) (fun h => ?_) (fun h => ?_)
    · exact sj_weak (l2 := [some (sj_r (some a0)), none, none, none, some (sj_i x4), some (sj_i x5), some (sj_i x6)]) (⟨rfl, ⟨rfl, ⟨rfl, ⟨rfl, trivial⟩⟩⟩⟩) (t_X9_cuts_83 a0 x4 x5 x6 s4 h)
    · refine r_iinc (ln := fun w => [some (sj_r (some a0)), some (sj_i x1), some (sj_i x2), some (sj_i x3), some (sj_i x4), some (sj_i x5), some (sj_i w)]) (pc := 77) h dX9_cuts_77 rfl (Nat.le_of_ble_eq_true rfl) (fun _ => rfl) (fun v6 h => ?_)
      refine r_goto (pc := 80) (tgt := 54) dX9_cuts_80 (by decide) ?_
      exact sj_weak (l2 := [some (sj_r (some a0)), some (sj_i x1), some (sj_i x2), some (sj_i x3), some (sj_i x4), some (sj_i x5), some (sj_i v6)]) (⟨rfl, ⟨rfl, ⟨rfl, ⟨rfl, ⟨rfl, ⟨rfl, ⟨rfl, trivial⟩⟩⟩⟩⟩⟩⟩) (hk54 a0 x1 x2 x3 x4 x5 v6 s4 h)
set_option maxHeartbeats 4000000 in
theorem t_X9_cuts_54 {X : sj_X} {s0 : sj_Mem} {N : Nat} {q : Int × sj_Mem} :
    ∀ (n : Nat) (a0 : Nat) (x1 : Int) (x2 : Int) (x3 : Int) (x4 : Int) (x5 : Int) (x6 : Int) (s : sj_Mem), f_X9_cuts_54 N n a0 x1 x2 x3 x4 x5 x6 s = some q → sj_T X m_X9_cuts s0 (some (sj_i q.1), q.2) 54 [some (sj_r (some a0)), some (sj_i x1), some (sj_i x2), some (sj_i x3), some (sj_i x4), some (sj_i x5), some (sj_i x6)] [] s := by
  intro n
  induction n with
  | zero => intro a0 x1 x2 x3 x4 x5 x6 s h; exact nomatch h
  | succ n ih => intro a0 x1 x2 x3 x4 x5 x6 s h; exact t_X9_cuts_54_b (N := N) ih a0 x1 x2 x3 x4 x5 x6 s h
set_option maxHeartbeats 4000000 in
theorem t_X9_cuts_32 {X : sj_X} {s0 : sj_Mem} {N : Nat} {q : Int × sj_Mem} :
    ∀ (a0 : Nat) (x1 : Int) (x2 : Int) (x3 : Int) (x4 : Int) (x5 : Int) (s : sj_Mem), f_X9_cuts_32 N a0 x1 x2 x3 x4 x5 s = some q → sj_T X m_X9_cuts s0 (some (sj_i q.1), q.2) 32 [some (sj_r (some a0)), some (sj_i x1), some (sj_i x2), some (sj_i x3), some (sj_i x4), some (sj_i x5), none] [] s := by
  intro a0 x1 x2 x3 x4 x5 s h
  unfold f_X9_cuts_32 at h
  refine r_iload (pc := 32) dX9_cuts_32 rfl ?_
  refine r_if_eq (pc := 34) (tgt := 48) h dX9_cuts_34 (by decide) (fun h => ?_) (fun h => ?_)
  · refine r_iconst (pc := 48) dX9_cuts_48 ?_
    exact r_zret (pc := 49) h rfl dX9_cuts_49
  · refine r_iload (pc := 37) dX9_cuts_37 rfl ?_
    refine r_aload_n (pc := 39) dX9_cuts_39 rfl rfl ?_
    refine r_gR (pc := 40) h dX9_cuts_40 fw_X9_9 rfl (fun r1 h => ?_)
    refine r_iconst (pc := 43) dX9_cuts_43 ?_
    obtain ⟨a2, ea2, g⟩ := e_nn_some h
    clear h
    subst ea2
    have h := g
    clear g
    refine r_iaload (pc := 44) h dX9_cuts_44 (fun v3 h => ?_)
    refine r_icmp_le (pc := 45) (tgt := 50) h dX9_cuts_45 (by decide) (fun h => ?_) (fun h => ?_)
    · refine r_iload (pc := 50) dX9_cuts_50 rfl ?_
      refine r_istore (ln := [some (sj_r (some a0)), some (sj_i x1), some (sj_i x2), some (sj_i x3), some (sj_i x4), some (sj_i x5), some (sj_i x5)]) (pc := 52) dX9_cuts_52 (Nat.le_of_ble_eq_true rfl) rfl ?_
      exact sj_weak (l2 := [some (sj_r (some a0)), some (sj_i x1), some (sj_i x2), some (sj_i x3), some (sj_i x4), some (sj_i x5), some (sj_i x5)]) (⟨rfl, ⟨rfl, ⟨rfl, ⟨rfl, ⟨rfl, ⟨rfl, ⟨rfl, trivial⟩⟩⟩⟩⟩⟩⟩) (t_X9_cuts_54 N a0 x1 x2 x3 x4 x5 x5 s h)
    · refine r_iconst (pc := 48) dX9_cuts_48 ?_
      exact r_zret (pc := 49) h rfl dX9_cuts_49
set_option maxHeartbeats 4000000 in
theorem t_X9_cuts_3_b {X : sj_X} {s0 : sj_Mem} {N : Nat} {q : Int × sj_Mem} {k3 : Nat → Int → Int → Int → Int → Int → sj_Mem → Option (Int × sj_Mem)} (hk3 : ∀ (a0 : Nat) (x1 : Int) (x2 : Int) (x3 : Int) (x4 : Int) (x5 : Int) (s : sj_Mem), k3 a0 x1 x2 x3 x4 x5 s = some q → sj_T X m_X9_cuts s0 (some (sj_i q.1), q.2) 3 [some (sj_r (some a0)), some (sj_i x1), some (sj_i x2), some (sj_i x3), some (sj_i x4), some (sj_i x5), none] [] s) :
    ∀ (a0 : Nat) (x1 : Int) (x2 : Int) (x3 : Int) (x4 : Int) (x5 : Int) (s : sj_Mem), f_X9_cuts_3_b N k3 a0 x1 x2 x3 x4 x5 s = some q → sj_T X m_X9_cuts s0 (some (sj_i q.1), q.2) 3 [some (sj_r (some a0)), some (sj_i x1), some (sj_i x2), some (sj_i x3), some (sj_i x4), some (sj_i x5), none] [] s := by
  intro a0 x1 x2 x3 x4 x5 s h
  unfold f_X9_cuts_3_b at h
  refine r_iload (pc := 3) dX9_cuts_3 rfl ?_
  refine r_aload_n (pc := 5) dX9_cuts_5 rfl rfl ?_
  refine r_gR (pc := 6) h dX9_cuts_6 fw_X9_9 rfl (fun r1 h => ?_)
  refine r_iconst (pc := 9) dX9_cuts_9 ?_
  obtain ⟨a2, ea2, g⟩ := e_nn_some h
  clear h
  subst ea2
  have h := g
  clear g
  refine r_iaload (pc := 10) h dX9_cuts_10 (fun v3 h => ?_)
  refine r_icmp_gt (pc := 11) (tgt := 32) h dX9_cuts_11 (by decide) (fun h => ?_) (fun h => ?_)
  · exact sj_weak (l2 := [some (sj_r (some a0)), some (sj_i x1), some (sj_i x2), some (sj_i x3), some (sj_i x4), some (sj_i x5), none]) (⟨rfl, ⟨rfl, ⟨rfl, ⟨rfl, ⟨rfl, ⟨rfl, trivial⟩⟩⟩⟩⟩⟩) (t_X9_cuts_32 a0 x1 x2 x3 x4 x5 s h)
  · refine r_aload_n (pc := 14) dX9_cuts_14 rfl rfl ?_
    refine r_iload (pc := 15) dX9_cuts_15 rfl ?_
    refine r_iload_n (pc := 17) dX9_cuts_17 rfl rfl ?_
    refine r_iload_n (pc := 18) dX9_cuts_18 rfl rfl ?_
    refine r_iload_n (pc := 19) dX9_cuts_19 rfl rfl ?_
    refine r_callV (pc := 20) (fun v => some (sj_i v)) (As := [sj_i x5, sj_i x1, sj_i x2, sj_i x3]) (rest := []) h dX9_cuts_20 mw_X9_193 vw_X9_isBelow (fun _ _ hc => c_X9_isBelow hc) rfl ⟨(Nat.le_of_ble_eq_true rfl), (Nat.le_of_ble_eq_true rfl)⟩ (Nat.le_of_ble_eq_true rfl) rfl (fun v5 s4 h => ?_)
    refine r_if_ne (pc := 23) (tgt := 32) h dX9_cuts_23 (by decide) (fun h => ?_) (fun h => ?_)
    · refine r_iinc (ln := fun w => [some (sj_r (some a0)), some (sj_i x1), some (sj_i x2), some (sj_i x3), some (sj_i x4), some (sj_i w), none]) (pc := 26) h dX9_cuts_26 rfl (Nat.le_of_ble_eq_true rfl) (fun _ => rfl) (fun v6 h => ?_)
      refine r_goto (pc := 29) (tgt := 3) dX9_cuts_29 (by decide) ?_
      exact sj_weak (l2 := [some (sj_r (some a0)), some (sj_i x1), some (sj_i x2), some (sj_i x3), some (sj_i x4), some (sj_i v6), none]) (⟨rfl, ⟨rfl, ⟨rfl, ⟨rfl, ⟨rfl, ⟨rfl, trivial⟩⟩⟩⟩⟩⟩) (hk3 a0 x1 x2 x3 x4 v6 s4 h)
    · exact sj_weak (l2 := [some (sj_r (some a0)), some (sj_i x1), some (sj_i x2), some (sj_i x3), some (sj_i x4), some (sj_i x5), none]) (⟨rfl, ⟨rfl, ⟨rfl, ⟨rfl, ⟨rfl, ⟨rfl, trivial⟩⟩⟩⟩⟩⟩) (t_X9_cuts_32 a0 x1 x2 x3 x4 x5 s4 h)
set_option maxHeartbeats 4000000 in
theorem t_X9_cuts_3 {X : sj_X} {s0 : sj_Mem} {N : Nat} {q : Int × sj_Mem} :
    ∀ (n : Nat) (a0 : Nat) (x1 : Int) (x2 : Int) (x3 : Int) (x4 : Int) (x5 : Int) (s : sj_Mem), f_X9_cuts_3 N n a0 x1 x2 x3 x4 x5 s = some q → sj_T X m_X9_cuts s0 (some (sj_i q.1), q.2) 3 [some (sj_r (some a0)), some (sj_i x1), some (sj_i x2), some (sj_i x3), some (sj_i x4), some (sj_i x5), none] [] s := by
  intro n
  induction n with
  | zero => intro a0 x1 x2 x3 x4 x5 s h; exact nomatch h
  | succ n ih => intro a0 x1 x2 x3 x4 x5 s h; exact t_X9_cuts_3_b (N := N) ih a0 x1 x2 x3 x4 x5 s h
set_option maxHeartbeats 4000000 in
theorem t_X9_cuts_0 {X : sj_X} {s0 : sj_Mem} {N : Nat} {q : Int × sj_Mem} :
    ∀ (a0 : Nat) (x1 : Int) (x2 : Int) (x3 : Int) (x4 : Int) (s : sj_Mem), f_X9_cuts N a0 x1 x2 x3 x4 s = some q → sj_T X m_X9_cuts s0 (some (sj_i q.1), q.2) 0 [some (sj_r (some a0)), some (sj_i x1), some (sj_i x2), some (sj_i x3), some (sj_i x4), none, none] [] s := by
  intro a0 x1 x2 x3 x4 s h
  unfold f_X9_cuts at h
  refine r_iconst (pc := 0) dX9_cuts_0 ?_
  refine r_istore (ln := [some (sj_r (some a0)), some (sj_i x1), some (sj_i x2), some (sj_i x3), some (sj_i x4), some (sj_i 0), none]) (pc := 1) dX9_cuts_1 (Nat.le_of_ble_eq_true rfl) rfl ?_
  exact sj_weak (l2 := [some (sj_r (some a0)), some (sj_i x1), some (sj_i x2), some (sj_i x3), some (sj_i x4), some (sj_i 0), none]) (⟨rfl, ⟨rfl, ⟨rfl, ⟨rfl, ⟨rfl, ⟨rfl, trivial⟩⟩⟩⟩⟩⟩) (t_X9_cuts_3 N a0 x1 x2 x3 x4 0 s h)
set_option maxHeartbeats 4000000 in
theorem c_X9_cuts {X : sj_X} {N : Nat} {a0 : Nat} {x1 : Int} {x2 : Int} {x3 : Int} {x4 : Int} {s : sj_Mem} {q : Int × sj_Mem} (h : f_X9_cuts N a0 x1 x2 x3 x4 s = some q) : sj_C X m_X9_cuts [sj_r (some a0), sj_i x1, sj_i x2, sj_i x3, sj_i x4] s (some (sj_i q.1), q.2) :=
  sj_C_of (by decide +kernel) (Nat.le_of_ble_eq_true rfl) (lo := [some (sj_r (some a0)), some (sj_i x1), some (sj_i x2), some (sj_i x3), some (sj_i x4), none, none]) rfl (sj_weak (l2 := [some (sj_r (some a0)), some (sj_i x1), some (sj_i x2), some (sj_i x3), some (sj_i x4), none, none]) (⟨rfl, ⟨rfl, ⟨rfl, ⟨rfl, ⟨rfl, trivial⟩⟩⟩⟩⟩) (t_X9_cuts_0 a0 x1 x2 x3 x4 s h))
theorem dX9_factorBy_0 : decode cX9_factorBy 0 = .ok (.iload_n 1, 1) := by decide +kernel
theorem dX9_factorBy_1 : decode cX9_factorBy 1 = .ok (.iload_n 2, 1) := by decide +kernel
theorem dX9_factorBy_2 : decode cX9_factorBy 2 = .ok (.iload_n 3, 1) := by decide +kernel
theorem dX9_factorBy_3 : decode cX9_factorBy 3 = .ok (.invokestatic 197, 3) := by decide +kernel
theorem dX9_factorBy_6 : decode cX9_factorBy 6 = .ok (.ifCond .eq 22, 3) := by decide +kernel
theorem dX9_factorBy_9 : decode cX9_factorBy 9 = .ok (.aload_n 0, 1) := by decide +kernel
theorem dX9_factorBy_10 : decode cX9_factorBy 10 = .ok (.iload_n 1, 1) := by decide +kernel
theorem dX9_factorBy_11 : decode cX9_factorBy 11 = .ok (.iload_n 2, 1) := by decide +kernel
theorem dX9_factorBy_12 : decode cX9_factorBy 12 = .ok (.iload_n 3, 1) := by decide +kernel
theorem dX9_factorBy_13 : decode cX9_factorBy 13 = .ok (.iload 4, 2) := by decide +kernel
theorem dX9_factorBy_15 : decode cX9_factorBy 15 = .ok (.invokevirtual 201, 3) := by decide +kernel
theorem dX9_factorBy_18 : decode cX9_factorBy 18 = .ok (.ifCond .eq 10, 3) := by decide +kernel
theorem dX9_factorBy_21 : decode cX9_factorBy 21 = .ok (.aload_n 0, 1) := by decide +kernel
theorem dX9_factorBy_22 : decode cX9_factorBy 22 = .ok (.invokevirtual 209, 3) := by decide +kernel
theorem dX9_factorBy_25 : decode cX9_factorBy 25 = .ok (.goto 4, 3) := by decide +kernel
theorem dX9_factorBy_28 : decode cX9_factorBy 28 = .ok (.iconst (-1), 1) := by decide +kernel
theorem dX9_factorBy_29 : decode cX9_factorBy 29 = .ok (.ireturn, 1) := by decide +kernel
set_option maxHeartbeats 4000000 in
theorem t_X9_factorBy_0 {X : sj_X} {s0 : sj_Mem} {N : Nat} {q : Int × sj_Mem} :
    ∀ (a0 : Nat) (x1 : Int) (x2 : Int) (x3 : Int) (x4 : Int) (s : sj_Mem), f_X9_factorBy N a0 x1 x2 x3 x4 s = some q → sj_T X m_X9_factorBy s0 (some (sj_i q.1), q.2) 0 [some (sj_r (some a0)), some (sj_i x1), some (sj_i x2), some (sj_i x3), some (sj_i x4)] [] s := by
  intro a0 x1 x2 x3 x4 s h
  unfold f_X9_factorBy at h
  refine r_iload_n (pc := 0) dX9_factorBy_0 rfl rfl ?_
  refine r_iload_n (pc := 1) dX9_factorBy_1 rfl rfl ?_
  refine r_iload_n (pc := 2) dX9_factorBy_2 rfl rfl ?_
  refine r_callS (pc := 3) (fun v => some (sj_i v)) (As := [sj_i x1, sj_i x2, sj_i x3]) (rest := []) h dX9_factorBy_3 mw_X9_197 kw_1284 (fun _ _ hc => c_X9_isCircle hc) rfl ⟨(Nat.le_of_ble_eq_true rfl), (Nat.le_of_ble_eq_true rfl)⟩ (Nat.le_of_ble_eq_true rfl) rfl (fun v2 s1 h => ?_)
  refine r_if_eq (pc := 6) (tgt := 28) h dX9_factorBy_6 (by decide) (fun h => ?_) (fun h => ?_)
  · refine r_iconst (pc := 28) dX9_factorBy_28 ?_
    exact r_iret (pc := 29) h rfl dX9_factorBy_29
  · refine r_aload_n (pc := 9) dX9_factorBy_9 rfl rfl ?_
    refine r_iload_n (pc := 10) dX9_factorBy_10 rfl rfl ?_
    refine r_iload_n (pc := 11) dX9_factorBy_11 rfl rfl ?_
    refine r_iload_n (pc := 12) dX9_factorBy_12 rfl rfl ?_
    refine r_iload (pc := 13) dX9_factorBy_13 rfl ?_
    refine r_callV (pc := 15) (fun v => some (sj_i v)) (As := [sj_i x1, sj_i x2, sj_i x3, sj_i x4]) (rest := []) h dX9_factorBy_15 mw_X9_201 vw_X9_cuts (fun _ _ hc => c_X9_cuts hc) rfl ⟨(Nat.le_of_ble_eq_true rfl), (Nat.le_of_ble_eq_true rfl)⟩ (Nat.le_of_ble_eq_true rfl) rfl (fun v4 s3 h => ?_)
    refine r_if_eq (pc := 18) (tgt := 28) h dX9_factorBy_18 (by decide) (fun h => ?_) (fun h => ?_)
    · refine r_iconst (pc := 28) dX9_factorBy_28 ?_
      exact r_iret (pc := 29) h rfl dX9_factorBy_29
    · refine r_aload_n (pc := 21) dX9_factorBy_21 rfl rfl ?_
      refine r_callV (pc := 22) (fun v => some (sj_i v)) (As := []) (rest := []) h dX9_factorBy_22 mw_X9_209 vw_X9_factorOf (fun _ _ hc => c_X9_factorOf hc) rfl ⟨(Nat.le_of_ble_eq_true rfl), (Nat.le_of_ble_eq_true rfl)⟩ (Nat.le_of_ble_eq_true rfl) rfl (fun v6 s5 h => ?_)
      refine r_goto (pc := 25) (tgt := 29) dX9_factorBy_25 (by decide) ?_
      exact r_iret (pc := 29) h rfl dX9_factorBy_29
set_option maxHeartbeats 4000000 in
theorem c_X9_factorBy {X : sj_X} {N : Nat} {a0 : Nat} {x1 : Int} {x2 : Int} {x3 : Int} {x4 : Int} {s : sj_Mem} {q : Int × sj_Mem} (h : f_X9_factorBy N a0 x1 x2 x3 x4 s = some q) : sj_C X m_X9_factorBy [sj_r (some a0), sj_i x1, sj_i x2, sj_i x3, sj_i x4] s (some (sj_i q.1), q.2) :=
  sj_C_of (by decide +kernel) (Nat.le_of_ble_eq_true rfl) (lo := [some (sj_r (some a0)), some (sj_i x1), some (sj_i x2), some (sj_i x3), some (sj_i x4)]) rfl (sj_weak (l2 := [some (sj_r (some a0)), some (sj_i x1), some (sj_i x2), some (sj_i x3), some (sj_i x4)]) (⟨rfl, ⟨rfl, ⟨rfl, ⟨rfl, ⟨rfl, trivial⟩⟩⟩⟩⟩) (t_X9_factorBy_0 a0 x1 x2 x3 x4 s h))
theorem dX9_scan_0 : decode cX9_scan 0 = .ok (.iload_n 1, 1) := by decide +kernel
theorem dX9_scan_1 : decode cX9_scan 1 = .ok (.iload_n 2, 1) := by decide +kernel
theorem dX9_scan_2 : decode cX9_scan 2 = .ok (.iload_n 3, 1) := by decide +kernel
theorem dX9_scan_3 : decode cX9_scan 3 = .ok (.invokestatic 197, 3) := by decide +kernel
theorem dX9_scan_6 : decode cX9_scan 6 = .ok (.ifCond .eq 35, 3) := by decide +kernel
theorem dX9_scan_9 : decode cX9_scan 9 = .ok (.iload 4, 2) := by decide +kernel
theorem dX9_scan_11 : decode cX9_scan 11 = .ok (.i2l, 1) := by decide +kernel
theorem dX9_scan_12 : decode cX9_scan 12 = .ok (.lconst 1, 1) := by decide +kernel
theorem dX9_scan_13 : decode cX9_scan 13 = .ok (.ldc2_w 241, 3) := by decide +kernel
theorem dX9_scan_16 : decode cX9_scan 16 = .ok (.invokestatic 57, 3) := by decide +kernel
theorem dX9_scan_19 : decode cX9_scan 19 = .ok (.ifCond .eq 22, 3) := by decide +kernel
theorem dX9_scan_22 : decode cX9_scan 22 = .ok (.iload 6, 2) := by decide +kernel
theorem dX9_scan_24 : decode cX9_scan 24 = .ok (.invokestatic 287, 3) := by decide +kernel
theorem dX9_scan_27 : decode cX9_scan 27 = .ok (.ifCond .eq 14, 3) := by decide +kernel
theorem dX9_scan_30 : decode cX9_scan 30 = .ok (.iload 7, 2) := by decide +kernel
theorem dX9_scan_32 : decode cX9_scan 32 = .ok (.i2l, 1) := by decide +kernel
theorem dX9_scan_33 : decode cX9_scan 33 = .ok (.lconst 0, 1) := by decide +kernel
theorem dX9_scan_34 : decode cX9_scan 34 = .ok (.lconst 1, 1) := by decide +kernel
theorem dX9_scan_35 : decode cX9_scan 35 = .ok (.invokestatic 57, 3) := by decide +kernel
theorem dX9_scan_38 : decode cX9_scan 38 = .ok (.ifCond .ne 5, 3) := by decide +kernel
theorem dX9_scan_41 : decode cX9_scan 41 = .ok (.iconst (-1), 1) := by decide +kernel
theorem dX9_scan_42 : decode cX9_scan 42 = .ok (.ireturn, 1) := by decide +kernel
theorem dX9_scan_43 : decode cX9_scan 43 = .ok (.iconst 0, 1) := by decide +kernel
theorem dX9_scan_44 : decode cX9_scan 44 = .ok (.istore 8, 2) := by decide +kernel
theorem dX9_scan_46 : decode cX9_scan 46 = .ok (.iconst 0, 1) := by decide +kernel
theorem dX9_scan_47 : decode cX9_scan 47 = .ok (.istore 9, 2) := by decide +kernel
theorem dX9_scan_49 : decode cX9_scan 49 = .ok (.iconst 0, 1) := by decide +kernel
theorem dX9_scan_50 : decode cX9_scan 50 = .ok (.istore 10, 2) := by decide +kernel
theorem dX9_scan_52 : decode cX9_scan 52 = .ok (.iload 10, 2) := by decide +kernel
theorem dX9_scan_54 : decode cX9_scan 54 = .ok (.bipush 125, 2) := by decide +kernel
theorem dX9_scan_56 : decode cX9_scan 56 = .ok (.if_icmp .ge 92, 3) := by decide +kernel
theorem dX9_scan_59 : decode cX9_scan 59 = .ok (.aload_n 0, 1) := by decide +kernel
theorem dX9_scan_60 : decode cX9_scan 60 = .ok (.iload_n 1, 1) := by decide +kernel
theorem dX9_scan_61 : decode cX9_scan 61 = .ok (.iload 4, 2) := by decide +kernel
theorem dX9_scan_63 : decode cX9_scan 63 = .ok (.iload 10, 2) := by decide +kernel
theorem dX9_scan_65 : decode cX9_scan 65 = .ok (.bipush 25, 2) := by decide +kernel
theorem dX9_scan_67 : decode cX9_scan 67 = .ok (.idiv, 1) := by decide +kernel
theorem dX9_scan_68 : decode cX9_scan 68 = .ok (.iconst 2, 1) := by decide +kernel
theorem dX9_scan_69 : decode cX9_scan 69 = .ok (.isub, 1) := by decide +kernel
theorem dX9_scan_70 : decode cX9_scan 70 = .ok (.imul, 1) := by decide +kernel
theorem dX9_scan_71 : decode cX9_scan 71 = .ok (.iadd, 1) := by decide +kernel
theorem dX9_scan_72 : decode cX9_scan 72 = .ok (.iload_n 2, 1) := by decide +kernel
theorem dX9_scan_73 : decode cX9_scan 73 = .ok (.iload 4, 2) := by decide +kernel
theorem dX9_scan_75 : decode cX9_scan 75 = .ok (.iload 10, 2) := by decide +kernel
theorem dX9_scan_77 : decode cX9_scan 77 = .ok (.iconst 5, 1) := by decide +kernel
theorem dX9_scan_78 : decode cX9_scan 78 = .ok (.idiv, 1) := by decide +kernel
theorem dX9_scan_79 : decode cX9_scan 79 = .ok (.iconst 5, 1) := by decide +kernel
theorem dX9_scan_80 : decode cX9_scan 80 = .ok (.irem, 1) := by decide +kernel
theorem dX9_scan_81 : decode cX9_scan 81 = .ok (.iconst 2, 1) := by decide +kernel
theorem dX9_scan_82 : decode cX9_scan 82 = .ok (.isub, 1) := by decide +kernel
theorem dX9_scan_83 : decode cX9_scan 83 = .ok (.imul, 1) := by decide +kernel
theorem dX9_scan_84 : decode cX9_scan 84 = .ok (.iadd, 1) := by decide +kernel
theorem dX9_scan_85 : decode cX9_scan 85 = .ok (.iload_n 3, 1) := by decide +kernel
theorem dX9_scan_86 : decode cX9_scan 86 = .ok (.iload 4, 2) := by decide +kernel
theorem dX9_scan_88 : decode cX9_scan 88 = .ok (.iload 10, 2) := by decide +kernel
theorem dX9_scan_90 : decode cX9_scan 90 = .ok (.iconst 5, 1) := by decide +kernel
theorem dX9_scan_91 : decode cX9_scan 91 = .ok (.irem, 1) := by decide +kernel
theorem dX9_scan_92 : decode cX9_scan 92 = .ok (.iconst 2, 1) := by decide +kernel
theorem dX9_scan_93 : decode cX9_scan 93 = .ok (.isub, 1) := by decide +kernel
theorem dX9_scan_94 : decode cX9_scan 94 = .ok (.imul, 1) := by decide +kernel
theorem dX9_scan_95 : decode cX9_scan 95 = .ok (.iadd, 1) := by decide +kernel
theorem dX9_scan_96 : decode cX9_scan 96 = .ok (.iload 5, 2) := by decide +kernel
theorem dX9_scan_98 : decode cX9_scan 98 = .ok (.invokevirtual 212, 3) := by decide +kernel
theorem dX9_scan_101 : decode cX9_scan 101 = .ok (.istore 11, 2) := by decide +kernel
theorem dX9_scan_103 : decode cX9_scan 103 = .ok (.iload 8, 2) := by decide +kernel
theorem dX9_scan_105 : decode cX9_scan 105 = .ok (.iload 11, 2) := by decide +kernel
theorem dX9_scan_107 : decode cX9_scan 107 = .ok (.iconst (-1), 1) := by decide +kernel
theorem dX9_scan_108 : decode cX9_scan 108 = .ok (.if_icmp .ne 7, 3) := by decide +kernel
theorem dX9_scan_111 : decode cX9_scan 111 = .ok (.iconst 0, 1) := by decide +kernel
theorem dX9_scan_112 : decode cX9_scan 112 = .ok (.goto 4, 3) := by decide +kernel
theorem dX9_scan_115 : decode cX9_scan 115 = .ok (.iconst 1, 1) := by decide +kernel
theorem dX9_scan_116 : decode cX9_scan 116 = .ok (.iadd, 1) := by decide +kernel
theorem dX9_scan_117 : decode cX9_scan 117 = .ok (.istore 8, 2) := by decide +kernel
theorem dX9_scan_119 : decode cX9_scan 119 = .ok (.iload 9, 2) := by decide +kernel
theorem dX9_scan_121 : decode cX9_scan 121 = .ok (.iload 11, 2) := by decide +kernel
theorem dX9_scan_123 : decode cX9_scan 123 = .ok (.iconst (-1), 1) := by decide +kernel
theorem dX9_scan_124 : decode cX9_scan 124 = .ok (.if_icmp .eq 14, 3) := by decide +kernel
theorem dX9_scan_127 : decode cX9_scan 127 = .ok (.iload 11, 2) := by decide +kernel
theorem dX9_scan_129 : decode cX9_scan 129 = .ok (.iload 6, 2) := by decide +kernel
theorem dX9_scan_131 : decode cX9_scan 131 = .ok (.if_icmp .ge 7, 3) := by decide +kernel
theorem dX9_scan_134 : decode cX9_scan 134 = .ok (.iconst 1, 1) := by decide +kernel
theorem dX9_scan_135 : decode cX9_scan 135 = .ok (.goto 4, 3) := by decide +kernel
theorem dX9_scan_138 : decode cX9_scan 138 = .ok (.iconst 0, 1) := by decide +kernel
theorem dX9_scan_139 : decode cX9_scan 139 = .ok (.iadd, 1) := by decide +kernel
theorem dX9_scan_140 : decode cX9_scan 140 = .ok (.istore 9, 2) := by decide +kernel
theorem dX9_scan_142 : decode cX9_scan 142 = .ok (.iinc 10 1, 3) := by decide +kernel
theorem dX9_scan_145 : decode cX9_scan 145 = .ok (.goto (-93), 3) := by decide +kernel
theorem dX9_scan_148 : decode cX9_scan 148 = .ok (.iload 7, 2) := by decide +kernel
theorem dX9_scan_150 : decode cX9_scan 150 = .ok (.ifCond .ne 8, 3) := by decide +kernel
theorem dX9_scan_153 : decode cX9_scan 153 = .ok (.iload 8, 2) := by decide +kernel
theorem dX9_scan_155 : decode cX9_scan 155 = .ok (.goto 5, 3) := by decide +kernel
theorem dX9_scan_158 : decode cX9_scan 158 = .ok (.iload 9, 2) := by decide +kernel
theorem dX9_scan_160 : decode cX9_scan 160 = .ok (.ireturn, 1) := by decide +kernel
set_option maxHeartbeats 4000000 in
theorem t_X9_scan_139 {X : sj_X} {s0 : sj_Mem} {N : Nat} {q : Int × sj_Mem} {k52 : Nat → Int → Int → Int → Int → Int → Int → Int → Int → Int → Int → sj_Mem → Option (Int × sj_Mem)} (hk52 : ∀ (a0 : Nat) (x1 : Int) (x2 : Int) (x3 : Int) (x4 : Int) (x5 : Int) (x6 : Int) (x7 : Int) (x8 : Int) (x9 : Int) (x10 : Int) (s : sj_Mem), k52 a0 x1 x2 x3 x4 x5 x6 x7 x8 x9 x10 s = some q → sj_T X m_X9_scan s0 (some (sj_i q.1), q.2) 52 [some (sj_r (some a0)), some (sj_i x1), some (sj_i x2), some (sj_i x3), some (sj_i x4), some (sj_i x5), some (sj_i x6), some (sj_i x7), some (sj_i x8), some (sj_i x9), some (sj_i x10), none] [] s) :
    ∀ (a0 : Nat) (x1 : Int) (x2 : Int) (x3 : Int) (x4 : Int) (x5 : Int) (x6 : Int) (x7 : Int) (x8 : Int) (x10 : Int) (y0 : Int) (y1 : Int) (s : sj_Mem), f_X9_scan_139 N k52 a0 x1 x2 x3 x4 x5 x6 x7 x8 x10 y0 y1 s = some q → sj_T X m_X9_scan s0 (some (sj_i q.1), q.2) 139 [some (sj_r (some a0)), some (sj_i x1), some (sj_i x2), some (sj_i x3), some (sj_i x4), some (sj_i x5), some (sj_i x6), some (sj_i x7), some (sj_i x8), none, some (sj_i x10), none] [(sj_i y0), (sj_i y1)] s := by
  intro a0 x1 x2 x3 x4 x5 x6 x7 x8 x10 y0 y1 s h
  unfold f_X9_scan_139 at h
  refine r_iadd (pc := 139) dX9_scan_139 ?_
  refine r_istoreL (ln := fun w => [some (sj_r (some a0)), some (sj_i x1), some (sj_i x2), some (sj_i x3), some (sj_i x4), some (sj_i x5), some (sj_i x6), some (sj_i x7), some (sj_i x8), some (sj_i w), some (sj_i x10), none]) (pc := 140) h dX9_scan_140 (Nat.le_of_ble_eq_true rfl) (fun _ => rfl) (fun v1 h => ?_)
  refine r_iinc (ln := fun w => [some (sj_r (some a0)), some (sj_i x1), some (sj_i x2), some (sj_i x3), some (sj_i x4), some (sj_i x5), some (sj_i x6), some (sj_i x7), some (sj_i x8), some (sj_i v1), some (sj_i w), none]) (pc := 142) h dX9_scan_142 rfl (Nat.le_of_ble_eq_true rfl) (fun _ => rfl) (fun v2 h => ?_)
  refine r_goto (pc := 145) (tgt := 52) dX9_scan_145 (by decide) ?_
  exact sj_weak (l2 := [some (sj_r (some a0)), some (sj_i x1), some (sj_i x2), some (sj_i x3), some (sj_i x4), some (sj_i x5), some (sj_i x6), some (sj_i x7), some (sj_i x8), some (sj_i v1), some (sj_i v2), none]) (⟨rfl, ⟨rfl, ⟨rfl, ⟨rfl, ⟨rfl, ⟨rfl, ⟨rfl, ⟨rfl, ⟨rfl, ⟨rfl, ⟨rfl, trivial⟩⟩⟩⟩⟩⟩⟩⟩⟩⟩⟩) (hk52 a0 x1 x2 x3 x4 x5 x6 x7 x8 v1 v2 s h)
set_option maxHeartbeats 4000000 in
theorem t_X9_scan_138 {X : sj_X} {s0 : sj_Mem} {N : Nat} {q : Int × sj_Mem} {k52 : Nat → Int → Int → Int → Int → Int → Int → Int → Int → Int → Int → sj_Mem → Option (Int × sj_Mem)} (hk52 : ∀ (a0 : Nat) (x1 : Int) (x2 : Int) (x3 : Int) (x4 : Int) (x5 : Int) (x6 : Int) (x7 : Int) (x8 : Int) (x9 : Int) (x10 : Int) (s : sj_Mem), k52 a0 x1 x2 x3 x4 x5 x6 x7 x8 x9 x10 s = some q → sj_T X m_X9_scan s0 (some (sj_i q.1), q.2) 52 [some (sj_r (some a0)), some (sj_i x1), some (sj_i x2), some (sj_i x3), some (sj_i x4), some (sj_i x5), some (sj_i x6), some (sj_i x7), some (sj_i x8), some (sj_i x9), some (sj_i x10), none] [] s) :
    ∀ (a0 : Nat) (x1 : Int) (x2 : Int) (x3 : Int) (x4 : Int) (x5 : Int) (x6 : Int) (x7 : Int) (x8 : Int) (x10 : Int) (y0 : Int) (s : sj_Mem), f_X9_scan_138 N k52 a0 x1 x2 x3 x4 x5 x6 x7 x8 x10 y0 s = some q → sj_T X m_X9_scan s0 (some (sj_i q.1), q.2) 138 [some (sj_r (some a0)), some (sj_i x1), some (sj_i x2), some (sj_i x3), some (sj_i x4), some (sj_i x5), some (sj_i x6), some (sj_i x7), some (sj_i x8), none, some (sj_i x10), none] [(sj_i y0)] s := by
  intro a0 x1 x2 x3 x4 x5 x6 x7 x8 x10 y0 s h
  unfold f_X9_scan_138 at h
  refine r_iconst (pc := 138) dX9_scan_138 ?_
  exact sj_weak (l2 := [some (sj_r (some a0)), some (sj_i x1), some (sj_i x2), some (sj_i x3), some (sj_i x4), some (sj_i x5), some (sj_i x6), some (sj_i x7), some (sj_i x8), none, some (sj_i x10), none]) (⟨rfl, ⟨rfl, ⟨rfl, ⟨rfl, ⟨rfl, ⟨rfl, ⟨rfl, ⟨rfl, ⟨rfl, ⟨rfl, trivial⟩⟩⟩⟩⟩⟩⟩⟩⟩⟩) (t_X9_scan_139 hk52 a0 x1 x2 x3 x4 x5 x6 x7 x8 x10 0 y0 s h)
set_option maxHeartbeats 4000000 in
theorem t_X9_scan_116 {X : sj_X} {s0 : sj_Mem} {N : Nat} {q : Int × sj_Mem} {k52 : Nat → Int → Int → Int → Int → Int → Int → Int → Int → Int → Int → sj_Mem → Option (Int × sj_Mem)} (hk52 : ∀ (a0 : Nat) (x1 : Int) (x2 : Int) (x3 : Int) (x4 : Int) (x5 : Int) (x6 : Int) (x7 : Int) (x8 : Int) (x9 : Int) (x10 : Int) (s : sj_Mem), k52 a0 x1 x2 x3 x4 x5 x6 x7 x8 x9 x10 s = some q → sj_T X m_X9_scan s0 (some (sj_i q.1), q.2) 52 [some (sj_r (some a0)), some (sj_i x1), some (sj_i x2), some (sj_i x3), some (sj_i x4), some (sj_i x5), some (sj_i x6), some (sj_i x7), some (sj_i x8), some (sj_i x9), some (sj_i x10), none] [] s) :
    ∀ (a0 : Nat) (x1 : Int) (x2 : Int) (x3 : Int) (x4 : Int) (x5 : Int) (x6 : Int) (x7 : Int) (x9 : Int) (x10 : Int) (x11 : Int) (y0 : Int) (y1 : Int) (s : sj_Mem), f_X9_scan_116 N k52 a0 x1 x2 x3 x4 x5 x6 x7 x9 x10 x11 y0 y1 s = some q → sj_T X m_X9_scan s0 (some (sj_i q.1), q.2) 116 [some (sj_r (some a0)), some (sj_i x1), some (sj_i x2), some (sj_i x3), some (sj_i x4), some (sj_i x5), some (sj_i x6), some (sj_i x7), none, some (sj_i x9), some (sj_i x10), some (sj_i x11)] [(sj_i y0), (sj_i y1)] s := by
  intro a0 x1 x2 x3 x4 x5 x6 x7 x9 x10 x11 y0 y1 s h
  unfold f_X9_scan_116 at h
  refine r_iadd (pc := 116) dX9_scan_116 ?_
  refine r_istoreL (ln := fun w => [some (sj_r (some a0)), some (sj_i x1), some (sj_i x2), some (sj_i x3), some (sj_i x4), some (sj_i x5), some (sj_i x6), some (sj_i x7), some (sj_i w), some (sj_i x9), some (sj_i x10), some (sj_i x11)]) (pc := 117) h dX9_scan_117 (Nat.le_of_ble_eq_true rfl) (fun _ => rfl) (fun v1 h => ?_)
  refine r_iload (pc := 119) dX9_scan_119 rfl ?_
  refine r_iload (pc := 121) dX9_scan_121 rfl ?_
  refine r_iconst (pc := 123) dX9_scan_123 ?_
  refine r_icmp_eq (pc := 124) (tgt := 138) h dX9_scan_124 (by decide) (fun h => ?_) (fun h => ?_)
  · exact sj_weak (l2 := [some (sj_r (some a0)), some (sj_i x1), some (sj_i x2), some (sj_i x3), some (sj_i x4), some (sj_i x5), some (sj_i x6), some (sj_i x7), some (sj_i v1), none, some (sj_i x10), none]) (⟨rfl, ⟨rfl, ⟨rfl, ⟨rfl, ⟨rfl, ⟨rfl, ⟨rfl, ⟨rfl, ⟨rfl, ⟨rfl, trivial⟩⟩⟩⟩⟩⟩⟩⟩⟩⟩) (t_X9_scan_138 hk52 a0 x1 x2 x3 x4 x5 x6 x7 v1 x10 x9 s h)
  · refine r_iload (pc := 127) dX9_scan_127 rfl ?_
    refine r_iload (pc := 129) dX9_scan_129 rfl ?_
    refine r_icmp_ge (pc := 131) (tgt := 138) h dX9_scan_131 (by decide) (fun h => ?_) (fun h => ?_)
    · exact sj_weak (l2 := [some (sj_r (some a0)), some (sj_i x1), some (sj_i x2), some (sj_i x3), some (sj_i x4), some (sj_i x5), some (sj_i x6), some (sj_i x7), some (sj_i v1), none, some (sj_i x10), none]) (⟨rfl, ⟨rfl, ⟨rfl, ⟨rfl, ⟨rfl, ⟨rfl, ⟨rfl, ⟨rfl, ⟨rfl, ⟨rfl, trivial⟩⟩⟩⟩⟩⟩⟩⟩⟩⟩) (t_X9_scan_138 hk52 a0 x1 x2 x3 x4 x5 x6 x7 v1 x10 x9 s h)
    · refine r_iconst (pc := 134) dX9_scan_134 ?_
      refine r_goto (pc := 135) (tgt := 139) dX9_scan_135 (by decide) ?_
      exact sj_weak (l2 := [some (sj_r (some a0)), some (sj_i x1), some (sj_i x2), some (sj_i x3), some (sj_i x4), some (sj_i x5), some (sj_i x6), some (sj_i x7), some (sj_i v1), none, some (sj_i x10), none]) (⟨rfl, ⟨rfl, ⟨rfl, ⟨rfl, ⟨rfl, ⟨rfl, ⟨rfl, ⟨rfl, ⟨rfl, ⟨rfl, trivial⟩⟩⟩⟩⟩⟩⟩⟩⟩⟩) (t_X9_scan_139 hk52 a0 x1 x2 x3 x4 x5 x6 x7 v1 x10 1 x9 s h)
set_option maxHeartbeats 4000000 in
theorem t_X9_scan_52_b {X : sj_X} {s0 : sj_Mem} {N : Nat} {q : Int × sj_Mem} {k52 : Nat → Int → Int → Int → Int → Int → Int → Int → Int → Int → Int → sj_Mem → Option (Int × sj_Mem)} (hk52 : ∀ (a0 : Nat) (x1 : Int) (x2 : Int) (x3 : Int) (x4 : Int) (x5 : Int) (x6 : Int) (x7 : Int) (x8 : Int) (x9 : Int) (x10 : Int) (s : sj_Mem), k52 a0 x1 x2 x3 x4 x5 x6 x7 x8 x9 x10 s = some q → sj_T X m_X9_scan s0 (some (sj_i q.1), q.2) 52 [some (sj_r (some a0)), some (sj_i x1), some (sj_i x2), some (sj_i x3), some (sj_i x4), some (sj_i x5), some (sj_i x6), some (sj_i x7), some (sj_i x8), some (sj_i x9), some (sj_i x10), none] [] s) :
    ∀ (a0 : Nat) (x1 : Int) (x2 : Int) (x3 : Int) (x4 : Int) (x5 : Int) (x6 : Int) (x7 : Int) (x8 : Int) (x9 : Int) (x10 : Int) (s : sj_Mem), f_X9_scan_52_b N k52 a0 x1 x2 x3 x4 x5 x6 x7 x8 x9 x10 s = some q → sj_T X m_X9_scan s0 (some (sj_i q.1), q.2) 52 [some (sj_r (some a0)), some (sj_i x1), some (sj_i x2), some (sj_i x3), some (sj_i x4), some (sj_i x5), some (sj_i x6), some (sj_i x7), some (sj_i x8), some (sj_i x9), some (sj_i x10), none] [] s := by
  intro a0 x1 x2 x3 x4 x5 x6 x7 x8 x9 x10 s h
  unfold f_X9_scan_52_b at h
  refine r_iload (pc := 52) dX9_scan_52 rfl ?_
  refine r_bipush (pc := 54) dX9_scan_54 ⟨by decide, by decide⟩ ?_
  refine r_icmp_ge (pc := 56) (tgt := 148) h dX9_scan_56 (by decide) (fun h => ?_) (fun h => ?_)
  · refine r_iload (pc := 148) dX9_scan_148 rfl ?_
    refine r_if_ne (pc := 150) (tgt := 158) h dX9_scan_150 (by decide) (fun h => ?_) (fun h => ?_)
    · refine r_iload (pc := 153) dX9_scan_153 rfl ?_
      refine r_goto (pc := 155) (tgt := 160) dX9_scan_155 (by decide) ?_
      exact r_iret (pc := 160) h rfl dX9_scan_160
    · refine r_iload (pc := 158) dX9_scan_158 rfl ?_
      exact r_iret (pc := 160) h rfl dX9_scan_160
  · refine r_aload_n (pc := 59) dX9_scan_59 rfl rfl ?_
    refine r_iload_n (pc := 60) dX9_scan_60 rfl rfl ?_
    refine r_iload (pc := 61) dX9_scan_61 rfl ?_
    refine r_iload (pc := 63) dX9_scan_63 rfl ?_
    refine r_bipush (pc := 65) dX9_scan_65 ⟨by decide, by decide⟩ ?_
    refine r_idiv (pc := 67) h dX9_scan_67 (fun v1 h => ?_)
    refine r_iconst (pc := 68) dX9_scan_68 ?_
    refine r_isub (pc := 69) dX9_scan_69 ?_
    refine r_imul (pc := 70) dX9_scan_70 ?_
    refine r_iadd (pc := 71) dX9_scan_71 ?_
    refine r_iload_n (pc := 72) dX9_scan_72 rfl rfl ?_
    refine r_iload (pc := 73) dX9_scan_73 rfl ?_
    refine r_iload (pc := 75) dX9_scan_75 rfl ?_
    refine r_iconst (pc := 77) dX9_scan_77 ?_
    refine r_idiv (pc := 78) h dX9_scan_78 (fun v2 h => ?_)
    refine r_iconst (pc := 79) dX9_scan_79 ?_
    refine r_irem (pc := 80) h dX9_scan_80 (fun v3 h => ?_)
    refine r_iconst (pc := 81) dX9_scan_81 ?_
    refine r_isub (pc := 82) dX9_scan_82 ?_
    refine r_imul (pc := 83) dX9_scan_83 ?_
    refine r_iadd (pc := 84) dX9_scan_84 ?_
    refine r_iload_n (pc := 85) dX9_scan_85 rfl rfl ?_
    refine r_iload (pc := 86) dX9_scan_86 rfl ?_
    refine r_iload (pc := 88) dX9_scan_88 rfl ?_
    refine r_iconst (pc := 90) dX9_scan_90 ?_
    refine r_irem (pc := 91) h dX9_scan_91 (fun v4 h => ?_)
    refine r_iconst (pc := 92) dX9_scan_92 ?_
    refine r_isub (pc := 93) dX9_scan_93 ?_
    refine r_imul (pc := 94) dX9_scan_94 ?_
    refine r_iadd (pc := 95) dX9_scan_95 ?_
    refine r_iload (pc := 96) dX9_scan_96 rfl ?_
    refine r_callV (pc := 98) (fun v => some (sj_i v)) (As := [sj_i (x1 + (x4 * (v1 - 2))), sj_i (x2 + (x4 * (v3 - 2))), sj_i (x3 + (x4 * (v4 - 2))), sj_i x5]) (rest := []) h dX9_scan_98 mw_X9_212 vw_X9_factorBy (fun _ _ hc => c_X9_factorBy hc) rfl ⟨(Nat.le_of_ble_eq_true rfl), (Nat.le_of_ble_eq_true rfl)⟩ (Nat.le_of_ble_eq_true rfl) rfl (fun v6 s5 h => ?_)
    refine r_istore (ln := [some (sj_r (some a0)), some (sj_i x1), some (sj_i x2), some (sj_i x3), some (sj_i x4), some (sj_i x5), some (sj_i x6), some (sj_i x7), some (sj_i x8), some (sj_i x9), some (sj_i x10), some (sj_i v6)]) (pc := 101) dX9_scan_101 (Nat.le_of_ble_eq_true rfl) rfl ?_
    refine r_iload (pc := 103) dX9_scan_103 rfl ?_
    refine r_iload (pc := 105) dX9_scan_105 rfl ?_
    refine r_iconst (pc := 107) dX9_scan_107 ?_
    refine r_icmp_ne (pc := 108) (tgt := 115) h dX9_scan_108 (by decide) (fun h => ?_) (fun h => ?_)
    · refine r_iconst (pc := 111) dX9_scan_111 ?_
      refine r_goto (pc := 112) (tgt := 116) dX9_scan_112 (by decide) ?_
      exact sj_weak (l2 := [some (sj_r (some a0)), some (sj_i x1), some (sj_i x2), some (sj_i x3), some (sj_i x4), some (sj_i x5), some (sj_i x6), some (sj_i x7), none, some (sj_i x9), some (sj_i x10), some (sj_i v6)]) (⟨rfl, ⟨rfl, ⟨rfl, ⟨rfl, ⟨rfl, ⟨rfl, ⟨rfl, ⟨rfl, ⟨rfl, ⟨rfl, ⟨rfl, trivial⟩⟩⟩⟩⟩⟩⟩⟩⟩⟩⟩) (t_X9_scan_116 hk52 a0 x1 x2 x3 x4 x5 x6 x7 x9 x10 v6 0 x8 s5 h)
    · refine r_iconst (pc := 115) dX9_scan_115 ?_
      exact sj_weak (l2 := [some (sj_r (some a0)), some (sj_i x1), some (sj_i x2), some (sj_i x3), some (sj_i x4), some (sj_i x5), some (sj_i x6), some (sj_i x7), none, some (sj_i x9), some (sj_i x10), some (sj_i v6)]) (⟨rfl, ⟨rfl, ⟨rfl, ⟨rfl, ⟨rfl, ⟨rfl, ⟨rfl, ⟨rfl, ⟨rfl, ⟨rfl, ⟨rfl, trivial⟩⟩⟩⟩⟩⟩⟩⟩⟩⟩⟩) (t_X9_scan_116 hk52 a0 x1 x2 x3 x4 x5 x6 x7 x9 x10 v6 1 x8 s5 h)
set_option maxHeartbeats 4000000 in
theorem t_X9_scan_52 {X : sj_X} {s0 : sj_Mem} {N : Nat} {q : Int × sj_Mem} :
    ∀ (n : Nat) (a0 : Nat) (x1 : Int) (x2 : Int) (x3 : Int) (x4 : Int) (x5 : Int) (x6 : Int) (x7 : Int) (x8 : Int) (x9 : Int) (x10 : Int) (s : sj_Mem), f_X9_scan_52 N n a0 x1 x2 x3 x4 x5 x6 x7 x8 x9 x10 s = some q → sj_T X m_X9_scan s0 (some (sj_i q.1), q.2) 52 [some (sj_r (some a0)), some (sj_i x1), some (sj_i x2), some (sj_i x3), some (sj_i x4), some (sj_i x5), some (sj_i x6), some (sj_i x7), some (sj_i x8), some (sj_i x9), some (sj_i x10), none] [] s := by
  intro n
  induction n with
  | zero => intro a0 x1 x2 x3 x4 x5 x6 x7 x8 x9 x10 s h; exact nomatch h
  | succ n ih => intro a0 x1 x2 x3 x4 x5 x6 x7 x8 x9 x10 s h; exact t_X9_scan_52_b (N := N) ih a0 x1 x2 x3 x4 x5 x6 x7 x8 x9 x10 s h
set_option maxHeartbeats 4000000 in
theorem t_X9_scan_0 {X : sj_X} {s0 : sj_Mem} {N : Nat} {q : Int × sj_Mem} :
    ∀ (a0 : Nat) (x1 : Int) (x2 : Int) (x3 : Int) (x4 : Int) (x5 : Int) (x6 : Int) (x7 : Int) (s : sj_Mem), f_X9_scan N a0 x1 x2 x3 x4 x5 x6 x7 s = some q → sj_T X m_X9_scan s0 (some (sj_i q.1), q.2) 0 [some (sj_r (some a0)), some (sj_i x1), some (sj_i x2), some (sj_i x3), some (sj_i x4), some (sj_i x5), some (sj_i x6), some (sj_i x7), none, none, none, none] [] s := by
  intro a0 x1 x2 x3 x4 x5 x6 x7 s h
  unfold f_X9_scan at h
  refine r_iload_n (pc := 0) dX9_scan_0 rfl rfl ?_
  refine r_iload_n (pc := 1) dX9_scan_1 rfl rfl ?_
  refine r_iload_n (pc := 2) dX9_scan_2 rfl rfl ?_
  refine r_callS (pc := 3) (fun v => some (sj_i v)) (As := [sj_i x1, sj_i x2, sj_i x3]) (rest := []) h dX9_scan_3 mw_X9_197 kw_1284 (fun _ _ hc => c_X9_isCircle hc) rfl ⟨(Nat.le_of_ble_eq_true rfl), (Nat.le_of_ble_eq_true rfl)⟩ (Nat.le_of_ble_eq_true rfl) rfl (fun v2 s1 h => ?_)
  refine r_if_eq (pc := 6) (tgt := 41) h dX9_scan_6 (by decide) (fun h => ?_) (fun h => ?_)
  · refine r_iconst (pc := 41) dX9_scan_41 ?_
    exact r_iret (pc := 42) h rfl dX9_scan_42
  · refine r_iload (pc := 9) dX9_scan_9 rfl ?_
    refine r_i2l (pc := 11) h dX9_scan_11 (fun v3 h => ?_)
    refine r_lconst1 (pc := 12) dX9_scan_12 ?_
    refine r_ldc2 (n := 64) (pc := 13) dX9_scan_13 kc_X9_241 ?_
    refine r_callS (pc := 16) (fun v => some (sj_i v)) (As := [sj_j v3, sj_j 1, sj_j 64]) (rest := []) h dX9_scan_16 mw_X9_57 kw_1225 (fun _ _ hc => c_X9_isIn hc) rfl ⟨(Nat.le_of_ble_eq_true rfl), (Nat.le_of_ble_eq_true rfl)⟩ (Nat.le_of_ble_eq_true rfl) rfl (fun v5 s4 h => ?_)
    refine r_if_eq (pc := 19) (tgt := 41) h dX9_scan_19 (by decide) (fun h => ?_) (fun h => ?_)
    · refine r_iconst (pc := 41) dX9_scan_41 ?_
      exact r_iret (pc := 42) h rfl dX9_scan_42
    · refine r_iload (pc := 22) dX9_scan_22 rfl ?_
      refine r_callS (pc := 24) (fun v => some (sj_i v)) (As := [sj_i x6]) (rest := []) h dX9_scan_24 mw_X9_287 kw_1446 (fun _ _ hc => c_X9_isK hc) rfl ⟨(Nat.le_of_ble_eq_true rfl), (Nat.le_of_ble_eq_true rfl)⟩ (Nat.le_of_ble_eq_true rfl) rfl (fun v7 s6 h => ?_)
      refine r_if_eq (pc := 27) (tgt := 41) h dX9_scan_27 (by decide) (fun h => ?_) (fun h => ?_)
      · refine r_iconst (pc := 41) dX9_scan_41 ?_
        exact r_iret (pc := 42) h rfl dX9_scan_42
      · refine r_iload (pc := 30) dX9_scan_30 rfl ?_
        refine r_i2l (pc := 32) h dX9_scan_32 (fun v8 h => ?_)
        refine r_lconst0 (pc := 33) dX9_scan_33 ?_
        refine r_lconst1 (pc := 34) dX9_scan_34 ?_
        refine r_callS (pc := 35) (fun v => some (sj_i v)) (As := [sj_j v8, sj_j 0, sj_j 1]) (rest := []) h dX9_scan_35 mw_X9_57 kw_1225 (fun _ _ hc => c_X9_isIn hc) rfl ⟨(Nat.le_of_ble_eq_true rfl), (Nat.le_of_ble_eq_true rfl)⟩ (Nat.le_of_ble_eq_true rfl) rfl (fun v10 s9 h => ?_)
        refine r_if_ne (pc := 38) (tgt := 43) h dX9_scan_38 (by decide) (fun h => ?_) (fun h => ?_)
        · refine r_iconst (pc := 41) dX9_scan_41 ?_
          exact r_iret (pc := 42) h rfl dX9_scan_42
        · refine r_iconst (pc := 43) dX9_scan_43 ?_
          refine r_istore (ln := [some (sj_r (some a0)), some (sj_i x1), some (sj_i x2), some (sj_i x3), some (sj_i x4), some (sj_i x5), some (sj_i x6), some (sj_i x7), some (sj_i 0), none, none, none]) (pc := 44) dX9_scan_44 (Nat.le_of_ble_eq_true rfl) rfl ?_
          refine r_iconst (pc := 46) dX9_scan_46 ?_
          refine r_istore (ln := [some (sj_r (some a0)), some (sj_i x1), some (sj_i x2), some (sj_i x3), some (sj_i x4), some (sj_i x5), some (sj_i x6), some (sj_i x7), some (sj_i 0), some (sj_i 0), none, none]) (pc := 47) dX9_scan_47 (Nat.le_of_ble_eq_true rfl) rfl ?_
          refine r_iconst (pc := 49) dX9_scan_49 ?_
          refine r_istore (ln := [some (sj_r (some a0)), some (sj_i x1), some (sj_i x2), some (sj_i x3), some (sj_i x4), some (sj_i x5), some (sj_i x6), some (sj_i x7), some (sj_i 0), some (sj_i 0), some (sj_i 0), none]) (pc := 50) dX9_scan_50 (Nat.le_of_ble_eq_true rfl) rfl ?_
          exact sj_weak (l2 := [some (sj_r (some a0)), some (sj_i x1), some (sj_i x2), some (sj_i x3), some (sj_i x4), some (sj_i x5), some (sj_i x6), some (sj_i x7), some (sj_i 0), some (sj_i 0), some (sj_i 0), none]) (⟨rfl, ⟨rfl, ⟨rfl, ⟨rfl, ⟨rfl, ⟨rfl, ⟨rfl, ⟨rfl, ⟨rfl, ⟨rfl, ⟨rfl, trivial⟩⟩⟩⟩⟩⟩⟩⟩⟩⟩⟩) (t_X9_scan_52 N a0 x1 x2 x3 x4 x5 x6 x7 0 0 0 s9 h)
set_option maxHeartbeats 4000000 in
theorem c_X9_scan {X : sj_X} {N : Nat} {a0 : Nat} {x1 : Int} {x2 : Int} {x3 : Int} {x4 : Int} {x5 : Int} {x6 : Int} {x7 : Int} {s : sj_Mem} {q : Int × sj_Mem} (h : f_X9_scan N a0 x1 x2 x3 x4 x5 x6 x7 s = some q) : sj_C X m_X9_scan [sj_r (some a0), sj_i x1, sj_i x2, sj_i x3, sj_i x4, sj_i x5, sj_i x6, sj_i x7] s (some (sj_i q.1), q.2) :=
  sj_C_of (by decide +kernel) (Nat.le_of_ble_eq_true rfl) (lo := [some (sj_r (some a0)), some (sj_i x1), some (sj_i x2), some (sj_i x3), some (sj_i x4), some (sj_i x5), some (sj_i x6), some (sj_i x7), none, none, none, none]) rfl (sj_weak (l2 := [some (sj_r (some a0)), some (sj_i x1), some (sj_i x2), some (sj_i x3), some (sj_i x4), some (sj_i x5), some (sj_i x6), some (sj_i x7), none, none, none, none]) (⟨rfl, ⟨rfl, ⟨rfl, ⟨rfl, ⟨rfl, ⟨rfl, ⟨rfl, ⟨rfl, trivial⟩⟩⟩⟩⟩⟩⟩⟩) (t_X9_scan_0 a0 x1 x2 x3 x4 x5 x6 x7 s h))
theorem dX9_isColumn_0 : decode cX9_isColumn 0 = .ok (.iload_n 1, 1) := by decide +kernel
theorem dX9_isColumn_1 : decode cX9_isColumn 1 = .ok (.i2l, 1) := by decide +kernel
theorem dX9_isColumn_2 : decode cX9_isColumn 2 = .ok (.lconst 0, 1) := by decide +kernel
theorem dX9_isColumn_3 : decode cX9_isColumn 3 = .ok (.aload_n 0, 1) := by decide +kernel
theorem dX9_isColumn_4 : decode cX9_isColumn 4 = .ok (.getfield 9, 3) := by decide +kernel
theorem dX9_isColumn_7 : decode cX9_isColumn 7 = .ok (.iconst 0, 1) := by decide +kernel
theorem dX9_isColumn_8 : decode cX9_isColumn 8 = .ok (.iaload, 1) := by decide +kernel
theorem dX9_isColumn_9 : decode cX9_isColumn 9 = .ok (.i2l, 1) := by decide +kernel
theorem dX9_isColumn_10 : decode cX9_isColumn 10 = .ok (.invokestatic 57, 3) := by decide +kernel
theorem dX9_isColumn_13 : decode cX9_isColumn 13 = .ok (.ireturn, 1) := by decide +kernel
set_option maxHeartbeats 4000000 in
theorem t_X9_isColumn_0 {X : sj_X} {s0 : sj_Mem} {N : Nat} {q : Int × sj_Mem} :
    ∀ (a0 : Nat) (x1 : Int) (s : sj_Mem), f_X9_isColumn N a0 x1 s = some q → sj_T X m_X9_isColumn s0 (some (sj_i q.1), q.2) 0 [some (sj_r (some a0)), some (sj_i x1)] [] s := by
  intro a0 x1 s h
  unfold f_X9_isColumn at h
  refine r_iload_n (pc := 0) dX9_isColumn_0 rfl rfl ?_
  refine r_i2l (pc := 1) h dX9_isColumn_1 (fun v1 h => ?_)
  refine r_lconst0 (pc := 2) dX9_isColumn_2 ?_
  refine r_aload_n (pc := 3) dX9_isColumn_3 rfl rfl ?_
  refine r_gR (pc := 4) h dX9_isColumn_4 fw_X9_9 rfl (fun r2 h => ?_)
  refine r_iconst (pc := 7) dX9_isColumn_7 ?_
  obtain ⟨a3, ea3, g⟩ := e_nn_some h
  clear h
  subst ea3
  have h := g
  clear g
  refine r_iaload (pc := 8) h dX9_isColumn_8 (fun v4 h => ?_)
  refine r_i2l (pc := 9) h dX9_isColumn_9 (fun v5 h => ?_)
  refine r_callS (pc := 10) (fun v => some (sj_i v)) (As := [sj_j v1, sj_j 0, sj_j v5]) (rest := []) h dX9_isColumn_10 mw_X9_57 kw_1225 (fun _ _ hc => c_X9_isIn hc) rfl ⟨(Nat.le_of_ble_eq_true rfl), (Nat.le_of_ble_eq_true rfl)⟩ (Nat.le_of_ble_eq_true rfl) rfl (fun v7 s6 h => ?_)
  exact r_zret (pc := 13) h rfl dX9_isColumn_13
set_option maxHeartbeats 4000000 in
theorem c_X9_isColumn {X : sj_X} {N : Nat} {a0 : Nat} {x1 : Int} {s : sj_Mem} {q : Int × sj_Mem} (h : f_X9_isColumn N a0 x1 s = some q) : sj_C X m_X9_isColumn [sj_r (some a0), sj_i x1] s (some (sj_i q.1), q.2) :=
  sj_C_of (by decide +kernel) (Nat.le_of_ble_eq_true rfl) (lo := [some (sj_r (some a0)), some (sj_i x1)]) rfl (sj_weak (l2 := [some (sj_r (some a0)), some (sj_i x1)]) (⟨rfl, ⟨rfl, trivial⟩⟩) (t_X9_isColumn_0 a0 x1 s h))
theorem dX9_isBetter_0 : decode cX9_isBetter 0 = .ok (.iconst (-1), 1) := by decide +kernel
theorem dX9_isBetter_1 : decode cX9_isBetter 1 = .ok (.istore_n 3, 1) := by decide +kernel
theorem dX9_isBetter_2 : decode cX9_isBetter 2 = .ok (.iconst 0, 1) := by decide +kernel
theorem dX9_isBetter_3 : decode cX9_isBetter 3 = .ok (.istore 4, 2) := by decide +kernel
theorem dX9_isBetter_5 : decode cX9_isBetter 5 = .ok (.iconst 0, 1) := by decide +kernel
theorem dX9_isBetter_6 : decode cX9_isBetter 6 = .ok (.istore 5, 2) := by decide +kernel
theorem dX9_isBetter_8 : decode cX9_isBetter 8 = .ok (.iconst 0, 1) := by decide +kernel
theorem dX9_isBetter_9 : decode cX9_isBetter 9 = .ok (.istore 6, 2) := by decide +kernel
theorem dX9_isBetter_11 : decode cX9_isBetter 11 = .ok (.iconst 0, 1) := by decide +kernel
theorem dX9_isBetter_12 : decode cX9_isBetter 12 = .ok (.istore 7, 2) := by decide +kernel
theorem dX9_isBetter_14 : decode cX9_isBetter 14 = .ok (.iload 7, 2) := by decide +kernel
theorem dX9_isBetter_16 : decode cX9_isBetter 16 = .ok (.bipush 27, 2) := by decide +kernel
theorem dX9_isBetter_18 : decode cX9_isBetter 18 = .ok (.if_icmp .ge 105, 3) := by decide +kernel
theorem dX9_isBetter_21 : decode cX9_isBetter 21 = .ok (.aload_n 0, 1) := by decide +kernel
theorem dX9_isBetter_22 : decode cX9_isBetter 22 = .ok (.getfield 222, 3) := by decide +kernel
theorem dX9_isBetter_25 : decode cX9_isBetter 25 = .ok (.iload_n 1, 1) := by decide +kernel
theorem dX9_isBetter_26 : decode cX9_isBetter 26 = .ok (.iload 7, 2) := by decide +kernel
theorem dX9_isBetter_28 : decode cX9_isBetter 28 = .ok (.bipush 9, 2) := by decide +kernel
theorem dX9_isBetter_30 : decode cX9_isBetter 30 = .ok (.idiv, 1) := by decide +kernel
theorem dX9_isBetter_31 : decode cX9_isBetter 31 = .ok (.iconst 1, 1) := by decide +kernel
theorem dX9_isBetter_32 : decode cX9_isBetter 32 = .ok (.isub, 1) := by decide +kernel
theorem dX9_isBetter_33 : decode cX9_isBetter 33 = .ok (.imul, 1) := by decide +kernel
theorem dX9_isBetter_34 : decode cX9_isBetter 34 = .ok (.iadd, 1) := by decide +kernel
theorem dX9_isBetter_35 : decode cX9_isBetter 35 = .ok (.istore 8, 2) := by decide +kernel
theorem dX9_isBetter_37 : decode cX9_isBetter 37 = .ok (.aload_n 0, 1) := by decide +kernel
theorem dX9_isBetter_38 : decode cX9_isBetter 38 = .ok (.getfield 225, 3) := by decide +kernel
theorem dX9_isBetter_41 : decode cX9_isBetter 41 = .ok (.iload_n 1, 1) := by decide +kernel
theorem dX9_isBetter_42 : decode cX9_isBetter 42 = .ok (.iload 7, 2) := by decide +kernel
theorem dX9_isBetter_44 : decode cX9_isBetter 44 = .ok (.iconst 3, 1) := by decide +kernel
theorem dX9_isBetter_45 : decode cX9_isBetter 45 = .ok (.idiv, 1) := by decide +kernel
theorem dX9_isBetter_46 : decode cX9_isBetter 46 = .ok (.iconst 3, 1) := by decide +kernel
theorem dX9_isBetter_47 : decode cX9_isBetter 47 = .ok (.irem, 1) := by decide +kernel
theorem dX9_isBetter_48 : decode cX9_isBetter 48 = .ok (.iconst 1, 1) := by decide +kernel
theorem dX9_isBetter_49 : decode cX9_isBetter 49 = .ok (.isub, 1) := by decide +kernel
theorem dX9_isBetter_50 : decode cX9_isBetter 50 = .ok (.imul, 1) := by decide +kernel
theorem dX9_isBetter_51 : decode cX9_isBetter 51 = .ok (.iadd, 1) := by decide +kernel
theorem dX9_isBetter_52 : decode cX9_isBetter 52 = .ok (.istore 9, 2) := by decide +kernel
theorem dX9_isBetter_54 : decode cX9_isBetter 54 = .ok (.aload_n 0, 1) := by decide +kernel
theorem dX9_isBetter_55 : decode cX9_isBetter 55 = .ok (.getfield 228, 3) := by decide +kernel
theorem dX9_isBetter_58 : decode cX9_isBetter 58 = .ok (.iload_n 1, 1) := by decide +kernel
theorem dX9_isBetter_59 : decode cX9_isBetter 59 = .ok (.iload 7, 2) := by decide +kernel
theorem dX9_isBetter_61 : decode cX9_isBetter 61 = .ok (.iconst 3, 1) := by decide +kernel
theorem dX9_isBetter_62 : decode cX9_isBetter 62 = .ok (.irem, 1) := by decide +kernel
theorem dX9_isBetter_63 : decode cX9_isBetter 63 = .ok (.iconst 1, 1) := by decide +kernel
theorem dX9_isBetter_64 : decode cX9_isBetter 64 = .ok (.isub, 1) := by decide +kernel
theorem dX9_isBetter_65 : decode cX9_isBetter 65 = .ok (.imul, 1) := by decide +kernel
theorem dX9_isBetter_66 : decode cX9_isBetter 66 = .ok (.iadd, 1) := by decide +kernel
theorem dX9_isBetter_67 : decode cX9_isBetter 67 = .ok (.istore 10, 2) := by decide +kernel
theorem dX9_isBetter_69 : decode cX9_isBetter 69 = .ok (.aload_n 0, 1) := by decide +kernel
theorem dX9_isBetter_70 : decode cX9_isBetter 70 = .ok (.iload 8, 2) := by decide +kernel
theorem dX9_isBetter_72 : decode cX9_isBetter 72 = .ok (.iload 9, 2) := by decide +kernel
theorem dX9_isBetter_74 : decode cX9_isBetter 74 = .ok (.iload 10, 2) := by decide +kernel
theorem dX9_isBetter_76 : decode cX9_isBetter 76 = .ok (.iload_n 2, 1) := by decide +kernel
theorem dX9_isBetter_77 : decode cX9_isBetter 77 = .ok (.invokevirtual 212, 3) := by decide +kernel
theorem dX9_isBetter_80 : decode cX9_isBetter 80 = .ok (.istore 11, 2) := by decide +kernel
theorem dX9_isBetter_82 : decode cX9_isBetter 82 = .ok (.iload 11, 2) := by decide +kernel
theorem dX9_isBetter_84 : decode cX9_isBetter 84 = .ok (.iconst (-1), 1) := by decide +kernel
theorem dX9_isBetter_85 : decode cX9_isBetter 85 = .ok (.if_icmp .eq 32, 3) := by decide +kernel
theorem dX9_isBetter_88 : decode cX9_isBetter 88 = .ok (.iload_n 3, 1) := by decide +kernel
theorem dX9_isBetter_89 : decode cX9_isBetter 89 = .ok (.iconst (-1), 1) := by decide +kernel
theorem dX9_isBetter_90 : decode cX9_isBetter 90 = .ok (.if_icmp .eq 12, 3) := by decide +kernel
theorem dX9_isBetter_93 : decode cX9_isBetter 93 = .ok (.iload 11, 2) := by decide +kernel
theorem dX9_isBetter_95 : decode cX9_isBetter 95 = .ok (.iload_n 3, 1) := by decide +kernel
theorem dX9_isBetter_96 : decode cX9_isBetter 96 = .ok (.if_icmp .lt 6, 3) := by decide +kernel
theorem dX9_isBetter_99 : decode cX9_isBetter 99 = .ok (.goto 18, 3) := by decide +kernel
theorem dX9_isBetter_102 : decode cX9_isBetter 102 = .ok (.iload 11, 2) := by decide +kernel
theorem dX9_isBetter_104 : decode cX9_isBetter 104 = .ok (.istore_n 3, 1) := by decide +kernel
theorem dX9_isBetter_105 : decode cX9_isBetter 105 = .ok (.iload 8, 2) := by decide +kernel
theorem dX9_isBetter_107 : decode cX9_isBetter 107 = .ok (.istore 4, 2) := by decide +kernel
theorem dX9_isBetter_109 : decode cX9_isBetter 109 = .ok (.iload 9, 2) := by decide +kernel
theorem dX9_isBetter_111 : decode cX9_isBetter 111 = .ok (.istore 5, 2) := by decide +kernel
theorem dX9_isBetter_113 : decode cX9_isBetter 113 = .ok (.iload 10, 2) := by decide +kernel
theorem dX9_isBetter_115 : decode cX9_isBetter 115 = .ok (.istore 6, 2) := by decide +kernel
theorem dX9_isBetter_117 : decode cX9_isBetter 117 = .ok (.iinc 7 1, 3) := by decide +kernel
theorem dX9_isBetter_120 : decode cX9_isBetter 120 = .ok (.goto (-106), 3) := by decide +kernel
theorem dX9_isBetter_123 : decode cX9_isBetter 123 = .ok (.iload_n 3, 1) := by decide +kernel
theorem dX9_isBetter_124 : decode cX9_isBetter 124 = .ok (.iconst (-1), 1) := by decide +kernel
theorem dX9_isBetter_125 : decode cX9_isBetter 125 = .ok (.if_icmp .eq 19, 3) := by decide +kernel
theorem dX9_isBetter_128 : decode cX9_isBetter 128 = .ok (.aload_n 0, 1) := by decide +kernel
theorem dX9_isBetter_129 : decode cX9_isBetter 129 = .ok (.getfield 231, 3) := by decide +kernel
theorem dX9_isBetter_132 : decode cX9_isBetter 132 = .ok (.iconst (-1), 1) := by decide +kernel
theorem dX9_isBetter_133 : decode cX9_isBetter 133 = .ok (.if_icmp .eq 13, 3) := by decide +kernel
theorem dX9_isBetter_136 : decode cX9_isBetter 136 = .ok (.iload_n 3, 1) := by decide +kernel
theorem dX9_isBetter_137 : decode cX9_isBetter 137 = .ok (.aload_n 0, 1) := by decide +kernel
theorem dX9_isBetter_138 : decode cX9_isBetter 138 = .ok (.getfield 231, 3) := by decide +kernel
theorem dX9_isBetter_141 : decode cX9_isBetter 141 = .ok (.if_icmp .lt 5, 3) := by decide +kernel
theorem dX9_isBetter_144 : decode cX9_isBetter 144 = .ok (.iconst 0, 1) := by decide +kernel
theorem dX9_isBetter_145 : decode cX9_isBetter 145 = .ok (.ireturn, 1) := by decide +kernel
theorem dX9_isBetter_146 : decode cX9_isBetter 146 = .ok (.aload_n 0, 1) := by decide +kernel
theorem dX9_isBetter_147 : decode cX9_isBetter 147 = .ok (.iload_n 3, 1) := by decide +kernel
theorem dX9_isBetter_148 : decode cX9_isBetter 148 = .ok (.putfield 231, 3) := by decide +kernel
theorem dX9_isBetter_151 : decode cX9_isBetter 151 = .ok (.aload_n 0, 1) := by decide +kernel
theorem dX9_isBetter_152 : decode cX9_isBetter 152 = .ok (.iload 4, 2) := by decide +kernel
theorem dX9_isBetter_154 : decode cX9_isBetter 154 = .ok (.putfield 222, 3) := by decide +kernel
theorem dX9_isBetter_157 : decode cX9_isBetter 157 = .ok (.aload_n 0, 1) := by decide +kernel
theorem dX9_isBetter_158 : decode cX9_isBetter 158 = .ok (.iload 5, 2) := by decide +kernel
theorem dX9_isBetter_160 : decode cX9_isBetter 160 = .ok (.putfield 225, 3) := by decide +kernel
theorem dX9_isBetter_163 : decode cX9_isBetter 163 = .ok (.aload_n 0, 1) := by decide +kernel
theorem dX9_isBetter_164 : decode cX9_isBetter 164 = .ok (.iload 6, 2) := by decide +kernel
theorem dX9_isBetter_166 : decode cX9_isBetter 166 = .ok (.putfield 228, 3) := by decide +kernel
theorem dX9_isBetter_169 : decode cX9_isBetter 169 = .ok (.iconst 1, 1) := by decide +kernel
theorem dX9_isBetter_170 : decode cX9_isBetter 170 = .ok (.ireturn, 1) := by decide +kernel
set_option maxHeartbeats 4000000 in
theorem t_X9_isBetter_117 {X : sj_X} {s0 : sj_Mem} {N : Nat} {q : Int × sj_Mem} {k14 : Nat → Int → Int → Int → Int → Int → Int → Int → sj_Mem → Option (Int × sj_Mem)} (hk14 : ∀ (a0 : Nat) (x1 : Int) (x2 : Int) (x3 : Int) (x4 : Int) (x5 : Int) (x6 : Int) (x7 : Int) (s : sj_Mem), k14 a0 x1 x2 x3 x4 x5 x6 x7 s = some q → sj_T X m_X9_isBetter s0 (some (sj_i q.1), q.2) 14 [some (sj_r (some a0)), some (sj_i x1), some (sj_i x2), some (sj_i x3), some (sj_i x4), some (sj_i x5), some (sj_i x6), some (sj_i x7), none, none, none, none] [] s) :
    ∀ (a0 : Nat) (x1 : Int) (x2 : Int) (x3 : Int) (x4 : Int) (x5 : Int) (x6 : Int) (x7 : Int) (s : sj_Mem), f_X9_isBetter_117 N k14 a0 x1 x2 x3 x4 x5 x6 x7 s = some q → sj_T X m_X9_isBetter s0 (some (sj_i q.1), q.2) 117 [some (sj_r (some a0)), some (sj_i x1), some (sj_i x2), some (sj_i x3), some (sj_i x4), some (sj_i x5), some (sj_i x6), some (sj_i x7), none, none, none, none] [] s := by
  intro a0 x1 x2 x3 x4 x5 x6 x7 s h
  unfold f_X9_isBetter_117 at h
  refine r_iinc (ln := fun w => [some (sj_r (some a0)), some (sj_i x1), some (sj_i x2), some (sj_i x3), some (sj_i x4), some (sj_i x5), some (sj_i x6), some (sj_i w), none, none, none, none]) (pc := 117) h dX9_isBetter_117 rfl (Nat.le_of_ble_eq_true rfl) (fun _ => rfl) (fun v1 h => ?_)
  refine r_goto (pc := 120) (tgt := 14) dX9_isBetter_120 (by decide) ?_
  exact sj_weak (l2 := [some (sj_r (some a0)), some (sj_i x1), some (sj_i x2), some (sj_i x3), some (sj_i x4), some (sj_i x5), some (sj_i x6), some (sj_i v1), none, none, none, none]) (⟨rfl, ⟨rfl, ⟨rfl, ⟨rfl, ⟨rfl, ⟨rfl, ⟨rfl, ⟨rfl, trivial⟩⟩⟩⟩⟩⟩⟩⟩) (hk14 a0 x1 x2 x3 x4 x5 x6 v1 s h)
set_option maxHeartbeats 4000000 in
theorem t_X9_isBetter_102 {X : sj_X} {s0 : sj_Mem} {N : Nat} {q : Int × sj_Mem} {k14 : Nat → Int → Int → Int → Int → Int → Int → Int → sj_Mem → Option (Int × sj_Mem)} (hk14 : ∀ (a0 : Nat) (x1 : Int) (x2 : Int) (x3 : Int) (x4 : Int) (x5 : Int) (x6 : Int) (x7 : Int) (s : sj_Mem), k14 a0 x1 x2 x3 x4 x5 x6 x7 s = some q → sj_T X m_X9_isBetter s0 (some (sj_i q.1), q.2) 14 [some (sj_r (some a0)), some (sj_i x1), some (sj_i x2), some (sj_i x3), some (sj_i x4), some (sj_i x5), some (sj_i x6), some (sj_i x7), none, none, none, none] [] s) :
    ∀ (a0 : Nat) (x1 : Int) (x2 : Int) (x7 : Int) (x8 : Int) (x9 : Int) (x10 : Int) (x11 : Int) (s : sj_Mem), f_X9_isBetter_102 N k14 a0 x1 x2 x7 x8 x9 x10 x11 s = some q → sj_T X m_X9_isBetter s0 (some (sj_i q.1), q.2) 102 [some (sj_r (some a0)), some (sj_i x1), some (sj_i x2), none, none, none, none, some (sj_i x7), some (sj_i x8), some (sj_i x9), some (sj_i x10), some (sj_i x11)] [] s := by
  intro a0 x1 x2 x7 x8 x9 x10 x11 s h
  unfold f_X9_isBetter_102 at h
  refine r_iload (pc := 102) dX9_isBetter_102 rfl ?_
  refine r_istore_n (ln := [some (sj_r (some a0)), some (sj_i x1), some (sj_i x2), some (sj_i x11), none, none, none, some (sj_i x7), some (sj_i x8), some (sj_i x9), some (sj_i x10), some (sj_i x11)]) (pc := 104) dX9_isBetter_104 rfl (Nat.le_of_ble_eq_true rfl) rfl ?_
  refine r_iload (pc := 105) dX9_isBetter_105 rfl ?_
  refine r_istore (ln := [some (sj_r (some a0)), some (sj_i x1), some (sj_i x2), some (sj_i x11), some (sj_i x8), none, none, some (sj_i x7), some (sj_i x8), some (sj_i x9), some (sj_i x10), some (sj_i x11)]) (pc := 107) dX9_isBetter_107 (Nat.le_of_ble_eq_true rfl) rfl ?_
  refine r_iload (pc := 109) dX9_isBetter_109 rfl ?_
  refine r_istore (ln := [some (sj_r (some a0)), some (sj_i x1), some (sj_i x2), some (sj_i x11), some (sj_i x8), some (sj_i x9), none, some (sj_i x7), some (sj_i x8), some (sj_i x9), some (sj_i x10), some (sj_i x11)]) (pc := 111) dX9_isBetter_111 (Nat.le_of_ble_eq_true rfl) rfl ?_
  refine r_iload (pc := 113) dX9_isBetter_113 rfl ?_
  refine r_istore (ln := [some (sj_r (some a0)), some (sj_i x1), some (sj_i x2), some (sj_i x11), some (sj_i x8), some (sj_i x9), some (sj_i x10), some (sj_i x7), some (sj_i x8), some (sj_i x9), some (sj_i x10), some (sj_i x11)]) (pc := 115) dX9_isBetter_115 (Nat.le_of_ble_eq_true rfl) rfl ?_
  exact sj_weak (l2 := [some (sj_r (some a0)), some (sj_i x1), some (sj_i x2), some (sj_i x11), some (sj_i x8), some (sj_i x9), some (sj_i x10), some (sj_i x7), none, none, none, none]) (⟨rfl, ⟨rfl, ⟨rfl, ⟨rfl, ⟨rfl, ⟨rfl, ⟨rfl, ⟨rfl, trivial⟩⟩⟩⟩⟩⟩⟩⟩) (t_X9_isBetter_117 hk14 a0 x1 x2 x11 x8 x9 x10 x7 s h)
set_option maxHeartbeats 4000000 in
theorem t_X9_isBetter_146 {X : sj_X} {s0 : sj_Mem} {N : Nat} {q : Int × sj_Mem} :
    ∀ (a0 : Nat) (x3 : Int) (x4 : Int) (x5 : Int) (x6 : Int) (s : sj_Mem), f_X9_isBetter_146 N a0 x3 x4 x5 x6 s = some q → sj_T X m_X9_isBetter s0 (some (sj_i q.1), q.2) 146 [some (sj_r (some a0)), none, none, some (sj_i x3), some (sj_i x4), some (sj_i x5), some (sj_i x6), none, none, none, none, none] [] s := by
  intro a0 x3 x4 x5 x6 s h
  unfold f_X9_isBetter_146 at h
  refine r_aload_n (pc := 146) dX9_isBetter_146 rfl rfl ?_
  refine r_iload_n (pc := 147) dX9_isBetter_147 rfl rfl ?_
  refine r_pI (pc := 148) h dX9_isBetter_148 fw_X9_231 rfl rfl (fun _ hq => by cases hq; rfl) (fun s1 h => ?_)
  refine r_aload_n (pc := 151) dX9_isBetter_151 rfl rfl ?_
  refine r_iload (pc := 152) dX9_isBetter_152 rfl ?_
  refine r_pI (pc := 154) h dX9_isBetter_154 fw_X9_222 rfl rfl (fun _ hq => by cases hq; rfl) (fun s2 h => ?_)
  refine r_aload_n (pc := 157) dX9_isBetter_157 rfl rfl ?_
  refine r_iload (pc := 158) dX9_isBetter_158 rfl ?_
  refine r_pI (pc := 160) h dX9_isBetter_160 fw_X9_225 rfl rfl (fun _ hq => by cases hq; rfl) (fun s3 h => ?_)
  refine r_aload_n (pc := 163) dX9_isBetter_163 rfl rfl ?_
  refine r_iload (pc := 164) dX9_isBetter_164 rfl ?_
  refine r_pI (pc := 166) h dX9_isBetter_166 fw_X9_228 rfl rfl (fun _ hq => by cases hq; rfl) (fun s4 h => ?_)
  refine r_iconst (pc := 169) dX9_isBetter_169 ?_
  exact r_zret (pc := 170) h rfl dX9_isBetter_170
set_option maxHeartbeats 4000000 in
theorem t_X9_isBetter_14_b {X : sj_X} {s0 : sj_Mem} {N : Nat} {q : Int × sj_Mem} {k14 : Nat → Int → Int → Int → Int → Int → Int → Int → sj_Mem → Option (Int × sj_Mem)} (hk14 : ∀ (a0 : Nat) (x1 : Int) (x2 : Int) (x3 : Int) (x4 : Int) (x5 : Int) (x6 : Int) (x7 : Int) (s : sj_Mem), k14 a0 x1 x2 x3 x4 x5 x6 x7 s = some q → sj_T X m_X9_isBetter s0 (some (sj_i q.1), q.2) 14 [some (sj_r (some a0)), some (sj_i x1), some (sj_i x2), some (sj_i x3), some (sj_i x4), some (sj_i x5), some (sj_i x6), some (sj_i x7), none, none, none, none] [] s) :
    ∀ (a0 : Nat) (x1 : Int) (x2 : Int) (x3 : Int) (x4 : Int) (x5 : Int) (x6 : Int) (x7 : Int) (s : sj_Mem), f_X9_isBetter_14_b N k14 a0 x1 x2 x3 x4 x5 x6 x7 s = some q → sj_T X m_X9_isBetter s0 (some (sj_i q.1), q.2) 14 [some (sj_r (some a0)), some (sj_i x1), some (sj_i x2), some (sj_i x3), some (sj_i x4), some (sj_i x5), some (sj_i x6), some (sj_i x7), none, none, none, none] [] s := by
  intro a0 x1 x2 x3 x4 x5 x6 x7 s h
  unfold f_X9_isBetter_14_b at h
  refine r_iload (pc := 14) dX9_isBetter_14 rfl ?_
  refine r_bipush (pc := 16) dX9_isBetter_16 ⟨by decide, by decide⟩ ?_
  refine r_icmp_ge (pc := 18) (tgt := 123) h dX9_isBetter_18 (by decide) (fun h => ?_) (fun h => ?_)
  · refine r_iload_n (pc := 123) dX9_isBetter_123 rfl rfl ?_
    refine r_iconst (pc := 124) dX9_isBetter_124 ?_
    refine r_icmp_eq (pc := 125) (tgt := 144) h dX9_isBetter_125 (by decide) (fun h => ?_) (fun h => ?_)
    · refine r_iconst (pc := 144) dX9_isBetter_144 ?_
      exact r_zret (pc := 145) h rfl dX9_isBetter_145
    · refine r_aload_n (pc := 128) dX9_isBetter_128 rfl rfl ?_
      refine r_gI (pc := 129) h dX9_isBetter_129 fw_X9_231 rfl (fun v1 h => ?_)
      refine r_iconst (pc := 132) dX9_isBetter_132 ?_
      refine r_icmp_eq (pc := 133) (tgt := 146) h dX9_isBetter_133 (by decide) (fun h => ?_) (fun h => ?_)
      · exact sj_weak (l2 := [some (sj_r (some a0)), none, none, some (sj_i x3), some (sj_i x4), some (sj_i x5), some (sj_i x6), none, none, none, none, none]) (⟨rfl, ⟨rfl, ⟨rfl, ⟨rfl, ⟨rfl, trivial⟩⟩⟩⟩⟩) (t_X9_isBetter_146 a0 x3 x4 x5 x6 s h)
      · refine r_iload_n (pc := 136) dX9_isBetter_136 rfl rfl ?_
        refine r_aload_n (pc := 137) dX9_isBetter_137 rfl rfl ?_
        refine r_gI (pc := 138) h dX9_isBetter_138 fw_X9_231 rfl (fun v2 h => ?_)
        refine r_icmp_lt (pc := 141) (tgt := 146) h dX9_isBetter_141 (by decide) (fun h => ?_) (fun h => ?_)
        · exact sj_weak (l2 := [some (sj_r (some a0)), none, none, some (sj_i x3), some (sj_i x4), some (sj_i x5), some (sj_i x6), none, none, none, none, none]) (⟨rfl, ⟨rfl, ⟨rfl, ⟨rfl, ⟨rfl, trivial⟩⟩⟩⟩⟩) (t_X9_isBetter_146 a0 x3 x4 x5 x6 s h)
        · refine r_iconst (pc := 144) dX9_isBetter_144 ?_
          exact r_zret (pc := 145) h rfl dX9_isBetter_145
  · refine r_aload_n (pc := 21) dX9_isBetter_21 rfl rfl ?_
    refine r_gI (pc := 22) h dX9_isBetter_22 fw_X9_222 rfl (fun v3 h => ?_)
    refine r_iload_n (pc := 25) dX9_isBetter_25 rfl rfl ?_
    refine r_iload (pc := 26) dX9_isBetter_26 rfl ?_
    refine r_bipush (pc := 28) dX9_isBetter_28 ⟨by decide, by decide⟩ ?_
    refine r_idiv (pc := 30) h dX9_isBetter_30 (fun v4 h => ?_)
    refine r_iconst (pc := 31) dX9_isBetter_31 ?_
    refine r_isub (pc := 32) dX9_isBetter_32 ?_
    refine r_imul (pc := 33) dX9_isBetter_33 ?_
    refine r_iadd (pc := 34) dX9_isBetter_34 ?_
    refine r_istoreL (ln := fun w => [some (sj_r (some a0)), some (sj_i x1), some (sj_i x2), some (sj_i x3), some (sj_i x4), some (sj_i x5), some (sj_i x6), some (sj_i x7), some (sj_i w), none, none, none]) (pc := 35) h dX9_isBetter_35 (Nat.le_of_ble_eq_true rfl) (fun _ => rfl) (fun v5 h => ?_)
    refine r_aload_n (pc := 37) dX9_isBetter_37 rfl rfl ?_
    refine r_gI (pc := 38) h dX9_isBetter_38 fw_X9_225 rfl (fun v6 h => ?_)
    refine r_iload_n (pc := 41) dX9_isBetter_41 rfl rfl ?_
    refine r_iload (pc := 42) dX9_isBetter_42 rfl ?_
    refine r_iconst (pc := 44) dX9_isBetter_44 ?_
    refine r_idiv (pc := 45) h dX9_isBetter_45 (fun v7 h => ?_)
    refine r_iconst (pc := 46) dX9_isBetter_46 ?_
    refine r_irem (pc := 47) h dX9_isBetter_47 (fun v8 h => ?_)
    refine r_iconst (pc := 48) dX9_isBetter_48 ?_
    refine r_isub (pc := 49) dX9_isBetter_49 ?_
    refine r_imul (pc := 50) dX9_isBetter_50 ?_
    refine r_iadd (pc := 51) dX9_isBetter_51 ?_
    refine r_istoreL (ln := fun w => [some (sj_r (some a0)), some (sj_i x1), some (sj_i x2), some (sj_i x3), some (sj_i x4), some (sj_i x5), some (sj_i x6), some (sj_i x7), some (sj_i v5), some (sj_i w), none, none]) (pc := 52) h dX9_isBetter_52 (Nat.le_of_ble_eq_true rfl) (fun _ => rfl) (fun v9 h => ?_)
    refine r_aload_n (pc := 54) dX9_isBetter_54 rfl rfl ?_
    refine r_gI (pc := 55) h dX9_isBetter_55 fw_X9_228 rfl (fun v10 h => ?_)
    refine r_iload_n (pc := 58) dX9_isBetter_58 rfl rfl ?_
    refine r_iload (pc := 59) dX9_isBetter_59 rfl ?_
    refine r_iconst (pc := 61) dX9_isBetter_61 ?_
    refine r_irem (pc := 62) h dX9_isBetter_62 (fun v11 h => ?_)
    refine r_iconst (pc := 63) dX9_isBetter_63 ?_
    refine r_isub (pc := 64) dX9_isBetter_64 ?_
    refine r_imul (pc := 65) dX9_isBetter_65 ?_
    refine r_iadd (pc := 66) dX9_isBetter_66 ?_
    refine r_istoreL (ln := fun w => [some (sj_r (some a0)), some (sj_i x1), some (sj_i x2), some (sj_i x3), some (sj_i x4), some (sj_i x5), some (sj_i x6), some (sj_i x7), some (sj_i v5), some (sj_i v9), some (sj_i w), none]) (pc := 67) h dX9_isBetter_67 (Nat.le_of_ble_eq_true rfl) (fun _ => rfl) (fun v12 h => ?_)
    refine r_aload_n (pc := 69) dX9_isBetter_69 rfl rfl ?_
    refine r_iload (pc := 70) dX9_isBetter_70 rfl ?_
    refine r_iload (pc := 72) dX9_isBetter_72 rfl ?_
    refine r_iload (pc := 74) dX9_isBetter_74 rfl ?_
    refine r_iload_n (pc := 76) dX9_isBetter_76 rfl rfl ?_
    refine r_callV (pc := 77) (fun v => some (sj_i v)) (As := [sj_i v5, sj_i v9, sj_i v12, sj_i x2]) (rest := []) h dX9_isBetter_77 mw_X9_212 vw_X9_factorBy (fun _ _ hc => c_X9_factorBy hc) rfl ⟨(Nat.le_of_ble_eq_true rfl), (Nat.le_of_ble_eq_true rfl)⟩ (Nat.le_of_ble_eq_true rfl) rfl (fun v14 s13 h => ?_)
    refine r_istore (ln := [some (sj_r (some a0)), some (sj_i x1), some (sj_i x2), some (sj_i x3), some (sj_i x4), some (sj_i x5), some (sj_i x6), some (sj_i x7), some (sj_i v5), some (sj_i v9), some (sj_i v12), some (sj_i v14)]) (pc := 80) dX9_isBetter_80 (Nat.le_of_ble_eq_true rfl) rfl ?_
    refine r_iload (pc := 82) dX9_isBetter_82 rfl ?_
    refine r_iconst (pc := 84) dX9_isBetter_84 ?_
    refine r_icmp_eq (pc := 85) (tgt := 117) h dX9_isBetter_85 (by decide) (fun h => ?_) (fun h => ?_)
    · exact sj_weak (l2 := [some (sj_r (some a0)), some (sj_i x1), some (sj_i x2), some (sj_i x3), some (sj_i x4), some (sj_i x5), some (sj_i x6), some (sj_i x7), none, none, none, none]) (⟨rfl, ⟨rfl, ⟨rfl, ⟨rfl, ⟨rfl, ⟨rfl, ⟨rfl, ⟨rfl, trivial⟩⟩⟩⟩⟩⟩⟩⟩) (t_X9_isBetter_117 hk14 a0 x1 x2 x3 x4 x5 x6 x7 s13 h)
    · refine r_iload_n (pc := 88) dX9_isBetter_88 rfl rfl ?_
      refine r_iconst (pc := 89) dX9_isBetter_89 ?_
      refine r_icmp_eq (pc := 90) (tgt := 102) h dX9_isBetter_90 (by decide) (fun h => ?_) (fun h => ?_)
      · exact sj_weak (l2 := [some (sj_r (some a0)), some (sj_i x1), some (sj_i x2), none, none, none, none, some (sj_i x7), some (sj_i v5), some (sj_i v9), some (sj_i v12), some (sj_i v14)]) (⟨rfl, ⟨rfl, ⟨rfl, ⟨rfl, ⟨rfl, ⟨rfl, ⟨rfl, ⟨rfl, trivial⟩⟩⟩⟩⟩⟩⟩⟩) (t_X9_isBetter_102 hk14 a0 x1 x2 x7 v5 v9 v12 v14 s13 h)
      · refine r_iload (pc := 93) dX9_isBetter_93 rfl ?_
        refine r_iload_n (pc := 95) dX9_isBetter_95 rfl rfl ?_
        refine r_icmp_lt (pc := 96) (tgt := 102) h dX9_isBetter_96 (by decide) (fun h => ?_) (fun h => ?_)
        · exact sj_weak (l2 := [some (sj_r (some a0)), some (sj_i x1), some (sj_i x2), none, none, none, none, some (sj_i x7), some (sj_i v5), some (sj_i v9), some (sj_i v12), some (sj_i v14)]) (⟨rfl, ⟨rfl, ⟨rfl, ⟨rfl, ⟨rfl, ⟨rfl, ⟨rfl, ⟨rfl, trivial⟩⟩⟩⟩⟩⟩⟩⟩) (t_X9_isBetter_102 hk14 a0 x1 x2 x7 v5 v9 v12 v14 s13 h)
        · refine r_goto (pc := 99) (tgt := 117) dX9_isBetter_99 (by decide) ?_
          exact sj_weak (l2 := [some (sj_r (some a0)), some (sj_i x1), some (sj_i x2), some (sj_i x3), some (sj_i x4), some (sj_i x5), some (sj_i x6), some (sj_i x7), none, none, none, none]) (⟨rfl, ⟨rfl, ⟨rfl, ⟨rfl, ⟨rfl, ⟨rfl, ⟨rfl, ⟨rfl, trivial⟩⟩⟩⟩⟩⟩⟩⟩) (t_X9_isBetter_117 hk14 a0 x1 x2 x3 x4 x5 x6 x7 s13 h)
set_option maxHeartbeats 4000000 in
theorem t_X9_isBetter_14 {X : sj_X} {s0 : sj_Mem} {N : Nat} {q : Int × sj_Mem} :
    ∀ (n : Nat) (a0 : Nat) (x1 : Int) (x2 : Int) (x3 : Int) (x4 : Int) (x5 : Int) (x6 : Int) (x7 : Int) (s : sj_Mem), f_X9_isBetter_14 N n a0 x1 x2 x3 x4 x5 x6 x7 s = some q → sj_T X m_X9_isBetter s0 (some (sj_i q.1), q.2) 14 [some (sj_r (some a0)), some (sj_i x1), some (sj_i x2), some (sj_i x3), some (sj_i x4), some (sj_i x5), some (sj_i x6), some (sj_i x7), none, none, none, none] [] s := by
  intro n
  induction n with
  | zero => intro a0 x1 x2 x3 x4 x5 x6 x7 s h; exact nomatch h
  | succ n ih => intro a0 x1 x2 x3 x4 x5 x6 x7 s h; exact t_X9_isBetter_14_b (N := N) ih a0 x1 x2 x3 x4 x5 x6 x7 s h
set_option maxHeartbeats 4000000 in
theorem t_X9_isBetter_0 {X : sj_X} {s0 : sj_Mem} {N : Nat} {q : Int × sj_Mem} :
    ∀ (a0 : Nat) (x1 : Int) (x2 : Int) (s : sj_Mem), f_X9_isBetter N a0 x1 x2 s = some q → sj_T X m_X9_isBetter s0 (some (sj_i q.1), q.2) 0 [some (sj_r (some a0)), some (sj_i x1), some (sj_i x2), none, none, none, none, none, none, none, none, none] [] s := by
  intro a0 x1 x2 s h
  unfold f_X9_isBetter at h
  refine r_iconst (pc := 0) dX9_isBetter_0 ?_
  refine r_istore_n (ln := [some (sj_r (some a0)), some (sj_i x1), some (sj_i x2), some (sj_i ((-1))), none, none, none, none, none, none, none, none]) (pc := 1) dX9_isBetter_1 rfl (Nat.le_of_ble_eq_true rfl) rfl ?_
  refine r_iconst (pc := 2) dX9_isBetter_2 ?_
  refine r_istore (ln := [some (sj_r (some a0)), some (sj_i x1), some (sj_i x2), some (sj_i ((-1))), some (sj_i 0), none, none, none, none, none, none, none]) (pc := 3) dX9_isBetter_3 (Nat.le_of_ble_eq_true rfl) rfl ?_
  refine r_iconst (pc := 5) dX9_isBetter_5 ?_
  refine r_istore (ln := [some (sj_r (some a0)), some (sj_i x1), some (sj_i x2), some (sj_i ((-1))), some (sj_i 0), some (sj_i 0), none, none, none, none, none, none]) (pc := 6) dX9_isBetter_6 (Nat.le_of_ble_eq_true rfl) rfl ?_
  refine r_iconst (pc := 8) dX9_isBetter_8 ?_
  refine r_istore (ln := [some (sj_r (some a0)), some (sj_i x1), some (sj_i x2), some (sj_i ((-1))), some (sj_i 0), some (sj_i 0), some (sj_i 0), none, none, none, none, none]) (pc := 9) dX9_isBetter_9 (Nat.le_of_ble_eq_true rfl) rfl ?_
  refine r_iconst (pc := 11) dX9_isBetter_11 ?_
  refine r_istore (ln := [some (sj_r (some a0)), some (sj_i x1), some (sj_i x2), some (sj_i ((-1))), some (sj_i 0), some (sj_i 0), some (sj_i 0), some (sj_i 0), none, none, none, none]) (pc := 12) dX9_isBetter_12 (Nat.le_of_ble_eq_true rfl) rfl ?_
  exact sj_weak (l2 := [some (sj_r (some a0)), some (sj_i x1), some (sj_i x2), some (sj_i ((-1))), some (sj_i 0), some (sj_i 0), some (sj_i 0), some (sj_i 0), none, none, none, none]) (⟨rfl, ⟨rfl, ⟨rfl, ⟨rfl, ⟨rfl, ⟨rfl, ⟨rfl, ⟨rfl, trivial⟩⟩⟩⟩⟩⟩⟩⟩) (t_X9_isBetter_14 N a0 x1 x2 ((-1)) 0 0 0 0 s h)
set_option maxHeartbeats 4000000 in
theorem c_X9_isBetter {X : sj_X} {N : Nat} {a0 : Nat} {x1 : Int} {x2 : Int} {s : sj_Mem} {q : Int × sj_Mem} (h : f_X9_isBetter N a0 x1 x2 s = some q) : sj_C X m_X9_isBetter [sj_r (some a0), sj_i x1, sj_i x2] s (some (sj_i q.1), q.2) :=
  sj_C_of (by decide +kernel) (Nat.le_of_ble_eq_true rfl) (lo := [some (sj_r (some a0)), some (sj_i x1), some (sj_i x2), none, none, none, none, none, none, none, none, none]) rfl (sj_weak (l2 := [some (sj_r (some a0)), some (sj_i x1), some (sj_i x2), none, none, none, none, none, none, none, none, none]) (⟨rfl, ⟨rfl, ⟨rfl, trivial⟩⟩⟩) (t_X9_isBetter_0 a0 x1 x2 s h))
theorem dX9_searches_0 : decode cX9_searches 0 = .ok (.aload_n 0, 1) := by decide +kernel
theorem dX9_searches_1 : decode cX9_searches 1 = .ok (.iload_n 1, 1) := by decide +kernel
theorem dX9_searches_2 : decode cX9_searches 2 = .ok (.putfield 222, 3) := by decide +kernel
theorem dX9_searches_5 : decode cX9_searches 5 = .ok (.aload_n 0, 1) := by decide +kernel
theorem dX9_searches_6 : decode cX9_searches 6 = .ok (.iload_n 2, 1) := by decide +kernel
theorem dX9_searches_7 : decode cX9_searches 7 = .ok (.putfield 225, 3) := by decide +kernel
theorem dX9_searches_10 : decode cX9_searches 10 = .ok (.aload_n 0, 1) := by decide +kernel
theorem dX9_searches_11 : decode cX9_searches 11 = .ok (.iload_n 3, 1) := by decide +kernel
theorem dX9_searches_12 : decode cX9_searches 12 = .ok (.putfield 228, 3) := by decide +kernel
theorem dX9_searches_15 : decode cX9_searches 15 = .ok (.aload_n 0, 1) := by decide +kernel
theorem dX9_searches_16 : decode cX9_searches 16 = .ok (.aload_n 0, 1) := by decide +kernel
theorem dX9_searches_17 : decode cX9_searches 17 = .ok (.iload_n 1, 1) := by decide +kernel
theorem dX9_searches_18 : decode cX9_searches 18 = .ok (.iload_n 2, 1) := by decide +kernel
theorem dX9_searches_19 : decode cX9_searches 19 = .ok (.iload_n 3, 1) := by decide +kernel
theorem dX9_searches_20 : decode cX9_searches 20 = .ok (.iload 5, 2) := by decide +kernel
theorem dX9_searches_22 : decode cX9_searches 22 = .ok (.invokevirtual 212, 3) := by decide +kernel
theorem dX9_searches_25 : decode cX9_searches 25 = .ok (.putfield 231, 3) := by decide +kernel
theorem dX9_searches_28 : decode cX9_searches 28 = .ok (.aload_n 0, 1) := by decide +kernel
theorem dX9_searches_29 : decode cX9_searches 29 = .ok (.iconst 0, 1) := by decide +kernel
theorem dX9_searches_30 : decode cX9_searches 30 = .ok (.putfield 234, 3) := by decide +kernel
theorem dX9_searches_33 : decode cX9_searches 33 = .ok (.iload 4, 2) := by decide +kernel
theorem dX9_searches_35 : decode cX9_searches 35 = .ok (.istore 6, 2) := by decide +kernel
theorem dX9_searches_37 : decode cX9_searches 37 = .ok (.iload 6, 2) := by decide +kernel
theorem dX9_searches_39 : decode cX9_searches 39 = .ok (.ifCond .le 42, 3) := by decide +kernel
theorem dX9_searches_42 : decode cX9_searches 42 = .ok (.aload_n 0, 1) := by decide +kernel
theorem dX9_searches_43 : decode cX9_searches 43 = .ok (.getfield 234, 3) := by decide +kernel
theorem dX9_searches_46 : decode cX9_searches 46 = .ok (.bipush 60, 2) := by decide +kernel
theorem dX9_searches_48 : decode cX9_searches 48 = .ok (.if_icmp .ge 33, 3) := by decide +kernel
theorem dX9_searches_51 : decode cX9_searches 51 = .ok (.aload_n 0, 1) := by decide +kernel
theorem dX9_searches_52 : decode cX9_searches 52 = .ok (.iload 6, 2) := by decide +kernel
theorem dX9_searches_54 : decode cX9_searches 54 = .ok (.iload 5, 2) := by decide +kernel
theorem dX9_searches_56 : decode cX9_searches 56 = .ok (.invokevirtual 237, 3) := by decide +kernel
theorem dX9_searches_59 : decode cX9_searches 59 = .ok (.ifCond .ne 9, 3) := by decide +kernel
theorem dX9_searches_62 : decode cX9_searches 62 = .ok (.iload 6, 2) := by decide +kernel
theorem dX9_searches_64 : decode cX9_searches 64 = .ok (.iconst 2, 1) := by decide +kernel
theorem dX9_searches_65 : decode cX9_searches 65 = .ok (.idiv, 1) := by decide +kernel
theorem dX9_searches_66 : decode cX9_searches 66 = .ok (.istore 6, 2) := by decide +kernel
theorem dX9_searches_68 : decode cX9_searches 68 = .ok (.aload_n 0, 1) := by decide +kernel
theorem dX9_searches_69 : decode cX9_searches 69 = .ok (.dup, 1) := by decide +kernel
theorem dX9_searches_70 : decode cX9_searches 70 = .ok (.getfield 234, 3) := by decide +kernel
theorem dX9_searches_73 : decode cX9_searches 73 = .ok (.iconst 1, 1) := by decide +kernel
theorem dX9_searches_74 : decode cX9_searches 74 = .ok (.iadd, 1) := by decide +kernel
theorem dX9_searches_75 : decode cX9_searches 75 = .ok (.putfield 234, 3) := by decide +kernel
theorem dX9_searches_78 : decode cX9_searches 78 = .ok (.goto (-41), 3) := by decide +kernel
theorem dX9_searches_81 : decode cX9_searches 81 = .ok (.aload_n 0, 1) := by decide +kernel
theorem dX9_searches_82 : decode cX9_searches 82 = .ok (.getfield 231, 3) := by decide +kernel
theorem dX9_searches_85 : decode cX9_searches 85 = .ok (.ireturn, 1) := by decide +kernel
set_option maxHeartbeats 4000000 in
theorem t_X9_searches_68 {X : sj_X} {s0 : sj_Mem} {N : Nat} {q : Int × sj_Mem} {k37 : Nat → Int → Int → sj_Mem → Option (Int × sj_Mem)} (hk37 : ∀ (a0 : Nat) (x5 : Int) (x6 : Int) (s : sj_Mem), k37 a0 x5 x6 s = some q → sj_T X m_X9_searches s0 (some (sj_i q.1), q.2) 37 [some (sj_r (some a0)), none, none, none, none, some (sj_i x5), some (sj_i x6)] [] s) :
    ∀ (a0 : Nat) (x5 : Int) (x6 : Int) (s : sj_Mem), f_X9_searches_68 N k37 a0 x5 x6 s = some q → sj_T X m_X9_searches s0 (some (sj_i q.1), q.2) 68 [some (sj_r (some a0)), none, none, none, none, some (sj_i x5), some (sj_i x6)] [] s := by
  intro a0 x5 x6 s h
  unfold f_X9_searches_68 at h
  refine r_aload_n (pc := 68) dX9_searches_68 rfl rfl ?_
  refine r_dup (pc := 69) dX9_searches_69 rfl ?_
  refine r_gI (pc := 70) h dX9_searches_70 fw_X9_234 rfl (fun v1 h => ?_)
  refine r_iconst (pc := 73) dX9_searches_73 ?_
  refine r_iadd (pc := 74) dX9_searches_74 ?_
  refine r_pI (pc := 75) h dX9_searches_75 fw_X9_234 rfl rfl (fun _ hq => by cases hq; rfl) (fun s2 h => ?_)
  refine r_goto (pc := 78) (tgt := 37) dX9_searches_78 (by decide) ?_
  exact sj_weak (l2 := [some (sj_r (some a0)), none, none, none, none, some (sj_i x5), some (sj_i x6)]) (⟨rfl, ⟨rfl, ⟨rfl, trivial⟩⟩⟩) (hk37 a0 x5 x6 s2 h)
set_option maxHeartbeats 4000000 in
theorem t_X9_searches_37_b {X : sj_X} {s0 : sj_Mem} {N : Nat} {q : Int × sj_Mem} {k37 : Nat → Int → Int → sj_Mem → Option (Int × sj_Mem)} (hk37 : ∀ (a0 : Nat) (x5 : Int) (x6 : Int) (s : sj_Mem), k37 a0 x5 x6 s = some q → sj_T X m_X9_searches s0 (some (sj_i q.1), q.2) 37 [some (sj_r (some a0)), none, none, none, none, some (sj_i x5), some (sj_i x6)] [] s) :
    ∀ (a0 : Nat) (x5 : Int) (x6 : Int) (s : sj_Mem), f_X9_searches_37_b N k37 a0 x5 x6 s = some q → sj_T X m_X9_searches s0 (some (sj_i q.1), q.2) 37 [some (sj_r (some a0)), none, none, none, none, some (sj_i x5), some (sj_i x6)] [] s := by
  intro a0 x5 x6 s h
  unfold f_X9_searches_37_b at h
  refine r_iload (pc := 37) dX9_searches_37 rfl ?_
  refine r_if_le (pc := 39) (tgt := 81) h dX9_searches_39 (by decide) (fun h => ?_) (fun h => ?_)
  · refine r_aload_n (pc := 81) dX9_searches_81 rfl rfl ?_
    refine r_gI (pc := 82) h dX9_searches_82 fw_X9_231 rfl (fun v1 h => ?_)
    exact r_iret (pc := 85) h rfl dX9_searches_85
  · refine r_aload_n (pc := 42) dX9_searches_42 rfl rfl ?_
    refine r_gI (pc := 43) h dX9_searches_43 fw_X9_234 rfl (fun v2 h => ?_)
    refine r_bipush (pc := 46) dX9_searches_46 ⟨by decide, by decide⟩ ?_
    refine r_icmp_ge (pc := 48) (tgt := 81) h dX9_searches_48 (by decide) (fun h => ?_) (fun h => ?_)
    · refine r_aload_n (pc := 81) dX9_searches_81 rfl rfl ?_
      refine r_gI (pc := 82) h dX9_searches_82 fw_X9_231 rfl (fun v3 h => ?_)
      exact r_iret (pc := 85) h rfl dX9_searches_85
    · refine r_aload_n (pc := 51) dX9_searches_51 rfl rfl ?_
      refine r_iload (pc := 52) dX9_searches_52 rfl ?_
      refine r_iload (pc := 54) dX9_searches_54 rfl ?_
      refine r_callV (pc := 56) (fun v => some (sj_i v)) (As := [sj_i x6, sj_i x5]) (rest := []) h dX9_searches_56 mw_X9_237 vw_X9_isBetter (fun _ _ hc => c_X9_isBetter hc) rfl ⟨(Nat.le_of_ble_eq_true rfl), (Nat.le_of_ble_eq_true rfl)⟩ (Nat.le_of_ble_eq_true rfl) rfl (fun v5 s4 h => ?_)
      refine r_if_ne (pc := 59) (tgt := 68) h dX9_searches_59 (by decide) (fun h => ?_) (fun h => ?_)
      · refine r_iload (pc := 62) dX9_searches_62 rfl ?_
        refine r_iconst (pc := 64) dX9_searches_64 ?_
        refine r_idiv (pc := 65) h dX9_searches_65 (fun v6 h => ?_)
        refine r_istore (ln := [some (sj_r (some a0)), none, none, none, none, some (sj_i x5), some (sj_i v6)]) (pc := 66) dX9_searches_66 (Nat.le_of_ble_eq_true rfl) rfl ?_
        exact sj_weak (l2 := [some (sj_r (some a0)), none, none, none, none, some (sj_i x5), some (sj_i v6)]) (⟨rfl, ⟨rfl, ⟨rfl, trivial⟩⟩⟩) (t_X9_searches_68 hk37 a0 x5 v6 s4 h)
      · exact sj_weak (l2 := [some (sj_r (some a0)), none, none, none, none, some (sj_i x5), some (sj_i x6)]) (⟨rfl, ⟨rfl, ⟨rfl, trivial⟩⟩⟩) (t_X9_searches_68 hk37 a0 x5 x6 s4 h)
set_option maxHeartbeats 4000000 in
theorem t_X9_searches_37 {X : sj_X} {s0 : sj_Mem} {N : Nat} {q : Int × sj_Mem} :
    ∀ (n : Nat) (a0 : Nat) (x5 : Int) (x6 : Int) (s : sj_Mem), f_X9_searches_37 N n a0 x5 x6 s = some q → sj_T X m_X9_searches s0 (some (sj_i q.1), q.2) 37 [some (sj_r (some a0)), none, none, none, none, some (sj_i x5), some (sj_i x6)] [] s := by
  intro n
  induction n with
  | zero => intro a0 x5 x6 s h; exact nomatch h
  | succ n ih => intro a0 x5 x6 s h; exact t_X9_searches_37_b (N := N) ih a0 x5 x6 s h
set_option maxHeartbeats 4000000 in
theorem t_X9_searches_0 {X : sj_X} {s0 : sj_Mem} {N : Nat} {q : Int × sj_Mem} :
    ∀ (a0 : Nat) (x1 : Int) (x2 : Int) (x3 : Int) (x4 : Int) (x5 : Int) (s : sj_Mem), f_X9_searches N a0 x1 x2 x3 x4 x5 s = some q → sj_T X m_X9_searches s0 (some (sj_i q.1), q.2) 0 [some (sj_r (some a0)), some (sj_i x1), some (sj_i x2), some (sj_i x3), some (sj_i x4), some (sj_i x5), none] [] s := by
  intro a0 x1 x2 x3 x4 x5 s h
  unfold f_X9_searches at h
  refine r_aload_n (pc := 0) dX9_searches_0 rfl rfl ?_
  refine r_iload_n (pc := 1) dX9_searches_1 rfl rfl ?_
  refine r_pI (pc := 2) h dX9_searches_2 fw_X9_222 rfl rfl (fun _ hq => by cases hq; rfl) (fun s1 h => ?_)
  refine r_aload_n (pc := 5) dX9_searches_5 rfl rfl ?_
  refine r_iload_n (pc := 6) dX9_searches_6 rfl rfl ?_
  refine r_pI (pc := 7) h dX9_searches_7 fw_X9_225 rfl rfl (fun _ hq => by cases hq; rfl) (fun s2 h => ?_)
  refine r_aload_n (pc := 10) dX9_searches_10 rfl rfl ?_
  refine r_iload_n (pc := 11) dX9_searches_11 rfl rfl ?_
  refine r_pI (pc := 12) h dX9_searches_12 fw_X9_228 rfl rfl (fun _ hq => by cases hq; rfl) (fun s3 h => ?_)
  refine r_aload_n (pc := 15) dX9_searches_15 rfl rfl ?_
  refine r_aload_n (pc := 16) dX9_searches_16 rfl rfl ?_
  refine r_iload_n (pc := 17) dX9_searches_17 rfl rfl ?_
  refine r_iload_n (pc := 18) dX9_searches_18 rfl rfl ?_
  refine r_iload_n (pc := 19) dX9_searches_19 rfl rfl ?_
  refine r_iload (pc := 20) dX9_searches_20 rfl ?_
  refine r_callV (pc := 22) (fun v => some (sj_i v)) (As := [sj_i x1, sj_i x2, sj_i x3, sj_i x5]) (rest := [(sj_r (some a0))]) h dX9_searches_22 mw_X9_212 vw_X9_factorBy (fun _ _ hc => c_X9_factorBy hc) rfl ⟨(Nat.le_of_ble_eq_true rfl), (Nat.le_of_ble_eq_true rfl)⟩ (Nat.le_of_ble_eq_true rfl) rfl (fun v5 s4 h => ?_)
  refine r_pI (pc := 25) h dX9_searches_25 fw_X9_231 rfl rfl (fun _ hq => by cases hq; rfl) (fun s6 h => ?_)
  refine r_aload_n (pc := 28) dX9_searches_28 rfl rfl ?_
  refine r_iconst (pc := 29) dX9_searches_29 ?_
  refine r_pI (pc := 30) h dX9_searches_30 fw_X9_234 rfl rfl (fun _ hq => by cases hq; rfl) (fun s7 h => ?_)
  refine r_iload (pc := 33) dX9_searches_33 rfl ?_
  refine r_istore (ln := [some (sj_r (some a0)), some (sj_i x1), some (sj_i x2), some (sj_i x3), some (sj_i x4), some (sj_i x5), some (sj_i x4)]) (pc := 35) dX9_searches_35 (Nat.le_of_ble_eq_true rfl) rfl ?_
  exact sj_weak (l2 := [some (sj_r (some a0)), none, none, none, none, some (sj_i x5), some (sj_i x4)]) (⟨rfl, ⟨rfl, ⟨rfl, trivial⟩⟩⟩) (t_X9_searches_37 N a0 x5 x4 s7 h)
set_option maxHeartbeats 4000000 in
theorem c_X9_searches {X : sj_X} {N : Nat} {a0 : Nat} {x1 : Int} {x2 : Int} {x3 : Int} {x4 : Int} {x5 : Int} {s : sj_Mem} {q : Int × sj_Mem} (h : f_X9_searches N a0 x1 x2 x3 x4 x5 s = some q) : sj_C X m_X9_searches [sj_r (some a0), sj_i x1, sj_i x2, sj_i x3, sj_i x4, sj_i x5] s (some (sj_i q.1), q.2) :=
  sj_C_of (by decide +kernel) (Nat.le_of_ble_eq_true rfl) (lo := [some (sj_r (some a0)), some (sj_i x1), some (sj_i x2), some (sj_i x3), some (sj_i x4), some (sj_i x5), none]) rfl (sj_weak (l2 := [some (sj_r (some a0)), some (sj_i x1), some (sj_i x2), some (sj_i x3), some (sj_i x4), some (sj_i x5), none]) (⟨rfl, ⟨rfl, ⟨rfl, ⟨rfl, ⟨rfl, ⟨rfl, trivial⟩⟩⟩⟩⟩⟩) (t_X9_searches_0 a0 x1 x2 x3 x4 x5 s h))
theorem dX9_deep_0 : decode cX9_deep 0 = .ok (.aload_n 0, 1) := by decide +kernel
theorem dX9_deep_1 : decode cX9_deep 1 = .ok (.iload_n 1, 1) := by decide +kernel
theorem dX9_deep_2 : decode cX9_deep 2 = .ok (.invokevirtual 74, 3) := by decide +kernel
theorem dX9_deep_5 : decode cX9_deep 5 = .ok (.ifCond .eq 21, 3) := by decide +kernel
theorem dX9_deep_8 : decode cX9_deep 8 = .ok (.iload_n 3, 1) := by decide +kernel
theorem dX9_deep_9 : decode cX9_deep 9 = .ok (.iload 4, 2) := by decide +kernel
theorem dX9_deep_11 : decode cX9_deep 11 = .ok (.iload 5, 2) := by decide +kernel
theorem dX9_deep_13 : decode cX9_deep 13 = .ok (.invokestatic 197, 3) := by decide +kernel
theorem dX9_deep_16 : decode cX9_deep 16 = .ok (.ifCond .eq 10, 3) := by decide +kernel
theorem dX9_deep_19 : decode cX9_deep 19 = .ok (.iload_n 2, 1) := by decide +kernel
theorem dX9_deep_20 : decode cX9_deep 20 = .ok (.invokestatic 287, 3) := by decide +kernel
theorem dX9_deep_23 : decode cX9_deep 23 = .ok (.ifCond .ne 5, 3) := by decide +kernel
theorem dX9_deep_26 : decode cX9_deep 26 = .ok (.iconst (-1), 1) := by decide +kernel
theorem dX9_deep_27 : decode cX9_deep 27 = .ok (.ireturn, 1) := by decide +kernel
theorem dX9_deep_28 : decode cX9_deep 28 = .ok (.aload_n 0, 1) := by decide +kernel
theorem dX9_deep_29 : decode cX9_deep 29 = .ok (.getfield 9, 3) := by decide +kernel
theorem dX9_deep_32 : decode cX9_deep 32 = .ok (.iconst 3, 1) := by decide +kernel
theorem dX9_deep_33 : decode cX9_deep 33 = .ok (.iload_n 1, 1) := by decide +kernel
theorem dX9_deep_34 : decode cX9_deep 34 = .ok (.iadd, 1) := by decide +kernel
theorem dX9_deep_35 : decode cX9_deep 35 = .ok (.iaload, 1) := by decide +kernel
theorem dX9_deep_36 : decode cX9_deep 36 = .ok (.istore 7, 2) := by decide +kernel
theorem dX9_deep_38 : decode cX9_deep 38 = .ok (.iconst 5, 1) := by decide +kernel
theorem dX9_deep_39 : decode cX9_deep 39 = .ok (.iload 7, 2) := by decide +kernel
theorem dX9_deep_41 : decode cX9_deep 41 = .ok (.aload_n 0, 1) := by decide +kernel
theorem dX9_deep_42 : decode cX9_deep 42 = .ok (.getfield 9, 3) := by decide +kernel
theorem dX9_deep_45 : decode cX9_deep 45 = .ok (.bipush 44, 2) := by decide +kernel
theorem dX9_deep_47 : decode cX9_deep 47 = .ok (.iload_n 1, 1) := by decide +kernel
theorem dX9_deep_48 : decode cX9_deep 48 = .ok (.iadd, 1) := by decide +kernel
theorem dX9_deep_49 : decode cX9_deep 49 = .ok (.iaload, 1) := by decide +kernel
theorem dX9_deep_50 : decode cX9_deep 50 = .ok (.isub, 1) := by decide +kernel
theorem dX9_deep_51 : decode cX9_deep 51 = .ok (.invokestatic 104, 3) := by decide +kernel
theorem dX9_deep_54 : decode cX9_deep 54 = .ok (.istore 8, 2) := by decide +kernel
theorem dX9_deep_56 : decode cX9_deep 56 = .ok (.iconst 0, 1) := by decide +kernel
theorem dX9_deep_57 : decode cX9_deep 57 = .ok (.istore 9, 2) := by decide +kernel
theorem dX9_deep_59 : decode cX9_deep 59 = .ok (.iconst 1, 1) := by decide +kernel
theorem dX9_deep_60 : decode cX9_deep 60 = .ok (.istore 10, 2) := by decide +kernel
theorem dX9_deep_62 : decode cX9_deep 62 = .ok (.iload 10, 2) := by decide +kernel
theorem dX9_deep_64 : decode cX9_deep 64 = .ok (.ifCond .eq 75, 3) := by decide +kernel
theorem dX9_deep_67 : decode cX9_deep 67 = .ok (.iload 9, 2) := by decide +kernel
theorem dX9_deep_69 : decode cX9_deep 69 = .ok (.iload 8, 2) := by decide +kernel
theorem dX9_deep_71 : decode cX9_deep 71 = .ok (.if_icmp .gt 68, 3) := by decide +kernel
theorem dX9_deep_74 : decode cX9_deep 74 = .ok (.aload_n 0, 1) := by decide +kernel
theorem dX9_deep_75 : decode cX9_deep 75 = .ok (.getfield 9, 3) := by decide +kernel
theorem dX9_deep_78 : decode cX9_deep 78 = .ok (.iconst 3, 1) := by decide +kernel
theorem dX9_deep_79 : decode cX9_deep 79 = .ok (.iload_n 1, 1) := by decide +kernel
theorem dX9_deep_80 : decode cX9_deep 80 = .ok (.iadd, 1) := by decide +kernel
theorem dX9_deep_81 : decode cX9_deep 81 = .ok (.iload 7, 2) := by decide +kernel
theorem dX9_deep_83 : decode cX9_deep 83 = .ok (.iload 9, 2) := by decide +kernel
theorem dX9_deep_85 : decode cX9_deep 85 = .ok (.isub, 1) := by decide +kernel
theorem dX9_deep_86 : decode cX9_deep 86 = .ok (.iastore, 1) := by decide +kernel
theorem dX9_deep_87 : decode cX9_deep 87 = .ok (.aload_n 0, 1) := by decide +kernel
theorem dX9_deep_88 : decode cX9_deep 88 = .ok (.iload_n 3, 1) := by decide +kernel
theorem dX9_deep_89 : decode cX9_deep 89 = .ok (.iload 4, 2) := by decide +kernel
theorem dX9_deep_91 : decode cX9_deep 91 = .ok (.iload 5, 2) := by decide +kernel
theorem dX9_deep_93 : decode cX9_deep 93 = .ok (.bipush 8, 2) := by decide +kernel
theorem dX9_deep_95 : decode cX9_deep 95 = .ok (.iload 6, 2) := by decide +kernel
theorem dX9_deep_97 : decode cX9_deep 97 = .ok (.invokevirtual 243, 3) := by decide +kernel
theorem dX9_deep_100 : decode cX9_deep 100 = .ok (.istore 11, 2) := by decide +kernel
theorem dX9_deep_102 : decode cX9_deep 102 = .ok (.iload 11, 2) := by decide +kernel
theorem dX9_deep_104 : decode cX9_deep 104 = .ok (.iconst (-1), 1) := by decide +kernel
theorem dX9_deep_105 : decode cX9_deep 105 = .ok (.if_icmp .eq 9, 3) := by decide +kernel
theorem dX9_deep_108 : decode cX9_deep 108 = .ok (.iload 11, 2) := by decide +kernel
theorem dX9_deep_110 : decode cX9_deep 110 = .ok (.iload_n 2, 1) := by decide +kernel
theorem dX9_deep_111 : decode cX9_deep 111 = .ok (.if_icmp .lt 7, 3) := by decide +kernel
theorem dX9_deep_114 : decode cX9_deep 114 = .ok (.iconst 1, 1) := by decide +kernel
theorem dX9_deep_115 : decode cX9_deep 115 = .ok (.goto 4, 3) := by decide +kernel
theorem dX9_deep_118 : decode cX9_deep 118 = .ok (.iconst 0, 1) := by decide +kernel
theorem dX9_deep_119 : decode cX9_deep 119 = .ok (.istore 10, 2) := by decide +kernel
theorem dX9_deep_121 : decode cX9_deep 121 = .ok (.iload 9, 2) := by decide +kernel
theorem dX9_deep_123 : decode cX9_deep 123 = .ok (.iload 10, 2) := by decide +kernel
theorem dX9_deep_125 : decode cX9_deep 125 = .ok (.ifCond .eq 7, 3) := by decide +kernel
theorem dX9_deep_128 : decode cX9_deep 128 = .ok (.iconst 1, 1) := by decide +kernel
theorem dX9_deep_129 : decode cX9_deep 129 = .ok (.goto 4, 3) := by decide +kernel
theorem dX9_deep_132 : decode cX9_deep 132 = .ok (.iconst 0, 1) := by decide +kernel
theorem dX9_deep_133 : decode cX9_deep 133 = .ok (.iadd, 1) := by decide +kernel
theorem dX9_deep_134 : decode cX9_deep 134 = .ok (.istore 9, 2) := by decide +kernel
theorem dX9_deep_136 : decode cX9_deep 136 = .ok (.goto (-74), 3) := by decide +kernel
theorem dX9_deep_139 : decode cX9_deep 139 = .ok (.aload_n 0, 1) := by decide +kernel
theorem dX9_deep_140 : decode cX9_deep 140 = .ok (.getfield 9, 3) := by decide +kernel
theorem dX9_deep_143 : decode cX9_deep 143 = .ok (.iconst 3, 1) := by decide +kernel
theorem dX9_deep_144 : decode cX9_deep 144 = .ok (.iload_n 1, 1) := by decide +kernel
theorem dX9_deep_145 : decode cX9_deep 145 = .ok (.iadd, 1) := by decide +kernel
theorem dX9_deep_146 : decode cX9_deep 146 = .ok (.iload 7, 2) := by decide +kernel
theorem dX9_deep_148 : decode cX9_deep 148 = .ok (.iastore, 1) := by decide +kernel
theorem dX9_deep_149 : decode cX9_deep 149 = .ok (.iload 9, 2) := by decide +kernel
theorem dX9_deep_151 : decode cX9_deep 151 = .ok (.iconst 1, 1) := by decide +kernel
theorem dX9_deep_152 : decode cX9_deep 152 = .ok (.isub, 1) := by decide +kernel
theorem dX9_deep_153 : decode cX9_deep 153 = .ok (.ireturn, 1) := by decide +kernel
set_option maxHeartbeats 4000000 in
theorem t_X9_deep_133 {X : sj_X} {s0 : sj_Mem} {N : Nat} {q : Int × sj_Mem} {k62 : Nat → Int → Int → Int → Int → Int → Int → Int → Int → Int → Int → sj_Mem → Option (Int × sj_Mem)} (hk62 : ∀ (a0 : Nat) (x1 : Int) (x2 : Int) (x3 : Int) (x4 : Int) (x5 : Int) (x6 : Int) (x7 : Int) (x8 : Int) (x9 : Int) (x10 : Int) (s : sj_Mem), k62 a0 x1 x2 x3 x4 x5 x6 x7 x8 x9 x10 s = some q → sj_T X m_X9_deep s0 (some (sj_i q.1), q.2) 62 [some (sj_r (some a0)), some (sj_i x1), some (sj_i x2), some (sj_i x3), some (sj_i x4), some (sj_i x5), some (sj_i x6), some (sj_i x7), some (sj_i x8), some (sj_i x9), some (sj_i x10), none] [] s) :
    ∀ (a0 : Nat) (x1 : Int) (x2 : Int) (x3 : Int) (x4 : Int) (x5 : Int) (x6 : Int) (x7 : Int) (x8 : Int) (x10 : Int) (y0 : Int) (y1 : Int) (s : sj_Mem), f_X9_deep_133 N k62 a0 x1 x2 x3 x4 x5 x6 x7 x8 x10 y0 y1 s = some q → sj_T X m_X9_deep s0 (some (sj_i q.1), q.2) 133 [some (sj_r (some a0)), some (sj_i x1), some (sj_i x2), some (sj_i x3), some (sj_i x4), some (sj_i x5), some (sj_i x6), some (sj_i x7), some (sj_i x8), none, some (sj_i x10), none] [(sj_i y0), (sj_i y1)] s := by
  intro a0 x1 x2 x3 x4 x5 x6 x7 x8 x10 y0 y1 s h
  unfold f_X9_deep_133 at h
  refine r_iadd (pc := 133) dX9_deep_133 ?_
  refine r_istoreL (ln := fun w => [some (sj_r (some a0)), some (sj_i x1), some (sj_i x2), some (sj_i x3), some (sj_i x4), some (sj_i x5), some (sj_i x6), some (sj_i x7), some (sj_i x8), some (sj_i w), some (sj_i x10), none]) (pc := 134) h dX9_deep_134 (Nat.le_of_ble_eq_true rfl) (fun _ => rfl) (fun v1 h => ?_)
  refine r_goto (pc := 136) (tgt := 62) dX9_deep_136 (by decide) ?_
  exact sj_weak (l2 := [some (sj_r (some a0)), some (sj_i x1), some (sj_i x2), some (sj_i x3), some (sj_i x4), some (sj_i x5), some (sj_i x6), some (sj_i x7), some (sj_i x8), some (sj_i v1), some (sj_i x10), none]) (⟨rfl, ⟨rfl, ⟨rfl, ⟨rfl, ⟨rfl, ⟨rfl, ⟨rfl, ⟨rfl, ⟨rfl, ⟨rfl, ⟨rfl, trivial⟩⟩⟩⟩⟩⟩⟩⟩⟩⟩⟩) (hk62 a0 x1 x2 x3 x4 x5 x6 x7 x8 v1 x10 s h)
set_option maxHeartbeats 4000000 in
theorem t_X9_deep_119 {X : sj_X} {s0 : sj_Mem} {N : Nat} {q : Int × sj_Mem} {k62 : Nat → Int → Int → Int → Int → Int → Int → Int → Int → Int → Int → sj_Mem → Option (Int × sj_Mem)} (hk62 : ∀ (a0 : Nat) (x1 : Int) (x2 : Int) (x3 : Int) (x4 : Int) (x5 : Int) (x6 : Int) (x7 : Int) (x8 : Int) (x9 : Int) (x10 : Int) (s : sj_Mem), k62 a0 x1 x2 x3 x4 x5 x6 x7 x8 x9 x10 s = some q → sj_T X m_X9_deep s0 (some (sj_i q.1), q.2) 62 [some (sj_r (some a0)), some (sj_i x1), some (sj_i x2), some (sj_i x3), some (sj_i x4), some (sj_i x5), some (sj_i x6), some (sj_i x7), some (sj_i x8), some (sj_i x9), some (sj_i x10), none] [] s) :
    ∀ (a0 : Nat) (x1 : Int) (x2 : Int) (x3 : Int) (x4 : Int) (x5 : Int) (x6 : Int) (x7 : Int) (x8 : Int) (x9 : Int) (y0 : Int) (s : sj_Mem), f_X9_deep_119 N k62 a0 x1 x2 x3 x4 x5 x6 x7 x8 x9 y0 s = some q → sj_T X m_X9_deep s0 (some (sj_i q.1), q.2) 119 [some (sj_r (some a0)), some (sj_i x1), some (sj_i x2), some (sj_i x3), some (sj_i x4), some (sj_i x5), some (sj_i x6), some (sj_i x7), some (sj_i x8), some (sj_i x9), none, none] [(sj_i y0)] s := by
  intro a0 x1 x2 x3 x4 x5 x6 x7 x8 x9 y0 s h
  unfold f_X9_deep_119 at h
  refine r_istore (ln := [some (sj_r (some a0)), some (sj_i x1), some (sj_i x2), some (sj_i x3), some (sj_i x4), some (sj_i x5), some (sj_i x6), some (sj_i x7), some (sj_i x8), some (sj_i x9), some (sj_i y0), none]) (pc := 119) dX9_deep_119 (Nat.le_of_ble_eq_true rfl) rfl ?_
  refine r_iload (pc := 121) dX9_deep_121 rfl ?_
  refine r_iload (pc := 123) dX9_deep_123 rfl ?_
  refine r_if_eq (pc := 125) (tgt := 132) h dX9_deep_125 (by decide) (fun h => ?_) (fun h => ?_)
  · refine r_iconst (pc := 132) dX9_deep_132 ?_
    exact sj_weak (l2 := [some (sj_r (some a0)), some (sj_i x1), some (sj_i x2), some (sj_i x3), some (sj_i x4), some (sj_i x5), some (sj_i x6), some (sj_i x7), some (sj_i x8), none, some (sj_i y0), none]) (⟨rfl, ⟨rfl, ⟨rfl, ⟨rfl, ⟨rfl, ⟨rfl, ⟨rfl, ⟨rfl, ⟨rfl, ⟨rfl, trivial⟩⟩⟩⟩⟩⟩⟩⟩⟩⟩) (t_X9_deep_133 hk62 a0 x1 x2 x3 x4 x5 x6 x7 x8 y0 0 x9 s h)
  · refine r_iconst (pc := 128) dX9_deep_128 ?_
    refine r_goto (pc := 129) (tgt := 133) dX9_deep_129 (by decide) ?_
    exact sj_weak (l2 := [some (sj_r (some a0)), some (sj_i x1), some (sj_i x2), some (sj_i x3), some (sj_i x4), some (sj_i x5), some (sj_i x6), some (sj_i x7), some (sj_i x8), none, some (sj_i y0), none]) (⟨rfl, ⟨rfl, ⟨rfl, ⟨rfl, ⟨rfl, ⟨rfl, ⟨rfl, ⟨rfl, ⟨rfl, ⟨rfl, trivial⟩⟩⟩⟩⟩⟩⟩⟩⟩⟩) (t_X9_deep_133 hk62 a0 x1 x2 x3 x4 x5 x6 x7 x8 y0 1 x9 s h)
set_option maxHeartbeats 4000000 in
theorem t_X9_deep_114 {X : sj_X} {s0 : sj_Mem} {N : Nat} {q : Int × sj_Mem} {k62 : Nat → Int → Int → Int → Int → Int → Int → Int → Int → Int → Int → sj_Mem → Option (Int × sj_Mem)} (hk62 : ∀ (a0 : Nat) (x1 : Int) (x2 : Int) (x3 : Int) (x4 : Int) (x5 : Int) (x6 : Int) (x7 : Int) (x8 : Int) (x9 : Int) (x10 : Int) (s : sj_Mem), k62 a0 x1 x2 x3 x4 x5 x6 x7 x8 x9 x10 s = some q → sj_T X m_X9_deep s0 (some (sj_i q.1), q.2) 62 [some (sj_r (some a0)), some (sj_i x1), some (sj_i x2), some (sj_i x3), some (sj_i x4), some (sj_i x5), some (sj_i x6), some (sj_i x7), some (sj_i x8), some (sj_i x9), some (sj_i x10), none] [] s) :
    ∀ (a0 : Nat) (x1 : Int) (x2 : Int) (x3 : Int) (x4 : Int) (x5 : Int) (x6 : Int) (x7 : Int) (x8 : Int) (x9 : Int) (s : sj_Mem), f_X9_deep_114 N k62 a0 x1 x2 x3 x4 x5 x6 x7 x8 x9 s = some q → sj_T X m_X9_deep s0 (some (sj_i q.1), q.2) 114 [some (sj_r (some a0)), some (sj_i x1), some (sj_i x2), some (sj_i x3), some (sj_i x4), some (sj_i x5), some (sj_i x6), some (sj_i x7), some (sj_i x8), some (sj_i x9), none, none] [] s := by
  intro a0 x1 x2 x3 x4 x5 x6 x7 x8 x9 s h
  unfold f_X9_deep_114 at h
  refine r_iconst (pc := 114) dX9_deep_114 ?_
  refine r_goto (pc := 115) (tgt := 119) dX9_deep_115 (by decide) ?_
  exact sj_weak (l2 := [some (sj_r (some a0)), some (sj_i x1), some (sj_i x2), some (sj_i x3), some (sj_i x4), some (sj_i x5), some (sj_i x6), some (sj_i x7), some (sj_i x8), some (sj_i x9), none, none]) (⟨rfl, ⟨rfl, ⟨rfl, ⟨rfl, ⟨rfl, ⟨rfl, ⟨rfl, ⟨rfl, ⟨rfl, ⟨rfl, trivial⟩⟩⟩⟩⟩⟩⟩⟩⟩⟩) (t_X9_deep_119 hk62 a0 x1 x2 x3 x4 x5 x6 x7 x8 x9 1 s h)
set_option maxHeartbeats 4000000 in
theorem t_X9_deep_139 {X : sj_X} {s0 : sj_Mem} {N : Nat} {q : Int × sj_Mem} :
    ∀ (a0 : Nat) (x1 : Int) (x7 : Int) (x9 : Int) (s : sj_Mem), f_X9_deep_139 N a0 x1 x7 x9 s = some q → sj_T X m_X9_deep s0 (some (sj_i q.1), q.2) 139 [some (sj_r (some a0)), some (sj_i x1), none, none, none, none, none, some (sj_i x7), none, some (sj_i x9), none, none] [] s := by
  intro a0 x1 x7 x9 s h
  unfold f_X9_deep_139 at h
  refine r_aload_n (pc := 139) dX9_deep_139 rfl rfl ?_
  refine r_gR (pc := 140) h dX9_deep_140 fw_X9_9 rfl (fun r1 h => ?_)
  refine r_iconst (pc := 143) dX9_deep_143 ?_
  refine r_iload_n (pc := 144) dX9_deep_144 rfl rfl ?_
  refine r_iadd (pc := 145) dX9_deep_145 ?_
  refine r_iload (pc := 146) dX9_deep_146 rfl ?_
  obtain ⟨a2, ea2, g⟩ := e_nn_some h
  clear h
  subst ea2
  have h := g
  clear g
  refine r_iastore (pc := 148) h dX9_deep_148 (fun s3 h => ?_)
  refine r_iload (pc := 149) dX9_deep_149 rfl ?_
  refine r_iconst (pc := 151) dX9_deep_151 ?_
  refine r_isub (pc := 152) dX9_deep_152 ?_
  exact r_iret (pc := 153) h rfl dX9_deep_153
set_option maxHeartbeats 4000000 in
theorem t_X9_deep_62_b {X : sj_X} {s0 : sj_Mem} {N : Nat} {q : Int × sj_Mem} {k62 : Nat → Int → Int → Int → Int → Int → Int → Int → Int → Int → Int → sj_Mem → Option (Int × sj_Mem)} (hk62 : ∀ (a0 : Nat) (x1 : Int) (x2 : Int) (x3 : Int) (x4 : Int) (x5 : Int) (x6 : Int) (x7 : Int) (x8 : Int) (x9 : Int) (x10 : Int) (s : sj_Mem), k62 a0 x1 x2 x3 x4 x5 x6 x7 x8 x9 x10 s = some q → sj_T X m_X9_deep s0 (some (sj_i q.1), q.2) 62 [some (sj_r (some a0)), some (sj_i x1), some (sj_i x2), some (sj_i x3), some (sj_i x4), some (sj_i x5), some (sj_i x6), some (sj_i x7), some (sj_i x8), some (sj_i x9), some (sj_i x10), none] [] s) :
    ∀ (a0 : Nat) (x1 : Int) (x2 : Int) (x3 : Int) (x4 : Int) (x5 : Int) (x6 : Int) (x7 : Int) (x8 : Int) (x9 : Int) (x10 : Int) (s : sj_Mem), f_X9_deep_62_b N k62 a0 x1 x2 x3 x4 x5 x6 x7 x8 x9 x10 s = some q → sj_T X m_X9_deep s0 (some (sj_i q.1), q.2) 62 [some (sj_r (some a0)), some (sj_i x1), some (sj_i x2), some (sj_i x3), some (sj_i x4), some (sj_i x5), some (sj_i x6), some (sj_i x7), some (sj_i x8), some (sj_i x9), some (sj_i x10), none] [] s := by
  intro a0 x1 x2 x3 x4 x5 x6 x7 x8 x9 x10 s h
  unfold f_X9_deep_62_b at h
  refine r_iload (pc := 62) dX9_deep_62 rfl ?_
  refine r_if_eq (pc := 64) (tgt := 139) h dX9_deep_64 (by decide) (fun h => ?_) (fun h => ?_)
  · exact sj_weak (l2 := [some (sj_r (some a0)), some (sj_i x1), none, none, none, none, none, some (sj_i x7), none, some (sj_i x9), none, none]) (⟨rfl, ⟨rfl, ⟨rfl, ⟨rfl, trivial⟩⟩⟩⟩) (t_X9_deep_139 a0 x1 x7 x9 s h)
  · refine r_iload (pc := 67) dX9_deep_67 rfl ?_
    refine r_iload (pc := 69) dX9_deep_69 rfl ?_
    refine r_icmp_gt (pc := 71) (tgt := 139) h dX9_deep_71 (by decide) (fun h => ?_) (fun h => ?_)
    · exact sj_weak (l2 := [some (sj_r (some a0)), some (sj_i x1), none, none, none, none, none, some (sj_i x7), none, some (sj_i x9), none, none]) (⟨rfl, ⟨rfl, ⟨rfl, ⟨rfl, trivial⟩⟩⟩⟩) (t_X9_deep_139 a0 x1 x7 x9 s h)
    · refine r_aload_n (pc := 74) dX9_deep_74 rfl rfl ?_
      refine r_gR (pc := 75) h dX9_deep_75 fw_X9_9 rfl (fun r1 h => ?_)
      refine r_iconst (pc := 78) dX9_deep_78 ?_
      refine r_iload_n (pc := 79) dX9_deep_79 rfl rfl ?_
      refine r_iadd (pc := 80) dX9_deep_80 ?_
      refine r_iload (pc := 81) dX9_deep_81 rfl ?_
      refine r_iload (pc := 83) dX9_deep_83 rfl ?_
      refine r_isub (pc := 85) dX9_deep_85 ?_
      obtain ⟨a2, ea2, g⟩ := e_nn_some h
      clear h
      subst ea2
      have h := g
      clear g
      refine r_iastore (pc := 86) h dX9_deep_86 (fun s3 h => ?_)
      refine r_aload_n (pc := 87) dX9_deep_87 rfl rfl ?_
      refine r_iload_n (pc := 88) dX9_deep_88 rfl rfl ?_
      refine r_iload (pc := 89) dX9_deep_89 rfl ?_
      refine r_iload (pc := 91) dX9_deep_91 rfl ?_
      refine r_bipush (pc := 93) dX9_deep_93 ⟨by decide, by decide⟩ ?_
      refine r_iload (pc := 95) dX9_deep_95 rfl ?_
      refine r_callV (pc := 97) (fun v => some (sj_i v)) (As := [sj_i x3, sj_i x4, sj_i x5, sj_i 8, sj_i x6]) (rest := []) h dX9_deep_97 mw_X9_243 vw_X9_searches (fun _ _ hc => c_X9_searches hc) rfl ⟨(Nat.le_of_ble_eq_true rfl), (Nat.le_of_ble_eq_true rfl)⟩ (Nat.le_of_ble_eq_true rfl) rfl (fun v5 s4 h => ?_)
      refine r_istore (ln := [some (sj_r (some a0)), some (sj_i x1), some (sj_i x2), some (sj_i x3), some (sj_i x4), some (sj_i x5), some (sj_i x6), some (sj_i x7), some (sj_i x8), some (sj_i x9), some (sj_i x10), some (sj_i v5)]) (pc := 100) dX9_deep_100 (Nat.le_of_ble_eq_true rfl) rfl ?_
      refine r_iload (pc := 102) dX9_deep_102 rfl ?_
      refine r_iconst (pc := 104) dX9_deep_104 ?_
      refine r_icmp_eq (pc := 105) (tgt := 114) h dX9_deep_105 (by decide) (fun h => ?_) (fun h => ?_)
      · exact sj_weak (l2 := [some (sj_r (some a0)), some (sj_i x1), some (sj_i x2), some (sj_i x3), some (sj_i x4), some (sj_i x5), some (sj_i x6), some (sj_i x7), some (sj_i x8), some (sj_i x9), none, none]) (⟨rfl, ⟨rfl, ⟨rfl, ⟨rfl, ⟨rfl, ⟨rfl, ⟨rfl, ⟨rfl, ⟨rfl, ⟨rfl, trivial⟩⟩⟩⟩⟩⟩⟩⟩⟩⟩) (t_X9_deep_114 hk62 a0 x1 x2 x3 x4 x5 x6 x7 x8 x9 s4 h)
      · refine r_iload (pc := 108) dX9_deep_108 rfl ?_
        refine r_iload_n (pc := 110) dX9_deep_110 rfl rfl ?_
        refine r_icmp_lt (pc := 111) (tgt := 118) h dX9_deep_111 (by decide) (fun h => ?_) (fun h => ?_)
        · refine r_iconst (pc := 118) dX9_deep_118 ?_
          exact sj_weak (l2 := [some (sj_r (some a0)), some (sj_i x1), some (sj_i x2), some (sj_i x3), some (sj_i x4), some (sj_i x5), some (sj_i x6), some (sj_i x7), some (sj_i x8), some (sj_i x9), none, none]) (⟨rfl, ⟨rfl, ⟨rfl, ⟨rfl, ⟨rfl, ⟨rfl, ⟨rfl, ⟨rfl, ⟨rfl, ⟨rfl, trivial⟩⟩⟩⟩⟩⟩⟩⟩⟩⟩) (t_X9_deep_119 hk62 a0 x1 x2 x3 x4 x5 x6 x7 x8 x9 0 s4 h)
        · exact sj_weak (l2 := [some (sj_r (some a0)), some (sj_i x1), some (sj_i x2), some (sj_i x3), some (sj_i x4), some (sj_i x5), some (sj_i x6), some (sj_i x7), some (sj_i x8), some (sj_i x9), none, none]) (⟨rfl, ⟨rfl, ⟨rfl, ⟨rfl, ⟨rfl, ⟨rfl, ⟨rfl, ⟨rfl, ⟨rfl, ⟨rfl, trivial⟩⟩⟩⟩⟩⟩⟩⟩⟩⟩) (t_X9_deep_114 hk62 a0 x1 x2 x3 x4 x5 x6 x7 x8 x9 s4 h)
set_option maxHeartbeats 4000000 in
theorem t_X9_deep_62 {X : sj_X} {s0 : sj_Mem} {N : Nat} {q : Int × sj_Mem} :
    ∀ (n : Nat) (a0 : Nat) (x1 : Int) (x2 : Int) (x3 : Int) (x4 : Int) (x5 : Int) (x6 : Int) (x7 : Int) (x8 : Int) (x9 : Int) (x10 : Int) (s : sj_Mem), f_X9_deep_62 N n a0 x1 x2 x3 x4 x5 x6 x7 x8 x9 x10 s = some q → sj_T X m_X9_deep s0 (some (sj_i q.1), q.2) 62 [some (sj_r (some a0)), some (sj_i x1), some (sj_i x2), some (sj_i x3), some (sj_i x4), some (sj_i x5), some (sj_i x6), some (sj_i x7), some (sj_i x8), some (sj_i x9), some (sj_i x10), none] [] s := by
  intro n
  induction n with
  | zero => intro a0 x1 x2 x3 x4 x5 x6 x7 x8 x9 x10 s h; exact nomatch h
  | succ n ih => intro a0 x1 x2 x3 x4 x5 x6 x7 x8 x9 x10 s h; exact t_X9_deep_62_b (N := N) ih a0 x1 x2 x3 x4 x5 x6 x7 x8 x9 x10 s h
set_option maxHeartbeats 4000000 in
theorem t_X9_deep_0 {X : sj_X} {s0 : sj_Mem} {N : Nat} {q : Int × sj_Mem} :
    ∀ (a0 : Nat) (x1 : Int) (x2 : Int) (x3 : Int) (x4 : Int) (x5 : Int) (x6 : Int) (s : sj_Mem), f_X9_deep N a0 x1 x2 x3 x4 x5 x6 s = some q → sj_T X m_X9_deep s0 (some (sj_i q.1), q.2) 0 [some (sj_r (some a0)), some (sj_i x1), some (sj_i x2), some (sj_i x3), some (sj_i x4), some (sj_i x5), some (sj_i x6), none, none, none, none, none] [] s := by
  intro a0 x1 x2 x3 x4 x5 x6 s h
  unfold f_X9_deep at h
  refine r_aload_n (pc := 0) dX9_deep_0 rfl rfl ?_
  refine r_iload_n (pc := 1) dX9_deep_1 rfl rfl ?_
  refine r_callV (pc := 2) (fun v => some (sj_i v)) (As := [sj_i x1]) (rest := []) h dX9_deep_2 mw_X9_74 vw_X9_isColumn (fun _ _ hc => c_X9_isColumn hc) rfl ⟨(Nat.le_of_ble_eq_true rfl), (Nat.le_of_ble_eq_true rfl)⟩ (Nat.le_of_ble_eq_true rfl) rfl (fun v2 s1 h => ?_)
  refine r_if_eq (pc := 5) (tgt := 26) h dX9_deep_5 (by decide) (fun h => ?_) (fun h => ?_)
  · refine r_iconst (pc := 26) dX9_deep_26 ?_
    exact r_iret (pc := 27) h rfl dX9_deep_27
  · refine r_iload_n (pc := 8) dX9_deep_8 rfl rfl ?_
    refine r_iload (pc := 9) dX9_deep_9 rfl ?_
    refine r_iload (pc := 11) dX9_deep_11 rfl ?_
    refine r_callS (pc := 13) (fun v => some (sj_i v)) (As := [sj_i x3, sj_i x4, sj_i x5]) (rest := []) h dX9_deep_13 mw_X9_197 kw_1284 (fun _ _ hc => c_X9_isCircle hc) rfl ⟨(Nat.le_of_ble_eq_true rfl), (Nat.le_of_ble_eq_true rfl)⟩ (Nat.le_of_ble_eq_true rfl) rfl (fun v4 s3 h => ?_)
    refine r_if_eq (pc := 16) (tgt := 26) h dX9_deep_16 (by decide) (fun h => ?_) (fun h => ?_)
    · refine r_iconst (pc := 26) dX9_deep_26 ?_
      exact r_iret (pc := 27) h rfl dX9_deep_27
    · refine r_iload_n (pc := 19) dX9_deep_19 rfl rfl ?_
      refine r_callS (pc := 20) (fun v => some (sj_i v)) (As := [sj_i x2]) (rest := []) h dX9_deep_20 mw_X9_287 kw_1446 (fun _ _ hc => c_X9_isK hc) rfl ⟨(Nat.le_of_ble_eq_true rfl), (Nat.le_of_ble_eq_true rfl)⟩ (Nat.le_of_ble_eq_true rfl) rfl (fun v6 s5 h => ?_)
      refine r_if_ne (pc := 23) (tgt := 28) h dX9_deep_23 (by decide) (fun h => ?_) (fun h => ?_)
      · refine r_iconst (pc := 26) dX9_deep_26 ?_
        exact r_iret (pc := 27) h rfl dX9_deep_27
      · refine r_aload_n (pc := 28) dX9_deep_28 rfl rfl ?_
        refine r_gR (pc := 29) h dX9_deep_29 fw_X9_9 rfl (fun r7 h => ?_)
        refine r_iconst (pc := 32) dX9_deep_32 ?_
        refine r_iload_n (pc := 33) dX9_deep_33 rfl rfl ?_
        refine r_iadd (pc := 34) dX9_deep_34 ?_
        obtain ⟨a8, ea8, g⟩ := e_nn_some h
        clear h
        subst ea8
        have h := g
        clear g
        refine r_iaload (pc := 35) h dX9_deep_35 (fun v9 h => ?_)
        refine r_istore (ln := [some (sj_r (some a0)), some (sj_i x1), some (sj_i x2), some (sj_i x3), some (sj_i x4), some (sj_i x5), some (sj_i x6), some (sj_i v9), none, none, none, none]) (pc := 36) dX9_deep_36 (Nat.le_of_ble_eq_true rfl) rfl ?_
        refine r_iconst (pc := 38) dX9_deep_38 ?_
        refine r_iload (pc := 39) dX9_deep_39 rfl ?_
        refine r_aload_n (pc := 41) dX9_deep_41 rfl rfl ?_
        refine r_gR (pc := 42) h dX9_deep_42 fw_X9_9 rfl (fun r10 h => ?_)
        refine r_bipush (pc := 45) dX9_deep_45 ⟨by decide, by decide⟩ ?_
        refine r_iload_n (pc := 47) dX9_deep_47 rfl rfl ?_
        refine r_iadd (pc := 48) dX9_deep_48 ?_
        obtain ⟨a11, ea11, g⟩ := e_nn_some h
        clear h
        subst ea11
        have h := g
        clear g
        refine r_iaload (pc := 49) h dX9_deep_49 (fun v12 h => ?_)
        refine r_isub (pc := 50) dX9_deep_50 ?_
        refine r_callS (pc := 51) (fun v => some (sj_i v)) (As := [sj_i 5, sj_i (v9 - v12)]) (rest := []) h dX9_deep_51 mw_X9_104 kw_1352 (fun _ _ hc => c_X9_least hc) rfl ⟨(Nat.le_of_ble_eq_true rfl), (Nat.le_of_ble_eq_true rfl)⟩ (Nat.le_of_ble_eq_true rfl) rfl (fun v14 s13 h => ?_)
        refine r_istore (ln := [some (sj_r (some a0)), some (sj_i x1), some (sj_i x2), some (sj_i x3), some (sj_i x4), some (sj_i x5), some (sj_i x6), some (sj_i v9), some (sj_i v14), none, none, none]) (pc := 54) dX9_deep_54 (Nat.le_of_ble_eq_true rfl) rfl ?_
        refine r_iconst (pc := 56) dX9_deep_56 ?_
        refine r_istore (ln := [some (sj_r (some a0)), some (sj_i x1), some (sj_i x2), some (sj_i x3), some (sj_i x4), some (sj_i x5), some (sj_i x6), some (sj_i v9), some (sj_i v14), some (sj_i 0), none, none]) (pc := 57) dX9_deep_57 (Nat.le_of_ble_eq_true rfl) rfl ?_
        refine r_iconst (pc := 59) dX9_deep_59 ?_
        refine r_istore (ln := [some (sj_r (some a0)), some (sj_i x1), some (sj_i x2), some (sj_i x3), some (sj_i x4), some (sj_i x5), some (sj_i x6), some (sj_i v9), some (sj_i v14), some (sj_i 0), some (sj_i 1), none]) (pc := 60) dX9_deep_60 (Nat.le_of_ble_eq_true rfl) rfl ?_
        exact sj_weak (l2 := [some (sj_r (some a0)), some (sj_i x1), some (sj_i x2), some (sj_i x3), some (sj_i x4), some (sj_i x5), some (sj_i x6), some (sj_i v9), some (sj_i v14), some (sj_i 0), some (sj_i 1), none]) (⟨rfl, ⟨rfl, ⟨rfl, ⟨rfl, ⟨rfl, ⟨rfl, ⟨rfl, ⟨rfl, ⟨rfl, ⟨rfl, ⟨rfl, trivial⟩⟩⟩⟩⟩⟩⟩⟩⟩⟩⟩) (t_X9_deep_62 N a0 x1 x2 x3 x4 x5 x6 v9 v14 0 1 s13 h)
set_option maxHeartbeats 4000000 in
theorem c_X9_deep {X : sj_X} {N : Nat} {a0 : Nat} {x1 : Int} {x2 : Int} {x3 : Int} {x4 : Int} {x5 : Int} {x6 : Int} {s : sj_Mem} {q : Int × sj_Mem} (h : f_X9_deep N a0 x1 x2 x3 x4 x5 x6 s = some q) : sj_C X m_X9_deep [sj_r (some a0), sj_i x1, sj_i x2, sj_i x3, sj_i x4, sj_i x5, sj_i x6] s (some (sj_i q.1), q.2) :=
  sj_C_of (by decide +kernel) (Nat.le_of_ble_eq_true rfl) (lo := [some (sj_r (some a0)), some (sj_i x1), some (sj_i x2), some (sj_i x3), some (sj_i x4), some (sj_i x5), some (sj_i x6), none, none, none, none, none]) rfl (sj_weak (l2 := [some (sj_r (some a0)), some (sj_i x1), some (sj_i x2), some (sj_i x3), some (sj_i x4), some (sj_i x5), some (sj_i x6), none, none, none, none, none]) (⟨rfl, ⟨rfl, ⟨rfl, ⟨rfl, ⟨rfl, ⟨rfl, ⟨rfl, trivial⟩⟩⟩⟩⟩⟩⟩) (t_X9_deep_0 a0 x1 x2 x3 x4 x5 x6 s h))
theorem dX9_hasFast_0 : decode cX9_hasFast 0 = .ok (.aload_n 0, 1) := by decide +kernel
theorem dX9_hasFast_1 : decode cX9_hasFast 1 = .ok (.getfield 22, 3) := by decide +kernel
theorem dX9_hasFast_4 : decode cX9_hasFast 4 = .ok (.istore_n 3, 1) := by decide +kernel
theorem dX9_hasFast_5 : decode cX9_hasFast 5 = .ok (.iload_n 3, 1) := by decide +kernel
theorem dX9_hasFast_6 : decode cX9_hasFast 6 = .ok (.iload_n 1, 1) := by decide +kernel
theorem dX9_hasFast_7 : decode cX9_hasFast 7 = .ok (.if_icmp .gt 28, 3) := by decide +kernel
theorem dX9_hasFast_10 : decode cX9_hasFast 10 = .ok (.aload_n 0, 1) := by decide +kernel
theorem dX9_hasFast_11 : decode cX9_hasFast 11 = .ok (.iload_n 3, 1) := by decide +kernel
theorem dX9_hasFast_12 : decode cX9_hasFast 12 = .ok (.invokevirtual 168, 3) := by decide +kernel
theorem dX9_hasFast_15 : decode cX9_hasFast 15 = .ok (.aload_n 0, 1) := by decide +kernel
theorem dX9_hasFast_16 : decode cX9_hasFast 16 = .ok (.iload_n 2, 1) := by decide +kernel
theorem dX9_hasFast_17 : decode cX9_hasFast 17 = .ok (.invokevirtual 171, 3) := by decide +kernel
theorem dX9_hasFast_20 : decode cX9_hasFast 20 = .ok (.ldc2_w 148, 3) := by decide +kernel
theorem dX9_hasFast_23 : decode cX9_hasFast 23 = .ok (.lcmp, 1) := by decide +kernel
theorem dX9_hasFast_24 : decode cX9_hasFast 24 = .ok (.ifCond .ne 5, 3) := by decide +kernel
theorem dX9_hasFast_27 : decode cX9_hasFast 27 = .ok (.iconst 1, 1) := by decide +kernel
theorem dX9_hasFast_28 : decode cX9_hasFast 28 = .ok (.ireturn, 1) := by decide +kernel
theorem dX9_hasFast_29 : decode cX9_hasFast 29 = .ok (.iinc 3 1, 3) := by decide +kernel
theorem dX9_hasFast_32 : decode cX9_hasFast 32 = .ok (.goto (-27), 3) := by decide +kernel
theorem dX9_hasFast_35 : decode cX9_hasFast 35 = .ok (.iconst 0, 1) := by decide +kernel
theorem dX9_hasFast_36 : decode cX9_hasFast 36 = .ok (.ireturn, 1) := by decide +kernel
set_option maxHeartbeats 4000000 in
theorem t_X9_hasFast_5_b {X : sj_X} {s0 : sj_Mem} {N : Nat} {q : Int × sj_Mem} {k5 : Nat → Int → Int → Int → sj_Mem → Option (Int × sj_Mem)} (hk5 : ∀ (a0 : Nat) (x1 : Int) (x2 : Int) (x3 : Int) (s : sj_Mem), k5 a0 x1 x2 x3 s = some q → sj_T X m_X9_hasFast s0 (some (sj_i q.1), q.2) 5 [some (sj_r (some a0)), some (sj_i x1), some (sj_i x2), some (sj_i x3)] [] s) :
    ∀ (a0 : Nat) (x1 : Int) (x2 : Int) (x3 : Int) (s : sj_Mem), f_X9_hasFast_5_b N k5 a0 x1 x2 x3 s = some q → sj_T X m_X9_hasFast s0 (some (sj_i q.1), q.2) 5 [some (sj_r (some a0)), some (sj_i x1), some (sj_i x2), some (sj_i x3)] [] s := by
  intro a0 x1 x2 x3 s h
  unfold f_X9_hasFast_5_b at h
  refine r_iload_n (pc := 5) dX9_hasFast_5 rfl rfl ?_
  refine r_iload_n (pc := 6) dX9_hasFast_6 rfl rfl ?_
  refine r_icmp_gt (pc := 7) (tgt := 35) h dX9_hasFast_7 (by decide) (fun h => ?_) (fun h => ?_)
  · refine r_iconst (pc := 35) dX9_hasFast_35 ?_
    exact r_zret (pc := 36) h rfl dX9_hasFast_36
  · refine r_aload_n (pc := 10) dX9_hasFast_10 rfl rfl ?_
    refine r_iload_n (pc := 11) dX9_hasFast_11 rfl rfl ?_
    refine r_callV (pc := 12) (fun _ => none) (As := [sj_i x3]) (rest := []) h dX9_hasFast_12 mw_X9_168 vw_X9_laysAt (fun _ _ hc => c_X9_laysAt hc) rfl ⟨(Nat.le_of_ble_eq_true rfl), (Nat.le_of_ble_eq_true rfl)⟩ (Nat.le_of_ble_eq_true rfl) rfl (fun _u s1 h => ?_)
    refine r_aload_n (pc := 15) dX9_hasFast_15 rfl rfl ?_
    refine r_iload_n (pc := 16) dX9_hasFast_16 rfl rfl ?_
    refine r_callV (pc := 17) (fun v => some (sj_j v)) (As := [sj_i x2]) (rest := []) h dX9_hasFast_17 mw_X9_171 vw_X9_rubsOf (fun _ _ hc => c_X9_rubsOf hc) rfl ⟨(Nat.le_of_ble_eq_true rfl), (Nat.le_of_ble_eq_true rfl)⟩ (Nat.le_of_ble_eq_true rfl) rfl (fun v3 s2 h => ?_)
    refine r_ldc2 (n := -1) (pc := 20) dX9_hasFast_20 kc_X9_148 ?_
    refine r_lne (pc := 23) (tgt := 29) h dX9_hasFast_23 rfl dX9_hasFast_24 (by decide) (fun h => ?_) (fun h => ?_)
    · refine r_iconst (pc := 27) dX9_hasFast_27 ?_
      exact r_zret (pc := 28) h rfl dX9_hasFast_28
    · refine r_iinc (ln := fun w => [some (sj_r (some a0)), some (sj_i x1), some (sj_i x2), some (sj_i w)]) (pc := 29) h dX9_hasFast_29 rfl (Nat.le_of_ble_eq_true rfl) (fun _ => rfl) (fun v4 h => ?_)
      refine r_goto (pc := 32) (tgt := 5) dX9_hasFast_32 (by decide) ?_
      exact sj_weak (l2 := [some (sj_r (some a0)), some (sj_i x1), some (sj_i x2), some (sj_i v4)]) (⟨rfl, ⟨rfl, ⟨rfl, ⟨rfl, trivial⟩⟩⟩⟩) (hk5 a0 x1 x2 v4 s2 h)
set_option maxHeartbeats 4000000 in
theorem t_X9_hasFast_5 {X : sj_X} {s0 : sj_Mem} {N : Nat} {q : Int × sj_Mem} :
    ∀ (n : Nat) (a0 : Nat) (x1 : Int) (x2 : Int) (x3 : Int) (s : sj_Mem), f_X9_hasFast_5 N n a0 x1 x2 x3 s = some q → sj_T X m_X9_hasFast s0 (some (sj_i q.1), q.2) 5 [some (sj_r (some a0)), some (sj_i x1), some (sj_i x2), some (sj_i x3)] [] s := by
  intro n
  induction n with
  | zero => intro a0 x1 x2 x3 s h; exact nomatch h
  | succ n ih => intro a0 x1 x2 x3 s h; exact t_X9_hasFast_5_b (N := N) ih a0 x1 x2 x3 s h
set_option maxHeartbeats 4000000 in
theorem t_X9_hasFast_0 {X : sj_X} {s0 : sj_Mem} {N : Nat} {q : Int × sj_Mem} :
    ∀ (a0 : Nat) (x1 : Int) (x2 : Int) (s : sj_Mem), f_X9_hasFast N a0 x1 x2 s = some q → sj_T X m_X9_hasFast s0 (some (sj_i q.1), q.2) 0 [some (sj_r (some a0)), some (sj_i x1), some (sj_i x2), none] [] s := by
  intro a0 x1 x2 s h
  unfold f_X9_hasFast at h
  refine r_aload_n (pc := 0) dX9_hasFast_0 rfl rfl ?_
  refine r_gI (pc := 1) h dX9_hasFast_1 fw_X9_22 rfl (fun v1 h => ?_)
  refine r_istore_n (ln := [some (sj_r (some a0)), some (sj_i x1), some (sj_i x2), some (sj_i v1)]) (pc := 4) dX9_hasFast_4 rfl (Nat.le_of_ble_eq_true rfl) rfl ?_
  exact sj_weak (l2 := [some (sj_r (some a0)), some (sj_i x1), some (sj_i x2), some (sj_i v1)]) (⟨rfl, ⟨rfl, ⟨rfl, ⟨rfl, trivial⟩⟩⟩⟩) (t_X9_hasFast_5 N a0 x1 x2 v1 s h)
set_option maxHeartbeats 4000000 in
theorem c_X9_hasFast {X : sj_X} {N : Nat} {a0 : Nat} {x1 : Int} {x2 : Int} {s : sj_Mem} {q : Int × sj_Mem} (h : f_X9_hasFast N a0 x1 x2 s = some q) : sj_C X m_X9_hasFast [sj_r (some a0), sj_i x1, sj_i x2] s (some (sj_i q.1), q.2) :=
  sj_C_of (by decide +kernel) (Nat.le_of_ble_eq_true rfl) (lo := [some (sj_r (some a0)), some (sj_i x1), some (sj_i x2), none]) rfl (sj_weak (l2 := [some (sj_r (some a0)), some (sj_i x1), some (sj_i x2), none]) (⟨rfl, ⟨rfl, ⟨rfl, trivial⟩⟩⟩) (t_X9_hasFast_0 a0 x1 x2 s h))
theorem dX9_downwards_0 : decode cX9_downwards 0 = .ok (.lload_n 0, 1) := by decide +kernel
theorem dX9_downwards_1 : decode cX9_downwards 1 = .ok (.lconst 0, 1) := by decide +kernel
theorem dX9_downwards_2 : decode cX9_downwards 2 = .ok (.lcmp, 1) := by decide +kernel
theorem dX9_downwards_3 : decode cX9_downwards 3 = .ok (.ifCond .lt 9, 3) := by decide +kernel
theorem dX9_downwards_6 : decode cX9_downwards 6 = .ok (.lload_n 0, 1) := by decide +kernel
theorem dX9_downwards_7 : decode cX9_downwards 7 = .ok (.lload_n 2, 1) := by decide +kernel
theorem dX9_downwards_8 : decode cX9_downwards 8 = .ok (.ldiv, 1) := by decide +kernel
theorem dX9_downwards_9 : decode cX9_downwards 9 = .ok (.goto 11, 3) := by decide +kernel
theorem dX9_downwards_12 : decode cX9_downwards 12 = .ok (.lload_n 2, 1) := by decide +kernel
theorem dX9_downwards_13 : decode cX9_downwards 13 = .ok (.lconst 1, 1) := by decide +kernel
theorem dX9_downwards_14 : decode cX9_downwards 14 = .ok (.lsub, 1) := by decide +kernel
theorem dX9_downwards_15 : decode cX9_downwards 15 = .ok (.lload_n 0, 1) := by decide +kernel
theorem dX9_downwards_16 : decode cX9_downwards 16 = .ok (.lsub, 1) := by decide +kernel
theorem dX9_downwards_17 : decode cX9_downwards 17 = .ok (.lload_n 2, 1) := by decide +kernel
theorem dX9_downwards_18 : decode cX9_downwards 18 = .ok (.ldiv, 1) := by decide +kernel
theorem dX9_downwards_19 : decode cX9_downwards 19 = .ok (.lneg, 1) := by decide +kernel
theorem dX9_downwards_20 : decode cX9_downwards 20 = .ok (.lreturn, 1) := by decide +kernel
set_option maxHeartbeats 4000000 in
theorem t_X9_downwards_0 {X : sj_X} {s0 : sj_Mem} {N : Nat} {q : Int × sj_Mem} :
    ∀ (x0 : Int) (x2 : Int) (s : sj_Mem), f_X9_downwards N x0 x2 s = some q → sj_T X m_X9_downwards s0 (some (sj_j q.1), q.2) 0 [some (sj_j x0), none, some (sj_j x2), none] [] s := by
  intro x0 x2 s h
  unfold f_X9_downwards at h
  refine r_lload_n (pc := 0) dX9_downwards_0 rfl rfl ?_
  refine r_lconst0 (pc := 1) dX9_downwards_1 ?_
  refine r_llt (pc := 2) (tgt := 12) h dX9_downwards_2 rfl dX9_downwards_3 (by decide) (fun h => ?_) (fun h => ?_)
  · refine r_lload_n (pc := 12) dX9_downwards_12 rfl rfl ?_
    refine r_lconst1 (pc := 13) dX9_downwards_13 ?_
    refine r_lsub (pc := 14) dX9_downwards_14 ?_
    refine r_lload_n (pc := 15) dX9_downwards_15 rfl rfl ?_
    refine r_lsub (pc := 16) dX9_downwards_16 ?_
    refine r_lload_n (pc := 17) dX9_downwards_17 rfl rfl ?_
    refine r_ldiv (pc := 18) h dX9_downwards_18 (fun v1 h => ?_)
    refine r_lneg (pc := 19) dX9_downwards_19 ?_
    exact r_lret (pc := 20) h rfl dX9_downwards_20
  · refine r_lload_n (pc := 6) dX9_downwards_6 rfl rfl ?_
    refine r_lload_n (pc := 7) dX9_downwards_7 rfl rfl ?_
    refine r_ldiv (pc := 8) h dX9_downwards_8 (fun v2 h => ?_)
    refine r_goto (pc := 9) (tgt := 20) dX9_downwards_9 (by decide) ?_
    exact r_lret (pc := 20) h rfl dX9_downwards_20
set_option maxHeartbeats 4000000 in
theorem c_X9_downwards {X : sj_X} {N : Nat} {x0 : Int} {x2 : Int} {s : sj_Mem} {q : Int × sj_Mem} (h : f_X9_downwards N x0 x2 s = some q) : sj_C X m_X9_downwards [sj_j x0, sj_j x2] s (some (sj_j q.1), q.2) :=
  sj_C_of (by decide +kernel) (Nat.le_of_ble_eq_true rfl) (lo := [some (sj_j x0), none, some (sj_j x2), none]) rfl (sj_weak (l2 := [some (sj_j x0), none, some (sj_j x2), none]) (⟨rfl, ⟨rfl, trivial⟩⟩) (t_X9_downwards_0 x0 x2 s h))
theorem dX9_thrustOf_0 : decode cX9_thrustOf 0 = .ok (.lconst 0, 1) := by decide +kernel
theorem dX9_thrustOf_1 : decode cX9_thrustOf 1 = .ok (.lstore_n 3, 1) := by decide +kernel
theorem dX9_thrustOf_2 : decode cX9_thrustOf 2 = .ok (.aload_n 0, 1) := by decide +kernel
theorem dX9_thrustOf_3 : decode cX9_thrustOf 3 = .ok (.getfield 22, 3) := by decide +kernel
theorem dX9_thrustOf_6 : decode cX9_thrustOf 6 = .ok (.istore 5, 2) := by decide +kernel
theorem dX9_thrustOf_8 : decode cX9_thrustOf 8 = .ok (.iload 5, 2) := by decide +kernel
theorem dX9_thrustOf_10 : decode cX9_thrustOf 10 = .ok (.iload_n 1, 1) := by decide +kernel
theorem dX9_thrustOf_11 : decode cX9_thrustOf 11 = .ok (.if_icmp .gt 37, 3) := by decide +kernel
theorem dX9_thrustOf_14 : decode cX9_thrustOf 14 = .ok (.aload_n 0, 1) := by decide +kernel
theorem dX9_thrustOf_15 : decode cX9_thrustOf 15 = .ok (.iload 5, 2) := by decide +kernel
theorem dX9_thrustOf_17 : decode cX9_thrustOf 17 = .ok (.invokevirtual 168, 3) := by decide +kernel
theorem dX9_thrustOf_20 : decode cX9_thrustOf 20 = .ok (.lload_n 3, 1) := by decide +kernel
theorem dX9_thrustOf_21 : decode cX9_thrustOf 21 = .ok (.iload_n 2, 1) := by decide +kernel
theorem dX9_thrustOf_22 : decode cX9_thrustOf 22 = .ok (.i2l, 1) := by decide +kernel
theorem dX9_thrustOf_23 : decode cX9_thrustOf 23 = .ok (.aload_n 0, 1) := by decide +kernel
theorem dX9_thrustOf_24 : decode cX9_thrustOf 24 = .ok (.getfield 145, 3) := by decide +kernel
theorem dX9_thrustOf_27 : decode cX9_thrustOf 27 = .ok (.lmul, 1) := by decide +kernel
theorem dX9_thrustOf_28 : decode cX9_thrustOf 28 = .ok (.ldc2_w 143, 3) := by decide +kernel
theorem dX9_thrustOf_31 : decode cX9_thrustOf 31 = .ok (.invokestatic 216, 3) := by decide +kernel
theorem dX9_thrustOf_34 : decode cX9_thrustOf 34 = .ok (.aload_n 0, 1) := by decide +kernel
theorem dX9_thrustOf_35 : decode cX9_thrustOf 35 = .ok (.iload_n 2, 1) := by decide +kernel
theorem dX9_thrustOf_36 : decode cX9_thrustOf 36 = .ok (.invokevirtual 171, 3) := by decide +kernel
theorem dX9_thrustOf_39 : decode cX9_thrustOf 39 = .ok (.lsub, 1) := by decide +kernel
theorem dX9_thrustOf_40 : decode cX9_thrustOf 40 = .ok (.ladd, 1) := by decide +kernel
theorem dX9_thrustOf_41 : decode cX9_thrustOf 41 = .ok (.lstore_n 3, 1) := by decide +kernel
theorem dX9_thrustOf_42 : decode cX9_thrustOf 42 = .ok (.iinc 5 1, 3) := by decide +kernel
theorem dX9_thrustOf_45 : decode cX9_thrustOf 45 = .ok (.goto (-37), 3) := by decide +kernel
theorem dX9_thrustOf_48 : decode cX9_thrustOf 48 = .ok (.lload_n 3, 1) := by decide +kernel
theorem dX9_thrustOf_49 : decode cX9_thrustOf 49 = .ok (.lreturn, 1) := by decide +kernel
set_option maxHeartbeats 4000000 in
theorem t_X9_thrustOf_8_b {X : sj_X} {s0 : sj_Mem} {N : Nat} {q : Int × sj_Mem} {k8 : Nat → Int → Int → Int → Int → sj_Mem → Option (Int × sj_Mem)} (hk8 : ∀ (a0 : Nat) (x1 : Int) (x2 : Int) (x3 : Int) (x5 : Int) (s : sj_Mem), k8 a0 x1 x2 x3 x5 s = some q → sj_T X m_X9_thrustOf s0 (some (sj_j q.1), q.2) 8 [some (sj_r (some a0)), some (sj_i x1), some (sj_i x2), some (sj_j x3), none, some (sj_i x5)] [] s) :
    ∀ (a0 : Nat) (x1 : Int) (x2 : Int) (x3 : Int) (x5 : Int) (s : sj_Mem), f_X9_thrustOf_8_b N k8 a0 x1 x2 x3 x5 s = some q → sj_T X m_X9_thrustOf s0 (some (sj_j q.1), q.2) 8 [some (sj_r (some a0)), some (sj_i x1), some (sj_i x2), some (sj_j x3), none, some (sj_i x5)] [] s := by
  intro a0 x1 x2 x3 x5 s h
  unfold f_X9_thrustOf_8_b at h
  refine r_iload (pc := 8) dX9_thrustOf_8 rfl ?_
  refine r_iload_n (pc := 10) dX9_thrustOf_10 rfl rfl ?_
  refine r_icmp_gt (pc := 11) (tgt := 48) h dX9_thrustOf_11 (by decide) (fun h => ?_) (fun h => ?_)
  · refine r_lload_n (pc := 48) dX9_thrustOf_48 rfl rfl ?_
    exact r_lret (pc := 49) h rfl dX9_thrustOf_49
  · refine r_aload_n (pc := 14) dX9_thrustOf_14 rfl rfl ?_
    refine r_iload (pc := 15) dX9_thrustOf_15 rfl ?_
    refine r_callV (pc := 17) (fun _ => none) (As := [sj_i x5]) (rest := []) h dX9_thrustOf_17 mw_X9_168 vw_X9_laysAt (fun _ _ hc => c_X9_laysAt hc) rfl ⟨(Nat.le_of_ble_eq_true rfl), (Nat.le_of_ble_eq_true rfl)⟩ (Nat.le_of_ble_eq_true rfl) rfl (fun _u s1 h => ?_)
    refine r_lload_n (pc := 20) dX9_thrustOf_20 rfl rfl ?_
    refine r_iload_n (pc := 21) dX9_thrustOf_21 rfl rfl ?_
    refine r_i2l (pc := 22) h dX9_thrustOf_22 (fun v2 h => ?_)
    refine r_aload_n (pc := 23) dX9_thrustOf_23 rfl rfl ?_
    refine r_gJ (pc := 24) h dX9_thrustOf_24 fw_X9_145 rfl (fun v3 h => ?_)
    refine r_lmul (pc := 27) dX9_thrustOf_27 ?_
    refine r_ldc2 (n := 1000) (pc := 28) dX9_thrustOf_28 kc_X9_143 ?_
    refine r_callS (pc := 31) (fun v => some (sj_j v)) (As := [sj_j (v2 * v3), sj_j 1000]) (rest := [(sj_j x3)]) h dX9_thrustOf_31 mw_X9_216 kw_1380 (fun _ _ hc => c_X9_downwards hc) rfl ⟨(Nat.le_of_ble_eq_true rfl), (Nat.le_of_ble_eq_true rfl)⟩ (Nat.le_of_ble_eq_true rfl) rfl (fun v5 s4 h => ?_)
    refine r_aload_n (pc := 34) dX9_thrustOf_34 rfl rfl ?_
    refine r_iload_n (pc := 35) dX9_thrustOf_35 rfl rfl ?_
    refine r_callV (pc := 36) (fun v => some (sj_j v)) (As := [sj_i x2]) (rest := [(sj_j v5), (sj_j x3)]) h dX9_thrustOf_36 mw_X9_171 vw_X9_rubsOf (fun _ _ hc => c_X9_rubsOf hc) rfl ⟨(Nat.le_of_ble_eq_true rfl), (Nat.le_of_ble_eq_true rfl)⟩ (Nat.le_of_ble_eq_true rfl) rfl (fun v7 s6 h => ?_)
    refine r_lsub (pc := 39) dX9_thrustOf_39 ?_
    refine r_ladd (pc := 40) dX9_thrustOf_40 ?_
    refine r_lstore_nL (ln := fun w => [some (sj_r (some a0)), some (sj_i x1), some (sj_i x2), some (sj_j w), none, some (sj_i x5)]) (pc := 41) h dX9_thrustOf_41 rfl (Nat.le_of_ble_eq_true rfl) (fun _ => rfl) (fun v8 h => ?_)
    refine r_iinc (ln := fun w => [some (sj_r (some a0)), some (sj_i x1), some (sj_i x2), some (sj_j v8), none, some (sj_i w)]) (pc := 42) h dX9_thrustOf_42 rfl (Nat.le_of_ble_eq_true rfl) (fun _ => rfl) (fun v9 h => ?_)
    refine r_goto (pc := 45) (tgt := 8) dX9_thrustOf_45 (by decide) ?_
    exact sj_weak (l2 := [some (sj_r (some a0)), some (sj_i x1), some (sj_i x2), some (sj_j v8), none, some (sj_i v9)]) (⟨rfl, ⟨rfl, ⟨rfl, ⟨rfl, ⟨rfl, trivial⟩⟩⟩⟩⟩) (hk8 a0 x1 x2 v8 v9 s6 h)
set_option maxHeartbeats 4000000 in
theorem t_X9_thrustOf_8 {X : sj_X} {s0 : sj_Mem} {N : Nat} {q : Int × sj_Mem} :
    ∀ (n : Nat) (a0 : Nat) (x1 : Int) (x2 : Int) (x3 : Int) (x5 : Int) (s : sj_Mem), f_X9_thrustOf_8 N n a0 x1 x2 x3 x5 s = some q → sj_T X m_X9_thrustOf s0 (some (sj_j q.1), q.2) 8 [some (sj_r (some a0)), some (sj_i x1), some (sj_i x2), some (sj_j x3), none, some (sj_i x5)] [] s := by
  intro n
  induction n with
  | zero => intro a0 x1 x2 x3 x5 s h; exact nomatch h
  | succ n ih => intro a0 x1 x2 x3 x5 s h; exact t_X9_thrustOf_8_b (N := N) ih a0 x1 x2 x3 x5 s h
set_option maxHeartbeats 4000000 in
theorem t_X9_thrustOf_0 {X : sj_X} {s0 : sj_Mem} {N : Nat} {q : Int × sj_Mem} :
    ∀ (a0 : Nat) (x1 : Int) (x2 : Int) (s : sj_Mem), f_X9_thrustOf N a0 x1 x2 s = some q → sj_T X m_X9_thrustOf s0 (some (sj_j q.1), q.2) 0 [some (sj_r (some a0)), some (sj_i x1), some (sj_i x2), none, none, none] [] s := by
  intro a0 x1 x2 s h
  unfold f_X9_thrustOf at h
  refine r_lconst0 (pc := 0) dX9_thrustOf_0 ?_
  refine r_lstore_n (ln := [some (sj_r (some a0)), some (sj_i x1), some (sj_i x2), some (sj_j 0), none, none]) (pc := 1) dX9_thrustOf_1 rfl (Nat.le_of_ble_eq_true rfl) rfl ?_
  refine r_aload_n (pc := 2) dX9_thrustOf_2 rfl rfl ?_
  refine r_gI (pc := 3) h dX9_thrustOf_3 fw_X9_22 rfl (fun v1 h => ?_)
  refine r_istore (ln := [some (sj_r (some a0)), some (sj_i x1), some (sj_i x2), some (sj_j 0), none, some (sj_i v1)]) (pc := 6) dX9_thrustOf_6 (Nat.le_of_ble_eq_true rfl) rfl ?_
  exact sj_weak (l2 := [some (sj_r (some a0)), some (sj_i x1), some (sj_i x2), some (sj_j 0), none, some (sj_i v1)]) (⟨rfl, ⟨rfl, ⟨rfl, ⟨rfl, ⟨rfl, trivial⟩⟩⟩⟩⟩) (t_X9_thrustOf_8 N a0 x1 x2 0 v1 s h)
set_option maxHeartbeats 4000000 in
theorem c_X9_thrustOf {X : sj_X} {N : Nat} {a0 : Nat} {x1 : Int} {x2 : Int} {s : sj_Mem} {q : Int × sj_Mem} (h : f_X9_thrustOf N a0 x1 x2 s = some q) : sj_C X m_X9_thrustOf [sj_r (some a0), sj_i x1, sj_i x2] s (some (sj_j q.1), q.2) :=
  sj_C_of (by decide +kernel) (Nat.le_of_ble_eq_true rfl) (lo := [some (sj_r (some a0)), some (sj_i x1), some (sj_i x2), none, none, none]) rfl (sj_weak (l2 := [some (sj_r (some a0)), some (sj_i x1), some (sj_i x2), none, none, none]) (⟨rfl, ⟨rfl, ⟨rfl, trivial⟩⟩⟩) (t_X9_thrustOf_0 a0 x1 x2 s h))
theorem dX9_crest_0 : decode cX9_crest 0 = .ok (.iload_n 1, 1) := by decide +kernel
theorem dX9_crest_1 : decode cX9_crest 1 = .ok (.invokestatic 287, 3) := by decide +kernel
theorem dX9_crest_4 : decode cX9_crest 4 = .ok (.ifCond .eq 24, 3) := by decide +kernel
theorem dX9_crest_7 : decode cX9_crest 7 = .ok (.aload_n 0, 1) := by decide +kernel
theorem dX9_crest_8 : decode cX9_crest 8 = .ok (.invokevirtual 277, 3) := by decide +kernel
theorem dX9_crest_11 : decode cX9_crest 11 = .ok (.ifCond .eq 17, 3) := by decide +kernel
theorem dX9_crest_14 : decode cX9_crest 14 = .ok (.aload_n 0, 1) := by decide +kernel
theorem dX9_crest_15 : decode cX9_crest 15 = .ok (.aload_n 0, 1) := by decide +kernel
theorem dX9_crest_16 : decode cX9_crest 16 = .ok (.getfield 150, 3) := by decide +kernel
theorem dX9_crest_19 : decode cX9_crest 19 = .ok (.iconst 1, 1) := by decide +kernel
theorem dX9_crest_20 : decode cX9_crest 20 = .ok (.isub, 1) := by decide +kernel
theorem dX9_crest_21 : decode cX9_crest 21 = .ok (.iload_n 1, 1) := by decide +kernel
theorem dX9_crest_22 : decode cX9_crest 22 = .ok (.invokevirtual 292, 3) := by decide +kernel
theorem dX9_crest_25 : decode cX9_crest 25 = .ok (.ifCond .eq 5, 3) := by decide +kernel
theorem dX9_crest_28 : decode cX9_crest 28 = .ok (.iconst (-1), 1) := by decide +kernel
theorem dX9_crest_29 : decode cX9_crest 29 = .ok (.ireturn, 1) := by decide +kernel
theorem dX9_crest_30 : decode cX9_crest 30 = .ok (.aload_n 0, 1) := by decide +kernel
theorem dX9_crest_31 : decode cX9_crest 31 = .ok (.getfield 22, 3) := by decide +kernel
theorem dX9_crest_34 : decode cX9_crest 34 = .ok (.istore_n 2, 1) := by decide +kernel
theorem dX9_crest_35 : decode cX9_crest 35 = .ok (.aload_n 0, 1) := by decide +kernel
theorem dX9_crest_36 : decode cX9_crest 36 = .ok (.getfield 22, 3) := by decide +kernel
theorem dX9_crest_39 : decode cX9_crest 39 = .ok (.iconst 1, 1) := by decide +kernel
theorem dX9_crest_40 : decode cX9_crest 40 = .ok (.iadd, 1) := by decide +kernel
theorem dX9_crest_41 : decode cX9_crest 41 = .ok (.istore_n 3, 1) := by decide +kernel
theorem dX9_crest_42 : decode cX9_crest 42 = .ok (.iload_n 3, 1) := by decide +kernel
theorem dX9_crest_43 : decode cX9_crest 43 = .ok (.aload_n 0, 1) := by decide +kernel
theorem dX9_crest_44 : decode cX9_crest 44 = .ok (.getfield 150, 3) := by decide +kernel
theorem dX9_crest_47 : decode cX9_crest 47 = .ok (.if_icmp .ge 27, 3) := by decide +kernel
theorem dX9_crest_50 : decode cX9_crest 50 = .ok (.aload_n 0, 1) := by decide +kernel
theorem dX9_crest_51 : decode cX9_crest 51 = .ok (.iload_n 3, 1) := by decide +kernel
theorem dX9_crest_52 : decode cX9_crest 52 = .ok (.iload_n 1, 1) := by decide +kernel
theorem dX9_crest_53 : decode cX9_crest 53 = .ok (.invokevirtual 295, 3) := by decide +kernel
theorem dX9_crest_56 : decode cX9_crest 56 = .ok (.aload_n 0, 1) := by decide +kernel
theorem dX9_crest_57 : decode cX9_crest 57 = .ok (.iload_n 2, 1) := by decide +kernel
theorem dX9_crest_58 : decode cX9_crest 58 = .ok (.iload_n 1, 1) := by decide +kernel
theorem dX9_crest_59 : decode cX9_crest 59 = .ok (.invokevirtual 295, 3) := by decide +kernel
theorem dX9_crest_62 : decode cX9_crest 62 = .ok (.lcmp, 1) := by decide +kernel
theorem dX9_crest_63 : decode cX9_crest 63 = .ok (.ifCond .le 5, 3) := by decide +kernel
theorem dX9_crest_66 : decode cX9_crest 66 = .ok (.iload_n 3, 1) := by decide +kernel
theorem dX9_crest_67 : decode cX9_crest 67 = .ok (.istore_n 2, 1) := by decide +kernel
theorem dX9_crest_68 : decode cX9_crest 68 = .ok (.iinc 3 1, 3) := by decide +kernel
theorem dX9_crest_71 : decode cX9_crest 71 = .ok (.goto (-29), 3) := by decide +kernel
theorem dX9_crest_74 : decode cX9_crest 74 = .ok (.iload_n 2, 1) := by decide +kernel
theorem dX9_crest_75 : decode cX9_crest 75 = .ok (.aload_n 0, 1) := by decide +kernel
theorem dX9_crest_76 : decode cX9_crest 76 = .ok (.getfield 22, 3) := by decide +kernel
theorem dX9_crest_79 : decode cX9_crest 79 = .ok (.isub, 1) := by decide +kernel
theorem dX9_crest_80 : decode cX9_crest 80 = .ok (.ireturn, 1) := by decide +kernel
set_option maxHeartbeats 4000000 in
theorem t_X9_crest_68 {X : sj_X} {s0 : sj_Mem} {N : Nat} {q : Int × sj_Mem} {k42 : Nat → Int → Int → Int → sj_Mem → Option (Int × sj_Mem)} (hk42 : ∀ (a0 : Nat) (x1 : Int) (x2 : Int) (x3 : Int) (s : sj_Mem), k42 a0 x1 x2 x3 s = some q → sj_T X m_X9_crest s0 (some (sj_i q.1), q.2) 42 [some (sj_r (some a0)), some (sj_i x1), some (sj_i x2), some (sj_i x3)] [] s) :
    ∀ (a0 : Nat) (x1 : Int) (x2 : Int) (x3 : Int) (s : sj_Mem), f_X9_crest_68 N k42 a0 x1 x2 x3 s = some q → sj_T X m_X9_crest s0 (some (sj_i q.1), q.2) 68 [some (sj_r (some a0)), some (sj_i x1), some (sj_i x2), some (sj_i x3)] [] s := by
  intro a0 x1 x2 x3 s h
  unfold f_X9_crest_68 at h
  refine r_iinc (ln := fun w => [some (sj_r (some a0)), some (sj_i x1), some (sj_i x2), some (sj_i w)]) (pc := 68) h dX9_crest_68 rfl (Nat.le_of_ble_eq_true rfl) (fun _ => rfl) (fun v1 h => ?_)
  refine r_goto (pc := 71) (tgt := 42) dX9_crest_71 (by decide) ?_
  exact sj_weak (l2 := [some (sj_r (some a0)), some (sj_i x1), some (sj_i x2), some (sj_i v1)]) (⟨rfl, ⟨rfl, ⟨rfl, ⟨rfl, trivial⟩⟩⟩⟩) (hk42 a0 x1 x2 v1 s h)
set_option maxHeartbeats 4000000 in
theorem t_X9_crest_42_b {X : sj_X} {s0 : sj_Mem} {N : Nat} {q : Int × sj_Mem} {k42 : Nat → Int → Int → Int → sj_Mem → Option (Int × sj_Mem)} (hk42 : ∀ (a0 : Nat) (x1 : Int) (x2 : Int) (x3 : Int) (s : sj_Mem), k42 a0 x1 x2 x3 s = some q → sj_T X m_X9_crest s0 (some (sj_i q.1), q.2) 42 [some (sj_r (some a0)), some (sj_i x1), some (sj_i x2), some (sj_i x3)] [] s) :
    ∀ (a0 : Nat) (x1 : Int) (x2 : Int) (x3 : Int) (s : sj_Mem), f_X9_crest_42_b N k42 a0 x1 x2 x3 s = some q → sj_T X m_X9_crest s0 (some (sj_i q.1), q.2) 42 [some (sj_r (some a0)), some (sj_i x1), some (sj_i x2), some (sj_i x3)] [] s := by
  intro a0 x1 x2 x3 s h
  unfold f_X9_crest_42_b at h
  refine r_iload_n (pc := 42) dX9_crest_42 rfl rfl ?_
  refine r_aload_n (pc := 43) dX9_crest_43 rfl rfl ?_
  refine r_gI (pc := 44) h dX9_crest_44 fw_X9_150 rfl (fun v1 h => ?_)
  refine r_icmp_ge (pc := 47) (tgt := 74) h dX9_crest_47 (by decide) (fun h => ?_) (fun h => ?_)
  · refine r_iload_n (pc := 74) dX9_crest_74 rfl rfl ?_
    refine r_aload_n (pc := 75) dX9_crest_75 rfl rfl ?_
    refine r_gI (pc := 76) h dX9_crest_76 fw_X9_22 rfl (fun v2 h => ?_)
    refine r_isub (pc := 79) dX9_crest_79 ?_
    exact r_iret (pc := 80) h rfl dX9_crest_80
  · refine r_aload_n (pc := 50) dX9_crest_50 rfl rfl ?_
    refine r_iload_n (pc := 51) dX9_crest_51 rfl rfl ?_
    refine r_iload_n (pc := 52) dX9_crest_52 rfl rfl ?_
    refine r_callV (pc := 53) (fun v => some (sj_j v)) (As := [sj_i x3, sj_i x1]) (rest := []) h dX9_crest_53 mw_X9_295 vw_X9_thrustOf (fun _ _ hc => c_X9_thrustOf hc) rfl ⟨(Nat.le_of_ble_eq_true rfl), (Nat.le_of_ble_eq_true rfl)⟩ (Nat.le_of_ble_eq_true rfl) rfl (fun v4 s3 h => ?_)
    refine r_aload_n (pc := 56) dX9_crest_56 rfl rfl ?_
    refine r_iload_n (pc := 57) dX9_crest_57 rfl rfl ?_
    refine r_iload_n (pc := 58) dX9_crest_58 rfl rfl ?_
    refine r_callV (pc := 59) (fun v => some (sj_j v)) (As := [sj_i x2, sj_i x1]) (rest := [(sj_j v4)]) h dX9_crest_59 mw_X9_295 vw_X9_thrustOf (fun _ _ hc => c_X9_thrustOf hc) rfl ⟨(Nat.le_of_ble_eq_true rfl), (Nat.le_of_ble_eq_true rfl)⟩ (Nat.le_of_ble_eq_true rfl) rfl (fun v6 s5 h => ?_)
    refine r_lle (pc := 62) (tgt := 68) h dX9_crest_62 rfl dX9_crest_63 (by decide) (fun h => ?_) (fun h => ?_)
    · exact sj_weak (l2 := [some (sj_r (some a0)), some (sj_i x1), some (sj_i x2), some (sj_i x3)]) (⟨rfl, ⟨rfl, ⟨rfl, ⟨rfl, trivial⟩⟩⟩⟩) (t_X9_crest_68 hk42 a0 x1 x2 x3 s5 h)
    · refine r_iload_n (pc := 66) dX9_crest_66 rfl rfl ?_
      refine r_istore_n (ln := [some (sj_r (some a0)), some (sj_i x1), some (sj_i x3), some (sj_i x3)]) (pc := 67) dX9_crest_67 rfl (Nat.le_of_ble_eq_true rfl) rfl ?_
      exact sj_weak (l2 := [some (sj_r (some a0)), some (sj_i x1), some (sj_i x3), some (sj_i x3)]) (⟨rfl, ⟨rfl, ⟨rfl, ⟨rfl, trivial⟩⟩⟩⟩) (t_X9_crest_68 hk42 a0 x1 x3 x3 s5 h)
set_option maxHeartbeats 4000000 in
theorem t_X9_crest_42 {X : sj_X} {s0 : sj_Mem} {N : Nat} {q : Int × sj_Mem} :
    ∀ (n : Nat) (a0 : Nat) (x1 : Int) (x2 : Int) (x3 : Int) (s : sj_Mem), f_X9_crest_42 N n a0 x1 x2 x3 s = some q → sj_T X m_X9_crest s0 (some (sj_i q.1), q.2) 42 [some (sj_r (some a0)), some (sj_i x1), some (sj_i x2), some (sj_i x3)] [] s := by
  intro n
  induction n with
  | zero => intro a0 x1 x2 x3 s h; exact nomatch h
  | succ n ih => intro a0 x1 x2 x3 s h; exact t_X9_crest_42_b (N := N) ih a0 x1 x2 x3 s h
set_option maxHeartbeats 4000000 in
theorem t_X9_crest_0 {X : sj_X} {s0 : sj_Mem} {N : Nat} {q : Int × sj_Mem} :
    ∀ (a0 : Nat) (x1 : Int) (s : sj_Mem), f_X9_crest N a0 x1 s = some q → sj_T X m_X9_crest s0 (some (sj_i q.1), q.2) 0 [some (sj_r (some a0)), some (sj_i x1), none, none] [] s := by
  intro a0 x1 s h
  unfold f_X9_crest at h
  refine r_iload_n (pc := 0) dX9_crest_0 rfl rfl ?_
  refine r_callS (pc := 1) (fun v => some (sj_i v)) (As := [sj_i x1]) (rest := []) h dX9_crest_1 mw_X9_287 kw_1446 (fun _ _ hc => c_X9_isK hc) rfl ⟨(Nat.le_of_ble_eq_true rfl), (Nat.le_of_ble_eq_true rfl)⟩ (Nat.le_of_ble_eq_true rfl) rfl (fun v2 s1 h => ?_)
  refine r_if_eq (pc := 4) (tgt := 28) h dX9_crest_4 (by decide) (fun h => ?_) (fun h => ?_)
  · refine r_iconst (pc := 28) dX9_crest_28 ?_
    exact r_iret (pc := 29) h rfl dX9_crest_29
  · refine r_aload_n (pc := 7) dX9_crest_7 rfl rfl ?_
    refine r_callV (pc := 8) (fun v => some (sj_i v)) (As := []) (rest := []) h dX9_crest_8 mw_X9_277 vw_X9_takesSlip (fun _ _ hc => c_X9_takesSlip hc) rfl ⟨(Nat.le_of_ble_eq_true rfl), (Nat.le_of_ble_eq_true rfl)⟩ (Nat.le_of_ble_eq_true rfl) rfl (fun v4 s3 h => ?_)
    refine r_if_eq (pc := 11) (tgt := 28) h dX9_crest_11 (by decide) (fun h => ?_) (fun h => ?_)
    · refine r_iconst (pc := 28) dX9_crest_28 ?_
      exact r_iret (pc := 29) h rfl dX9_crest_29
    · refine r_aload_n (pc := 14) dX9_crest_14 rfl rfl ?_
      refine r_aload_n (pc := 15) dX9_crest_15 rfl rfl ?_
      refine r_gI (pc := 16) h dX9_crest_16 fw_X9_150 rfl (fun v5 h => ?_)
      refine r_iconst (pc := 19) dX9_crest_19 ?_
      refine r_isub (pc := 20) dX9_crest_20 ?_
      refine r_iload_n (pc := 21) dX9_crest_21 rfl rfl ?_
      refine r_callV (pc := 22) (fun v => some (sj_i v)) (As := [sj_i (v5 - 1), sj_i x1]) (rest := []) h dX9_crest_22 mw_X9_292 vw_X9_hasFast (fun _ _ hc => c_X9_hasFast hc) rfl ⟨(Nat.le_of_ble_eq_true rfl), (Nat.le_of_ble_eq_true rfl)⟩ (Nat.le_of_ble_eq_true rfl) rfl (fun v7 s6 h => ?_)
      refine r_if_eq (pc := 25) (tgt := 30) h dX9_crest_25 (by decide) (fun h => ?_) (fun h => ?_)
      · refine r_aload_n (pc := 30) dX9_crest_30 rfl rfl ?_
        refine r_gI (pc := 31) h dX9_crest_31 fw_X9_22 rfl (fun v8 h => ?_)
        refine r_istore_n (ln := [some (sj_r (some a0)), some (sj_i x1), some (sj_i v8), none]) (pc := 34) dX9_crest_34 rfl (Nat.le_of_ble_eq_true rfl) rfl ?_
        refine r_aload_n (pc := 35) dX9_crest_35 rfl rfl ?_
        refine r_gI (pc := 36) h dX9_crest_36 fw_X9_22 rfl (fun v9 h => ?_)
        refine r_iconst (pc := 39) dX9_crest_39 ?_
        refine r_iadd (pc := 40) dX9_crest_40 ?_
        refine r_istore_nL (ln := fun w => [some (sj_r (some a0)), some (sj_i x1), some (sj_i v8), some (sj_i w)]) (pc := 41) h dX9_crest_41 rfl (Nat.le_of_ble_eq_true rfl) (fun _ => rfl) (fun v10 h => ?_)
        exact sj_weak (l2 := [some (sj_r (some a0)), some (sj_i x1), some (sj_i v8), some (sj_i v10)]) (⟨rfl, ⟨rfl, ⟨rfl, ⟨rfl, trivial⟩⟩⟩⟩) (t_X9_crest_42 N a0 x1 v8 v10 s6 h)
      · refine r_iconst (pc := 28) dX9_crest_28 ?_
        exact r_iret (pc := 29) h rfl dX9_crest_29
set_option maxHeartbeats 4000000 in
theorem c_X9_crest {X : sj_X} {N : Nat} {a0 : Nat} {x1 : Int} {s : sj_Mem} {q : Int × sj_Mem} (h : f_X9_crest N a0 x1 s = some q) : sj_C X m_X9_crest [sj_r (some a0), sj_i x1] s (some (sj_i q.1), q.2) :=
  sj_C_of (by decide +kernel) (Nat.le_of_ble_eq_true rfl) (lo := [some (sj_r (some a0)), some (sj_i x1), none, none]) rfl (sj_weak (l2 := [some (sj_r (some a0)), some (sj_i x1), none, none]) (⟨rfl, ⟨rfl, trivial⟩⟩) (t_X9_crest_0 a0 x1 s h))
theorem dX9_isSlice_0 : decode cX9_isSlice 0 = .ok (.aload_n 0, 1) := by decide +kernel
theorem dX9_isSlice_1 : decode cX9_isSlice 1 = .ok (.invokevirtual 277, 3) := by decide +kernel
theorem dX9_isSlice_4 : decode cX9_isSlice 4 = .ok (.ifCond .eq 28, 3) := by decide +kernel
theorem dX9_isSlice_7 : decode cX9_isSlice 7 = .ok (.iload_n 1, 1) := by decide +kernel
theorem dX9_isSlice_8 : decode cX9_isSlice 8 = .ok (.i2l, 1) := by decide +kernel
theorem dX9_isSlice_9 : decode cX9_isSlice 9 = .ok (.lconst 0, 1) := by decide +kernel
theorem dX9_isSlice_10 : decode cX9_isSlice 10 = .ok (.aload_n 0, 1) := by decide +kernel
theorem dX9_isSlice_11 : decode cX9_isSlice 11 = .ok (.getfield 150, 3) := by decide +kernel
theorem dX9_isSlice_14 : decode cX9_isSlice 14 = .ok (.aload_n 0, 1) := by decide +kernel
theorem dX9_isSlice_15 : decode cX9_isSlice 15 = .ok (.getfield 22, 3) := by decide +kernel
theorem dX9_isSlice_18 : decode cX9_isSlice 18 = .ok (.isub, 1) := by decide +kernel
theorem dX9_isSlice_19 : decode cX9_isSlice 19 = .ok (.iconst 1, 1) := by decide +kernel
theorem dX9_isSlice_20 : decode cX9_isSlice 20 = .ok (.isub, 1) := by decide +kernel
theorem dX9_isSlice_21 : decode cX9_isSlice 21 = .ok (.i2l, 1) := by decide +kernel
theorem dX9_isSlice_22 : decode cX9_isSlice 22 = .ok (.invokestatic 57, 3) := by decide +kernel
theorem dX9_isSlice_25 : decode cX9_isSlice 25 = .ok (.ifCond .eq 7, 3) := by decide +kernel
theorem dX9_isSlice_28 : decode cX9_isSlice 28 = .ok (.iconst 1, 1) := by decide +kernel
theorem dX9_isSlice_29 : decode cX9_isSlice 29 = .ok (.goto 4, 3) := by decide +kernel
theorem dX9_isSlice_32 : decode cX9_isSlice 32 = .ok (.iconst 0, 1) := by decide +kernel
theorem dX9_isSlice_33 : decode cX9_isSlice 33 = .ok (.ireturn, 1) := by decide +kernel
set_option maxHeartbeats 4000000 in
theorem t_X9_isSlice_0 {X : sj_X} {s0 : sj_Mem} {N : Nat} {q : Int × sj_Mem} :
    ∀ (a0 : Nat) (x1 : Int) (s : sj_Mem), f_X9_isSlice N a0 x1 s = some q → sj_T X m_X9_isSlice s0 (some (sj_i q.1), q.2) 0 [some (sj_r (some a0)), some (sj_i x1)] [] s := by
  intro a0 x1 s h
  unfold f_X9_isSlice at h
  refine r_aload_n (pc := 0) dX9_isSlice_0 rfl rfl ?_
  refine r_callV (pc := 1) (fun v => some (sj_i v)) (As := []) (rest := []) h dX9_isSlice_1 mw_X9_277 vw_X9_takesSlip (fun _ _ hc => c_X9_takesSlip hc) rfl ⟨(Nat.le_of_ble_eq_true rfl), (Nat.le_of_ble_eq_true rfl)⟩ (Nat.le_of_ble_eq_true rfl) rfl (fun v2 s1 h => ?_)
  refine r_if_eq (pc := 4) (tgt := 32) h dX9_isSlice_4 (by decide) (fun h => ?_) (fun h => ?_)
  · refine r_iconst (pc := 32) dX9_isSlice_32 ?_
    exact r_zret (pc := 33) h rfl dX9_isSlice_33
  · refine r_iload_n (pc := 7) dX9_isSlice_7 rfl rfl ?_
    refine r_i2l (pc := 8) h dX9_isSlice_8 (fun v3 h => ?_)
    refine r_lconst0 (pc := 9) dX9_isSlice_9 ?_
    refine r_aload_n (pc := 10) dX9_isSlice_10 rfl rfl ?_
    refine r_gI (pc := 11) h dX9_isSlice_11 fw_X9_150 rfl (fun v4 h => ?_)
    refine r_aload_n (pc := 14) dX9_isSlice_14 rfl rfl ?_
    refine r_gI (pc := 15) h dX9_isSlice_15 fw_X9_22 rfl (fun v5 h => ?_)
    refine r_isub (pc := 18) dX9_isSlice_18 ?_
    refine r_iconst (pc := 19) dX9_isSlice_19 ?_
    refine r_isub (pc := 20) dX9_isSlice_20 ?_
    refine r_i2l (pc := 21) h dX9_isSlice_21 (fun v6 h => ?_)
    refine r_callS (pc := 22) (fun v => some (sj_i v)) (As := [sj_j v3, sj_j 0, sj_j v6]) (rest := []) h dX9_isSlice_22 mw_X9_57 kw_1225 (fun _ _ hc => c_X9_isIn hc) rfl ⟨(Nat.le_of_ble_eq_true rfl), (Nat.le_of_ble_eq_true rfl)⟩ (Nat.le_of_ble_eq_true rfl) rfl (fun v8 s7 h => ?_)
    refine r_if_eq (pc := 25) (tgt := 32) h dX9_isSlice_25 (by decide) (fun h => ?_) (fun h => ?_)
    · refine r_iconst (pc := 32) dX9_isSlice_32 ?_
      exact r_zret (pc := 33) h rfl dX9_isSlice_33
    · refine r_iconst (pc := 28) dX9_isSlice_28 ?_
      refine r_goto (pc := 29) (tgt := 33) dX9_isSlice_29 (by decide) ?_
      exact r_zret (pc := 33) h rfl dX9_isSlice_33
set_option maxHeartbeats 4000000 in
theorem c_X9_isSlice {X : sj_X} {N : Nat} {a0 : Nat} {x1 : Int} {s : sj_Mem} {q : Int × sj_Mem} (h : f_X9_isSlice N a0 x1 s = some q) : sj_C X m_X9_isSlice [sj_r (some a0), sj_i x1] s (some (sj_i q.1), q.2) :=
  sj_C_of (by decide +kernel) (Nat.le_of_ble_eq_true rfl) (lo := [some (sj_r (some a0)), some (sj_i x1)]) rfl (sj_weak (l2 := [some (sj_r (some a0)), some (sj_i x1)]) (⟨rfl, ⟨rfl, trivial⟩⟩) (t_X9_isSlice_0 a0 x1 s h))
theorem dX9_thrust_0 : decode cX9_thrust 0 = .ok (.aload_n 0, 1) := by decide +kernel
theorem dX9_thrust_1 : decode cX9_thrust 1 = .ok (.iload_n 1, 1) := by decide +kernel
theorem dX9_thrust_2 : decode cX9_thrust 2 = .ok (.invokevirtual 280, 3) := by decide +kernel
theorem dX9_thrust_5 : decode cX9_thrust 5 = .ok (.ifCond .eq 38, 3) := by decide +kernel
theorem dX9_thrust_8 : decode cX9_thrust 8 = .ok (.iload_n 2, 1) := by decide +kernel
theorem dX9_thrust_9 : decode cX9_thrust 9 = .ok (.invokestatic 287, 3) := by decide +kernel
theorem dX9_thrust_12 : decode cX9_thrust 12 = .ok (.ifCond .eq 31, 3) := by decide +kernel
theorem dX9_thrust_15 : decode cX9_thrust 15 = .ok (.aload_n 0, 1) := by decide +kernel
theorem dX9_thrust_16 : decode cX9_thrust 16 = .ok (.aload_n 0, 1) := by decide +kernel
theorem dX9_thrust_17 : decode cX9_thrust 17 = .ok (.getfield 22, 3) := by decide +kernel
theorem dX9_thrust_20 : decode cX9_thrust 20 = .ok (.iload_n 1, 1) := by decide +kernel
theorem dX9_thrust_21 : decode cX9_thrust 21 = .ok (.iadd, 1) := by decide +kernel
theorem dX9_thrust_22 : decode cX9_thrust 22 = .ok (.iload_n 2, 1) := by decide +kernel
theorem dX9_thrust_23 : decode cX9_thrust 23 = .ok (.invokevirtual 292, 3) := by decide +kernel
theorem dX9_thrust_26 : decode cX9_thrust 26 = .ok (.ifCond .ne 17, 3) := by decide +kernel
theorem dX9_thrust_29 : decode cX9_thrust 29 = .ok (.aload_n 0, 1) := by decide +kernel
theorem dX9_thrust_30 : decode cX9_thrust 30 = .ok (.aload_n 0, 1) := by decide +kernel
theorem dX9_thrust_31 : decode cX9_thrust 31 = .ok (.getfield 22, 3) := by decide +kernel
theorem dX9_thrust_34 : decode cX9_thrust 34 = .ok (.iload_n 1, 1) := by decide +kernel
theorem dX9_thrust_35 : decode cX9_thrust 35 = .ok (.iadd, 1) := by decide +kernel
theorem dX9_thrust_36 : decode cX9_thrust 36 = .ok (.iload_n 2, 1) := by decide +kernel
theorem dX9_thrust_37 : decode cX9_thrust 37 = .ok (.invokevirtual 295, 3) := by decide +kernel
theorem dX9_thrust_40 : decode cX9_thrust 40 = .ok (.goto 6, 3) := by decide +kernel
theorem dX9_thrust_43 : decode cX9_thrust 43 = .ok (.ldc2_w 299, 3) := by decide +kernel
theorem dX9_thrust_46 : decode cX9_thrust 46 = .ok (.lreturn, 1) := by decide +kernel
set_option maxHeartbeats 4000000 in
theorem t_X9_thrust_0 {X : sj_X} {s0 : sj_Mem} {N : Nat} {q : Int × sj_Mem} :
    ∀ (a0 : Nat) (x1 : Int) (x2 : Int) (s : sj_Mem), f_X9_thrust N a0 x1 x2 s = some q → sj_T X m_X9_thrust s0 (some (sj_j q.1), q.2) 0 [some (sj_r (some a0)), some (sj_i x1), some (sj_i x2)] [] s := by
  intro a0 x1 x2 s h
  unfold f_X9_thrust at h
  refine r_aload_n (pc := 0) dX9_thrust_0 rfl rfl ?_
  refine r_iload_n (pc := 1) dX9_thrust_1 rfl rfl ?_
  refine r_callV (pc := 2) (fun v => some (sj_i v)) (As := [sj_i x1]) (rest := []) h dX9_thrust_2 mw_X9_280 vw_X9_isSlice (fun _ _ hc => c_X9_isSlice hc) rfl ⟨(Nat.le_of_ble_eq_true rfl), (Nat.le_of_ble_eq_true rfl)⟩ (Nat.le_of_ble_eq_true rfl) rfl (fun v2 s1 h => ?_)
  refine r_if_eq (pc := 5) (tgt := 43) h dX9_thrust_5 (by decide) (fun h => ?_) (fun h => ?_)
  · refine r_ldc2 (n := -10000000000000000) (pc := 43) dX9_thrust_43 kc_X9_299 ?_
    exact r_lret (pc := 46) h rfl dX9_thrust_46
  · refine r_iload_n (pc := 8) dX9_thrust_8 rfl rfl ?_
    refine r_callS (pc := 9) (fun v => some (sj_i v)) (As := [sj_i x2]) (rest := []) h dX9_thrust_9 mw_X9_287 kw_1446 (fun _ _ hc => c_X9_isK hc) rfl ⟨(Nat.le_of_ble_eq_true rfl), (Nat.le_of_ble_eq_true rfl)⟩ (Nat.le_of_ble_eq_true rfl) rfl (fun v4 s3 h => ?_)
    refine r_if_eq (pc := 12) (tgt := 43) h dX9_thrust_12 (by decide) (fun h => ?_) (fun h => ?_)
    · refine r_ldc2 (n := -10000000000000000) (pc := 43) dX9_thrust_43 kc_X9_299 ?_
      exact r_lret (pc := 46) h rfl dX9_thrust_46
    · refine r_aload_n (pc := 15) dX9_thrust_15 rfl rfl ?_
      refine r_aload_n (pc := 16) dX9_thrust_16 rfl rfl ?_
      refine r_gI (pc := 17) h dX9_thrust_17 fw_X9_22 rfl (fun v5 h => ?_)
      refine r_iload_n (pc := 20) dX9_thrust_20 rfl rfl ?_
      refine r_iadd (pc := 21) dX9_thrust_21 ?_
      refine r_iload_n (pc := 22) dX9_thrust_22 rfl rfl ?_
      refine r_callV (pc := 23) (fun v => some (sj_i v)) (As := [sj_i (v5 + x1), sj_i x2]) (rest := []) h dX9_thrust_23 mw_X9_292 vw_X9_hasFast (fun _ _ hc => c_X9_hasFast hc) rfl ⟨(Nat.le_of_ble_eq_true rfl), (Nat.le_of_ble_eq_true rfl)⟩ (Nat.le_of_ble_eq_true rfl) rfl (fun v7 s6 h => ?_)
      refine r_if_ne (pc := 26) (tgt := 43) h dX9_thrust_26 (by decide) (fun h => ?_) (fun h => ?_)
      · refine r_aload_n (pc := 29) dX9_thrust_29 rfl rfl ?_
        refine r_aload_n (pc := 30) dX9_thrust_30 rfl rfl ?_
        refine r_gI (pc := 31) h dX9_thrust_31 fw_X9_22 rfl (fun v8 h => ?_)
        refine r_iload_n (pc := 34) dX9_thrust_34 rfl rfl ?_
        refine r_iadd (pc := 35) dX9_thrust_35 ?_
        refine r_iload_n (pc := 36) dX9_thrust_36 rfl rfl ?_
        refine r_callV (pc := 37) (fun v => some (sj_j v)) (As := [sj_i (v8 + x1), sj_i x2]) (rest := []) h dX9_thrust_37 mw_X9_295 vw_X9_thrustOf (fun _ _ hc => c_X9_thrustOf hc) rfl ⟨(Nat.le_of_ble_eq_true rfl), (Nat.le_of_ble_eq_true rfl)⟩ (Nat.le_of_ble_eq_true rfl) rfl (fun v10 s9 h => ?_)
        refine r_goto (pc := 40) (tgt := 46) dX9_thrust_40 (by decide) ?_
        exact r_lret (pc := 46) h rfl dX9_thrust_46
      · refine r_ldc2 (n := -10000000000000000) (pc := 43) dX9_thrust_43 kc_X9_299 ?_
        exact r_lret (pc := 46) h rfl dX9_thrust_46
set_option maxHeartbeats 4000000 in
theorem c_X9_thrust {X : sj_X} {N : Nat} {a0 : Nat} {x1 : Int} {x2 : Int} {s : sj_Mem} {q : Int × sj_Mem} (h : f_X9_thrust N a0 x1 x2 s = some q) : sj_C X m_X9_thrust [sj_r (some a0), sj_i x1, sj_i x2] s (some (sj_j q.1), q.2) :=
  sj_C_of (by decide +kernel) (Nat.le_of_ble_eq_true rfl) (lo := [some (sj_r (some a0)), some (sj_i x1), some (sj_i x2)]) rfl (sj_weak (l2 := [some (sj_r (some a0)), some (sj_i x1), some (sj_i x2)]) (⟨rfl, ⟨rfl, ⟨rfl, trivial⟩⟩⟩) (t_X9_thrust_0 a0 x1 x2 s h))
theorem dX9_slicesOf_0 : decode cX9_slicesOf 0 = .ok (.iconst 0, 1) := by decide +kernel
theorem dX9_slicesOf_1 : decode cX9_slicesOf 1 = .ok (.istore_n 2, 1) := by decide +kernel
theorem dX9_slicesOf_2 : decode cX9_slicesOf 2 = .ok (.aload_n 0, 1) := by decide +kernel
theorem dX9_slicesOf_3 : decode cX9_slicesOf 3 = .ok (.getfield 22, 3) := by decide +kernel
theorem dX9_slicesOf_6 : decode cX9_slicesOf 6 = .ok (.istore_n 3, 1) := by decide +kernel
theorem dX9_slicesOf_7 : decode cX9_slicesOf 7 = .ok (.iload_n 3, 1) := by decide +kernel
theorem dX9_slicesOf_8 : decode cX9_slicesOf 8 = .ok (.aload_n 0, 1) := by decide +kernel
theorem dX9_slicesOf_9 : decode cX9_slicesOf 9 = .ok (.getfield 150, 3) := by decide +kernel
theorem dX9_slicesOf_12 : decode cX9_slicesOf 12 = .ok (.if_icmp .ge 48, 3) := by decide +kernel
theorem dX9_slicesOf_15 : decode cX9_slicesOf 15 = .ok (.aload_n 0, 1) := by decide +kernel
theorem dX9_slicesOf_16 : decode cX9_slicesOf 16 = .ok (.iload_n 3, 1) := by decide +kernel
theorem dX9_slicesOf_17 : decode cX9_slicesOf 17 = .ok (.invokevirtual 168, 3) := by decide +kernel
theorem dX9_slicesOf_20 : decode cX9_slicesOf 20 = .ok (.iload_n 2, 1) := by decide +kernel
theorem dX9_slicesOf_21 : decode cX9_slicesOf 21 = .ok (.iload_n 1, 1) := by decide +kernel
theorem dX9_slicesOf_22 : decode cX9_slicesOf 22 = .ok (.ifCond .eq 18, 3) := by decide +kernel
theorem dX9_slicesOf_25 : decode cX9_slicesOf 25 = .ok (.aload_n 0, 1) := by decide +kernel
theorem dX9_slicesOf_26 : decode cX9_slicesOf 26 = .ok (.getfield 132, 3) := by decide +kernel
theorem dX9_slicesOf_29 : decode cX9_slicesOf 29 = .ok (.aload_n 0, 1) := by decide +kernel
theorem dX9_slicesOf_30 : decode cX9_slicesOf 30 = .ok (.getfield 124, 3) := by decide +kernel
theorem dX9_slicesOf_33 : decode cX9_slicesOf 33 = .ok (.lcmp, 1) := by decide +kernel
theorem dX9_slicesOf_34 : decode cX9_slicesOf 34 = .ok (.ifCond .le 17, 3) := by decide +kernel
theorem dX9_slicesOf_37 : decode cX9_slicesOf 37 = .ok (.goto 10, 3) := by decide +kernel
theorem dX9_slicesOf_40 : decode cX9_slicesOf 40 = .ok (.aload_n 0, 1) := by decide +kernel
theorem dX9_slicesOf_41 : decode cX9_slicesOf 41 = .ok (.getfield 114, 3) := by decide +kernel
theorem dX9_slicesOf_44 : decode cX9_slicesOf 44 = .ok (.ifCond .ge 7, 3) := by decide +kernel
theorem dX9_slicesOf_47 : decode cX9_slicesOf 47 = .ok (.iconst 1, 1) := by decide +kernel
theorem dX9_slicesOf_48 : decode cX9_slicesOf 48 = .ok (.goto 4, 3) := by decide +kernel
theorem dX9_slicesOf_51 : decode cX9_slicesOf 51 = .ok (.iconst 0, 1) := by decide +kernel
theorem dX9_slicesOf_52 : decode cX9_slicesOf 52 = .ok (.iadd, 1) := by decide +kernel
theorem dX9_slicesOf_53 : decode cX9_slicesOf 53 = .ok (.istore_n 2, 1) := by decide +kernel
theorem dX9_slicesOf_54 : decode cX9_slicesOf 54 = .ok (.iinc 3 1, 3) := by decide +kernel
theorem dX9_slicesOf_57 : decode cX9_slicesOf 57 = .ok (.goto (-50), 3) := by decide +kernel
theorem dX9_slicesOf_60 : decode cX9_slicesOf 60 = .ok (.iload_n 2, 1) := by decide +kernel
theorem dX9_slicesOf_61 : decode cX9_slicesOf 61 = .ok (.ireturn, 1) := by decide +kernel
set_option maxHeartbeats 4000000 in
theorem t_X9_slicesOf_52 {X : sj_X} {s0 : sj_Mem} {N : Nat} {q : Int × sj_Mem} {k7 : Nat → Int → Int → Int → sj_Mem → Option (Int × sj_Mem)} (hk7 : ∀ (a0 : Nat) (x1 : Int) (x2 : Int) (x3 : Int) (s : sj_Mem), k7 a0 x1 x2 x3 s = some q → sj_T X m_X9_slicesOf s0 (some (sj_i q.1), q.2) 7 [some (sj_r (some a0)), some (sj_i x1), some (sj_i x2), some (sj_i x3)] [] s) :
    ∀ (a0 : Nat) (x1 : Int) (x3 : Int) (y0 : Int) (y1 : Int) (s : sj_Mem), f_X9_slicesOf_52 N k7 a0 x1 x3 y0 y1 s = some q → sj_T X m_X9_slicesOf s0 (some (sj_i q.1), q.2) 52 [some (sj_r (some a0)), some (sj_i x1), none, some (sj_i x3)] [(sj_i y0), (sj_i y1)] s := by
  intro a0 x1 x3 y0 y1 s h
  unfold f_X9_slicesOf_52 at h
  refine r_iadd (pc := 52) dX9_slicesOf_52 ?_
  refine r_istore_nL (ln := fun w => [some (sj_r (some a0)), some (sj_i x1), some (sj_i w), some (sj_i x3)]) (pc := 53) h dX9_slicesOf_53 rfl (Nat.le_of_ble_eq_true rfl) (fun _ => rfl) (fun v1 h => ?_)
  refine r_iinc (ln := fun w => [some (sj_r (some a0)), some (sj_i x1), some (sj_i v1), some (sj_i w)]) (pc := 54) h dX9_slicesOf_54 rfl (Nat.le_of_ble_eq_true rfl) (fun _ => rfl) (fun v2 h => ?_)
  refine r_goto (pc := 57) (tgt := 7) dX9_slicesOf_57 (by decide) ?_
  exact sj_weak (l2 := [some (sj_r (some a0)), some (sj_i x1), some (sj_i v1), some (sj_i v2)]) (⟨rfl, ⟨rfl, ⟨rfl, ⟨rfl, trivial⟩⟩⟩⟩) (hk7 a0 x1 v1 v2 s h)
set_option maxHeartbeats 4000000 in
theorem t_X9_slicesOf_47 {X : sj_X} {s0 : sj_Mem} {N : Nat} {q : Int × sj_Mem} {k7 : Nat → Int → Int → Int → sj_Mem → Option (Int × sj_Mem)} (hk7 : ∀ (a0 : Nat) (x1 : Int) (x2 : Int) (x3 : Int) (s : sj_Mem), k7 a0 x1 x2 x3 s = some q → sj_T X m_X9_slicesOf s0 (some (sj_i q.1), q.2) 7 [some (sj_r (some a0)), some (sj_i x1), some (sj_i x2), some (sj_i x3)] [] s) :
    ∀ (a0 : Nat) (x1 : Int) (x3 : Int) (y0 : Int) (s : sj_Mem), f_X9_slicesOf_47 N k7 a0 x1 x3 y0 s = some q → sj_T X m_X9_slicesOf s0 (some (sj_i q.1), q.2) 47 [some (sj_r (some a0)), some (sj_i x1), none, some (sj_i x3)] [(sj_i y0)] s := by
  intro a0 x1 x3 y0 s h
  unfold f_X9_slicesOf_47 at h
  refine r_iconst (pc := 47) dX9_slicesOf_47 ?_
  refine r_goto (pc := 48) (tgt := 52) dX9_slicesOf_48 (by decide) ?_
  exact sj_weak (l2 := [some (sj_r (some a0)), some (sj_i x1), none, some (sj_i x3)]) (⟨rfl, ⟨rfl, ⟨rfl, trivial⟩⟩⟩) (t_X9_slicesOf_52 hk7 a0 x1 x3 1 y0 s h)
set_option maxHeartbeats 4000000 in
theorem t_X9_slicesOf_51 {X : sj_X} {s0 : sj_Mem} {N : Nat} {q : Int × sj_Mem} {k7 : Nat → Int → Int → Int → sj_Mem → Option (Int × sj_Mem)} (hk7 : ∀ (a0 : Nat) (x1 : Int) (x2 : Int) (x3 : Int) (s : sj_Mem), k7 a0 x1 x2 x3 s = some q → sj_T X m_X9_slicesOf s0 (some (sj_i q.1), q.2) 7 [some (sj_r (some a0)), some (sj_i x1), some (sj_i x2), some (sj_i x3)] [] s) :
    ∀ (a0 : Nat) (x1 : Int) (x3 : Int) (y0 : Int) (s : sj_Mem), f_X9_slicesOf_51 N k7 a0 x1 x3 y0 s = some q → sj_T X m_X9_slicesOf s0 (some (sj_i q.1), q.2) 51 [some (sj_r (some a0)), some (sj_i x1), none, some (sj_i x3)] [(sj_i y0)] s := by
  intro a0 x1 x3 y0 s h
  unfold f_X9_slicesOf_51 at h
  refine r_iconst (pc := 51) dX9_slicesOf_51 ?_
  exact sj_weak (l2 := [some (sj_r (some a0)), some (sj_i x1), none, some (sj_i x3)]) (⟨rfl, ⟨rfl, ⟨rfl, trivial⟩⟩⟩) (t_X9_slicesOf_52 hk7 a0 x1 x3 0 y0 s h)
set_option maxHeartbeats 4000000 in
theorem t_X9_slicesOf_7_b {X : sj_X} {s0 : sj_Mem} {N : Nat} {q : Int × sj_Mem} {k7 : Nat → Int → Int → Int → sj_Mem → Option (Int × sj_Mem)} (hk7 : ∀ (a0 : Nat) (x1 : Int) (x2 : Int) (x3 : Int) (s : sj_Mem), k7 a0 x1 x2 x3 s = some q → sj_T X m_X9_slicesOf s0 (some (sj_i q.1), q.2) 7 [some (sj_r (some a0)), some (sj_i x1), some (sj_i x2), some (sj_i x3)] [] s) :
    ∀ (a0 : Nat) (x1 : Int) (x2 : Int) (x3 : Int) (s : sj_Mem), f_X9_slicesOf_7_b N k7 a0 x1 x2 x3 s = some q → sj_T X m_X9_slicesOf s0 (some (sj_i q.1), q.2) 7 [some (sj_r (some a0)), some (sj_i x1), some (sj_i x2), some (sj_i x3)] [] s := by
  intro a0 x1 x2 x3 s h
  unfold f_X9_slicesOf_7_b at h
  refine r_iload_n (pc := 7) dX9_slicesOf_7 rfl rfl ?_
  refine r_aload_n (pc := 8) dX9_slicesOf_8 rfl rfl ?_
  refine r_gI (pc := 9) h dX9_slicesOf_9 fw_X9_150 rfl (fun v1 h => ?_)
  refine r_icmp_ge (pc := 12) (tgt := 60) h dX9_slicesOf_12 (by decide) (fun h => ?_) (fun h => ?_)
  · refine r_iload_n (pc := 60) dX9_slicesOf_60 rfl rfl ?_
    exact r_iret (pc := 61) h rfl dX9_slicesOf_61
  · refine r_aload_n (pc := 15) dX9_slicesOf_15 rfl rfl ?_
    refine r_iload_n (pc := 16) dX9_slicesOf_16 rfl rfl ?_
    refine r_callV (pc := 17) (fun _ => none) (As := [sj_i x3]) (rest := []) h dX9_slicesOf_17 mw_X9_168 vw_X9_laysAt (fun _ _ hc => c_X9_laysAt hc) rfl ⟨(Nat.le_of_ble_eq_true rfl), (Nat.le_of_ble_eq_true rfl)⟩ (Nat.le_of_ble_eq_true rfl) rfl (fun _u s2 h => ?_)
    refine r_iload_n (pc := 20) dX9_slicesOf_20 rfl rfl ?_
    refine r_iload_n (pc := 21) dX9_slicesOf_21 rfl rfl ?_
    refine r_if_eq (pc := 22) (tgt := 40) h dX9_slicesOf_22 (by decide) (fun h => ?_) (fun h => ?_)
    · refine r_aload_n (pc := 40) dX9_slicesOf_40 rfl rfl ?_
      refine r_gI (pc := 41) h dX9_slicesOf_41 fw_X9_114 rfl (fun v3 h => ?_)
      refine r_if_ge (pc := 44) (tgt := 51) h dX9_slicesOf_44 (by decide) (fun h => ?_) (fun h => ?_)
      · exact sj_weak (l2 := [some (sj_r (some a0)), some (sj_i x1), none, some (sj_i x3)]) (⟨rfl, ⟨rfl, ⟨rfl, trivial⟩⟩⟩) (t_X9_slicesOf_51 hk7 a0 x1 x3 x2 s2 h)
      · exact sj_weak (l2 := [some (sj_r (some a0)), some (sj_i x1), none, some (sj_i x3)]) (⟨rfl, ⟨rfl, ⟨rfl, trivial⟩⟩⟩) (t_X9_slicesOf_47 hk7 a0 x1 x3 x2 s2 h)
    · refine r_aload_n (pc := 25) dX9_slicesOf_25 rfl rfl ?_
      refine r_gJ (pc := 26) h dX9_slicesOf_26 fw_X9_132 rfl (fun v4 h => ?_)
      refine r_aload_n (pc := 29) dX9_slicesOf_29 rfl rfl ?_
      refine r_gJ (pc := 30) h dX9_slicesOf_30 fw_X9_124 rfl (fun v5 h => ?_)
      refine r_lle (pc := 33) (tgt := 51) h dX9_slicesOf_33 rfl dX9_slicesOf_34 (by decide) (fun h => ?_) (fun h => ?_)
      · exact sj_weak (l2 := [some (sj_r (some a0)), some (sj_i x1), none, some (sj_i x3)]) (⟨rfl, ⟨rfl, ⟨rfl, trivial⟩⟩⟩) (t_X9_slicesOf_51 hk7 a0 x1 x3 x2 s2 h)
      · refine r_goto (pc := 37) (tgt := 47) dX9_slicesOf_37 (by decide) ?_
        exact sj_weak (l2 := [some (sj_r (some a0)), some (sj_i x1), none, some (sj_i x3)]) (⟨rfl, ⟨rfl, ⟨rfl, trivial⟩⟩⟩) (t_X9_slicesOf_47 hk7 a0 x1 x3 x2 s2 h)
set_option maxHeartbeats 4000000 in
theorem t_X9_slicesOf_7 {X : sj_X} {s0 : sj_Mem} {N : Nat} {q : Int × sj_Mem} :
    ∀ (n : Nat) (a0 : Nat) (x1 : Int) (x2 : Int) (x3 : Int) (s : sj_Mem), f_X9_slicesOf_7 N n a0 x1 x2 x3 s = some q → sj_T X m_X9_slicesOf s0 (some (sj_i q.1), q.2) 7 [some (sj_r (some a0)), some (sj_i x1), some (sj_i x2), some (sj_i x3)] [] s := by
  intro n
  induction n with
  | zero => intro a0 x1 x2 x3 s h; exact nomatch h
  | succ n ih => intro a0 x1 x2 x3 s h; exact t_X9_slicesOf_7_b (N := N) ih a0 x1 x2 x3 s h
set_option maxHeartbeats 4000000 in
theorem t_X9_slicesOf_0 {X : sj_X} {s0 : sj_Mem} {N : Nat} {q : Int × sj_Mem} :
    ∀ (a0 : Nat) (x1 : Int) (s : sj_Mem), f_X9_slicesOf N a0 x1 s = some q → sj_T X m_X9_slicesOf s0 (some (sj_i q.1), q.2) 0 [some (sj_r (some a0)), some (sj_i x1), none, none] [] s := by
  intro a0 x1 s h
  unfold f_X9_slicesOf at h
  refine r_iconst (pc := 0) dX9_slicesOf_0 ?_
  refine r_istore_n (ln := [some (sj_r (some a0)), some (sj_i x1), some (sj_i 0), none]) (pc := 1) dX9_slicesOf_1 rfl (Nat.le_of_ble_eq_true rfl) rfl ?_
  refine r_aload_n (pc := 2) dX9_slicesOf_2 rfl rfl ?_
  refine r_gI (pc := 3) h dX9_slicesOf_3 fw_X9_22 rfl (fun v1 h => ?_)
  refine r_istore_n (ln := [some (sj_r (some a0)), some (sj_i x1), some (sj_i 0), some (sj_i v1)]) (pc := 6) dX9_slicesOf_6 rfl (Nat.le_of_ble_eq_true rfl) rfl ?_
  exact sj_weak (l2 := [some (sj_r (some a0)), some (sj_i x1), some (sj_i 0), some (sj_i v1)]) (⟨rfl, ⟨rfl, ⟨rfl, ⟨rfl, trivial⟩⟩⟩⟩) (t_X9_slicesOf_7 N a0 x1 0 v1 s h)
set_option maxHeartbeats 4000000 in
theorem c_X9_slicesOf {X : sj_X} {N : Nat} {a0 : Nat} {x1 : Int} {s : sj_Mem} {q : Int × sj_Mem} (h : f_X9_slicesOf N a0 x1 s = some q) : sj_C X m_X9_slicesOf [sj_r (some a0), sj_i x1] s (some (sj_i q.1), q.2) :=
  sj_C_of (by decide +kernel) (Nat.le_of_ble_eq_true rfl) (lo := [some (sj_r (some a0)), some (sj_i x1), none, none]) rfl (sj_weak (l2 := [some (sj_r (some a0)), some (sj_i x1), none, none]) (⟨rfl, ⟨rfl, trivial⟩⟩) (t_X9_slicesOf_0 a0 x1 s h))
