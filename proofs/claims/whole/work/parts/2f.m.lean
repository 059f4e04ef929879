theorem dX9_highest_0 : decode cX9_highest 0 = .ok (.iconst 0, 1) := by decide +kernel
theorem dX9_highest_1 : decode cX9_highest 1 = .ok (.istore_n 1, 1) := by decide +kernel
theorem dX9_highest_2 : decode cX9_highest 2 = .ok (.iconst 0, 1) := by decide +kernel
theorem dX9_highest_3 : decode cX9_highest 3 = .ok (.istore_n 2, 1) := by decide +kernel
theorem dX9_highest_4 : decode cX9_highest 4 = .ok (.iload_n 2, 1) := by decide +kernel
theorem dX9_highest_5 : decode cX9_highest 5 = .ok (.aload_n 0, 1) := by decide +kernel
theorem dX9_highest_6 : decode cX9_highest 6 = .ok (.getfield 9, 3) := by decide +kernel
theorem dX9_highest_9 : decode cX9_highest 9 = .ok (.iconst 0, 1) := by decide +kernel
theorem dX9_highest_10 : decode cX9_highest 10 = .ok (.iaload, 1) := by decide +kernel
theorem dX9_highest_11 : decode cX9_highest 11 = .ok (.if_icmp .gt 22, 3) := by decide +kernel
theorem dX9_highest_14 : decode cX9_highest 14 = .ok (.iload_n 1, 1) := by decide +kernel
theorem dX9_highest_15 : decode cX9_highest 15 = .ok (.aload_n 0, 1) := by decide +kernel
theorem dX9_highest_16 : decode cX9_highest 16 = .ok (.getfield 9, 3) := by decide +kernel
theorem dX9_highest_19 : decode cX9_highest 19 = .ok (.iconst 3, 1) := by decide +kernel
theorem dX9_highest_20 : decode cX9_highest 20 = .ok (.iload_n 2, 1) := by decide +kernel
theorem dX9_highest_21 : decode cX9_highest 21 = .ok (.iadd, 1) := by decide +kernel
theorem dX9_highest_22 : decode cX9_highest 22 = .ok (.iaload, 1) := by decide +kernel
theorem dX9_highest_23 : decode cX9_highest 23 = .ok (.invokestatic 111, 3) := by decide +kernel
theorem dX9_highest_26 : decode cX9_highest 26 = .ok (.istore_n 1, 1) := by decide +kernel
theorem dX9_highest_27 : decode cX9_highest 27 = .ok (.iinc 2 1, 3) := by decide +kernel
theorem dX9_highest_30 : decode cX9_highest 30 = .ok (.goto (-26), 3) := by decide +kernel
theorem dX9_highest_33 : decode cX9_highest 33 = .ok (.iload_n 1, 1) := by decide +kernel
theorem dX9_highest_34 : decode cX9_highest 34 = .ok (.ireturn, 1) := by decide +kernel
set_option maxHeartbeats 4000000 in
theorem st_X9_highest_4_b {X : sj_X} {g : sj_G} {s0 : sj_Mem} {N : Nat} {q : Int × sj_VV} {k4 : Nat → Int → Int → sj_VV → Option (Int × sj_VV)} (hk4 : ∀ (a0 : Nat) (x1 : Int) (x2 : Int) (V : sj_VV), OK9 g a0 → k4 a0 x1 x2 V = some q → sj_T X m_X9_highest s0 (some (sj_i q.1), (g, q.2)) 4 [some (sj_r (some a0)), some (sj_i x1), some (sj_i x2)] [] (g, V)) :
    ∀ (a0 : Nat) (x1 : Int) (x2 : Int) (V : sj_VV), OK9 g a0 → g_X9_highest_4_b N k4 a0 x1 x2 V = some q → sj_T X m_X9_highest s0 (some (sj_i q.1), (g, q.2)) 4 [some (sj_r (some a0)), some (sj_i x1), some (sj_i x2)] [] (g, V) := by
  intro a0 x1 x2 V ha0 h
  unfold g_X9_highest_4_b at h
  refine r_iload_n (pc := 4) dX9_highest_4 rfl rfl ?_
  refine r_aload_n (pc := 5) dX9_highest_5 rfl rfl ?_
  refine r_gRs (b := a0 + 1) (pc := 6) dX9_highest_6 fw_X9_9 rfl (ok9 ha0) (ok9_0 ha0).1 ?_
  refine r_iconst (pc := 9) dX9_highest_9 ?_
  refine r_ialoads (pc := 10) h dX9_highest_10 (ok9_0 ha0).2 (fun h => ?_)
  refine r_icmp_gt (pc := 11) (tgt := 33) h dX9_highest_11 (by decide) (fun h => ?_) (fun h => ?_)
  · refine r_iload_n (pc := 33) dX9_highest_33 rfl rfl ?_
    exact r_irets (pc := 34) h rfl dX9_highest_34
  · refine r_iload_n (pc := 14) dX9_highest_14 rfl rfl ?_
    refine r_aload_n (pc := 15) dX9_highest_15 rfl rfl ?_
    refine r_gRs (b := a0 + 1) (pc := 16) dX9_highest_16 fw_X9_9 rfl (ok9 ha0) (ok9_0 ha0).1 ?_
    refine r_iconst (pc := 19) dX9_highest_19 ?_
    refine r_iload_n (pc := 20) dX9_highest_20 rfl rfl ?_
    refine r_iadd (pc := 21) dX9_highest_21 ?_
    refine r_ialoads (pc := 22) h dX9_highest_22 (ok9_0 ha0).2 (fun h => ?_)
    refine r_callSs (pc := 23) (fun v => some (sj_i v)) (As := [sj_i x1, sj_i (V (a0 + 1) (3 + x2).toNat)]) (rest := []) h dX9_highest_23 mw_X9_111 kw_1300 (fun _ _ hc => cg_X9_most  hc) rfl ⟨(Nat.le_of_ble_eq_true rfl), (Nat.le_of_ble_eq_true rfl)⟩ (Nat.le_of_ble_eq_true rfl) rfl (fun v2 V1 h => ?_)
    refine r_istore_n (ln := [some (sj_r (some a0)), some (sj_i v2), some (sj_i x2)]) (pc := 26) dX9_highest_26 rfl (Nat.le_of_ble_eq_true rfl) rfl ?_
    refine r_iinc (ln := fun w => [some (sj_r (some a0)), some (sj_i v2), some (sj_i w)]) (pc := 27) h dX9_highest_27 rfl (Nat.le_of_ble_eq_true rfl) (fun _ => rfl) (fun v3 h => ?_)
    refine r_goto (pc := 30) (tgt := 4) dX9_highest_30 (by decide) ?_
    exact sj_weak (l2 := [some (sj_r (some a0)), some (sj_i v2), some (sj_i v3)]) (⟨rfl, ⟨rfl, ⟨rfl, trivial⟩⟩⟩) (hk4 a0 v2 v3 V1 ha0 h)
set_option maxHeartbeats 4000000 in
theorem st_X9_highest_4 {X : sj_X} {g : sj_G} {s0 : sj_Mem} {N : Nat} {q : Int × sj_VV} :
    ∀ (n : Nat) (a0 : Nat) (x1 : Int) (x2 : Int) (V : sj_VV), OK9 g a0 → g_X9_highest_4 N n a0 x1 x2 V = some q → sj_T X m_X9_highest s0 (some (sj_i q.1), (g, q.2)) 4 [some (sj_r (some a0)), some (sj_i x1), some (sj_i x2)] [] (g, V) := by
  intro n
  induction n with
  | zero => intro a0 x1 x2 V ha0 h; exact nomatch h
  | succ n ih => intro a0 x1 x2 V ha0 h; exact st_X9_highest_4_b (N := N) ih a0 x1 x2 V ha0 h
set_option maxHeartbeats 4000000 in
theorem st_X9_highest_0 {X : sj_X} {g : sj_G} {s0 : sj_Mem} {N : Nat} {q : Int × sj_VV} :
    ∀ (a0 : Nat) (V : sj_VV), OK9 g a0 → g_X9_highest N a0 V = some q → sj_T X m_X9_highest s0 (some (sj_i q.1), (g, q.2)) 0 [some (sj_r (some a0)), none, none] [] (g, V) := by
  intro a0 V ha0 h
  unfold g_X9_highest at h
  refine r_iconst (pc := 0) dX9_highest_0 ?_
  refine r_istore_n (ln := [some (sj_r (some a0)), some (sj_i 0), none]) (pc := 1) dX9_highest_1 rfl (Nat.le_of_ble_eq_true rfl) rfl ?_
  refine r_iconst (pc := 2) dX9_highest_2 ?_
  refine r_istore_n (ln := [some (sj_r (some a0)), some (sj_i 0), some (sj_i 0)]) (pc := 3) dX9_highest_3 rfl (Nat.le_of_ble_eq_true rfl) rfl ?_
  exact sj_weak (l2 := [some (sj_r (some a0)), some (sj_i 0), some (sj_i 0)]) (⟨rfl, ⟨rfl, ⟨rfl, trivial⟩⟩⟩) (st_X9_highest_4 N a0 0 0 V ha0 h)
set_option maxHeartbeats 4000000 in
theorem cg_X9_highest {X : sj_X} {g : sj_G} {N : Nat} {a0 : Nat} {V : sj_VV} {q : Int × sj_VV} (ha0 : OK9 g a0) (h : g_X9_highest N a0 V = some q) : sj_C X m_X9_highest [sj_r (some a0)] (g, V) (some (sj_i q.1), (g, q.2)) :=
  sj_C_of (by decide +kernel) (Nat.le_of_ble_eq_true rfl) (lo := [some (sj_r (some a0)), none, none]) rfl (sj_weak (l2 := [some (sj_r (some a0)), none, none]) (⟨rfl, trivial⟩) (st_X9_highest_0 a0 V ha0 h))
set_option maxHeartbeats 4000000 in
theorem c_X9_highest {X : sj_X} {N : Nat} {a0 : Nat} {s : sj_Mem} {q : Int × sj_Mem} (h : f_X9_highest N a0 s = some q) : sj_C X m_X9_highest [sj_r (some a0)] s (some (sj_i q.1), q.2) := by
  obtain ⟨g, V⟩ := s
  unfold f_X9_highest at h
  obtain ⟨ho, h1⟩ := e_ok_some h
  obtain ⟨q2, h2, rfl⟩ := sj_map_some h1
  exact cg_X9_highest ho h2
theorem dX9_hasSlip_0 : decode cX9_hasSlip 0 = .ok (.aload_n 0, 1) := by decide +kernel
theorem dX9_hasSlip_1 : decode cX9_hasSlip 1 = .ok (.getfield 9, 3) := by decide +kernel
theorem dX9_hasSlip_4 : decode cX9_hasSlip 4 = .ok (.sipush 320, 3) := by decide +kernel
theorem dX9_hasSlip_7 : decode cX9_hasSlip 7 = .ok (.iaload, 1) := by decide +kernel
theorem dX9_hasSlip_8 : decode cX9_hasSlip 8 = .ok (.iconst (-1), 1) := by decide +kernel
theorem dX9_hasSlip_9 : decode cX9_hasSlip 9 = .ok (.if_icmp .eq 7, 3) := by decide +kernel
theorem dX9_hasSlip_12 : decode cX9_hasSlip 12 = .ok (.iconst 1, 1) := by decide +kernel
theorem dX9_hasSlip_13 : decode cX9_hasSlip 13 = .ok (.goto 4, 3) := by decide +kernel
theorem dX9_hasSlip_16 : decode cX9_hasSlip 16 = .ok (.iconst 0, 1) := by decide +kernel
theorem dX9_hasSlip_17 : decode cX9_hasSlip 17 = .ok (.ireturn, 1) := by decide +kernel
set_option maxHeartbeats 4000000 in
theorem st_X9_hasSlip_0 {X : sj_X} {g : sj_G} {s0 : sj_Mem} {N : Nat} {q : Int × sj_VV} :
    ∀ (a0 : Nat) (V : sj_VV), OK9 g a0 → g_X9_hasSlip N a0 V = some q → sj_T X m_X9_hasSlip s0 (some (sj_i q.1), (g, q.2)) 0 [some (sj_r (some a0))] [] (g, V) := by
  intro a0 V ha0 h
  unfold g_X9_hasSlip at h
  refine r_aload_n (pc := 0) dX9_hasSlip_0 rfl rfl ?_
  refine r_gRs (b := a0 + 1) (pc := 1) dX9_hasSlip_1 fw_X9_9 rfl (ok9 ha0) (ok9_0 ha0).1 ?_
  refine r_sipush (pc := 4) dX9_hasSlip_4 ⟨by decide, by decide⟩ ?_
  refine r_ialoads (pc := 7) h dX9_hasSlip_7 (ok9_0 ha0).2 (fun h => ?_)
  refine r_iconst (pc := 8) dX9_hasSlip_8 ?_
  refine r_icmp_eq (pc := 9) (tgt := 16) h dX9_hasSlip_9 (by decide) (fun h => ?_) (fun h => ?_)
  · refine r_iconst (pc := 16) dX9_hasSlip_16 ?_
    exact r_zrets (pc := 17) h rfl dX9_hasSlip_17
  · refine r_iconst (pc := 12) dX9_hasSlip_12 ?_
    refine r_goto (pc := 13) (tgt := 17) dX9_hasSlip_13 (by decide) ?_
    exact r_zrets (pc := 17) h rfl dX9_hasSlip_17
set_option maxHeartbeats 4000000 in
theorem cg_X9_hasSlip {X : sj_X} {g : sj_G} {N : Nat} {a0 : Nat} {V : sj_VV} {q : Int × sj_VV} (ha0 : OK9 g a0) (h : g_X9_hasSlip N a0 V = some q) : sj_C X m_X9_hasSlip [sj_r (some a0)] (g, V) (some (sj_i q.1), (g, q.2)) :=
  sj_C_of (by decide +kernel) (Nat.le_of_ble_eq_true rfl) (lo := [some (sj_r (some a0))]) rfl (sj_weak (l2 := [some (sj_r (some a0))]) (⟨rfl, trivial⟩) (st_X9_hasSlip_0 a0 V ha0 h))
set_option maxHeartbeats 4000000 in
theorem c_X9_hasSlip {X : sj_X} {N : Nat} {a0 : Nat} {s : sj_Mem} {q : Int × sj_Mem} (h : f_X9_hasSlip N a0 s = some q) : sj_C X m_X9_hasSlip [sj_r (some a0)] s (some (sj_i q.1), q.2) := by
  obtain ⟨g, V⟩ := s
  unfold f_X9_hasSlip at h
  obtain ⟨ho, h1⟩ := e_ok_some h
  obtain ⟨q2, h2, rfl⟩ := sj_map_some h1
  exact cg_X9_hasSlip ho h2
theorem dX9_isIn_0 : decode cX9_isIn 0 = .ok (.lload_n 0, 1) := by decide +kernel
theorem dX9_isIn_1 : decode cX9_isIn 1 = .ok (.lload_n 2, 1) := by decide +kernel
theorem dX9_isIn_2 : decode cX9_isIn 2 = .ok (.lcmp, 1) := by decide +kernel
theorem dX9_isIn_3 : decode cX9_isIn 3 = .ok (.ifCond .lt 14, 3) := by decide +kernel
theorem dX9_isIn_6 : decode cX9_isIn 6 = .ok (.lload_n 0, 1) := by decide +kernel
theorem dX9_isIn_7 : decode cX9_isIn 7 = .ok (.lload 4, 2) := by decide +kernel
theorem dX9_isIn_9 : decode cX9_isIn 9 = .ok (.lcmp, 1) := by decide +kernel
theorem dX9_isIn_10 : decode cX9_isIn 10 = .ok (.ifCond .gt 7, 3) := by decide +kernel
theorem dX9_isIn_13 : decode cX9_isIn 13 = .ok (.iconst 1, 1) := by decide +kernel
theorem dX9_isIn_14 : decode cX9_isIn 14 = .ok (.goto 4, 3) := by decide +kernel
theorem dX9_isIn_17 : decode cX9_isIn 17 = .ok (.iconst 0, 1) := by decide +kernel
theorem dX9_isIn_18 : decode cX9_isIn 18 = .ok (.ireturn, 1) := by decide +kernel
set_option maxHeartbeats 4000000 in
theorem st_X9_isIn_0 {X : sj_X} {g : sj_G} {s0 : sj_Mem} {N : Nat} {q : Int × sj_VV} :
    ∀ (x0 : Int) (x2 : Int) (x4 : Int) (V : sj_VV), g_X9_isIn N x0 x2 x4 V = some q → sj_T X m_X9_isIn s0 (some (sj_i q.1), (g, q.2)) 0 [some (sj_j x0), none, some (sj_j x2), none, some (sj_j x4), none] [] (g, V) := by
  intro x0 x2 x4 V  h
  unfold g_X9_isIn at h
  refine r_lload_n (pc := 0) dX9_isIn_0 rfl rfl ?_
  refine r_lload_n (pc := 1) dX9_isIn_1 rfl rfl ?_
  refine r_llt (pc := 2) (tgt := 17) h dX9_isIn_2 rfl dX9_isIn_3 (by decide) (fun h => ?_) (fun h => ?_)
  · refine r_iconst (pc := 17) dX9_isIn_17 ?_
    exact r_zrets (pc := 18) h rfl dX9_isIn_18
  · refine r_lload_n (pc := 6) dX9_isIn_6 rfl rfl ?_
    refine r_lload (pc := 7) dX9_isIn_7 rfl ?_
    refine r_lgt (pc := 9) (tgt := 17) h dX9_isIn_9 rfl dX9_isIn_10 (by decide) (fun h => ?_) (fun h => ?_)
    · refine r_iconst (pc := 17) dX9_isIn_17 ?_
      exact r_zrets (pc := 18) h rfl dX9_isIn_18
    · refine r_iconst (pc := 13) dX9_isIn_13 ?_
      refine r_goto (pc := 14) (tgt := 18) dX9_isIn_14 (by decide) ?_
      exact r_zrets (pc := 18) h rfl dX9_isIn_18
set_option maxHeartbeats 4000000 in
theorem cg_X9_isIn {X : sj_X} {g : sj_G} {N : Nat} {x0 : Int} {x2 : Int} {x4 : Int} {V : sj_VV} {q : Int × sj_VV} (h : g_X9_isIn N x0 x2 x4 V = some q) : sj_C X m_X9_isIn [sj_j x0, sj_j x2, sj_j x4] (g, V) (some (sj_i q.1), (g, q.2)) :=
  sj_C_of (by decide +kernel) (Nat.le_of_ble_eq_true rfl) (lo := [some (sj_j x0), none, some (sj_j x2), none, some (sj_j x4), none]) rfl (sj_weak (l2 := [some (sj_j x0), none, some (sj_j x2), none, some (sj_j x4), none]) (⟨rfl, ⟨rfl, ⟨rfl, trivial⟩⟩⟩) (st_X9_isIn_0 x0 x2 x4 V h))
set_option maxHeartbeats 4000000 in
theorem c_X9_isIn {X : sj_X} {N : Nat} {x0 : Int} {x2 : Int} {x4 : Int} {s : sj_Mem} {q : Int × sj_Mem} (h : f_X9_isIn N x0 x2 x4 s = some q) : sj_C X m_X9_isIn [sj_j x0, sj_j x2, sj_j x4] s (some (sj_i q.1), q.2) := by
  obtain ⟨g, V⟩ := s
  unfold f_X9_isIn at h
  obtain ⟨ho, h1⟩ := e_ok_some h
  obtain ⟨q2, h2, rfl⟩ := sj_map_some h1
  exact cg_X9_isIn  h2
theorem dX9_isAnchor_0 : decode cX9_isAnchor 0 = .ok (.iload_n 1, 1) := by decide +kernel
theorem dX9_isAnchor_1 : decode cX9_isAnchor 1 = .ok (.i2l, 1) := by decide +kernel
theorem dX9_isAnchor_2 : decode cX9_isAnchor 2 = .ok (.lconst 0, 1) := by decide +kernel
theorem dX9_isAnchor_3 : decode cX9_isAnchor 3 = .ok (.ldc2_w 78, 3) := by decide +kernel
theorem dX9_isAnchor_6 : decode cX9_isAnchor 6 = .ok (.invokestatic 57, 3) := by decide +kernel
theorem dX9_isAnchor_9 : decode cX9_isAnchor 9 = .ok (.ifCond .eq 24, 3) := by decide +kernel
theorem dX9_isAnchor_12 : decode cX9_isAnchor 12 = .ok (.aload_n 0, 1) := by decide +kernel
theorem dX9_isAnchor_13 : decode cX9_isAnchor 13 = .ok (.getfield 9, 3) := by decide +kernel
theorem dX9_isAnchor_16 : decode cX9_isAnchor 16 = .ok (.sipush 302, 3) := by decide +kernel
theorem dX9_isAnchor_19 : decode cX9_isAnchor 19 = .ok (.iconst 3, 1) := by decide +kernel
theorem dX9_isAnchor_20 : decode cX9_isAnchor 20 = .ok (.iload_n 1, 1) := by decide +kernel
theorem dX9_isAnchor_21 : decode cX9_isAnchor 21 = .ok (.imul, 1) := by decide +kernel
theorem dX9_isAnchor_22 : decode cX9_isAnchor 22 = .ok (.iadd, 1) := by decide +kernel
theorem dX9_isAnchor_23 : decode cX9_isAnchor 23 = .ok (.iconst 2, 1) := by decide +kernel
theorem dX9_isAnchor_24 : decode cX9_isAnchor 24 = .ok (.iadd, 1) := by decide +kernel
theorem dX9_isAnchor_25 : decode cX9_isAnchor 25 = .ok (.iaload, 1) := by decide +kernel
theorem dX9_isAnchor_26 : decode cX9_isAnchor 26 = .ok (.ifCond .le 7, 3) := by decide +kernel
theorem dX9_isAnchor_29 : decode cX9_isAnchor 29 = .ok (.iconst 1, 1) := by decide +kernel
theorem dX9_isAnchor_30 : decode cX9_isAnchor 30 = .ok (.goto 4, 3) := by decide +kernel
theorem dX9_isAnchor_33 : decode cX9_isAnchor 33 = .ok (.iconst 0, 1) := by decide +kernel
theorem dX9_isAnchor_34 : decode cX9_isAnchor 34 = .ok (.ireturn, 1) := by decide +kernel
set_option maxHeartbeats 4000000 in
theorem st_X9_isAnchor_0 {X : sj_X} {g : sj_G} {s0 : sj_Mem} {N : Nat} {q : Int × sj_VV} :
    ∀ (a0 : Nat) (x1 : Int) (V : sj_VV), OK9 g a0 → g_X9_isAnchor N a0 x1 V = some q → sj_T X m_X9_isAnchor s0 (some (sj_i q.1), (g, q.2)) 0 [some (sj_r (some a0)), some (sj_i x1)] [] (g, V) := by
  intro a0 x1 V ha0 h
  unfold g_X9_isAnchor at h
  refine r_iload_n (pc := 0) dX9_isAnchor_0 rfl rfl ?_
  refine r_i2l (pc := 1) h dX9_isAnchor_1 (fun v1 h => ?_)
  refine r_lconst0 (pc := 2) dX9_isAnchor_2 ?_
  refine r_ldc2 (n := 5) (pc := 3) dX9_isAnchor_3 kc_X9_78 ?_
  refine r_callSs (pc := 6) (fun v => some (sj_i v)) (As := [sj_j v1, sj_j 0, sj_j 5]) (rest := []) h dX9_isAnchor_6 mw_X9_57 kw_1225 (fun _ _ hc => cg_X9_isIn  hc) rfl ⟨(Nat.le_of_ble_eq_true rfl), (Nat.le_of_ble_eq_true rfl)⟩ (Nat.le_of_ble_eq_true rfl) rfl (fun v3 V2 h => ?_)
  refine r_if_eq (pc := 9) (tgt := 33) h dX9_isAnchor_9 (by decide) (fun h => ?_) (fun h => ?_)
  · refine r_iconst (pc := 33) dX9_isAnchor_33 ?_
    exact r_zrets (pc := 34) h rfl dX9_isAnchor_34
  · refine r_aload_n (pc := 12) dX9_isAnchor_12 rfl rfl ?_
    refine r_gRs (b := a0 + 1) (pc := 13) dX9_isAnchor_13 fw_X9_9 rfl (ok9 ha0) (ok9_0 ha0).1 ?_
    refine r_sipush (pc := 16) dX9_isAnchor_16 ⟨by decide, by decide⟩ ?_
    refine r_iconst (pc := 19) dX9_isAnchor_19 ?_
    refine r_iload_n (pc := 20) dX9_isAnchor_20 rfl rfl ?_
    refine r_imul (pc := 21) dX9_isAnchor_21 ?_
    refine r_iadd (pc := 22) dX9_isAnchor_22 ?_
    refine r_iconst (pc := 23) dX9_isAnchor_23 ?_
    refine r_iadd (pc := 24) dX9_isAnchor_24 ?_
    refine r_ialoads (pc := 25) h dX9_isAnchor_25 (ok9_0 ha0).2 (fun h => ?_)
    refine r_if_le (pc := 26) (tgt := 33) h dX9_isAnchor_26 (by decide) (fun h => ?_) (fun h => ?_)
    · refine r_iconst (pc := 33) dX9_isAnchor_33 ?_
      exact r_zrets (pc := 34) h rfl dX9_isAnchor_34
    · refine r_iconst (pc := 29) dX9_isAnchor_29 ?_
      refine r_goto (pc := 30) (tgt := 34) dX9_isAnchor_30 (by decide) ?_
      exact r_zrets (pc := 34) h rfl dX9_isAnchor_34
set_option maxHeartbeats 4000000 in
theorem cg_X9_isAnchor {X : sj_X} {g : sj_G} {N : Nat} {a0 : Nat} {x1 : Int} {V : sj_VV} {q : Int × sj_VV} (ha0 : OK9 g a0) (h : g_X9_isAnchor N a0 x1 V = some q) : sj_C X m_X9_isAnchor [sj_r (some a0), sj_i x1] (g, V) (some (sj_i q.1), (g, q.2)) :=
  sj_C_of (by decide +kernel) (Nat.le_of_ble_eq_true rfl) (lo := [some (sj_r (some a0)), some (sj_i x1)]) rfl (sj_weak (l2 := [some (sj_r (some a0)), some (sj_i x1)]) (⟨rfl, ⟨rfl, trivial⟩⟩) (st_X9_isAnchor_0 a0 x1 V ha0 h))
set_option maxHeartbeats 4000000 in
theorem c_X9_isAnchor {X : sj_X} {N : Nat} {a0 : Nat} {x1 : Int} {s : sj_Mem} {q : Int × sj_Mem} (h : f_X9_isAnchor N a0 x1 s = some q) : sj_C X m_X9_isAnchor [sj_r (some a0), sj_i x1] s (some (sj_i q.1), q.2) := by
  obtain ⟨g, V⟩ := s
  unfold f_X9_isAnchor at h
  obtain ⟨ho, h1⟩ := e_ok_some h
  obtain ⟨q2, h2, rfl⟩ := sj_map_some h1
  exact cg_X9_isAnchor ho h2
theorem dX9_anchorSet_0 : decode cX9_anchorSet 0 = .ok (.iconst 0, 1) := by decide +kernel
theorem dX9_anchorSet_1 : decode cX9_anchorSet 1 = .ok (.istore_n 1, 1) := by decide +kernel
theorem dX9_anchorSet_2 : decode cX9_anchorSet 2 = .ok (.iconst 0, 1) := by decide +kernel
theorem dX9_anchorSet_3 : decode cX9_anchorSet 3 = .ok (.istore_n 2, 1) := by decide +kernel
theorem dX9_anchorSet_4 : decode cX9_anchorSet 4 = .ok (.iload_n 2, 1) := by decide +kernel
theorem dX9_anchorSet_5 : decode cX9_anchorSet 5 = .ok (.bipush 6, 2) := by decide +kernel
theorem dX9_anchorSet_7 : decode cX9_anchorSet 7 = .ok (.if_icmp .ge 27, 3) := by decide +kernel
theorem dX9_anchorSet_10 : decode cX9_anchorSet 10 = .ok (.iload_n 1, 1) := by decide +kernel
theorem dX9_anchorSet_11 : decode cX9_anchorSet 11 = .ok (.aload_n 0, 1) := by decide +kernel
theorem dX9_anchorSet_12 : decode cX9_anchorSet 12 = .ok (.iload_n 2, 1) := by decide +kernel
theorem dX9_anchorSet_13 : decode cX9_anchorSet 13 = .ok (.invokevirtual 410, 3) := by decide +kernel
theorem dX9_anchorSet_16 : decode cX9_anchorSet 16 = .ok (.ifCond .eq 9, 3) := by decide +kernel
theorem dX9_anchorSet_19 : decode cX9_anchorSet 19 = .ok (.iconst 1, 1) := by decide +kernel
theorem dX9_anchorSet_20 : decode cX9_anchorSet 20 = .ok (.iload_n 2, 1) := by decide +kernel
theorem dX9_anchorSet_21 : decode cX9_anchorSet 21 = .ok (.ishl, 1) := by decide +kernel
theorem dX9_anchorSet_22 : decode cX9_anchorSet 22 = .ok (.goto 4, 3) := by decide +kernel
theorem dX9_anchorSet_25 : decode cX9_anchorSet 25 = .ok (.iconst 0, 1) := by decide +kernel
theorem dX9_anchorSet_26 : decode cX9_anchorSet 26 = .ok (.ior, 1) := by decide +kernel
theorem dX9_anchorSet_27 : decode cX9_anchorSet 27 = .ok (.istore_n 1, 1) := by decide +kernel
theorem dX9_anchorSet_28 : decode cX9_anchorSet 28 = .ok (.iinc 2 1, 3) := by decide +kernel
theorem dX9_anchorSet_31 : decode cX9_anchorSet 31 = .ok (.goto (-27), 3) := by decide +kernel
theorem dX9_anchorSet_34 : decode cX9_anchorSet 34 = .ok (.iload_n 1, 1) := by decide +kernel
theorem dX9_anchorSet_35 : decode cX9_anchorSet 35 = .ok (.ireturn, 1) := by decide +kernel
set_option maxHeartbeats 4000000 in
theorem st_X9_anchorSet_26 {X : sj_X} {g : sj_G} {s0 : sj_Mem} {N : Nat} {q : Int × sj_VV} {k4 : Nat → Int → Int → sj_VV → Option (Int × sj_VV)} (hk4 : ∀ (a0 : Nat) (x1 : Int) (x2 : Int) (V : sj_VV), OK9 g a0 → k4 a0 x1 x2 V = some q → sj_T X m_X9_anchorSet s0 (some (sj_i q.1), (g, q.2)) 4 [some (sj_r (some a0)), some (sj_i x1), some (sj_i x2)] [] (g, V)) :
    ∀ (a0 : Nat) (x2 : Int) (y0 : Int) (y1 : Int) (V : sj_VV), OK9 g a0 → g_X9_anchorSet_26 N k4 a0 x2 y0 y1 V = some q → sj_T X m_X9_anchorSet s0 (some (sj_i q.1), (g, q.2)) 26 [some (sj_r (some a0)), none, some (sj_i x2)] [(sj_i y0), (sj_i y1)] (g, V) := by
  intro a0 x2 y0 y1 V ha0 h
  unfold g_X9_anchorSet_26 at h
  refine r_ior (pc := 26) dX9_anchorSet_26 ?_
  refine r_istore_nL (ln := fun w => [some (sj_r (some a0)), some (sj_i w), some (sj_i x2)]) (pc := 27) h dX9_anchorSet_27 rfl (Nat.le_of_ble_eq_true rfl) (fun _ => rfl) (fun v1 h => ?_)
  refine r_iinc (ln := fun w => [some (sj_r (some a0)), some (sj_i v1), some (sj_i w)]) (pc := 28) h dX9_anchorSet_28 rfl (Nat.le_of_ble_eq_true rfl) (fun _ => rfl) (fun v2 h => ?_)
  refine r_goto (pc := 31) (tgt := 4) dX9_anchorSet_31 (by decide) ?_
  exact sj_weak (l2 := [some (sj_r (some a0)), some (sj_i v1), some (sj_i v2)]) (⟨rfl, ⟨rfl, ⟨rfl, trivial⟩⟩⟩) (hk4 a0 v1 v2 V ha0 h)
set_option maxHeartbeats 4000000 in
theorem st_X9_anchorSet_4_b {X : sj_X} {g : sj_G} {s0 : sj_Mem} {N : Nat} {q : Int × sj_VV} {k4 : Nat → Int → Int → sj_VV → Option (Int × sj_VV)} (hk4 : ∀ (a0 : Nat) (x1 : Int) (x2 : Int) (V : sj_VV), OK9 g a0 → k4 a0 x1 x2 V = some q → sj_T X m_X9_anchorSet s0 (some (sj_i q.1), (g, q.2)) 4 [some (sj_r (some a0)), some (sj_i x1), some (sj_i x2)] [] (g, V)) :
    ∀ (a0 : Nat) (x1 : Int) (x2 : Int) (V : sj_VV), OK9 g a0 → g_X9_anchorSet_4_b N k4 a0 x1 x2 V = some q → sj_T X m_X9_anchorSet s0 (some (sj_i q.1), (g, q.2)) 4 [some (sj_r (some a0)), some (sj_i x1), some (sj_i x2)] [] (g, V) := by
  intro a0 x1 x2 V ha0 h
  unfold g_X9_anchorSet_4_b at h
  refine r_iload_n (pc := 4) dX9_anchorSet_4 rfl rfl ?_
  refine r_bipush (pc := 5) dX9_anchorSet_5 ⟨by decide, by decide⟩ ?_
  refine r_icmp_ge (pc := 7) (tgt := 34) h dX9_anchorSet_7 (by decide) (fun h => ?_) (fun h => ?_)
  · refine r_iload_n (pc := 34) dX9_anchorSet_34 rfl rfl ?_
    exact r_irets (pc := 35) h rfl dX9_anchorSet_35
  · refine r_iload_n (pc := 10) dX9_anchorSet_10 rfl rfl ?_
    refine r_aload_n (pc := 11) dX9_anchorSet_11 rfl rfl ?_
    refine r_iload_n (pc := 12) dX9_anchorSet_12 rfl rfl ?_
    refine r_callVs (pc := 13) (fun v => some (sj_i v)) (As := [sj_i x2]) (rest := [(sj_i x1)]) (b := a0) (ok9 ha0) h dX9_anchorSet_13 mw_X9_410 vw_X9_isAnchor (fun _ _ hc => cg_X9_isAnchor ha0 hc) rfl ⟨(Nat.le_of_ble_eq_true rfl), (Nat.le_of_ble_eq_true rfl)⟩ (Nat.le_of_ble_eq_true rfl) rfl (fun v2 V1 h => ?_)
    refine r_if_eq (pc := 16) (tgt := 25) h dX9_anchorSet_16 (by decide) (fun h => ?_) (fun h => ?_)
    · refine r_iconst (pc := 25) dX9_anchorSet_25 ?_
      exact sj_weak (l2 := [some (sj_r (some a0)), none, some (sj_i x2)]) (⟨rfl, ⟨rfl, trivial⟩⟩) (st_X9_anchorSet_26 hk4 a0 x2 0 x1 V1 ha0 h)
    · refine r_iconst (pc := 19) dX9_anchorSet_19 ?_
      refine r_iload_n (pc := 20) dX9_anchorSet_20 rfl rfl ?_
      refine r_ishl (pc := 21) h dX9_anchorSet_21 (fun v3 h => ?_)
      refine r_goto (pc := 22) (tgt := 26) dX9_anchorSet_22 (by decide) ?_
      exact sj_weak (l2 := [some (sj_r (some a0)), none, some (sj_i x2)]) (⟨rfl, ⟨rfl, trivial⟩⟩) (st_X9_anchorSet_26 hk4 a0 x2 v3 x1 V1 ha0 h)
set_option maxHeartbeats 4000000 in
theorem st_X9_anchorSet_4 {X : sj_X} {g : sj_G} {s0 : sj_Mem} {N : Nat} {q : Int × sj_VV} :
    ∀ (n : Nat) (a0 : Nat) (x1 : Int) (x2 : Int) (V : sj_VV), OK9 g a0 → g_X9_anchorSet_4 N n a0 x1 x2 V = some q → sj_T X m_X9_anchorSet s0 (some (sj_i q.1), (g, q.2)) 4 [some (sj_r (some a0)), some (sj_i x1), some (sj_i x2)] [] (g, V) := by
  intro n
  induction n with
  | zero => intro a0 x1 x2 V ha0 h; exact nomatch h
  | succ n ih => intro a0 x1 x2 V ha0 h; exact st_X9_anchorSet_4_b (N := N) ih a0 x1 x2 V ha0 h
set_option maxHeartbeats 4000000 in
theorem st_X9_anchorSet_0 {X : sj_X} {g : sj_G} {s0 : sj_Mem} {N : Nat} {q : Int × sj_VV} :
    ∀ (a0 : Nat) (V : sj_VV), OK9 g a0 → g_X9_anchorSet N a0 V = some q → sj_T X m_X9_anchorSet s0 (some (sj_i q.1), (g, q.2)) 0 [some (sj_r (some a0)), none, none] [] (g, V) := by
  intro a0 V ha0 h
  unfold g_X9_anchorSet at h
  refine r_iconst (pc := 0) dX9_anchorSet_0 ?_
  refine r_istore_n (ln := [some (sj_r (some a0)), some (sj_i 0), none]) (pc := 1) dX9_anchorSet_1 rfl (Nat.le_of_ble_eq_true rfl) rfl ?_
  refine r_iconst (pc := 2) dX9_anchorSet_2 ?_
  refine r_istore_n (ln := [some (sj_r (some a0)), some (sj_i 0), some (sj_i 0)]) (pc := 3) dX9_anchorSet_3 rfl (Nat.le_of_ble_eq_true rfl) rfl ?_
  exact sj_weak (l2 := [some (sj_r (some a0)), some (sj_i 0), some (sj_i 0)]) (⟨rfl, ⟨rfl, ⟨rfl, trivial⟩⟩⟩) (st_X9_anchorSet_4 N a0 0 0 V ha0 h)
set_option maxHeartbeats 4000000 in
theorem cg_X9_anchorSet {X : sj_X} {g : sj_G} {N : Nat} {a0 : Nat} {V : sj_VV} {q : Int × sj_VV} (ha0 : OK9 g a0) (h : g_X9_anchorSet N a0 V = some q) : sj_C X m_X9_anchorSet [sj_r (some a0)] (g, V) (some (sj_i q.1), (g, q.2)) :=
  sj_C_of (by decide +kernel) (Nat.le_of_ble_eq_true rfl) (lo := [some (sj_r (some a0)), none, none]) rfl (sj_weak (l2 := [some (sj_r (some a0)), none, none]) (⟨rfl, trivial⟩) (st_X9_anchorSet_0 a0 V ha0 h))
set_option maxHeartbeats 4000000 in
theorem c_X9_anchorSet {X : sj_X} {N : Nat} {a0 : Nat} {s : sj_Mem} {q : Int × sj_Mem} (h : f_X9_anchorSet N a0 s = some q) : sj_C X m_X9_anchorSet [sj_r (some a0)] s (some (sj_i q.1), q.2) := by
  obtain ⟨g, V⟩ := s
  unfold f_X9_anchorSet at h
  obtain ⟨ho, h1⟩ := e_ok_some h
  obtain ⟨q2, h2, rfl⟩ := sj_map_some h1
  exact cg_X9_anchorSet ho h2
theorem dX9_look_0 : decode cX9_look 0 = .ok (.iload_n 1, 1) := by decide +kernel
theorem dX9_look_1 : decode cX9_look 1 = .ok (.tableswitch 213 0 13 #[71, 78, 85, 92, 97, 126, 135, 155, 175, 184, 189, 194, 199, 204], 71) := by decide +kernel
theorem dX9_look_72 : decode cX9_look 72 = .ok (.aload_n 0, 1) := by decide +kernel
theorem dX9_look_73 : decode cX9_look 73 = .ok (.getfield 9, 3) := by decide +kernel
theorem dX9_look_76 : decode cX9_look 76 = .ok (.iconst 0, 1) := by decide +kernel
theorem dX9_look_77 : decode cX9_look 77 = .ok (.iaload, 1) := by decide +kernel
theorem dX9_look_78 : decode cX9_look 78 = .ok (.ireturn, 1) := by decide +kernel
theorem dX9_look_79 : decode cX9_look 79 = .ok (.aload_n 0, 1) := by decide +kernel
theorem dX9_look_80 : decode cX9_look 80 = .ok (.getfield 9, 3) := by decide +kernel
theorem dX9_look_83 : decode cX9_look 83 = .ok (.iconst 1, 1) := by decide +kernel
theorem dX9_look_84 : decode cX9_look 84 = .ok (.iaload, 1) := by decide +kernel
theorem dX9_look_85 : decode cX9_look 85 = .ok (.ireturn, 1) := by decide +kernel
theorem dX9_look_86 : decode cX9_look 86 = .ok (.aload_n 0, 1) := by decide +kernel
theorem dX9_look_87 : decode cX9_look 87 = .ok (.getfield 9, 3) := by decide +kernel
theorem dX9_look_90 : decode cX9_look 90 = .ok (.iconst 2, 1) := by decide +kernel
theorem dX9_look_91 : decode cX9_look 91 = .ok (.iaload, 1) := by decide +kernel
theorem dX9_look_92 : decode cX9_look 92 = .ok (.ireturn, 1) := by decide +kernel
theorem dX9_look_93 : decode cX9_look 93 = .ok (.aload_n 0, 1) := by decide +kernel
theorem dX9_look_94 : decode cX9_look 94 = .ok (.invokevirtual 416, 3) := by decide +kernel
theorem dX9_look_97 : decode cX9_look 97 = .ok (.ireturn, 1) := by decide +kernel
theorem dX9_look_98 : decode cX9_look 98 = .ok (.aload_n 0, 1) := by decide +kernel
theorem dX9_look_99 : decode cX9_look 99 = .ok (.invokevirtual 92, 3) := by decide +kernel
theorem dX9_look_102 : decode cX9_look 102 = .ok (.ifCond .eq 23, 3) := by decide +kernel
theorem dX9_look_105 : decode cX9_look 105 = .ok (.aload_n 0, 1) := by decide +kernel
theorem dX9_look_106 : decode cX9_look 106 = .ok (.getfield 9, 3) := by decide +kernel
theorem dX9_look_109 : decode cX9_look 109 = .ok (.sipush 321, 3) := by decide +kernel
theorem dX9_look_112 : decode cX9_look 112 = .ok (.iaload, 1) := by decide +kernel
theorem dX9_look_113 : decode cX9_look 113 = .ok (.aload_n 0, 1) := by decide +kernel
theorem dX9_look_114 : decode cX9_look 114 = .ok (.getfield 9, 3) := by decide +kernel
theorem dX9_look_117 : decode cX9_look 117 = .ok (.sipush 320, 3) := by decide +kernel
theorem dX9_look_120 : decode cX9_look 120 = .ok (.iaload, 1) := by decide +kernel
theorem dX9_look_121 : decode cX9_look 121 = .ok (.isub, 1) := by decide +kernel
theorem dX9_look_122 : decode cX9_look 122 = .ok (.goto 4, 3) := by decide +kernel
theorem dX9_look_125 : decode cX9_look 125 = .ok (.iconst 0, 1) := by decide +kernel
theorem dX9_look_126 : decode cX9_look 126 = .ok (.ireturn, 1) := by decide +kernel
theorem dX9_look_127 : decode cX9_look 127 = .ok (.aload_n 0, 1) := by decide +kernel
theorem dX9_look_128 : decode cX9_look 128 = .ok (.getfield 9, 3) := by decide +kernel
theorem dX9_look_131 : decode cX9_look 131 = .ok (.sipush 320, 3) := by decide +kernel
theorem dX9_look_134 : decode cX9_look 134 = .ok (.iaload, 1) := by decide +kernel
theorem dX9_look_135 : decode cX9_look 135 = .ok (.ireturn, 1) := by decide +kernel
theorem dX9_look_136 : decode cX9_look 136 = .ok (.aload_n 0, 1) := by decide +kernel
theorem dX9_look_137 : decode cX9_look 137 = .ok (.invokevirtual 92, 3) := by decide +kernel
theorem dX9_look_140 : decode cX9_look 140 = .ok (.ifCond .eq 14, 3) := by decide +kernel
theorem dX9_look_143 : decode cX9_look 143 = .ok (.aload_n 0, 1) := by decide +kernel
theorem dX9_look_144 : decode cX9_look 144 = .ok (.getfield 9, 3) := by decide +kernel
theorem dX9_look_147 : decode cX9_look 147 = .ok (.sipush 321, 3) := by decide +kernel
theorem dX9_look_150 : decode cX9_look 150 = .ok (.iaload, 1) := by decide +kernel
theorem dX9_look_151 : decode cX9_look 151 = .ok (.goto 4, 3) := by decide +kernel
theorem dX9_look_154 : decode cX9_look 154 = .ok (.iconst (-1), 1) := by decide +kernel
theorem dX9_look_155 : decode cX9_look 155 = .ok (.ireturn, 1) := by decide +kernel
theorem dX9_look_156 : decode cX9_look 156 = .ok (.aload_n 0, 1) := by decide +kernel
theorem dX9_look_157 : decode cX9_look 157 = .ok (.invokevirtual 92, 3) := by decide +kernel
theorem dX9_look_160 : decode cX9_look 160 = .ok (.ifCond .eq 14, 3) := by decide +kernel
theorem dX9_look_163 : decode cX9_look 163 = .ok (.aload_n 0, 1) := by decide +kernel
theorem dX9_look_164 : decode cX9_look 164 = .ok (.getfield 9, 3) := by decide +kernel
theorem dX9_look_167 : decode cX9_look 167 = .ok (.sipush 322, 3) := by decide +kernel
theorem dX9_look_170 : decode cX9_look 170 = .ok (.iaload, 1) := by decide +kernel
theorem dX9_look_171 : decode cX9_look 171 = .ok (.goto 4, 3) := by decide +kernel
theorem dX9_look_174 : decode cX9_look 174 = .ok (.iconst (-1), 1) := by decide +kernel
theorem dX9_look_175 : decode cX9_look 175 = .ok (.ireturn, 1) := by decide +kernel
theorem dX9_look_176 : decode cX9_look 176 = .ok (.aload_n 0, 1) := by decide +kernel
theorem dX9_look_177 : decode cX9_look 177 = .ok (.getfield 9, 3) := by decide +kernel
theorem dX9_look_180 : decode cX9_look 180 = .ok (.sipush 364, 3) := by decide +kernel
theorem dX9_look_183 : decode cX9_look 183 = .ok (.iaload, 1) := by decide +kernel
theorem dX9_look_184 : decode cX9_look 184 = .ok (.ireturn, 1) := by decide +kernel
theorem dX9_look_185 : decode cX9_look 185 = .ok (.aload_n 0, 1) := by decide +kernel
theorem dX9_look_186 : decode cX9_look 186 = .ok (.getfield 61, 3) := by decide +kernel
theorem dX9_look_189 : decode cX9_look 189 = .ok (.ireturn, 1) := by decide +kernel
theorem dX9_look_190 : decode cX9_look 190 = .ok (.aload_n 0, 1) := by decide +kernel
theorem dX9_look_191 : decode cX9_look 191 = .ok (.getfield 337, 3) := by decide +kernel
theorem dX9_look_194 : decode cX9_look 194 = .ok (.ireturn, 1) := by decide +kernel
theorem dX9_look_195 : decode cX9_look 195 = .ok (.aload_n 0, 1) := by decide +kernel
theorem dX9_look_196 : decode cX9_look 196 = .ok (.invokevirtual 419, 3) := by decide +kernel
theorem dX9_look_199 : decode cX9_look 199 = .ok (.ireturn, 1) := by decide +kernel
theorem dX9_look_200 : decode cX9_look 200 = .ok (.aload_n 0, 1) := by decide +kernel
theorem dX9_look_201 : decode cX9_look 201 = .ok (.invokevirtual 422, 3) := by decide +kernel
theorem dX9_look_204 : decode cX9_look 204 = .ok (.ireturn, 1) := by decide +kernel
theorem dX9_look_205 : decode cX9_look 205 = .ok (.aload_n 0, 1) := by decide +kernel
theorem dX9_look_206 : decode cX9_look 206 = .ok (.getfield 9, 3) := by decide +kernel
theorem dX9_look_209 : decode cX9_look 209 = .ok (.sipush 389, 3) := by decide +kernel
theorem dX9_look_212 : decode cX9_look 212 = .ok (.iaload, 1) := by decide +kernel
theorem dX9_look_213 : decode cX9_look 213 = .ok (.ireturn, 1) := by decide +kernel
theorem dX9_look_214 : decode cX9_look 214 = .ok (.bipush (-10), 2) := by decide +kernel
theorem dX9_look_216 : decode cX9_look 216 = .ok (.ireturn, 1) := by decide +kernel
set_option maxHeartbeats 4000000 in
theorem st_X9_look_0 {X : sj_X} {g : sj_G} {s0 : sj_Mem} {N : Nat} {q : Int × sj_VV} :
    ∀ (a0 : Nat) (x1 : Int) (V : sj_VV), OK9 g a0 → g_X9_look N a0 x1 V = some q → sj_T X m_X9_look s0 (some (sj_i q.1), (g, q.2)) 0 [some (sj_r (some a0)), some (sj_i x1)] [] (g, V) := by
  intro a0 x1 V ha0 h
  unfold g_X9_look at h
  refine r_iload_n (pc := 0) dX9_look_0 rfl rfl ?_
  obtain ⟨hr, h⟩ := e_sw_some h
  refine sj_if h (fun c0 h => ?_) (fun c0 h => ?_)
  · refine r_tcase (pc := 1) (tgt := 72) (j := 0) hr c0 dX9_look_1 (by decide) (by decide) rfl (by decide) ?_
    refine r_aload_n (pc := 72) dX9_look_72 rfl rfl ?_
    refine r_gRs (b := a0 + 1) (pc := 73) dX9_look_73 fw_X9_9 rfl (ok9 ha0) (ok9_0 ha0).1 ?_
    refine r_iconst (pc := 76) dX9_look_76 ?_
    refine r_ialoads (pc := 77) h dX9_look_77 (ok9_0 ha0).2 (fun h => ?_)
    exact r_irets (pc := 78) h rfl dX9_look_78
  refine sj_if h (fun c1 h => ?_) (fun c1 h => ?_)
  · refine r_tcase (pc := 1) (tgt := 79) (j := 1) hr c1 dX9_look_1 (by decide) (by decide) rfl (by decide) ?_
    refine r_aload_n (pc := 79) dX9_look_79 rfl rfl ?_
    refine r_gRs (b := a0 + 1) (pc := 80) dX9_look_80 fw_X9_9 rfl (ok9 ha0) (ok9_0 ha0).1 ?_
    refine r_iconst (pc := 83) dX9_look_83 ?_
    refine r_ialoads (pc := 84) h dX9_look_84 (ok9_0 ha0).2 (fun h => ?_)
    exact r_irets (pc := 85) h rfl dX9_look_85
  refine sj_if h (fun c2 h => ?_) (fun c2 h => ?_)
  · refine r_tcase (pc := 1) (tgt := 86) (j := 2) hr c2 dX9_look_1 (by decide) (by decide) rfl (by decide) ?_
    refine r_aload_n (pc := 86) dX9_look_86 rfl rfl ?_
    refine r_gRs (b := a0 + 1) (pc := 87) dX9_look_87 fw_X9_9 rfl (ok9 ha0) (ok9_0 ha0).1 ?_
    refine r_iconst (pc := 90) dX9_look_90 ?_
    refine r_ialoads (pc := 91) h dX9_look_91 (ok9_0 ha0).2 (fun h => ?_)
    exact r_irets (pc := 92) h rfl dX9_look_92
  refine sj_if h (fun c3 h => ?_) (fun c3 h => ?_)
  · refine r_tcase (pc := 1) (tgt := 93) (j := 3) hr c3 dX9_look_1 (by decide) (by decide) rfl (by decide) ?_
    refine r_aload_n (pc := 93) dX9_look_93 rfl rfl ?_
    refine r_callVs (pc := 94) (fun v => some (sj_i v)) (As := []) (rest := []) (b := a0) (ok9 ha0) h dX9_look_94 mw_X9_416 vw_X9_anchorSet (fun _ _ hc => cg_X9_anchorSet ha0 hc) rfl ⟨(Nat.le_of_ble_eq_true rfl), (Nat.le_of_ble_eq_true rfl)⟩ (Nat.le_of_ble_eq_true rfl) rfl (fun v2 V1 h => ?_)
    exact r_irets (pc := 97) h rfl dX9_look_97
  refine sj_if h (fun c4 h => ?_) (fun c4 h => ?_)
  · refine r_tcase (pc := 1) (tgt := 98) (j := 4) hr c4 dX9_look_1 (by decide) (by decide) rfl (by decide) ?_
    refine r_aload_n (pc := 98) dX9_look_98 rfl rfl ?_
    refine r_callVs (pc := 99) (fun v => some (sj_i v)) (As := []) (rest := []) (b := a0) (ok9 ha0) h dX9_look_99 mw_X9_92 vw_X9_hasSlip (fun _ _ hc => cg_X9_hasSlip ha0 hc) rfl ⟨(Nat.le_of_ble_eq_true rfl), (Nat.le_of_ble_eq_true rfl)⟩ (Nat.le_of_ble_eq_true rfl) rfl (fun v4 V3 h => ?_)
    refine r_if_eq (pc := 102) (tgt := 125) h dX9_look_102 (by decide) (fun h => ?_) (fun h => ?_)
    · refine r_iconst (pc := 125) dX9_look_125 ?_
      exact r_irets (pc := 126) h rfl dX9_look_126
    · refine r_aload_n (pc := 105) dX9_look_105 rfl rfl ?_
      refine r_gRs (b := a0 + 1) (pc := 106) dX9_look_106 fw_X9_9 rfl (ok9 ha0) (ok9_0 ha0).1 ?_
      refine r_sipush (pc := 109) dX9_look_109 ⟨by decide, by decide⟩ ?_
      refine r_ialoads (pc := 112) h dX9_look_112 (ok9_0 ha0).2 (fun h => ?_)
      refine r_aload_n (pc := 113) dX9_look_113 rfl rfl ?_
      refine r_gRs (b := a0 + 1) (pc := 114) dX9_look_114 fw_X9_9 rfl (ok9 ha0) (ok9_0 ha0).1 ?_
      refine r_sipush (pc := 117) dX9_look_117 ⟨by decide, by decide⟩ ?_
      refine r_ialoads (pc := 120) h dX9_look_120 (ok9_0 ha0).2 (fun h => ?_)
      refine r_isub (pc := 121) dX9_look_121 ?_
      refine r_goto (pc := 122) (tgt := 126) dX9_look_122 (by decide) ?_
      exact r_irets (pc := 126) h rfl dX9_look_126
  refine sj_if h (fun c5 h => ?_) (fun c5 h => ?_)
  · refine r_tcase (pc := 1) (tgt := 127) (j := 5) hr c5 dX9_look_1 (by decide) (by decide) rfl (by decide) ?_
    refine r_aload_n (pc := 127) dX9_look_127 rfl rfl ?_
    refine r_gRs (b := a0 + 1) (pc := 128) dX9_look_128 fw_X9_9 rfl (ok9 ha0) (ok9_0 ha0).1 ?_
    refine r_sipush (pc := 131) dX9_look_131 ⟨by decide, by decide⟩ ?_
    refine r_ialoads (pc := 134) h dX9_look_134 (ok9_0 ha0).2 (fun h => ?_)
    exact r_irets (pc := 135) h rfl dX9_look_135
  refine sj_if h (fun c6 h => ?_) (fun c6 h => ?_)
  · refine r_tcase (pc := 1) (tgt := 136) (j := 6) hr c6 dX9_look_1 (by decide) (by decide) rfl (by decide) ?_
    refine r_aload_n (pc := 136) dX9_look_136 rfl rfl ?_
    refine r_callVs (pc := 137) (fun v => some (sj_i v)) (As := []) (rest := []) (b := a0) (ok9 ha0) h dX9_look_137 mw_X9_92 vw_X9_hasSlip (fun _ _ hc => cg_X9_hasSlip ha0 hc) rfl ⟨(Nat.le_of_ble_eq_true rfl), (Nat.le_of_ble_eq_true rfl)⟩ (Nat.le_of_ble_eq_true rfl) rfl (fun v6 V5 h => ?_)
    refine r_if_eq (pc := 140) (tgt := 154) h dX9_look_140 (by decide) (fun h => ?_) (fun h => ?_)
    · refine r_iconst (pc := 154) dX9_look_154 ?_
      exact r_irets (pc := 155) h rfl dX9_look_155
    · refine r_aload_n (pc := 143) dX9_look_143 rfl rfl ?_
      refine r_gRs (b := a0 + 1) (pc := 144) dX9_look_144 fw_X9_9 rfl (ok9 ha0) (ok9_0 ha0).1 ?_
      refine r_sipush (pc := 147) dX9_look_147 ⟨by decide, by decide⟩ ?_
      refine r_ialoads (pc := 150) h dX9_look_150 (ok9_0 ha0).2 (fun h => ?_)
      refine r_goto (pc := 151) (tgt := 155) dX9_look_151 (by decide) ?_
      exact r_irets (pc := 155) h rfl dX9_look_155
  refine sj_if h (fun c7 h => ?_) (fun c7 h => ?_)
  · refine r_tcase (pc := 1) (tgt := 156) (j := 7) hr c7 dX9_look_1 (by decide) (by decide) rfl (by decide) ?_
    refine r_aload_n (pc := 156) dX9_look_156 rfl rfl ?_
    refine r_callVs (pc := 157) (fun v => some (sj_i v)) (As := []) (rest := []) (b := a0) (ok9 ha0) h dX9_look_157 mw_X9_92 vw_X9_hasSlip (fun _ _ hc => cg_X9_hasSlip ha0 hc) rfl ⟨(Nat.le_of_ble_eq_true rfl), (Nat.le_of_ble_eq_true rfl)⟩ (Nat.le_of_ble_eq_true rfl) rfl (fun v8 V7 h => ?_)
    refine r_if_eq (pc := 160) (tgt := 174) h dX9_look_160 (by decide) (fun h => ?_) (fun h => ?_)
    · refine r_iconst (pc := 174) dX9_look_174 ?_
      exact r_irets (pc := 175) h rfl dX9_look_175
    · refine r_aload_n (pc := 163) dX9_look_163 rfl rfl ?_
      refine r_gRs (b := a0 + 1) (pc := 164) dX9_look_164 fw_X9_9 rfl (ok9 ha0) (ok9_0 ha0).1 ?_
      refine r_sipush (pc := 167) dX9_look_167 ⟨by decide, by decide⟩ ?_
      refine r_ialoads (pc := 170) h dX9_look_170 (ok9_0 ha0).2 (fun h => ?_)
      refine r_goto (pc := 171) (tgt := 175) dX9_look_171 (by decide) ?_
      exact r_irets (pc := 175) h rfl dX9_look_175
  refine sj_if h (fun c8 h => ?_) (fun c8 h => ?_)
  · refine r_tcase (pc := 1) (tgt := 176) (j := 8) hr c8 dX9_look_1 (by decide) (by decide) rfl (by decide) ?_
    refine r_aload_n (pc := 176) dX9_look_176 rfl rfl ?_
    refine r_gRs (b := a0 + 1) (pc := 177) dX9_look_177 fw_X9_9 rfl (ok9 ha0) (ok9_0 ha0).1 ?_
    refine r_sipush (pc := 180) dX9_look_180 ⟨by decide, by decide⟩ ?_
    refine r_ialoads (pc := 183) h dX9_look_183 (ok9_0 ha0).2 (fun h => ?_)
    exact r_irets (pc := 184) h rfl dX9_look_184
  refine sj_if h (fun c9 h => ?_) (fun c9 h => ?_)
  · refine r_tcase (pc := 1) (tgt := 185) (j := 9) hr c9 dX9_look_1 (by decide) (by decide) rfl (by decide) ?_
    refine r_aload_n (pc := 185) dX9_look_185 rfl rfl ?_
    refine r_gIs (pc := 186) dX9_look_186 fw_X9_61 rfl (ok9 ha0) ?_
    exact r_irets (pc := 189) h rfl dX9_look_189
  refine sj_if h (fun c10 h => ?_) (fun c10 h => ?_)
  · refine r_tcase (pc := 1) (tgt := 190) (j := 10) hr c10 dX9_look_1 (by decide) (by decide) rfl (by decide) ?_
    refine r_aload_n (pc := 190) dX9_look_190 rfl rfl ?_
    refine r_gIs (pc := 191) dX9_look_191 fw_X9_337 rfl (ok9 ha0) ?_
    exact r_irets (pc := 194) h rfl dX9_look_194
  refine sj_if h (fun c11 h => ?_) (fun c11 h => ?_)
  · refine r_tcase (pc := 1) (tgt := 195) (j := 11) hr c11 dX9_look_1 (by decide) (by decide) rfl (by decide) ?_
    refine r_aload_n (pc := 195) dX9_look_195 rfl rfl ?_
    refine r_callVs (pc := 196) (fun v => some (sj_i v)) (As := []) (rest := []) (b := a0) (ok9 ha0) h dX9_look_196 mw_X9_419 vw_X9_highest (fun _ _ hc => cg_X9_highest ha0 hc) rfl ⟨(Nat.le_of_ble_eq_true rfl), (Nat.le_of_ble_eq_true rfl)⟩ (Nat.le_of_ble_eq_true rfl) rfl (fun v10 V9 h => ?_)
    exact r_irets (pc := 199) h rfl dX9_look_199
  refine sj_if h (fun c12 h => ?_) (fun c12 h => ?_)
  · refine r_tcase (pc := 1) (tgt := 200) (j := 12) hr c12 dX9_look_1 (by decide) (by decide) rfl (by decide) ?_
    refine r_aload_n (pc := 200) dX9_look_200 rfl rfl ?_
    refine r_callVs (pc := 201) (fun v => some (sj_i v)) (As := []) (rest := []) (b := a0) (ok9 ha0) h dX9_look_201 mw_X9_422 vw_X9_soilOver (fun _ _ hc => cg_X9_soilOver ha0 hc) rfl ⟨(Nat.le_of_ble_eq_true rfl), (Nat.le_of_ble_eq_true rfl)⟩ (Nat.le_of_ble_eq_true rfl) rfl (fun v12 V11 h => ?_)
    exact r_irets (pc := 204) h rfl dX9_look_204
  refine sj_if h (fun c13 h => ?_) (fun c13 h => ?_)
  · refine r_tcase (pc := 1) (tgt := 205) (j := 13) hr c13 dX9_look_1 (by decide) (by decide) rfl (by decide) ?_
    refine r_aload_n (pc := 205) dX9_look_205 rfl rfl ?_
    refine r_gRs (b := a0 + 1) (pc := 206) dX9_look_206 fw_X9_9 rfl (ok9 ha0) (ok9_0 ha0).1 ?_
    refine r_sipush (pc := 209) dX9_look_209 ⟨by decide, by decide⟩ ?_
    refine r_ialoads (pc := 212) h dX9_look_212 (ok9_0 ha0).2 (fun h => ?_)
    exact r_irets (pc := 213) h rfl dX9_look_213
  refine r_tdflt (pc := 1) (tgt := 214) hr dX9_look_1 (by omega) (by decide) ?_
  refine r_bipush (pc := 214) dX9_look_214 ⟨by decide, by decide⟩ ?_
  exact r_irets (pc := 216) h rfl dX9_look_216
set_option maxHeartbeats 4000000 in
theorem cg_X9_look {X : sj_X} {g : sj_G} {N : Nat} {a0 : Nat} {x1 : Int} {V : sj_VV} {q : Int × sj_VV} (ha0 : OK9 g a0) (h : g_X9_look N a0 x1 V = some q) : sj_C X m_X9_look [sj_r (some a0), sj_i x1] (g, V) (some (sj_i q.1), (g, q.2)) :=
  sj_C_of (by decide +kernel) (Nat.le_of_ble_eq_true rfl) (lo := [some (sj_r (some a0)), some (sj_i x1)]) rfl (sj_weak (l2 := [some (sj_r (some a0)), some (sj_i x1)]) (⟨rfl, ⟨rfl, trivial⟩⟩) (st_X9_look_0 a0 x1 V ha0 h))
set_option maxHeartbeats 4000000 in
theorem c_X9_look {X : sj_X} {N : Nat} {a0 : Nat} {x1 : Int} {s : sj_Mem} {q : Int × sj_Mem} (h : f_X9_look N a0 x1 s = some q) : sj_C X m_X9_look [sj_r (some a0), sj_i x1] s (some (sj_i q.1), q.2) := by
  obtain ⟨g, V⟩ := s
  unfold f_X9_look at h
  obtain ⟨ho, h1⟩ := e_ok_some h
  obtain ⟨q2, h2, rfl⟩ := sj_map_some h1
  exact cg_X9_look ho h2
theorem dX9_image_0 : decode cX9_image 0 = .ok (.iload_n 1, 1) := by decide +kernel
theorem dX9_image_1 : decode cX9_image 1 = .ok (.ifCond .ne 12, 3) := by decide +kernel
theorem dX9_image_4 : decode cX9_image 4 = .ok (.aload_n 0, 1) := by decide +kernel
theorem dX9_image_5 : decode cX9_image 5 = .ok (.getfield 413, 3) := by decide +kernel
theorem dX9_image_8 : decode cX9_image 8 = .ok (.ifCond .ne 5, 3) := by decide +kernel
theorem dX9_image_11 : decode cX9_image 11 = .ok (.iconst 0, 1) := by decide +kernel
theorem dX9_image_12 : decode cX9_image 12 = .ok (.ireturn, 1) := by decide +kernel
theorem dX9_image_13 : decode cX9_image 13 = .ok (.iconst 0, 1) := by decide +kernel
theorem dX9_image_14 : decode cX9_image 14 = .ok (.istore_n 2, 1) := by decide +kernel
theorem dX9_image_15 : decode cX9_image 15 = .ok (.iload_n 2, 1) := by decide +kernel
theorem dX9_image_16 : decode cX9_image 16 = .ok (.sipush 390, 3) := by decide +kernel
theorem dX9_image_19 : decode cX9_image 19 = .ok (.if_icmp .ge 40, 3) := by decide +kernel
theorem dX9_image_22 : decode cX9_image 22 = .ok (.iload_n 1, 1) := by decide +kernel
theorem dX9_image_23 : decode cX9_image 23 = .ok (.ifCond .eq 18, 3) := by decide +kernel
theorem dX9_image_26 : decode cX9_image 26 = .ok (.aload_n 0, 1) := by decide +kernel
theorem dX9_image_27 : decode cX9_image 27 = .ok (.getfield 16, 3) := by decide +kernel
theorem dX9_image_30 : decode cX9_image 30 = .ok (.iload_n 2, 1) := by decide +kernel
theorem dX9_image_31 : decode cX9_image 31 = .ok (.aload_n 0, 1) := by decide +kernel
theorem dX9_image_32 : decode cX9_image 32 = .ok (.getfield 9, 3) := by decide +kernel
theorem dX9_image_35 : decode cX9_image 35 = .ok (.iload_n 2, 1) := by decide +kernel
theorem dX9_image_36 : decode cX9_image 36 = .ok (.iaload, 1) := by decide +kernel
theorem dX9_image_37 : decode cX9_image 37 = .ok (.iastore, 1) := by decide +kernel
theorem dX9_image_38 : decode cX9_image 38 = .ok (.goto 15, 3) := by decide +kernel
theorem dX9_image_41 : decode cX9_image 41 = .ok (.aload_n 0, 1) := by decide +kernel
theorem dX9_image_42 : decode cX9_image 42 = .ok (.getfield 9, 3) := by decide +kernel
theorem dX9_image_45 : decode cX9_image 45 = .ok (.iload_n 2, 1) := by decide +kernel
theorem dX9_image_46 : decode cX9_image 46 = .ok (.aload_n 0, 1) := by decide +kernel
theorem dX9_image_47 : decode cX9_image 47 = .ok (.getfield 16, 3) := by decide +kernel
theorem dX9_image_50 : decode cX9_image 50 = .ok (.iload_n 2, 1) := by decide +kernel
theorem dX9_image_51 : decode cX9_image 51 = .ok (.iaload, 1) := by decide +kernel
theorem dX9_image_52 : decode cX9_image 52 = .ok (.iastore, 1) := by decide +kernel
theorem dX9_image_53 : decode cX9_image 53 = .ok (.iinc 2 1, 3) := by decide +kernel
theorem dX9_image_56 : decode cX9_image 56 = .ok (.goto (-41), 3) := by decide +kernel
theorem dX9_image_59 : decode cX9_image 59 = .ok (.iload_n 1, 1) := by decide +kernel
theorem dX9_image_60 : decode cX9_image 60 = .ok (.ifCond .ne 8, 3) := by decide +kernel
theorem dX9_image_63 : decode cX9_image 63 = .ok (.aload_n 0, 1) := by decide +kernel
theorem dX9_image_64 : decode cX9_image 64 = .ok (.iconst 0, 1) := by decide +kernel
theorem dX9_image_65 : decode cX9_image 65 = .ok (.putfield 61, 3) := by decide +kernel
theorem dX9_image_68 : decode cX9_image 68 = .ok (.aload_n 0, 1) := by decide +kernel
theorem dX9_image_69 : decode cX9_image 69 = .ok (.iconst 1, 1) := by decide +kernel
theorem dX9_image_70 : decode cX9_image 70 = .ok (.putfield 413, 3) := by decide +kernel
theorem dX9_image_73 : decode cX9_image 73 = .ok (.iconst 1, 1) := by decide +kernel
theorem dX9_image_74 : decode cX9_image 74 = .ok (.ireturn, 1) := by decide +kernel
set_option maxHeartbeats 4000000 in
theorem st_X9_image_53 {X : sj_X} {g : sj_G} {s0 : sj_Mem} {N : Nat} {q : Int × sj_VV} {k15 : Nat → Int → Int → sj_VV → Option (Int × sj_VV)} (hk15 : ∀ (a0 : Nat) (x1 : Int) (x2 : Int) (V : sj_VV), OK9 g a0 → k15 a0 x1 x2 V = some q → sj_T X m_X9_image s0 (some (sj_i q.1), (g, q.2)) 15 [some (sj_r (some a0)), some (sj_i x1), some (sj_i x2)] [] (g, V)) :
    ∀ (a0 : Nat) (x1 : Int) (x2 : Int) (V : sj_VV), OK9 g a0 → g_X9_image_53 N k15 a0 x1 x2 V = some q → sj_T X m_X9_image s0 (some (sj_i q.1), (g, q.2)) 53 [some (sj_r (some a0)), some (sj_i x1), some (sj_i x2)] [] (g, V) := by
  intro a0 x1 x2 V ha0 h
  unfold g_X9_image_53 at h
  refine r_iinc (ln := fun w => [some (sj_r (some a0)), some (sj_i x1), some (sj_i w)]) (pc := 53) h dX9_image_53 rfl (Nat.le_of_ble_eq_true rfl) (fun _ => rfl) (fun v1 h => ?_)
  refine r_goto (pc := 56) (tgt := 15) dX9_image_56 (by decide) ?_
  exact sj_weak (l2 := [some (sj_r (some a0)), some (sj_i x1), some (sj_i v1)]) (⟨rfl, ⟨rfl, ⟨rfl, trivial⟩⟩⟩) (hk15 a0 x1 v1 V ha0 h)
set_option maxHeartbeats 4000000 in
theorem st_X9_image_15_b {X : sj_X} {g : sj_G} {s0 : sj_Mem} {N : Nat} {q : Int × sj_VV} {k15 : Nat → Int → Int → sj_VV → Option (Int × sj_VV)} (hk15 : ∀ (a0 : Nat) (x1 : Int) (x2 : Int) (V : sj_VV), OK9 g a0 → k15 a0 x1 x2 V = some q → sj_T X m_X9_image s0 (some (sj_i q.1), (g, q.2)) 15 [some (sj_r (some a0)), some (sj_i x1), some (sj_i x2)] [] (g, V)) :
    ∀ (a0 : Nat) (x1 : Int) (x2 : Int) (V : sj_VV), OK9 g a0 → g_X9_image_15_b N k15 a0 x1 x2 V = some q → sj_T X m_X9_image s0 (some (sj_i q.1), (g, q.2)) 15 [some (sj_r (some a0)), some (sj_i x1), some (sj_i x2)] [] (g, V) := by
  intro a0 x1 x2 V ha0 h
  unfold g_X9_image_15_b at h
  refine r_iload_n (pc := 15) dX9_image_15 rfl rfl ?_
  refine r_sipush (pc := 16) dX9_image_16 ⟨by decide, by decide⟩ ?_
  refine r_icmp_ge (pc := 19) (tgt := 59) h dX9_image_19 (by decide) (fun h => ?_) (fun h => ?_)
  · refine r_iload_n (pc := 59) dX9_image_59 rfl rfl ?_
    refine r_if_ne (pc := 60) (tgt := 68) h dX9_image_60 (by decide) (fun h => ?_) (fun h => ?_)
    · refine r_aload_n (pc := 63) dX9_image_63 rfl rfl ?_
      refine r_iconst (pc := 64) dX9_image_64 ?_
      refine r_pIs (pc := 65) h dX9_image_65 fw_X9_61 rfl rfl (nf9_4) (ok9 ha0) (fun V2 h => ?_)
      refine r_aload_n (pc := 68) dX9_image_68 rfl rfl ?_
      refine r_iconst (pc := 69) dX9_image_69 ?_
      refine r_pZs (pc := 70) h dX9_image_70 fw_X9_413 rfl rfl (nf9_5) (ok9 ha0) (fun V3 h => ?_)
      refine r_iconst (pc := 73) dX9_image_73 ?_
      exact r_zrets (pc := 74) h rfl dX9_image_74
    · refine r_aload_n (pc := 68) dX9_image_68 rfl rfl ?_
      refine r_iconst (pc := 69) dX9_image_69 ?_
      refine r_pZs (pc := 70) h dX9_image_70 fw_X9_413 rfl rfl (nf9_5) (ok9 ha0) (fun V1 h => ?_)
      refine r_iconst (pc := 73) dX9_image_73 ?_
      exact r_zrets (pc := 74) h rfl dX9_image_74
  · refine r_iload_n (pc := 22) dX9_image_22 rfl rfl ?_
    refine r_if_eq (pc := 23) (tgt := 41) h dX9_image_23 (by decide) (fun h => ?_) (fun h => ?_)
    · refine r_aload_n (pc := 41) dX9_image_41 rfl rfl ?_
      refine r_gRs (b := a0 + 1) (pc := 42) dX9_image_42 fw_X9_9 rfl (ok9 ha0) (ok9_0 ha0).1 ?_
      refine r_iload_n (pc := 45) dX9_image_45 rfl rfl ?_
      refine r_aload_n (pc := 46) dX9_image_46 rfl rfl ?_
      refine r_gRs (b := a0 + 3) (pc := 47) dX9_image_47 fw_X9_16 rfl (ok9 ha0) (ok9_2 ha0).1 ?_
      refine r_iload_n (pc := 50) dX9_image_50 rfl rfl ?_
      refine r_ialoads (pc := 51) h dX9_image_51 (ok9_2 ha0).2 (fun h => ?_)
      refine r_iastores (pc := 52) h dX9_image_52 (ok9_0 ha0).2 (fun V4 h => ?_)
      exact sj_weak (l2 := [some (sj_r (some a0)), some (sj_i x1), some (sj_i x2)]) (⟨rfl, ⟨rfl, ⟨rfl, trivial⟩⟩⟩) (st_X9_image_53 hk15 a0 x1 x2 V4 ha0 h)
    · refine r_aload_n (pc := 26) dX9_image_26 rfl rfl ?_
      refine r_gRs (b := a0 + 3) (pc := 27) dX9_image_27 fw_X9_16 rfl (ok9 ha0) (ok9_2 ha0).1 ?_
      refine r_iload_n (pc := 30) dX9_image_30 rfl rfl ?_
      refine r_aload_n (pc := 31) dX9_image_31 rfl rfl ?_
      refine r_gRs (b := a0 + 1) (pc := 32) dX9_image_32 fw_X9_9 rfl (ok9 ha0) (ok9_0 ha0).1 ?_
      refine r_iload_n (pc := 35) dX9_image_35 rfl rfl ?_
      refine r_ialoads (pc := 36) h dX9_image_36 (ok9_0 ha0).2 (fun h => ?_)
      refine r_iastores (pc := 37) h dX9_image_37 (ok9_2 ha0).2 (fun V5 h => ?_)
      refine r_goto (pc := 38) (tgt := 53) dX9_image_38 (by decide) ?_
      exact sj_weak (l2 := [some (sj_r (some a0)), some (sj_i x1), some (sj_i x2)]) (⟨rfl, ⟨rfl, ⟨rfl, trivial⟩⟩⟩) (st_X9_image_53 hk15 a0 x1 x2 V5 ha0 h)
set_option maxHeartbeats 4000000 in
theorem st_X9_image_15 {X : sj_X} {g : sj_G} {s0 : sj_Mem} {N : Nat} {q : Int × sj_VV} :
    ∀ (n : Nat) (a0 : Nat) (x1 : Int) (x2 : Int) (V : sj_VV), OK9 g a0 → g_X9_image_15 N n a0 x1 x2 V = some q → sj_T X m_X9_image s0 (some (sj_i q.1), (g, q.2)) 15 [some (sj_r (some a0)), some (sj_i x1), some (sj_i x2)] [] (g, V) := by
  intro n
  induction n with
  | zero => intro a0 x1 x2 V ha0 h; exact nomatch h
  | succ n ih => intro a0 x1 x2 V ha0 h; exact st_X9_image_15_b (N := N) ih a0 x1 x2 V ha0 h
set_option maxHeartbeats 4000000 in
theorem st_X9_image_13 {X : sj_X} {g : sj_G} {s0 : sj_Mem} {N : Nat} {q : Int × sj_VV} :
    ∀ (a0 : Nat) (x1 : Int) (V : sj_VV), OK9 g a0 → g_X9_image_13 N a0 x1 V = some q → sj_T X m_X9_image s0 (some (sj_i q.1), (g, q.2)) 13 [some (sj_r (some a0)), some (sj_i x1), none] [] (g, V) := by
  intro a0 x1 V ha0 h
  unfold g_X9_image_13 at h
  refine r_iconst (pc := 13) dX9_image_13 ?_
  refine r_istore_n (ln := [some (sj_r (some a0)), some (sj_i x1), some (sj_i 0)]) (pc := 14) dX9_image_14 rfl (Nat.le_of_ble_eq_true rfl) rfl ?_
  exact sj_weak (l2 := [some (sj_r (some a0)), some (sj_i x1), some (sj_i 0)]) (⟨rfl, ⟨rfl, ⟨rfl, trivial⟩⟩⟩) (st_X9_image_15 N a0 x1 0 V ha0 h)
set_option maxHeartbeats 4000000 in
theorem st_X9_image_0 {X : sj_X} {g : sj_G} {s0 : sj_Mem} {N : Nat} {q : Int × sj_VV} :
    ∀ (a0 : Nat) (x1 : Int) (V : sj_VV), OK9 g a0 → g_X9_image N a0 x1 V = some q → sj_T X m_X9_image s0 (some (sj_i q.1), (g, q.2)) 0 [some (sj_r (some a0)), some (sj_i x1), none] [] (g, V) := by
  intro a0 x1 V ha0 h
  unfold g_X9_image at h
  refine r_iload_n (pc := 0) dX9_image_0 rfl rfl ?_
  refine r_if_ne (pc := 1) (tgt := 13) h dX9_image_1 (by decide) (fun h => ?_) (fun h => ?_)
  · refine r_aload_n (pc := 4) dX9_image_4 rfl rfl ?_
    refine r_gIs (pc := 5) dX9_image_5 fw_X9_413 rfl (ok9 ha0) ?_
    refine r_if_ne (pc := 8) (tgt := 13) h dX9_image_8 (by decide) (fun h => ?_) (fun h => ?_)
    · refine r_iconst (pc := 11) dX9_image_11 ?_
      exact r_zrets (pc := 12) h rfl dX9_image_12
    · exact sj_weak (l2 := [some (sj_r (some a0)), some (sj_i x1), none]) (⟨rfl, ⟨rfl, trivial⟩⟩) (st_X9_image_13 a0 x1 V ha0 h)
  · exact sj_weak (l2 := [some (sj_r (some a0)), some (sj_i x1), none]) (⟨rfl, ⟨rfl, trivial⟩⟩) (st_X9_image_13 a0 x1 V ha0 h)
set_option maxHeartbeats 4000000 in
theorem cg_X9_image {X : sj_X} {g : sj_G} {N : Nat} {a0 : Nat} {x1 : Int} {V : sj_VV} {q : Int × sj_VV} (ha0 : OK9 g a0) (h : g_X9_image N a0 x1 V = some q) : sj_C X m_X9_image [sj_r (some a0), sj_i x1] (g, V) (some (sj_i q.1), (g, q.2)) :=
  sj_C_of (by decide +kernel) (Nat.le_of_ble_eq_true rfl) (lo := [some (sj_r (some a0)), some (sj_i x1), none]) rfl (sj_weak (l2 := [some (sj_r (some a0)), some (sj_i x1), none]) (⟨rfl, ⟨rfl, trivial⟩⟩) (st_X9_image_0 a0 x1 V ha0 h))
set_option maxHeartbeats 4000000 in
theorem c_X9_image {X : sj_X} {N : Nat} {a0 : Nat} {x1 : Int} {s : sj_Mem} {q : Int × sj_Mem} (h : f_X9_image N a0 x1 s = some q) : sj_C X m_X9_image [sj_r (some a0), sj_i x1] s (some (sj_i q.1), q.2) := by
  obtain ⟨g, V⟩ := s
  unfold f_X9_image at h
  obtain ⟨ho, h1⟩ := e_ok_some h
  obtain ⟨q2, h2, rfl⟩ := sj_map_some h1
  exact cg_X9_image ho h2
theorem dX9_sign_0 : decode cX9_sign 0 = .ok (.iload_n 1, 1) := by decide +kernel
theorem dX9_sign_1 : decode cX9_sign 1 = .ok (.i2l, 1) := by decide +kernel
theorem dX9_sign_2 : decode cX9_sign 2 = .ok (.lconst 0, 1) := by decide +kernel
theorem dX9_sign_3 : decode cX9_sign 3 = .ok (.aload_n 0, 1) := by decide +kernel
theorem dX9_sign_4 : decode cX9_sign 4 = .ok (.getfield 325, 3) := by decide +kernel
theorem dX9_sign_7 : decode cX9_sign 7 = .ok (.iconst 1, 1) := by decide +kernel
theorem dX9_sign_8 : decode cX9_sign 8 = .ok (.isub, 1) := by decide +kernel
theorem dX9_sign_9 : decode cX9_sign 9 = .ok (.i2l, 1) := by decide +kernel
theorem dX9_sign_10 : decode cX9_sign 10 = .ok (.invokestatic 57, 3) := by decide +kernel
theorem dX9_sign_13 : decode cX9_sign 13 = .ok (.ifCond .eq 12, 3) := by decide +kernel
theorem dX9_sign_16 : decode cX9_sign 16 = .ok (.aload_n 0, 1) := by decide +kernel
theorem dX9_sign_17 : decode cX9_sign 17 = .ok (.getfield 39, 3) := by decide +kernel
theorem dX9_sign_20 : decode cX9_sign 20 = .ok (.iload_n 1, 1) := by decide +kernel
theorem dX9_sign_21 : decode cX9_sign 21 = .ok (.iaload, 1) := by decide +kernel
theorem dX9_sign_22 : decode cX9_sign 22 = .ok (.goto 4, 3) := by decide +kernel
theorem dX9_sign_25 : decode cX9_sign 25 = .ok (.iconst (-1), 1) := by decide +kernel
theorem dX9_sign_26 : decode cX9_sign 26 = .ok (.ireturn, 1) := by decide +kernel
set_option maxHeartbeats 4000000 in
theorem st_X9_sign_0 {X : sj_X} {g : sj_G} {s0 : sj_Mem} {N : Nat} {q : Int × sj_VV} :
    ∀ (a0 : Nat) (x1 : Int) (V : sj_VV), OK9 g a0 → g_X9_sign N a0 x1 V = some q → sj_T X m_X9_sign s0 (some (sj_i q.1), (g, q.2)) 0 [some (sj_r (some a0)), some (sj_i x1)] [] (g, V) := by
  intro a0 x1 V ha0 h
  unfold g_X9_sign at h
  refine r_iload_n (pc := 0) dX9_sign_0 rfl rfl ?_
  refine r_i2l (pc := 1) h dX9_sign_1 (fun v1 h => ?_)
  refine r_lconst0 (pc := 2) dX9_sign_2 ?_
  refine r_aload_n (pc := 3) dX9_sign_3 rfl rfl ?_
  refine r_gIs (pc := 4) dX9_sign_4 fw_X9_325 rfl (ok9 ha0) ?_
  refine r_iconst (pc := 7) dX9_sign_7 ?_
  refine r_isub (pc := 8) dX9_sign_8 ?_
  refine r_i2l (pc := 9) h dX9_sign_9 (fun v2 h => ?_)
  refine r_callSs (pc := 10) (fun v => some (sj_i v)) (As := [sj_j v1, sj_j 0, sj_j v2]) (rest := []) h dX9_sign_10 mw_X9_57 kw_1225 (fun _ _ hc => cg_X9_isIn  hc) rfl ⟨(Nat.le_of_ble_eq_true rfl), (Nat.le_of_ble_eq_true rfl)⟩ (Nat.le_of_ble_eq_true rfl) rfl (fun v4 V3 h => ?_)
  refine r_if_eq (pc := 13) (tgt := 25) h dX9_sign_13 (by decide) (fun h => ?_) (fun h => ?_)
  · refine r_iconst (pc := 25) dX9_sign_25 ?_
    exact r_irets (pc := 26) h rfl dX9_sign_26
  · refine r_aload_n (pc := 16) dX9_sign_16 rfl rfl ?_
    refine r_gRs (b := a0 + 9) (pc := 17) dX9_sign_17 fw_X9_39 rfl (ok9 ha0) (ok9_25 ha0).1 ?_
    refine r_iload_n (pc := 20) dX9_sign_20 rfl rfl ?_
    refine r_ialoads (pc := 21) h dX9_sign_21 (ok9_25 ha0).2 (fun h => ?_)
    refine r_goto (pc := 22) (tgt := 26) dX9_sign_22 (by decide) ?_
    exact r_irets (pc := 26) h rfl dX9_sign_26
set_option maxHeartbeats 4000000 in
theorem cg_X9_sign {X : sj_X} {g : sj_G} {N : Nat} {a0 : Nat} {x1 : Int} {V : sj_VV} {q : Int × sj_VV} (ha0 : OK9 g a0) (h : g_X9_sign N a0 x1 V = some q) : sj_C X m_X9_sign [sj_r (some a0), sj_i x1] (g, V) (some (sj_i q.1), (g, q.2)) :=
  sj_C_of (by decide +kernel) (Nat.le_of_ble_eq_true rfl) (lo := [some (sj_r (some a0)), some (sj_i x1)]) rfl (sj_weak (l2 := [some (sj_r (some a0)), some (sj_i x1)]) (⟨rfl, ⟨rfl, trivial⟩⟩) (st_X9_sign_0 a0 x1 V ha0 h))
set_option maxHeartbeats 4000000 in
theorem c_X9_sign {X : sj_X} {N : Nat} {a0 : Nat} {x1 : Int} {s : sj_Mem} {q : Int × sj_Mem} (h : f_X9_sign N a0 x1 s = some q) : sj_C X m_X9_sign [sj_r (some a0), sj_i x1] s (some (sj_i q.1), q.2) := by
  obtain ⟨g, V⟩ := s
  unfold f_X9_sign at h
  obtain ⟨ho, h1⟩ := e_ok_some h
  obtain ⟨q2, h2, rfl⟩ := sj_map_some h1
  exact cg_X9_sign ho h2
theorem dX9_takesSlip_0 : decode cX9_takesSlip 0 = .ok (.aload_n 0, 1) := by decide +kernel
theorem dX9_takesSlip_1 : decode cX9_takesSlip 1 = .ok (.aload_n 0, 1) := by decide +kernel
theorem dX9_takesSlip_2 : decode cX9_takesSlip 2 = .ok (.getfield 9, 3) := by decide +kernel
theorem dX9_takesSlip_5 : decode cX9_takesSlip 5 = .ok (.sipush 320, 3) := by decide +kernel
theorem dX9_takesSlip_8 : decode cX9_takesSlip 8 = .ok (.iaload, 1) := by decide +kernel
theorem dX9_takesSlip_9 : decode cX9_takesSlip 9 = .ok (.putfield 22, 3) := by decide +kernel
theorem dX9_takesSlip_12 : decode cX9_takesSlip 12 = .ok (.aload_n 0, 1) := by decide +kernel
theorem dX9_takesSlip_13 : decode cX9_takesSlip 13 = .ok (.aload_n 0, 1) := by decide +kernel
theorem dX9_takesSlip_14 : decode cX9_takesSlip 14 = .ok (.getfield 9, 3) := by decide +kernel
theorem dX9_takesSlip_17 : decode cX9_takesSlip 17 = .ok (.sipush 321, 3) := by decide +kernel
theorem dX9_takesSlip_20 : decode cX9_takesSlip 20 = .ok (.iaload, 1) := by decide +kernel
theorem dX9_takesSlip_21 : decode cX9_takesSlip 21 = .ok (.putfield 150, 3) := by decide +kernel
theorem dX9_takesSlip_24 : decode cX9_takesSlip 24 = .ok (.aload_n 0, 1) := by decide +kernel
theorem dX9_takesSlip_25 : decode cX9_takesSlip 25 = .ok (.aload_n 0, 1) := by decide +kernel
theorem dX9_takesSlip_26 : decode cX9_takesSlip 26 = .ok (.getfield 9, 3) := by decide +kernel
theorem dX9_takesSlip_29 : decode cX9_takesSlip 29 = .ok (.sipush 322, 3) := by decide +kernel
theorem dX9_takesSlip_32 : decode cX9_takesSlip 32 = .ok (.iaload, 1) := by decide +kernel
theorem dX9_takesSlip_33 : decode cX9_takesSlip 33 = .ok (.iconst 1, 1) := by decide +kernel
theorem dX9_takesSlip_34 : decode cX9_takesSlip 34 = .ok (.if_icmp .ne 7, 3) := by decide +kernel
theorem dX9_takesSlip_37 : decode cX9_takesSlip 37 = .ok (.iconst 1, 1) := by decide +kernel
theorem dX9_takesSlip_38 : decode cX9_takesSlip 38 = .ok (.goto 4, 3) := by decide +kernel
theorem dX9_takesSlip_41 : decode cX9_takesSlip 41 = .ok (.iconst 0, 1) := by decide +kernel
theorem dX9_takesSlip_42 : decode cX9_takesSlip 42 = .ok (.putfield 153, 3) := by decide +kernel
theorem dX9_takesSlip_45 : decode cX9_takesSlip 45 = .ok (.iconst 0, 1) := by decide +kernel
theorem dX9_takesSlip_46 : decode cX9_takesSlip 46 = .ok (.istore_n 1, 1) := by decide +kernel
theorem dX9_takesSlip_47 : decode cX9_takesSlip 47 = .ok (.iload_n 1, 1) := by decide +kernel
theorem dX9_takesSlip_48 : decode cX9_takesSlip 48 = .ok (.bipush 41, 2) := by decide +kernel
theorem dX9_takesSlip_50 : decode cX9_takesSlip 50 = .ok (.if_icmp .ge 25, 3) := by decide +kernel
theorem dX9_takesSlip_53 : decode cX9_takesSlip 53 = .ok (.aload_n 0, 1) := by decide +kernel
theorem dX9_takesSlip_54 : decode cX9_takesSlip 54 = .ok (.getfield 26, 3) := by decide +kernel
theorem dX9_takesSlip_57 : decode cX9_takesSlip 57 = .ok (.iload_n 1, 1) := by decide +kernel
theorem dX9_takesSlip_58 : decode cX9_takesSlip 58 = .ok (.aload_n 0, 1) := by decide +kernel
theorem dX9_takesSlip_59 : decode cX9_takesSlip 59 = .ok (.getfield 9, 3) := by decide +kernel
theorem dX9_takesSlip_62 : decode cX9_takesSlip 62 = .ok (.sipush 323, 3) := by decide +kernel
theorem dX9_takesSlip_65 : decode cX9_takesSlip 65 = .ok (.iload_n 1, 1) := by decide +kernel
theorem dX9_takesSlip_66 : decode cX9_takesSlip 66 = .ok (.iadd, 1) := by decide +kernel
theorem dX9_takesSlip_67 : decode cX9_takesSlip 67 = .ok (.iaload, 1) := by decide +kernel
theorem dX9_takesSlip_68 : decode cX9_takesSlip 68 = .ok (.iastore, 1) := by decide +kernel
theorem dX9_takesSlip_69 : decode cX9_takesSlip 69 = .ok (.iinc 1 1, 3) := by decide +kernel
theorem dX9_takesSlip_72 : decode cX9_takesSlip 72 = .ok (.goto (-25), 3) := by decide +kernel
theorem dX9_takesSlip_75 : decode cX9_takesSlip 75 = .ok (.aload_n 0, 1) := by decide +kernel
theorem dX9_takesSlip_76 : decode cX9_takesSlip 76 = .ok (.getfield 22, 3) := by decide +kernel
theorem dX9_takesSlip_79 : decode cX9_takesSlip 79 = .ok (.iconst (-1), 1) := by decide +kernel
theorem dX9_takesSlip_80 : decode cX9_takesSlip 80 = .ok (.if_icmp .eq 7, 3) := by decide +kernel
theorem dX9_takesSlip_83 : decode cX9_takesSlip 83 = .ok (.iconst 1, 1) := by decide +kernel
theorem dX9_takesSlip_84 : decode cX9_takesSlip 84 = .ok (.goto 4, 3) := by decide +kernel
theorem dX9_takesSlip_87 : decode cX9_takesSlip 87 = .ok (.iconst 0, 1) := by decide +kernel
theorem dX9_takesSlip_88 : decode cX9_takesSlip 88 = .ok (.ireturn, 1) := by decide +kernel
set_option maxHeartbeats 4000000 in
theorem st_X9_takesSlip_47_b {X : sj_X} {g : sj_G} {s0 : sj_Mem} {N : Nat} {q : Int × sj_VV} {k47 : Nat → Int → sj_VV → Option (Int × sj_VV)} (hk47 : ∀ (a0 : Nat) (x1 : Int) (V : sj_VV), OK9 g a0 → k47 a0 x1 V = some q → sj_T X m_X9_takesSlip s0 (some (sj_i q.1), (g, q.2)) 47 [some (sj_r (some a0)), some (sj_i x1)] [] (g, V)) :
    ∀ (a0 : Nat) (x1 : Int) (V : sj_VV), OK9 g a0 → g_X9_takesSlip_47_b N k47 a0 x1 V = some q → sj_T X m_X9_takesSlip s0 (some (sj_i q.1), (g, q.2)) 47 [some (sj_r (some a0)), some (sj_i x1)] [] (g, V) := by
  intro a0 x1 V ha0 h
  unfold g_X9_takesSlip_47_b at h
  refine r_iload_n (pc := 47) dX9_takesSlip_47 rfl rfl ?_
  refine r_bipush (pc := 48) dX9_takesSlip_48 ⟨by decide, by decide⟩ ?_
  refine r_icmp_ge (pc := 50) (tgt := 75) h dX9_takesSlip_50 (by decide) (fun h => ?_) (fun h => ?_)
  · refine r_aload_n (pc := 75) dX9_takesSlip_75 rfl rfl ?_
    refine r_gIs (pc := 76) dX9_takesSlip_76 fw_X9_22 rfl (ok9 ha0) ?_
    refine r_iconst (pc := 79) dX9_takesSlip_79 ?_
    refine r_icmp_eq (pc := 80) (tgt := 87) h dX9_takesSlip_80 (by decide) (fun h => ?_) (fun h => ?_)
    · refine r_iconst (pc := 87) dX9_takesSlip_87 ?_
      exact r_zrets (pc := 88) h rfl dX9_takesSlip_88
    · refine r_iconst (pc := 83) dX9_takesSlip_83 ?_
      refine r_goto (pc := 84) (tgt := 88) dX9_takesSlip_84 (by decide) ?_
      exact r_zrets (pc := 88) h rfl dX9_takesSlip_88
  · refine r_aload_n (pc := 53) dX9_takesSlip_53 rfl rfl ?_
    refine r_gRs (b := a0 + 5) (pc := 54) dX9_takesSlip_54 fw_X9_26 rfl (ok9 ha0) (ok9_16 ha0).1 ?_
    refine r_iload_n (pc := 57) dX9_takesSlip_57 rfl rfl ?_
    refine r_aload_n (pc := 58) dX9_takesSlip_58 rfl rfl ?_
    refine r_gRs (b := a0 + 1) (pc := 59) dX9_takesSlip_59 fw_X9_9 rfl (ok9 ha0) (ok9_0 ha0).1 ?_
    refine r_sipush (pc := 62) dX9_takesSlip_62 ⟨by decide, by decide⟩ ?_
    refine r_iload_n (pc := 65) dX9_takesSlip_65 rfl rfl ?_
    refine r_iadd (pc := 66) dX9_takesSlip_66 ?_
    refine r_ialoads (pc := 67) h dX9_takesSlip_67 (ok9_0 ha0).2 (fun h => ?_)
    refine r_iastores (pc := 68) h dX9_takesSlip_68 (ok9_16 ha0).2 (fun V1 h => ?_)
    refine r_iinc (ln := fun w => [some (sj_r (some a0)), some (sj_i w)]) (pc := 69) h dX9_takesSlip_69 rfl (Nat.le_of_ble_eq_true rfl) (fun _ => rfl) (fun v2 h => ?_)
    refine r_goto (pc := 72) (tgt := 47) dX9_takesSlip_72 (by decide) ?_
    exact sj_weak (l2 := [some (sj_r (some a0)), some (sj_i v2)]) (⟨rfl, ⟨rfl, trivial⟩⟩) (hk47 a0 v2 V1 ha0 h)
set_option maxHeartbeats 4000000 in
theorem st_X9_takesSlip_47 {X : sj_X} {g : sj_G} {s0 : sj_Mem} {N : Nat} {q : Int × sj_VV} :
    ∀ (n : Nat) (a0 : Nat) (x1 : Int) (V : sj_VV), OK9 g a0 → g_X9_takesSlip_47 N n a0 x1 V = some q → sj_T X m_X9_takesSlip s0 (some (sj_i q.1), (g, q.2)) 47 [some (sj_r (some a0)), some (sj_i x1)] [] (g, V) := by
  intro n
  induction n with
  | zero => intro a0 x1 V ha0 h; exact nomatch h
  | succ n ih => intro a0 x1 V ha0 h; exact st_X9_takesSlip_47_b (N := N) ih a0 x1 V ha0 h
set_option maxHeartbeats 4000000 in
theorem st_X9_takesSlip_42 {X : sj_X} {g : sj_G} {s0 : sj_Mem} {N : Nat} {q : Int × sj_VV} :
    ∀ (a0 : Nat) (y0 : Int) (y1 : Nat) (V : sj_VV), OK9 g a0 → OK9 g y1 → g_X9_takesSlip_42 N a0 y0 y1 V = some q → sj_T X m_X9_takesSlip s0 (some (sj_i q.1), (g, q.2)) 42 [some (sj_r (some a0)), none] [(sj_i y0), (sj_r (some y1))] (g, V) := by
  intro a0 y0 y1 V ha0 hy1 h
  unfold g_X9_takesSlip_42 at h
  refine r_pZs (pc := 42) h dX9_takesSlip_42 fw_X9_153 rfl rfl (nf9_15) (ok9 hy1) (fun V1 h => ?_)
  refine r_iconst (pc := 45) dX9_takesSlip_45 ?_
  refine r_istore_n (ln := [some (sj_r (some a0)), some (sj_i 0)]) (pc := 46) dX9_takesSlip_46 rfl (Nat.le_of_ble_eq_true rfl) rfl ?_
  exact sj_weak (l2 := [some (sj_r (some a0)), some (sj_i 0)]) (⟨rfl, ⟨rfl, trivial⟩⟩) (st_X9_takesSlip_47 N a0 0 V1 ha0 h)
set_option maxHeartbeats 4000000 in
theorem st_X9_takesSlip_0 {X : sj_X} {g : sj_G} {s0 : sj_Mem} {N : Nat} {q : Int × sj_VV} :
    ∀ (a0 : Nat) (V : sj_VV), OK9 g a0 → g_X9_takesSlip N a0 V = some q → sj_T X m_X9_takesSlip s0 (some (sj_i q.1), (g, q.2)) 0 [some (sj_r (some a0)), none] [] (g, V) := by
  intro a0 V ha0 h
  unfold g_X9_takesSlip at h
  refine r_aload_n (pc := 0) dX9_takesSlip_0 rfl rfl ?_
  refine r_aload_n (pc := 1) dX9_takesSlip_1 rfl rfl ?_
  refine r_gRs (b := a0 + 1) (pc := 2) dX9_takesSlip_2 fw_X9_9 rfl (ok9 ha0) (ok9_0 ha0).1 ?_
  refine r_sipush (pc := 5) dX9_takesSlip_5 ⟨by decide, by decide⟩ ?_
  refine r_ialoads (pc := 8) h dX9_takesSlip_8 (ok9_0 ha0).2 (fun h => ?_)
  refine r_pIs (pc := 9) h dX9_takesSlip_9 fw_X9_22 rfl rfl (nf9_13) (ok9 ha0) (fun V1 h => ?_)
  refine r_aload_n (pc := 12) dX9_takesSlip_12 rfl rfl ?_
  refine r_aload_n (pc := 13) dX9_takesSlip_13 rfl rfl ?_
  refine r_gRs (b := a0 + 1) (pc := 14) dX9_takesSlip_14 fw_X9_9 rfl (ok9 ha0) (ok9_0 ha0).1 ?_
  refine r_sipush (pc := 17) dX9_takesSlip_17 ⟨by decide, by decide⟩ ?_
  refine r_ialoads (pc := 20) h dX9_takesSlip_20 (ok9_0 ha0).2 (fun h => ?_)
  refine r_pIs (pc := 21) h dX9_takesSlip_21 fw_X9_150 rfl rfl (nf9_14) (ok9 ha0) (fun V2 h => ?_)
  refine r_aload_n (pc := 24) dX9_takesSlip_24 rfl rfl ?_
  refine r_aload_n (pc := 25) dX9_takesSlip_25 rfl rfl ?_
  refine r_gRs (b := a0 + 1) (pc := 26) dX9_takesSlip_26 fw_X9_9 rfl (ok9 ha0) (ok9_0 ha0).1 ?_
  refine r_sipush (pc := 29) dX9_takesSlip_29 ⟨by decide, by decide⟩ ?_
  refine r_ialoads (pc := 32) h dX9_takesSlip_32 (ok9_0 ha0).2 (fun h => ?_)
  refine r_iconst (pc := 33) dX9_takesSlip_33 ?_
  refine r_icmp_ne (pc := 34) (tgt := 41) h dX9_takesSlip_34 (by decide) (fun h => ?_) (fun h => ?_)
  · refine r_iconst (pc := 37) dX9_takesSlip_37 ?_
    refine r_goto (pc := 38) (tgt := 42) dX9_takesSlip_38 (by decide) ?_
    exact sj_weak (l2 := [some (sj_r (some a0)), none]) (⟨rfl, trivial⟩) (st_X9_takesSlip_42 a0 1 a0 V2 ha0 ha0 h)
  · refine r_iconst (pc := 41) dX9_takesSlip_41 ?_
    exact sj_weak (l2 := [some (sj_r (some a0)), none]) (⟨rfl, trivial⟩) (st_X9_takesSlip_42 a0 0 a0 V2 ha0 ha0 h)
set_option maxHeartbeats 4000000 in
theorem cg_X9_takesSlip {X : sj_X} {g : sj_G} {N : Nat} {a0 : Nat} {V : sj_VV} {q : Int × sj_VV} (ha0 : OK9 g a0) (h : g_X9_takesSlip N a0 V = some q) : sj_C X m_X9_takesSlip [sj_r (some a0)] (g, V) (some (sj_i q.1), (g, q.2)) :=
  sj_C_of (by decide +kernel) (Nat.le_of_ble_eq_true rfl) (lo := [some (sj_r (some a0)), none]) rfl (sj_weak (l2 := [some (sj_r (some a0)), none]) (⟨rfl, trivial⟩) (st_X9_takesSlip_0 a0 V ha0 h))
set_option maxHeartbeats 4000000 in
theorem c_X9_takesSlip {X : sj_X} {N : Nat} {a0 : Nat} {s : sj_Mem} {q : Int × sj_Mem} (h : f_X9_takesSlip N a0 s = some q) : sj_C X m_X9_takesSlip [sj_r (some a0)] s (some (sj_i q.1), q.2) := by
  obtain ⟨g, V⟩ := s
  unfold f_X9_takesSlip at h
  obtain ⟨ho, h1⟩ := e_ok_some h
  obtain ⟨q2, h2, rfl⟩ := sj_map_some h1
  exact cg_X9_takesSlip ho h2
theorem dX9_isCounting_0 : decode cX9_isCounting 0 = .ok (.aload_n 0, 1) := by decide +kernel
theorem dX9_isCounting_1 : decode cX9_isCounting 1 = .ok (.getfield 9, 3) := by decide +kernel
theorem dX9_isCounting_4 : decode cX9_isCounting 4 = .ok (.sipush 302, 3) := by decide +kernel
theorem dX9_isCounting_7 : decode cX9_isCounting 7 = .ok (.iconst 3, 1) := by decide +kernel
theorem dX9_isCounting_8 : decode cX9_isCounting 8 = .ok (.iload_n 1, 1) := by decide +kernel
theorem dX9_isCounting_9 : decode cX9_isCounting 9 = .ok (.imul, 1) := by decide +kernel
theorem dX9_isCounting_10 : decode cX9_isCounting 10 = .ok (.iadd, 1) := by decide +kernel
theorem dX9_isCounting_11 : decode cX9_isCounting 11 = .ok (.iaload, 1) := by decide +kernel
theorem dX9_isCounting_12 : decode cX9_isCounting 12 = .ok (.istore_n 2, 1) := by decide +kernel
theorem dX9_isCounting_13 : decode cX9_isCounting 13 = .ok (.aload_n 0, 1) := by decide +kernel
theorem dX9_isCounting_14 : decode cX9_isCounting 14 = .ok (.getfield 9, 3) := by decide +kernel
theorem dX9_isCounting_17 : decode cX9_isCounting 17 = .ok (.sipush 302, 3) := by decide +kernel
theorem dX9_isCounting_20 : decode cX9_isCounting 20 = .ok (.iconst 3, 1) := by decide +kernel
theorem dX9_isCounting_21 : decode cX9_isCounting 21 = .ok (.iload_n 1, 1) := by decide +kernel
theorem dX9_isCounting_22 : decode cX9_isCounting 22 = .ok (.imul, 1) := by decide +kernel
theorem dX9_isCounting_23 : decode cX9_isCounting 23 = .ok (.iadd, 1) := by decide +kernel
theorem dX9_isCounting_24 : decode cX9_isCounting 24 = .ok (.iconst 2, 1) := by decide +kernel
theorem dX9_isCounting_25 : decode cX9_isCounting 25 = .ok (.iadd, 1) := by decide +kernel
theorem dX9_isCounting_26 : decode cX9_isCounting 26 = .ok (.iaload, 1) := by decide +kernel
theorem dX9_isCounting_27 : decode cX9_isCounting 27 = .ok (.ifCond .le 50, 3) := by decide +kernel
theorem dX9_isCounting_30 : decode cX9_isCounting 30 = .ok (.iload_n 2, 1) := by decide +kernel
theorem dX9_isCounting_31 : decode cX9_isCounting 31 = .ok (.i2l, 1) := by decide +kernel
theorem dX9_isCounting_32 : decode cX9_isCounting 32 = .ok (.aload_n 0, 1) := by decide +kernel
theorem dX9_isCounting_33 : decode cX9_isCounting 33 = .ok (.getfield 22, 3) := by decide +kernel
theorem dX9_isCounting_36 : decode cX9_isCounting 36 = .ok (.i2l, 1) := by decide +kernel
theorem dX9_isCounting_37 : decode cX9_isCounting 37 = .ok (.aload_n 0, 1) := by decide +kernel
theorem dX9_isCounting_38 : decode cX9_isCounting 38 = .ok (.getfield 150, 3) := by decide +kernel
theorem dX9_isCounting_41 : decode cX9_isCounting 41 = .ok (.iconst 1, 1) := by decide +kernel
theorem dX9_isCounting_42 : decode cX9_isCounting 42 = .ok (.isub, 1) := by decide +kernel
theorem dX9_isCounting_43 : decode cX9_isCounting 43 = .ok (.i2l, 1) := by decide +kernel
theorem dX9_isCounting_44 : decode cX9_isCounting 44 = .ok (.invokestatic 57, 3) := by decide +kernel
theorem dX9_isCounting_47 : decode cX9_isCounting 47 = .ok (.ifCond .eq 30, 3) := by decide +kernel
theorem dX9_isCounting_50 : decode cX9_isCounting 50 = .ok (.aload_n 0, 1) := by decide +kernel
theorem dX9_isCounting_51 : decode cX9_isCounting 51 = .ok (.getfield 9, 3) := by decide +kernel
theorem dX9_isCounting_54 : decode cX9_isCounting 54 = .ok (.sipush 302, 3) := by decide +kernel
theorem dX9_isCounting_57 : decode cX9_isCounting 57 = .ok (.iconst 3, 1) := by decide +kernel
theorem dX9_isCounting_58 : decode cX9_isCounting 58 = .ok (.iload_n 1, 1) := by decide +kernel
theorem dX9_isCounting_59 : decode cX9_isCounting 59 = .ok (.imul, 1) := by decide +kernel
theorem dX9_isCounting_60 : decode cX9_isCounting 60 = .ok (.iadd, 1) := by decide +kernel
theorem dX9_isCounting_61 : decode cX9_isCounting 61 = .ok (.iconst 1, 1) := by decide +kernel
theorem dX9_isCounting_62 : decode cX9_isCounting 62 = .ok (.iadd, 1) := by decide +kernel
theorem dX9_isCounting_63 : decode cX9_isCounting 63 = .ok (.iaload, 1) := by decide +kernel
theorem dX9_isCounting_64 : decode cX9_isCounting 64 = .ok (.aload_n 0, 1) := by decide +kernel
theorem dX9_isCounting_65 : decode cX9_isCounting 65 = .ok (.getfield 26, 3) := by decide +kernel
theorem dX9_isCounting_68 : decode cX9_isCounting 68 = .ok (.iload_n 2, 1) := by decide +kernel
theorem dX9_isCounting_69 : decode cX9_isCounting 69 = .ok (.iaload, 1) := by decide +kernel
theorem dX9_isCounting_70 : decode cX9_isCounting 70 = .ok (.if_icmp .le 7, 3) := by decide +kernel
theorem dX9_isCounting_73 : decode cX9_isCounting 73 = .ok (.iconst 1, 1) := by decide +kernel
theorem dX9_isCounting_74 : decode cX9_isCounting 74 = .ok (.goto 4, 3) := by decide +kernel
theorem dX9_isCounting_77 : decode cX9_isCounting 77 = .ok (.iconst 0, 1) := by decide +kernel
theorem dX9_isCounting_78 : decode cX9_isCounting 78 = .ok (.ireturn, 1) := by decide +kernel
set_option maxHeartbeats 4000000 in
theorem st_X9_isCounting_0 {X : sj_X} {g : sj_G} {s0 : sj_Mem} {N : Nat} {q : Int × sj_VV} :
    ∀ (a0 : Nat) (x1 : Int) (V : sj_VV), OK9 g a0 → g_X9_isCounting N a0 x1 V = some q → sj_T X m_X9_isCounting s0 (some (sj_i q.1), (g, q.2)) 0 [some (sj_r (some a0)), some (sj_i x1), none] [] (g, V) := by
  intro a0 x1 V ha0 h
  unfold g_X9_isCounting at h
  refine r_aload_n (pc := 0) dX9_isCounting_0 rfl rfl ?_
  refine r_gRs (b := a0 + 1) (pc := 1) dX9_isCounting_1 fw_X9_9 rfl (ok9 ha0) (ok9_0 ha0).1 ?_
  refine r_sipush (pc := 4) dX9_isCounting_4 ⟨by decide, by decide⟩ ?_
  refine r_iconst (pc := 7) dX9_isCounting_7 ?_
  refine r_iload_n (pc := 8) dX9_isCounting_8 rfl rfl ?_
  refine r_imul (pc := 9) dX9_isCounting_9 ?_
  refine r_iadd (pc := 10) dX9_isCounting_10 ?_
  refine r_ialoads (pc := 11) h dX9_isCounting_11 (ok9_0 ha0).2 (fun h => ?_)
  refine r_istore_nL (ln := fun w => [some (sj_r (some a0)), some (sj_i x1), some (sj_i w)]) (pc := 12) h dX9_isCounting_12 rfl (Nat.le_of_ble_eq_true rfl) (fun _ => rfl) (fun v1 h => ?_)
  refine r_aload_n (pc := 13) dX9_isCounting_13 rfl rfl ?_
  refine r_gRs (b := a0 + 1) (pc := 14) dX9_isCounting_14 fw_X9_9 rfl (ok9 ha0) (ok9_0 ha0).1 ?_
  refine r_sipush (pc := 17) dX9_isCounting_17 ⟨by decide, by decide⟩ ?_
  refine r_iconst (pc := 20) dX9_isCounting_20 ?_
  refine r_iload_n (pc := 21) dX9_isCounting_21 rfl rfl ?_
  refine r_imul (pc := 22) dX9_isCounting_22 ?_
  refine r_iadd (pc := 23) dX9_isCounting_23 ?_
  refine r_iconst (pc := 24) dX9_isCounting_24 ?_
  refine r_iadd (pc := 25) dX9_isCounting_25 ?_
  refine r_ialoads (pc := 26) h dX9_isCounting_26 (ok9_0 ha0).2 (fun h => ?_)
  refine r_if_le (pc := 27) (tgt := 77) h dX9_isCounting_27 (by decide) (fun h => ?_) (fun h => ?_)
  · refine r_iconst (pc := 77) dX9_isCounting_77 ?_
    exact r_zrets (pc := 78) h rfl dX9_isCounting_78
  · refine r_iload_n (pc := 30) dX9_isCounting_30 rfl rfl ?_
    refine r_i2l (pc := 31) h dX9_isCounting_31 (fun v2 h => ?_)
    refine r_aload_n (pc := 32) dX9_isCounting_32 rfl rfl ?_
    refine r_gIs (pc := 33) dX9_isCounting_33 fw_X9_22 rfl (ok9 ha0) ?_
    refine r_i2l (pc := 36) h dX9_isCounting_36 (fun v3 h => ?_)
    refine r_aload_n (pc := 37) dX9_isCounting_37 rfl rfl ?_
    refine r_gIs (pc := 38) dX9_isCounting_38 fw_X9_150 rfl (ok9 ha0) ?_
    refine r_iconst (pc := 41) dX9_isCounting_41 ?_
    refine r_isub (pc := 42) dX9_isCounting_42 ?_
    refine r_i2l (pc := 43) h dX9_isCounting_43 (fun v4 h => ?_)
    refine r_callSs (pc := 44) (fun v => some (sj_i v)) (As := [sj_j v2, sj_j v3, sj_j v4]) (rest := []) h dX9_isCounting_44 mw_X9_57 kw_1225 (fun _ _ hc => cg_X9_isIn  hc) rfl ⟨(Nat.le_of_ble_eq_true rfl), (Nat.le_of_ble_eq_true rfl)⟩ (Nat.le_of_ble_eq_true rfl) rfl (fun v6 V5 h => ?_)
    refine r_if_eq (pc := 47) (tgt := 77) h dX9_isCounting_47 (by decide) (fun h => ?_) (fun h => ?_)
    · refine r_iconst (pc := 77) dX9_isCounting_77 ?_
      exact r_zrets (pc := 78) h rfl dX9_isCounting_78
    · refine r_aload_n (pc := 50) dX9_isCounting_50 rfl rfl ?_
      refine r_gRs (b := a0 + 1) (pc := 51) dX9_isCounting_51 fw_X9_9 rfl (ok9 ha0) (ok9_0 ha0).1 ?_
      refine r_sipush (pc := 54) dX9_isCounting_54 ⟨by decide, by decide⟩ ?_
      refine r_iconst (pc := 57) dX9_isCounting_57 ?_
      refine r_iload_n (pc := 58) dX9_isCounting_58 rfl rfl ?_
      refine r_imul (pc := 59) dX9_isCounting_59 ?_
      refine r_iadd (pc := 60) dX9_isCounting_60 ?_
      refine r_iconst (pc := 61) dX9_isCounting_61 ?_
      refine r_iadd (pc := 62) dX9_isCounting_62 ?_
      refine r_ialoads (pc := 63) h dX9_isCounting_63 (ok9_0 ha0).2 (fun h => ?_)
      refine r_aload_n (pc := 64) dX9_isCounting_64 rfl rfl ?_
      refine r_gRs (b := a0 + 5) (pc := 65) dX9_isCounting_65 fw_X9_26 rfl (ok9 ha0) (ok9_16 ha0).1 ?_
      refine r_iload_n (pc := 68) dX9_isCounting_68 rfl rfl ?_
      refine r_ialoads (pc := 69) h dX9_isCounting_69 (ok9_16 ha0).2 (fun h => ?_)
      refine r_icmp_le (pc := 70) (tgt := 77) h dX9_isCounting_70 (by decide) (fun h => ?_) (fun h => ?_)
      · refine r_iconst (pc := 77) dX9_isCounting_77 ?_
        exact r_zrets (pc := 78) h rfl dX9_isCounting_78
      · refine r_iconst (pc := 73) dX9_isCounting_73 ?_
        refine r_goto (pc := 74) (tgt := 78) dX9_isCounting_74 (by decide) ?_
        exact r_zrets (pc := 78) h rfl dX9_isCounting_78
set_option maxHeartbeats 4000000 in
theorem cg_X9_isCounting {X : sj_X} {g : sj_G} {N : Nat} {a0 : Nat} {x1 : Int} {V : sj_VV} {q : Int × sj_VV} (ha0 : OK9 g a0) (h : g_X9_isCounting N a0 x1 V = some q) : sj_C X m_X9_isCounting [sj_r (some a0), sj_i x1] (g, V) (some (sj_i q.1), (g, q.2)) :=
  sj_C_of (by decide +kernel) (Nat.le_of_ble_eq_true rfl) (lo := [some (sj_r (some a0)), some (sj_i x1), none]) rfl (sj_weak (l2 := [some (sj_r (some a0)), some (sj_i x1), none]) (⟨rfl, ⟨rfl, trivial⟩⟩) (st_X9_isCounting_0 a0 x1 V ha0 h))
set_option maxHeartbeats 4000000 in
theorem c_X9_isCounting {X : sj_X} {N : Nat} {a0 : Nat} {x1 : Int} {s : sj_Mem} {q : Int × sj_Mem} (h : f_X9_isCounting N a0 x1 s = some q) : sj_C X m_X9_isCounting [sj_r (some a0), sj_i x1] s (some (sj_i q.1), q.2) := by
  obtain ⟨g, V⟩ := s
  unfold f_X9_isCounting at h
  obtain ⟨ho, h1⟩ := e_ok_some h
  obtain ⟨q2, h2, rfl⟩ := sj_map_some h1
  exact cg_X9_isCounting ho h2
theorem dX9_pulls_0 : decode cX9_pulls 0 = .ok (.lconst 0, 1) := by decide +kernel
theorem dX9_pulls_1 : decode cX9_pulls 1 = .ok (.lstore_n 1, 1) := by decide +kernel
theorem dX9_pulls_2 : decode cX9_pulls 2 = .ok (.iconst 0, 1) := by decide +kernel
theorem dX9_pulls_3 : decode cX9_pulls 3 = .ok (.istore_n 3, 1) := by decide +kernel
theorem dX9_pulls_4 : decode cX9_pulls 4 = .ok (.iload_n 3, 1) := by decide +kernel
theorem dX9_pulls_5 : decode cX9_pulls 5 = .ok (.bipush 6, 2) := by decide +kernel
theorem dX9_pulls_7 : decode cX9_pulls 7 = .ok (.if_icmp .ge 51, 3) := by decide +kernel
theorem dX9_pulls_10 : decode cX9_pulls 10 = .ok (.lload_n 1, 1) := by decide +kernel
theorem dX9_pulls_11 : decode cX9_pulls 11 = .ok (.aload_n 0, 1) := by decide +kernel
theorem dX9_pulls_12 : decode cX9_pulls 12 = .ok (.iload_n 3, 1) := by decide +kernel
theorem dX9_pulls_13 : decode cX9_pulls 13 = .ok (.invokevirtual 161, 3) := by decide +kernel
theorem dX9_pulls_16 : decode cX9_pulls 16 = .ok (.ifCond .eq 33, 3) := by decide +kernel
theorem dX9_pulls_19 : decode cX9_pulls 19 = .ok (.ldc2_w 138, 3) := by decide +kernel
theorem dX9_pulls_22 : decode cX9_pulls 22 = .ok (.aload_n 0, 1) := by decide +kernel
theorem dX9_pulls_23 : decode cX9_pulls 23 = .ok (.getfield 9, 3) := by decide +kernel
theorem dX9_pulls_26 : decode cX9_pulls 26 = .ok (.iconst 1, 1) := by decide +kernel
theorem dX9_pulls_27 : decode cX9_pulls 27 = .ok (.iaload, 1) := by decide +kernel
theorem dX9_pulls_28 : decode cX9_pulls 28 = .ok (.i2l, 1) := by decide +kernel
theorem dX9_pulls_29 : decode cX9_pulls 29 = .ok (.lmul, 1) := by decide +kernel
theorem dX9_pulls_30 : decode cX9_pulls 30 = .ok (.aload_n 0, 1) := by decide +kernel
theorem dX9_pulls_31 : decode cX9_pulls 31 = .ok (.getfield 9, 3) := by decide +kernel
theorem dX9_pulls_34 : decode cX9_pulls 34 = .ok (.sipush 302, 3) := by decide +kernel
theorem dX9_pulls_37 : decode cX9_pulls 37 = .ok (.iconst 3, 1) := by decide +kernel
theorem dX9_pulls_38 : decode cX9_pulls 38 = .ok (.iload_n 3, 1) := by decide +kernel
theorem dX9_pulls_39 : decode cX9_pulls 39 = .ok (.imul, 1) := by decide +kernel
theorem dX9_pulls_40 : decode cX9_pulls 40 = .ok (.iadd, 1) := by decide +kernel
theorem dX9_pulls_41 : decode cX9_pulls 41 = .ok (.iconst 2, 1) := by decide +kernel
theorem dX9_pulls_42 : decode cX9_pulls 42 = .ok (.iadd, 1) := by decide +kernel
theorem dX9_pulls_43 : decode cX9_pulls 43 = .ok (.iaload, 1) := by decide +kernel
theorem dX9_pulls_44 : decode cX9_pulls 44 = .ok (.i2l, 1) := by decide +kernel
theorem dX9_pulls_45 : decode cX9_pulls 45 = .ok (.lmul, 1) := by decide +kernel
theorem dX9_pulls_46 : decode cX9_pulls 46 = .ok (.goto 4, 3) := by decide +kernel
theorem dX9_pulls_49 : decode cX9_pulls 49 = .ok (.lconst 0, 1) := by decide +kernel
theorem dX9_pulls_50 : decode cX9_pulls 50 = .ok (.ladd, 1) := by decide +kernel
theorem dX9_pulls_51 : decode cX9_pulls 51 = .ok (.lstore_n 1, 1) := by decide +kernel
theorem dX9_pulls_52 : decode cX9_pulls 52 = .ok (.iinc 3 1, 3) := by decide +kernel
theorem dX9_pulls_55 : decode cX9_pulls 55 = .ok (.goto (-51), 3) := by decide +kernel
theorem dX9_pulls_58 : decode cX9_pulls 58 = .ok (.lload_n 1, 1) := by decide +kernel
theorem dX9_pulls_59 : decode cX9_pulls 59 = .ok (.lreturn, 1) := by decide +kernel
set_option maxHeartbeats 4000000 in
theorem st_X9_pulls_50 {X : sj_X} {g : sj_G} {s0 : sj_Mem} {N : Nat} {q : Int × sj_VV} {k4 : Nat → Int → Int → sj_VV → Option (Int × sj_VV)} (hk4 : ∀ (a0 : Nat) (x1 : Int) (x3 : Int) (V : sj_VV), OK9 g a0 → k4 a0 x1 x3 V = some q → sj_T X m_X9_pulls s0 (some (sj_j q.1), (g, q.2)) 4 [some (sj_r (some a0)), some (sj_j x1), none, some (sj_i x3)] [] (g, V)) :
    ∀ (a0 : Nat) (x3 : Int) (y0 : Int) (y1 : Int) (V : sj_VV), OK9 g a0 → g_X9_pulls_50 N k4 a0 x3 y0 y1 V = some q → sj_T X m_X9_pulls s0 (some (sj_j q.1), (g, q.2)) 50 [some (sj_r (some a0)), none, none, some (sj_i x3)] [(sj_j y0), (sj_j y1)] (g, V) := by
  intro a0 x3 y0 y1 V ha0 h
  unfold g_X9_pulls_50 at h
  refine r_ladd (pc := 50) dX9_pulls_50 ?_
  refine r_lstore_nL (ln := fun w => [some (sj_r (some a0)), some (sj_j w), none, some (sj_i x3)]) (pc := 51) h dX9_pulls_51 rfl (Nat.le_of_ble_eq_true rfl) (fun _ => rfl) (fun v1 h => ?_)
  refine r_iinc (ln := fun w => [some (sj_r (some a0)), some (sj_j v1), none, some (sj_i w)]) (pc := 52) h dX9_pulls_52 rfl (Nat.le_of_ble_eq_true rfl) (fun _ => rfl) (fun v2 h => ?_)
  refine r_goto (pc := 55) (tgt := 4) dX9_pulls_55 (by decide) ?_
  exact sj_weak (l2 := [some (sj_r (some a0)), some (sj_j v1), none, some (sj_i v2)]) (⟨rfl, ⟨rfl, ⟨rfl, trivial⟩⟩⟩) (hk4 a0 v1 v2 V ha0 h)
set_option maxHeartbeats 4000000 in
theorem st_X9_pulls_4_b {X : sj_X} {g : sj_G} {s0 : sj_Mem} {N : Nat} {q : Int × sj_VV} {k4 : Nat → Int → Int → sj_VV → Option (Int × sj_VV)} (hk4 : ∀ (a0 : Nat) (x1 : Int) (x3 : Int) (V : sj_VV), OK9 g a0 → k4 a0 x1 x3 V = some q → sj_T X m_X9_pulls s0 (some (sj_j q.1), (g, q.2)) 4 [some (sj_r (some a0)), some (sj_j x1), none, some (sj_i x3)] [] (g, V)) :
    ∀ (a0 : Nat) (x1 : Int) (x3 : Int) (V : sj_VV), OK9 g a0 → g_X9_pulls_4_b N k4 a0 x1 x3 V = some q → sj_T X m_X9_pulls s0 (some (sj_j q.1), (g, q.2)) 4 [some (sj_r (some a0)), some (sj_j x1), none, some (sj_i x3)] [] (g, V) := by
  intro a0 x1 x3 V ha0 h
  unfold g_X9_pulls_4_b at h
  refine r_iload_n (pc := 4) dX9_pulls_4 rfl rfl ?_
  refine r_bipush (pc := 5) dX9_pulls_5 ⟨by decide, by decide⟩ ?_
  refine r_icmp_ge (pc := 7) (tgt := 58) h dX9_pulls_7 (by decide) (fun h => ?_) (fun h => ?_)
  · refine r_lload_n (pc := 58) dX9_pulls_58 rfl rfl ?_
    exact r_lrets (pc := 59) h rfl dX9_pulls_59
  · refine r_lload_n (pc := 10) dX9_pulls_10 rfl rfl ?_
    refine r_aload_n (pc := 11) dX9_pulls_11 rfl rfl ?_
    refine r_iload_n (pc := 12) dX9_pulls_12 rfl rfl ?_
    refine r_callVs (pc := 13) (fun v => some (sj_i v)) (As := [sj_i x3]) (rest := [(sj_j x1)]) (b := a0) (ok9 ha0) h dX9_pulls_13 mw_X9_161 vw_X9_isCounting (fun _ _ hc => cg_X9_isCounting ha0 hc) rfl ⟨(Nat.le_of_ble_eq_true rfl), (Nat.le_of_ble_eq_true rfl)⟩ (Nat.le_of_ble_eq_true rfl) rfl (fun v2 V1 h => ?_)
    refine r_if_eq (pc := 16) (tgt := 49) h dX9_pulls_16 (by decide) (fun h => ?_) (fun h => ?_)
    · refine r_lconst0 (pc := 49) dX9_pulls_49 ?_
      exact sj_weak (l2 := [some (sj_r (some a0)), none, none, some (sj_i x3)]) (⟨rfl, ⟨rfl, trivial⟩⟩) (st_X9_pulls_50 hk4 a0 x3 0 x1 V1 ha0 h)
    · refine r_ldc2 (n := 2000) (pc := 19) dX9_pulls_19 kc_X9_138 ?_
      refine r_aload_n (pc := 22) dX9_pulls_22 rfl rfl ?_
      refine r_gRs (b := a0 + 1) (pc := 23) dX9_pulls_23 fw_X9_9 rfl (ok9 ha0) (ok9_0 ha0).1 ?_
      refine r_iconst (pc := 26) dX9_pulls_26 ?_
      refine r_ialoads (pc := 27) h dX9_pulls_27 (ok9_0 ha0).2 (fun h => ?_)
      refine r_i2l (pc := 28) h dX9_pulls_28 (fun v3 h => ?_)
      refine r_lmul (pc := 29) dX9_pulls_29 ?_
      refine r_aload_n (pc := 30) dX9_pulls_30 rfl rfl ?_
      refine r_gRs (b := a0 + 1) (pc := 31) dX9_pulls_31 fw_X9_9 rfl (ok9 ha0) (ok9_0 ha0).1 ?_
      refine r_sipush (pc := 34) dX9_pulls_34 ⟨by decide, by decide⟩ ?_
      refine r_iconst (pc := 37) dX9_pulls_37 ?_
      refine r_iload_n (pc := 38) dX9_pulls_38 rfl rfl ?_
      refine r_imul (pc := 39) dX9_pulls_39 ?_
      refine r_iadd (pc := 40) dX9_pulls_40 ?_
      refine r_iconst (pc := 41) dX9_pulls_41 ?_
      refine r_iadd (pc := 42) dX9_pulls_42 ?_
      refine r_ialoads (pc := 43) h dX9_pulls_43 (ok9_0 ha0).2 (fun h => ?_)
      refine r_i2l (pc := 44) h dX9_pulls_44 (fun v4 h => ?_)
      refine r_lmul (pc := 45) dX9_pulls_45 ?_
      refine r_goto (pc := 46) (tgt := 50) dX9_pulls_46 (by decide) ?_
      exact sj_weak (l2 := [some (sj_r (some a0)), none, none, some (sj_i x3)]) (⟨rfl, ⟨rfl, trivial⟩⟩) (st_X9_pulls_50 hk4 a0 x3 ((2000 * v3) * v4) x1 V1 ha0 h)
set_option maxHeartbeats 4000000 in
theorem st_X9_pulls_4 {X : sj_X} {g : sj_G} {s0 : sj_Mem} {N : Nat} {q : Int × sj_VV} :
    ∀ (n : Nat) (a0 : Nat) (x1 : Int) (x3 : Int) (V : sj_VV), OK9 g a0 → g_X9_pulls_4 N n a0 x1 x3 V = some q → sj_T X m_X9_pulls s0 (some (sj_j q.1), (g, q.2)) 4 [some (sj_r (some a0)), some (sj_j x1), none, some (sj_i x3)] [] (g, V) := by
  intro n
  induction n with
  | zero => intro a0 x1 x3 V ha0 h; exact nomatch h
  | succ n ih => intro a0 x1 x3 V ha0 h; exact st_X9_pulls_4_b (N := N) ih a0 x1 x3 V ha0 h
set_option maxHeartbeats 4000000 in
theorem st_X9_pulls_0 {X : sj_X} {g : sj_G} {s0 : sj_Mem} {N : Nat} {q : Int × sj_VV} :
    ∀ (a0 : Nat) (V : sj_VV), OK9 g a0 → g_X9_pulls N a0 V = some q → sj_T X m_X9_pulls s0 (some (sj_j q.1), (g, q.2)) 0 [some (sj_r (some a0)), none, none, none] [] (g, V) := by
  intro a0 V ha0 h
  unfold g_X9_pulls at h
  refine r_lconst0 (pc := 0) dX9_pulls_0 ?_
  refine r_lstore_n (ln := [some (sj_r (some a0)), some (sj_j 0), none, none]) (pc := 1) dX9_pulls_1 rfl (Nat.le_of_ble_eq_true rfl) rfl ?_
  refine r_iconst (pc := 2) dX9_pulls_2 ?_
  refine r_istore_n (ln := [some (sj_r (some a0)), some (sj_j 0), none, some (sj_i 0)]) (pc := 3) dX9_pulls_3 rfl (Nat.le_of_ble_eq_true rfl) rfl ?_
  exact sj_weak (l2 := [some (sj_r (some a0)), some (sj_j 0), none, some (sj_i 0)]) (⟨rfl, ⟨rfl, ⟨rfl, trivial⟩⟩⟩) (st_X9_pulls_4 N a0 0 0 V ha0 h)
set_option maxHeartbeats 4000000 in
theorem cg_X9_pulls {X : sj_X} {g : sj_G} {N : Nat} {a0 : Nat} {V : sj_VV} {q : Int × sj_VV} (ha0 : OK9 g a0) (h : g_X9_pulls N a0 V = some q) : sj_C X m_X9_pulls [sj_r (some a0)] (g, V) (some (sj_j q.1), (g, q.2)) :=
  sj_C_of (by decide +kernel) (Nat.le_of_ble_eq_true rfl) (lo := [some (sj_r (some a0)), none, none, none]) rfl (sj_weak (l2 := [some (sj_r (some a0)), none, none, none]) (⟨rfl, trivial⟩) (st_X9_pulls_0 a0 V ha0 h))
set_option maxHeartbeats 4000000 in
theorem c_X9_pulls {X : sj_X} {N : Nat} {a0 : Nat} {s : sj_Mem} {q : Int × sj_Mem} (h : f_X9_pulls N a0 s = some q) : sj_C X m_X9_pulls [sj_r (some a0)] s (some (sj_j q.1), q.2) := by
  obtain ⟨g, V⟩ := s
  unfold f_X9_pulls at h
  obtain ⟨ho, h1⟩ := e_ok_some h
  obtain ⟨q2, h2, rfl⟩ := sj_map_some h1
  exact cg_X9_pulls ho h2
theorem dX9_upwards_0 : decode cX9_upwards 0 = .ok (.lload_n 0, 1) := by decide +kernel
theorem dX9_upwards_1 : decode cX9_upwards 1 = .ok (.lconst 0, 1) := by decide +kernel
theorem dX9_upwards_2 : decode cX9_upwards 2 = .ok (.lcmp, 1) := by decide +kernel
theorem dX9_upwards_3 : decode cX9_upwards 3 = .ok (.ifCond .lt 13, 3) := by decide +kernel
theorem dX9_upwards_6 : decode cX9_upwards 6 = .ok (.lload_n 0, 1) := by decide +kernel
theorem dX9_upwards_7 : decode cX9_upwards 7 = .ok (.lload_n 2, 1) := by decide +kernel
theorem dX9_upwards_8 : decode cX9_upwards 8 = .ok (.ladd, 1) := by decide +kernel
theorem dX9_upwards_9 : decode cX9_upwards 9 = .ok (.lconst 1, 1) := by decide +kernel
theorem dX9_upwards_10 : decode cX9_upwards 10 = .ok (.lsub, 1) := by decide +kernel
theorem dX9_upwards_11 : decode cX9_upwards 11 = .ok (.lload_n 2, 1) := by decide +kernel
theorem dX9_upwards_12 : decode cX9_upwards 12 = .ok (.ldiv, 1) := by decide +kernel
theorem dX9_upwards_13 : decode cX9_upwards 13 = .ok (.goto 8, 3) := by decide +kernel
theorem dX9_upwards_16 : decode cX9_upwards 16 = .ok (.lload_n 0, 1) := by decide +kernel
theorem dX9_upwards_17 : decode cX9_upwards 17 = .ok (.lneg, 1) := by decide +kernel
theorem dX9_upwards_18 : decode cX9_upwards 18 = .ok (.lload_n 2, 1) := by decide +kernel
theorem dX9_upwards_19 : decode cX9_upwards 19 = .ok (.ldiv, 1) := by decide +kernel
theorem dX9_upwards_20 : decode cX9_upwards 20 = .ok (.lneg, 1) := by decide +kernel
theorem dX9_upwards_21 : decode cX9_upwards 21 = .ok (.lreturn, 1) := by decide +kernel
set_option maxHeartbeats 4000000 in
theorem st_X9_upwards_0 {X : sj_X} {g : sj_G} {s0 : sj_Mem} {N : Nat} {q : Int × sj_VV} :
    ∀ (x0 : Int) (x2 : Int) (V : sj_VV), g_X9_upwards N x0 x2 V = some q → sj_T X m_X9_upwards s0 (some (sj_j q.1), (g, q.2)) 0 [some (sj_j x0), none, some (sj_j x2), none] [] (g, V) := by
  intro x0 x2 V  h
  unfold g_X9_upwards at h
  refine r_lload_n (pc := 0) dX9_upwards_0 rfl rfl ?_
  refine r_lconst0 (pc := 1) dX9_upwards_1 ?_
  refine r_llt (pc := 2) (tgt := 16) h dX9_upwards_2 rfl dX9_upwards_3 (by decide) (fun h => ?_) (fun h => ?_)
  · refine r_lload_n (pc := 16) dX9_upwards_16 rfl rfl ?_
    refine r_lneg (pc := 17) dX9_upwards_17 ?_
    refine r_lload_n (pc := 18) dX9_upwards_18 rfl rfl ?_
    refine r_ldiv (pc := 19) h dX9_upwards_19 (fun v1 h => ?_)
    refine r_lneg (pc := 20) dX9_upwards_20 ?_
    exact r_lrets (pc := 21) h rfl dX9_upwards_21
  · refine r_lload_n (pc := 6) dX9_upwards_6 rfl rfl ?_
    refine r_lload_n (pc := 7) dX9_upwards_7 rfl rfl ?_
    refine r_ladd (pc := 8) dX9_upwards_8 ?_
    refine r_lconst1 (pc := 9) dX9_upwards_9 ?_
    refine r_lsub (pc := 10) dX9_upwards_10 ?_
    refine r_lload_n (pc := 11) dX9_upwards_11 rfl rfl ?_
    refine r_ldiv (pc := 12) h dX9_upwards_12 (fun v2 h => ?_)
    refine r_goto (pc := 13) (tgt := 21) dX9_upwards_13 (by decide) ?_
    exact r_lrets (pc := 21) h rfl dX9_upwards_21
set_option maxHeartbeats 4000000 in
theorem cg_X9_upwards {X : sj_X} {g : sj_G} {N : Nat} {x0 : Int} {x2 : Int} {V : sj_VV} {q : Int × sj_VV} (h : g_X9_upwards N x0 x2 V = some q) : sj_C X m_X9_upwards [sj_j x0, sj_j x2] (g, V) (some (sj_j q.1), (g, q.2)) :=
  sj_C_of (by decide +kernel) (Nat.le_of_ble_eq_true rfl) (lo := [some (sj_j x0), none, some (sj_j x2), none]) rfl (sj_weak (l2 := [some (sj_j x0), none, some (sj_j x2), none]) (⟨rfl, ⟨rfl, trivial⟩⟩) (st_X9_upwards_0 x0 x2 V h))
set_option maxHeartbeats 4000000 in
theorem c_X9_upwards {X : sj_X} {N : Nat} {x0 : Int} {x2 : Int} {s : sj_Mem} {q : Int × sj_Mem} (h : f_X9_upwards N x0 x2 s = some q) : sj_C X m_X9_upwards [sj_j x0, sj_j x2] s (some (sj_j q.1), q.2) := by
  obtain ⟨g, V⟩ := s
  unfold f_X9_upwards at h
  obtain ⟨ho, h1⟩ := e_ok_some h
  obtain ⟨q2, h2, rfl⟩ := sj_map_some h1
  exact cg_X9_upwards  h2
theorem dX9_least_0 : decode cX9_least 0 = .ok (.iload_n 0, 1) := by decide +kernel
theorem dX9_least_1 : decode cX9_least 1 = .ok (.iload_n 1, 1) := by decide +kernel
theorem dX9_least_2 : decode cX9_least 2 = .ok (.if_icmp .ge 7, 3) := by decide +kernel
theorem dX9_least_5 : decode cX9_least 5 = .ok (.iload_n 0, 1) := by decide +kernel
theorem dX9_least_6 : decode cX9_least 6 = .ok (.goto 4, 3) := by decide +kernel
theorem dX9_least_9 : decode cX9_least 9 = .ok (.iload_n 1, 1) := by decide +kernel
theorem dX9_least_10 : decode cX9_least 10 = .ok (.ireturn, 1) := by decide +kernel
set_option maxHeartbeats 4000000 in
theorem st_X9_least_0 {X : sj_X} {g : sj_G} {s0 : sj_Mem} {N : Nat} {q : Int × sj_VV} :
    ∀ (x0 : Int) (x1 : Int) (V : sj_VV), g_X9_least N x0 x1 V = some q → sj_T X m_X9_least s0 (some (sj_i q.1), (g, q.2)) 0 [some (sj_i x0), some (sj_i x1)] [] (g, V) := by
  intro x0 x1 V  h
  unfold g_X9_least at h
  refine r_iload_n (pc := 0) dX9_least_0 rfl rfl ?_
  refine r_iload_n (pc := 1) dX9_least_1 rfl rfl ?_
  refine r_icmp_ge (pc := 2) (tgt := 9) h dX9_least_2 (by decide) (fun h => ?_) (fun h => ?_)
  · refine r_iload_n (pc := 9) dX9_least_9 rfl rfl ?_
    exact r_irets (pc := 10) h rfl dX9_least_10
  · refine r_iload_n (pc := 5) dX9_least_5 rfl rfl ?_
    refine r_goto (pc := 6) (tgt := 10) dX9_least_6 (by decide) ?_
    exact r_irets (pc := 10) h rfl dX9_least_10
set_option maxHeartbeats 4000000 in
theorem cg_X9_least {X : sj_X} {g : sj_G} {N : Nat} {x0 : Int} {x1 : Int} {V : sj_VV} {q : Int × sj_VV} (h : g_X9_least N x0 x1 V = some q) : sj_C X m_X9_least [sj_i x0, sj_i x1] (g, V) (some (sj_i q.1), (g, q.2)) :=
  sj_C_of (by decide +kernel) (Nat.le_of_ble_eq_true rfl) (lo := [some (sj_i x0), some (sj_i x1)]) rfl (sj_weak (l2 := [some (sj_i x0), some (sj_i x1)]) (⟨rfl, ⟨rfl, trivial⟩⟩) (st_X9_least_0 x0 x1 V h))
set_option maxHeartbeats 4000000 in
theorem c_X9_least {X : sj_X} {N : Nat} {x0 : Int} {x1 : Int} {s : sj_Mem} {q : Int × sj_Mem} (h : f_X9_least N x0 x1 s = some q) : sj_C X m_X9_least [sj_i x0, sj_i x1] s (some (sj_i q.1), q.2) := by
  obtain ⟨g, V⟩ := s
  unfold f_X9_least at h
  obtain ⟨ho, h1⟩ := e_ok_some h
  obtain ⟨q2, h2, rfl⟩ := sj_map_some h1
  exact cg_X9_least  h2
theorem dX9_water_0 : decode cX9_water 0 = .ok (.aload_n 0, 1) := by decide +kernel
theorem dX9_water_1 : decode cX9_water 1 = .ok (.getfield 9, 3) := by decide +kernel
theorem dX9_water_4 : decode cX9_water 4 = .ok (.bipush 85, 2) := by decide +kernel
theorem dX9_water_6 : decode cX9_water 6 = .ok (.iload_n 1, 1) := by decide +kernel
theorem dX9_water_7 : decode cX9_water 7 = .ok (.iadd, 1) := by decide +kernel
theorem dX9_water_8 : decode cX9_water 8 = .ok (.iaload, 1) := by decide +kernel
theorem dX9_water_9 : decode cX9_water 9 = .ok (.aload_n 0, 1) := by decide +kernel
theorem dX9_water_10 : decode cX9_water 10 = .ok (.getfield 9, 3) := by decide +kernel
theorem dX9_water_13 : decode cX9_water 13 = .ok (.iconst 3, 1) := by decide +kernel
theorem dX9_water_14 : decode cX9_water 14 = .ok (.iload_n 1, 1) := by decide +kernel
theorem dX9_water_15 : decode cX9_water 15 = .ok (.iadd, 1) := by decide +kernel
theorem dX9_water_16 : decode cX9_water 16 = .ok (.iaload, 1) := by decide +kernel
theorem dX9_water_17 : decode cX9_water 17 = .ok (.invokestatic 104, 3) := by decide +kernel
theorem dX9_water_20 : decode cX9_water 20 = .ok (.ireturn, 1) := by decide +kernel
set_option maxHeartbeats 4000000 in
theorem st_X9_water_0 {X : sj_X} {g : sj_G} {s0 : sj_Mem} {N : Nat} {q : Int × sj_VV} :
    ∀ (a0 : Nat) (x1 : Int) (V : sj_VV), OK9 g a0 → g_X9_water N a0 x1 V = some q → sj_T X m_X9_water s0 (some (sj_i q.1), (g, q.2)) 0 [some (sj_r (some a0)), some (sj_i x1)] [] (g, V) := by
  intro a0 x1 V ha0 h
  unfold g_X9_water at h
  refine r_aload_n (pc := 0) dX9_water_0 rfl rfl ?_
  refine r_gRs (b := a0 + 1) (pc := 1) dX9_water_1 fw_X9_9 rfl (ok9 ha0) (ok9_0 ha0).1 ?_
  refine r_bipush (pc := 4) dX9_water_4 ⟨by decide, by decide⟩ ?_
  refine r_iload_n (pc := 6) dX9_water_6 rfl rfl ?_
  refine r_iadd (pc := 7) dX9_water_7 ?_
  refine r_ialoads (pc := 8) h dX9_water_8 (ok9_0 ha0).2 (fun h => ?_)
  refine r_aload_n (pc := 9) dX9_water_9 rfl rfl ?_
  refine r_gRs (b := a0 + 1) (pc := 10) dX9_water_10 fw_X9_9 rfl (ok9 ha0) (ok9_0 ha0).1 ?_
  refine r_iconst (pc := 13) dX9_water_13 ?_
  refine r_iload_n (pc := 14) dX9_water_14 rfl rfl ?_
  refine r_iadd (pc := 15) dX9_water_15 ?_
  refine r_ialoads (pc := 16) h dX9_water_16 (ok9_0 ha0).2 (fun h => ?_)
  refine r_callSs (pc := 17) (fun v => some (sj_i v)) (As := [sj_i (V (a0 + 1) (85 + x1).toNat), sj_i (V (a0 + 1) (3 + x1).toNat)]) (rest := []) h dX9_water_17 mw_X9_104 kw_1352 (fun _ _ hc => cg_X9_least  hc) rfl ⟨(Nat.le_of_ble_eq_true rfl), (Nat.le_of_ble_eq_true rfl)⟩ (Nat.le_of_ble_eq_true rfl) rfl (fun v2 V1 h => ?_)
  exact r_irets (pc := 20) h rfl dX9_water_20
set_option maxHeartbeats 4000000 in
theorem cg_X9_water {X : sj_X} {g : sj_G} {N : Nat} {a0 : Nat} {x1 : Int} {V : sj_VV} {q : Int × sj_VV} (ha0 : OK9 g a0) (h : g_X9_water N a0 x1 V = some q) : sj_C X m_X9_water [sj_r (some a0), sj_i x1] (g, V) (some (sj_i q.1), (g, q.2)) :=
  sj_C_of (by decide +kernel) (Nat.le_of_ble_eq_true rfl) (lo := [some (sj_r (some a0)), some (sj_i x1)]) rfl (sj_weak (l2 := [some (sj_r (some a0)), some (sj_i x1)]) (⟨rfl, ⟨rfl, trivial⟩⟩) (st_X9_water_0 a0 x1 V ha0 h))
set_option maxHeartbeats 4000000 in
theorem c_X9_water {X : sj_X} {N : Nat} {a0 : Nat} {x1 : Int} {s : sj_Mem} {q : Int × sj_Mem} (h : f_X9_water N a0 x1 s = some q) : sj_C X m_X9_water [sj_r (some a0), sj_i x1] s (some (sj_i q.1), q.2) := by
  obtain ⟨g, V⟩ := s
  unfold f_X9_water at h
  obtain ⟨ho, h1⟩ := e_ok_some h
  obtain ⟨q2, h2, rfl⟩ := sj_map_some h1
  exact cg_X9_water ho h2
theorem dX9_top_0 : decode cX9_top 0 = .ok (.aload_n 0, 1) := by decide +kernel
theorem dX9_top_1 : decode cX9_top 1 = .ok (.getfield 9, 3) := by decide +kernel
theorem dX9_top_4 : decode cX9_top 4 = .ok (.iconst 3, 1) := by decide +kernel
theorem dX9_top_5 : decode cX9_top 5 = .ok (.iload_n 2, 1) := by decide +kernel
theorem dX9_top_6 : decode cX9_top 6 = .ok (.iadd, 1) := by decide +kernel
theorem dX9_top_7 : decode cX9_top 7 = .ok (.iaload, 1) := by decide +kernel
theorem dX9_top_8 : decode cX9_top 8 = .ok (.istore_n 3, 1) := by decide +kernel
theorem dX9_top_9 : decode cX9_top 9 = .ok (.iconst 1, 1) := by decide +kernel
theorem dX9_top_10 : decode cX9_top 10 = .ok (.istore 4, 2) := by decide +kernel
theorem dX9_top_12 : decode cX9_top 12 = .ok (.iload 4, 2) := by decide +kernel
theorem dX9_top_14 : decode cX9_top 14 = .ok (.iload_n 1, 1) := by decide +kernel
theorem dX9_top_15 : decode cX9_top 15 = .ok (.if_icmp .gt 32, 3) := by decide +kernel
theorem dX9_top_18 : decode cX9_top 18 = .ok (.iload_n 3, 1) := by decide +kernel
theorem dX9_top_19 : decode cX9_top 19 = .ok (.aload_n 0, 1) := by decide +kernel
theorem dX9_top_20 : decode cX9_top 20 = .ok (.getfield 9, 3) := by decide +kernel
theorem dX9_top_23 : decode cX9_top 23 = .ok (.sipush 167, 3) := by decide +kernel
theorem dX9_top_26 : decode cX9_top 26 = .ok (.bipush 41, 2) := by decide +kernel
theorem dX9_top_28 : decode cX9_top 28 = .ok (.iload 4, 2) := by decide +kernel
theorem dX9_top_30 : decode cX9_top 30 = .ok (.iconst 1, 1) := by decide +kernel
theorem dX9_top_31 : decode cX9_top 31 = .ok (.isub, 1) := by decide +kernel
theorem dX9_top_32 : decode cX9_top 32 = .ok (.imul, 1) := by decide +kernel
theorem dX9_top_33 : decode cX9_top 33 = .ok (.iadd, 1) := by decide +kernel
theorem dX9_top_34 : decode cX9_top 34 = .ok (.iload_n 2, 1) := by decide +kernel
theorem dX9_top_35 : decode cX9_top 35 = .ok (.iadd, 1) := by decide +kernel
theorem dX9_top_36 : decode cX9_top 36 = .ok (.iaload, 1) := by decide +kernel
theorem dX9_top_37 : decode cX9_top 37 = .ok (.invokestatic 104, 3) := by decide +kernel
theorem dX9_top_40 : decode cX9_top 40 = .ok (.istore_n 3, 1) := by decide +kernel
theorem dX9_top_41 : decode cX9_top 41 = .ok (.iinc 4 1, 3) := by decide +kernel
theorem dX9_top_44 : decode cX9_top 44 = .ok (.goto (-32), 3) := by decide +kernel
theorem dX9_top_47 : decode cX9_top 47 = .ok (.iload_n 3, 1) := by decide +kernel
theorem dX9_top_48 : decode cX9_top 48 = .ok (.ireturn, 1) := by decide +kernel
set_option maxHeartbeats 4000000 in
theorem st_X9_top_12_b {X : sj_X} {g : sj_G} {s0 : sj_Mem} {N : Nat} {q : Int × sj_VV} {k12 : Nat → Int → Int → Int → Int → sj_VV → Option (Int × sj_VV)} (hk12 : ∀ (a0 : Nat) (x1 : Int) (x2 : Int) (x3 : Int) (x4 : Int) (V : sj_VV), OK9 g a0 → k12 a0 x1 x2 x3 x4 V = some q → sj_T X m_X9_top s0 (some (sj_i q.1), (g, q.2)) 12 [some (sj_r (some a0)), some (sj_i x1), some (sj_i x2), some (sj_i x3), some (sj_i x4)] [] (g, V)) :
    ∀ (a0 : Nat) (x1 : Int) (x2 : Int) (x3 : Int) (x4 : Int) (V : sj_VV), OK9 g a0 → g_X9_top_12_b N k12 a0 x1 x2 x3 x4 V = some q → sj_T X m_X9_top s0 (some (sj_i q.1), (g, q.2)) 12 [some (sj_r (some a0)), some (sj_i x1), some (sj_i x2), some (sj_i x3), some (sj_i x4)] [] (g, V) := by
  intro a0 x1 x2 x3 x4 V ha0 h
  unfold g_X9_top_12_b at h
  refine r_iload (pc := 12) dX9_top_12 rfl ?_
  refine r_iload_n (pc := 14) dX9_top_14 rfl rfl ?_
  refine r_icmp_gt (pc := 15) (tgt := 47) h dX9_top_15 (by decide) (fun h => ?_) (fun h => ?_)
  · refine r_iload_n (pc := 47) dX9_top_47 rfl rfl ?_
    exact r_irets (pc := 48) h rfl dX9_top_48
  · refine r_iload_n (pc := 18) dX9_top_18 rfl rfl ?_
    refine r_aload_n (pc := 19) dX9_top_19 rfl rfl ?_
    refine r_gRs (b := a0 + 1) (pc := 20) dX9_top_20 fw_X9_9 rfl (ok9 ha0) (ok9_0 ha0).1 ?_
    refine r_sipush (pc := 23) dX9_top_23 ⟨by decide, by decide⟩ ?_
    refine r_bipush (pc := 26) dX9_top_26 ⟨by decide, by decide⟩ ?_
    refine r_iload (pc := 28) dX9_top_28 rfl ?_
    refine r_iconst (pc := 30) dX9_top_30 ?_
    refine r_isub (pc := 31) dX9_top_31 ?_
    refine r_imul (pc := 32) dX9_top_32 ?_
    refine r_iadd (pc := 33) dX9_top_33 ?_
    refine r_iload_n (pc := 34) dX9_top_34 rfl rfl ?_
    refine r_iadd (pc := 35) dX9_top_35 ?_
    refine r_ialoads (pc := 36) h dX9_top_36 (ok9_0 ha0).2 (fun h => ?_)
    refine r_callSs (pc := 37) (fun v => some (sj_i v)) (As := [sj_i x3, sj_i (V (a0 + 1) ((167 + (41 * (x4 - 1))) + x2).toNat)]) (rest := []) h dX9_top_37 mw_X9_104 kw_1352 (fun _ _ hc => cg_X9_least  hc) rfl ⟨(Nat.le_of_ble_eq_true rfl), (Nat.le_of_ble_eq_true rfl)⟩ (Nat.le_of_ble_eq_true rfl) rfl (fun v2 V1 h => ?_)
    refine r_istore_n (ln := [some (sj_r (some a0)), some (sj_i x1), some (sj_i x2), some (sj_i v2), some (sj_i x4)]) (pc := 40) dX9_top_40 rfl (Nat.le_of_ble_eq_true rfl) rfl ?_
    refine r_iinc (ln := fun w => [some (sj_r (some a0)), some (sj_i x1), some (sj_i x2), some (sj_i v2), some (sj_i w)]) (pc := 41) h dX9_top_41 rfl (Nat.le_of_ble_eq_true rfl) (fun _ => rfl) (fun v3 h => ?_)
    refine r_goto (pc := 44) (tgt := 12) dX9_top_44 (by decide) ?_
    exact sj_weak (l2 := [some (sj_r (some a0)), some (sj_i x1), some (sj_i x2), some (sj_i v2), some (sj_i v3)]) (⟨rfl, ⟨rfl, ⟨rfl, ⟨rfl, ⟨rfl, trivial⟩⟩⟩⟩⟩) (hk12 a0 x1 x2 v2 v3 V1 ha0 h)
set_option maxHeartbeats 4000000 in
theorem st_X9_top_12 {X : sj_X} {g : sj_G} {s0 : sj_Mem} {N : Nat} {q : Int × sj_VV} :
    ∀ (n : Nat) (a0 : Nat) (x1 : Int) (x2 : Int) (x3 : Int) (x4 : Int) (V : sj_VV), OK9 g a0 → g_X9_top_12 N n a0 x1 x2 x3 x4 V = some q → sj_T X m_X9_top s0 (some (sj_i q.1), (g, q.2)) 12 [some (sj_r (some a0)), some (sj_i x1), some (sj_i x2), some (sj_i x3), some (sj_i x4)] [] (g, V) := by
  intro n
  induction n with
  | zero => intro a0 x1 x2 x3 x4 V ha0 h; exact nomatch h
  | succ n ih => intro a0 x1 x2 x3 x4 V ha0 h; exact st_X9_top_12_b (N := N) ih a0 x1 x2 x3 x4 V ha0 h
set_option maxHeartbeats 4000000 in
theorem st_X9_top_0 {X : sj_X} {g : sj_G} {s0 : sj_Mem} {N : Nat} {q : Int × sj_VV} :
    ∀ (a0 : Nat) (x1 : Int) (x2 : Int) (V : sj_VV), OK9 g a0 → g_X9_top N a0 x1 x2 V = some q → sj_T X m_X9_top s0 (some (sj_i q.1), (g, q.2)) 0 [some (sj_r (some a0)), some (sj_i x1), some (sj_i x2), none, none] [] (g, V) := by
  intro a0 x1 x2 V ha0 h
  unfold g_X9_top at h
  refine r_aload_n (pc := 0) dX9_top_0 rfl rfl ?_
  refine r_gRs (b := a0 + 1) (pc := 1) dX9_top_1 fw_X9_9 rfl (ok9 ha0) (ok9_0 ha0).1 ?_
  refine r_iconst (pc := 4) dX9_top_4 ?_
  refine r_iload_n (pc := 5) dX9_top_5 rfl rfl ?_
  refine r_iadd (pc := 6) dX9_top_6 ?_
  refine r_ialoads (pc := 7) h dX9_top_7 (ok9_0 ha0).2 (fun h => ?_)
  refine r_istore_nL (ln := fun w => [some (sj_r (some a0)), some (sj_i x1), some (sj_i x2), some (sj_i w), none]) (pc := 8) h dX9_top_8 rfl (Nat.le_of_ble_eq_true rfl) (fun _ => rfl) (fun v1 h => ?_)
  refine r_iconst (pc := 9) dX9_top_9 ?_
  refine r_istore (ln := [some (sj_r (some a0)), some (sj_i x1), some (sj_i x2), some (sj_i v1), some (sj_i 1)]) (pc := 10) dX9_top_10 (Nat.le_of_ble_eq_true rfl) rfl ?_
  exact sj_weak (l2 := [some (sj_r (some a0)), some (sj_i x1), some (sj_i x2), some (sj_i v1), some (sj_i 1)]) (⟨rfl, ⟨rfl, ⟨rfl, ⟨rfl, ⟨rfl, trivial⟩⟩⟩⟩⟩) (st_X9_top_12 N a0 x1 x2 v1 1 V ha0 h)
set_option maxHeartbeats 4000000 in
theorem cg_X9_top {X : sj_X} {g : sj_G} {N : Nat} {a0 : Nat} {x1 : Int} {x2 : Int} {V : sj_VV} {q : Int × sj_VV} (ha0 : OK9 g a0) (h : g_X9_top N a0 x1 x2 V = some q) : sj_C X m_X9_top [sj_r (some a0), sj_i x1, sj_i x2] (g, V) (some (sj_i q.1), (g, q.2)) :=
  sj_C_of (by decide +kernel) (Nat.le_of_ble_eq_true rfl) (lo := [some (sj_r (some a0)), some (sj_i x1), some (sj_i x2), none, none]) rfl (sj_weak (l2 := [some (sj_r (some a0)), some (sj_i x1), some (sj_i x2), none, none]) (⟨rfl, ⟨rfl, ⟨rfl, trivial⟩⟩⟩) (st_X9_top_0 a0 x1 x2 V ha0 h))
set_option maxHeartbeats 4000000 in
theorem c_X9_top {X : sj_X} {N : Nat} {a0 : Nat} {x1 : Int} {x2 : Int} {s : sj_Mem} {q : Int × sj_Mem} (h : f_X9_top N a0 x1 x2 s = some q) : sj_C X m_X9_top [sj_r (some a0), sj_i x1, sj_i x2] s (some (sj_i q.1), q.2) := by
  obtain ⟨g, V⟩ := s
  unfold f_X9_top at h
  obtain ⟨ho, h1⟩ := e_ok_some h
  obtain ⟨q2, h2, rfl⟩ := sj_map_some h1
  exact cg_X9_top ho h2
theorem dX9_thick_0 : decode cX9_thick 0 = .ok (.iload_n 1, 1) := by decide +kernel
theorem dX9_thick_1 : decode cX9_thick 1 = .ok (.iconst 3, 1) := by decide +kernel
theorem dX9_thick_2 : decode cX9_thick 2 = .ok (.if_icmp .ne 7, 3) := by decide +kernel
theorem dX9_thick_5 : decode cX9_thick 5 = .ok (.iload_n 3, 1) := by decide +kernel
theorem dX9_thick_6 : decode cX9_thick 6 = .ok (.goto 15, 3) := by decide +kernel
theorem dX9_thick_9 : decode cX9_thick 9 = .ok (.iload_n 3, 1) := by decide +kernel
theorem dX9_thick_10 : decode cX9_thick 10 = .ok (.aload_n 0, 1) := by decide +kernel
theorem dX9_thick_11 : decode cX9_thick 11 = .ok (.iload_n 1, 1) := by decide +kernel
theorem dX9_thick_12 : decode cX9_thick 12 = .ok (.iconst 1, 1) := by decide +kernel
theorem dX9_thick_13 : decode cX9_thick 13 = .ok (.iadd, 1) := by decide +kernel
theorem dX9_thick_14 : decode cX9_thick 14 = .ok (.iload_n 2, 1) := by decide +kernel
theorem dX9_thick_15 : decode cX9_thick 15 = .ok (.invokevirtual 108, 3) := by decide +kernel
theorem dX9_thick_18 : decode cX9_thick 18 = .ok (.invokestatic 111, 3) := by decide +kernel
theorem dX9_thick_21 : decode cX9_thick 21 = .ok (.istore 4, 2) := by decide +kernel
theorem dX9_thick_23 : decode cX9_thick 23 = .ok (.aload_n 0, 1) := by decide +kernel
theorem dX9_thick_24 : decode cX9_thick 24 = .ok (.iload_n 1, 1) := by decide +kernel
theorem dX9_thick_25 : decode cX9_thick 25 = .ok (.iload_n 2, 1) := by decide +kernel
theorem dX9_thick_26 : decode cX9_thick 26 = .ok (.invokevirtual 108, 3) := by decide +kernel
theorem dX9_thick_29 : decode cX9_thick 29 = .ok (.iload 4, 2) := by decide +kernel
theorem dX9_thick_31 : decode cX9_thick 31 = .ok (.isub, 1) := by decide +kernel
theorem dX9_thick_32 : decode cX9_thick 32 = .ok (.istore 5, 2) := by decide +kernel
theorem dX9_thick_34 : decode cX9_thick 34 = .ok (.iload 5, 2) := by decide +kernel
theorem dX9_thick_36 : decode cX9_thick 36 = .ok (.ifCond .le 8, 3) := by decide +kernel
theorem dX9_thick_39 : decode cX9_thick 39 = .ok (.iload 5, 2) := by decide +kernel
theorem dX9_thick_41 : decode cX9_thick 41 = .ok (.goto 4, 3) := by decide +kernel
theorem dX9_thick_44 : decode cX9_thick 44 = .ok (.iconst 0, 1) := by decide +kernel
theorem dX9_thick_45 : decode cX9_thick 45 = .ok (.ireturn, 1) := by decide +kernel
set_option maxHeartbeats 4000000 in
theorem st_X9_thick_21 {X : sj_X} {g : sj_G} {s0 : sj_Mem} {N : Nat} {q : Int × sj_VV} :
    ∀ (a0 : Nat) (x1 : Int) (x2 : Int) (y0 : Int) (V : sj_VV), OK9 g a0 → g_X9_thick_21 N a0 x1 x2 y0 V = some q → sj_T X m_X9_thick s0 (some (sj_i q.1), (g, q.2)) 21 [some (sj_r (some a0)), some (sj_i x1), some (sj_i x2), none, none, none] [(sj_i y0)] (g, V) := by
  intro a0 x1 x2 y0 V ha0 h
  unfold g_X9_thick_21 at h
  refine r_istore (ln := [some (sj_r (some a0)), some (sj_i x1), some (sj_i x2), none, some (sj_i y0), none]) (pc := 21) dX9_thick_21 (Nat.le_of_ble_eq_true rfl) rfl ?_
  refine r_aload_n (pc := 23) dX9_thick_23 rfl rfl ?_
  refine r_iload_n (pc := 24) dX9_thick_24 rfl rfl ?_
  refine r_iload_n (pc := 25) dX9_thick_25 rfl rfl ?_
  refine r_callVs (pc := 26) (fun v => some (sj_i v)) (As := [sj_i x1, sj_i x2]) (rest := []) (b := a0) (ok9 ha0) h dX9_thick_26 mw_X9_108 vw_X9_top (fun _ _ hc => cg_X9_top ha0 hc) rfl ⟨(Nat.le_of_ble_eq_true rfl), (Nat.le_of_ble_eq_true rfl)⟩ (Nat.le_of_ble_eq_true rfl) rfl (fun v2 V1 h => ?_)
  refine r_iload (pc := 29) dX9_thick_29 rfl ?_
  refine r_isub (pc := 31) dX9_thick_31 ?_
  refine r_istoreL (ln := fun w => [some (sj_r (some a0)), some (sj_i x1), some (sj_i x2), none, some (sj_i y0), some (sj_i w)]) (pc := 32) h dX9_thick_32 (Nat.le_of_ble_eq_true rfl) (fun _ => rfl) (fun v3 h => ?_)
  refine r_iload (pc := 34) dX9_thick_34 rfl ?_
  refine r_if_le (pc := 36) (tgt := 44) h dX9_thick_36 (by decide) (fun h => ?_) (fun h => ?_)
  · refine r_iconst (pc := 44) dX9_thick_44 ?_
    exact r_irets (pc := 45) h rfl dX9_thick_45
  · refine r_iload (pc := 39) dX9_thick_39 rfl ?_
    refine r_goto (pc := 41) (tgt := 45) dX9_thick_41 (by decide) ?_
    exact r_irets (pc := 45) h rfl dX9_thick_45
set_option maxHeartbeats 4000000 in
theorem st_X9_thick_0 {X : sj_X} {g : sj_G} {s0 : sj_Mem} {N : Nat} {q : Int × sj_VV} :
    ∀ (a0 : Nat) (x1 : Int) (x2 : Int) (x3 : Int) (V : sj_VV), OK9 g a0 → g_X9_thick N a0 x1 x2 x3 V = some q → sj_T X m_X9_thick s0 (some (sj_i q.1), (g, q.2)) 0 [some (sj_r (some a0)), some (sj_i x1), some (sj_i x2), some (sj_i x3), none, none] [] (g, V) := by
  intro a0 x1 x2 x3 V ha0 h
  unfold g_X9_thick at h
  refine r_iload_n (pc := 0) dX9_thick_0 rfl rfl ?_
  refine r_iconst (pc := 1) dX9_thick_1 ?_
  refine r_icmp_ne (pc := 2) (tgt := 9) h dX9_thick_2 (by decide) (fun h => ?_) (fun h => ?_)
  · refine r_iload_n (pc := 5) dX9_thick_5 rfl rfl ?_
    refine r_goto (pc := 6) (tgt := 21) dX9_thick_6 (by decide) ?_
    exact sj_weak (l2 := [some (sj_r (some a0)), some (sj_i x1), some (sj_i x2), none, none, none]) (⟨rfl, ⟨rfl, ⟨rfl, trivial⟩⟩⟩) (st_X9_thick_21 a0 x1 x2 x3 V ha0 h)
  · refine r_iload_n (pc := 9) dX9_thick_9 rfl rfl ?_
    refine r_aload_n (pc := 10) dX9_thick_10 rfl rfl ?_
    refine r_iload_n (pc := 11) dX9_thick_11 rfl rfl ?_
    refine r_iconst (pc := 12) dX9_thick_12 ?_
    refine r_iadd (pc := 13) dX9_thick_13 ?_
    refine r_iload_n (pc := 14) dX9_thick_14 rfl rfl ?_
    refine r_callVs (pc := 15) (fun v => some (sj_i v)) (As := [sj_i (x1 + 1), sj_i x2]) (rest := [(sj_i x3)]) (b := a0) (ok9 ha0) h dX9_thick_15 mw_X9_108 vw_X9_top (fun _ _ hc => cg_X9_top ha0 hc) rfl ⟨(Nat.le_of_ble_eq_true rfl), (Nat.le_of_ble_eq_true rfl)⟩ (Nat.le_of_ble_eq_true rfl) rfl (fun v2 V1 h => ?_)
    refine r_callSs (pc := 18) (fun v => some (sj_i v)) (As := [sj_i x3, sj_i v2]) (rest := []) h dX9_thick_18 mw_X9_111 kw_1300 (fun _ _ hc => cg_X9_most  hc) rfl ⟨(Nat.le_of_ble_eq_true rfl), (Nat.le_of_ble_eq_true rfl)⟩ (Nat.le_of_ble_eq_true rfl) rfl (fun v4 V3 h => ?_)
    exact sj_weak (l2 := [some (sj_r (some a0)), some (sj_i x1), some (sj_i x2), none, none, none]) (⟨rfl, ⟨rfl, ⟨rfl, trivial⟩⟩⟩) (st_X9_thick_21 a0 x1 x2 v4 V3 ha0 h)
set_option maxHeartbeats 4000000 in
theorem cg_X9_thick {X : sj_X} {g : sj_G} {N : Nat} {a0 : Nat} {x1 : Int} {x2 : Int} {x3 : Int} {V : sj_VV} {q : Int × sj_VV} (ha0 : OK9 g a0) (h : g_X9_thick N a0 x1 x2 x3 V = some q) : sj_C X m_X9_thick [sj_r (some a0), sj_i x1, sj_i x2, sj_i x3] (g, V) (some (sj_i q.1), (g, q.2)) :=
  sj_C_of (by decide +kernel) (Nat.le_of_ble_eq_true rfl) (lo := [some (sj_r (some a0)), some (sj_i x1), some (sj_i x2), some (sj_i x3), none, none]) rfl (sj_weak (l2 := [some (sj_r (some a0)), some (sj_i x1), some (sj_i x2), some (sj_i x3), none, none]) (⟨rfl, ⟨rfl, ⟨rfl, ⟨rfl, trivial⟩⟩⟩⟩) (st_X9_thick_0 a0 x1 x2 x3 V ha0 h))
set_option maxHeartbeats 4000000 in
theorem c_X9_thick {X : sj_X} {N : Nat} {a0 : Nat} {x1 : Int} {x2 : Int} {x3 : Int} {s : sj_Mem} {q : Int × sj_Mem} (h : f_X9_thick N a0 x1 x2 x3 s = some q) : sj_C X m_X9_thick [sj_r (some a0), sj_i x1, sj_i x2, sj_i x3] s (some (sj_i q.1), q.2) := by
  obtain ⟨g, V⟩ := s
  unfold f_X9_thick at h
  obtain ⟨ho, h1⟩ := e_ok_some h
  obtain ⟨q2, h2, rfl⟩ := sj_map_some h1
  exact cg_X9_thick ho h2
theorem dX9_laysSlice_0 : decode cX9_laysSlice 0 = .ok (.aload_n 0, 1) := by decide +kernel
theorem dX9_laysSlice_1 : decode cX9_laysSlice 1 = .ok (.iload 4, 2) := by decide +kernel
theorem dX9_laysSlice_3 : decode cX9_laysSlice 3 = .ok (.ifCond .eq 9, 3) := by decide +kernel
theorem dX9_laysSlice_6 : decode cX9_laysSlice 6 = .ok (.iload_n 3, 1) := by decide +kernel
theorem dX9_laysSlice_7 : decode cX9_laysSlice 7 = .ok (.iload_n 2, 1) := by decide +kernel
theorem dX9_laysSlice_8 : decode cX9_laysSlice 8 = .ok (.isub, 1) := by decide +kernel
theorem dX9_laysSlice_9 : decode cX9_laysSlice 9 = .ok (.goto 6, 3) := by decide +kernel
theorem dX9_laysSlice_12 : decode cX9_laysSlice 12 = .ok (.iload_n 2, 1) := by decide +kernel
theorem dX9_laysSlice_13 : decode cX9_laysSlice 13 = .ok (.iload_n 3, 1) := by decide +kernel
theorem dX9_laysSlice_14 : decode cX9_laysSlice 14 = .ok (.isub, 1) := by decide +kernel
theorem dX9_laysSlice_15 : decode cX9_laysSlice 15 = .ok (.putfield 114, 3) := by decide +kernel
theorem dX9_laysSlice_18 : decode cX9_laysSlice 18 = .ok (.lconst 0, 1) := by decide +kernel
theorem dX9_laysSlice_19 : decode cX9_laysSlice 19 = .ok (.lstore 5, 2) := by decide +kernel
theorem dX9_laysSlice_21 : decode cX9_laysSlice 21 = .ok (.aload_n 0, 1) := by decide +kernel
theorem dX9_laysSlice_22 : decode cX9_laysSlice 22 = .ok (.iconst 0, 1) := by decide +kernel
theorem dX9_laysSlice_23 : decode cX9_laysSlice 23 = .ok (.putfield 117, 3) := by decide +kernel
theorem dX9_laysSlice_26 : decode cX9_laysSlice 26 = .ok (.iconst 0, 1) := by decide +kernel
theorem dX9_laysSlice_27 : decode cX9_laysSlice 27 = .ok (.istore 7, 2) := by decide +kernel
theorem dX9_laysSlice_29 : decode cX9_laysSlice 29 = .ok (.iload 7, 2) := by decide +kernel
theorem dX9_laysSlice_31 : decode cX9_laysSlice 31 = .ok (.iconst 4, 1) := by decide +kernel
theorem dX9_laysSlice_32 : decode cX9_laysSlice 32 = .ok (.if_icmp .ge 78, 3) := by decide +kernel
theorem dX9_laysSlice_35 : decode cX9_laysSlice 35 = .ok (.lload 5, 2) := by decide +kernel
theorem dX9_laysSlice_37 : decode cX9_laysSlice 37 = .ok (.aload_n 0, 1) := by decide +kernel
theorem dX9_laysSlice_38 : decode cX9_laysSlice 38 = .ok (.getfield 9, 3) := by decide +kernel
theorem dX9_laysSlice_41 : decode cX9_laysSlice 41 = .ok (.sipush 290, 3) := by decide +kernel
theorem dX9_laysSlice_44 : decode cX9_laysSlice 44 = .ok (.iconst 3, 1) := by decide +kernel
theorem dX9_laysSlice_45 : decode cX9_laysSlice 45 = .ok (.iload 7, 2) := by decide +kernel
theorem dX9_laysSlice_47 : decode cX9_laysSlice 47 = .ok (.imul, 1) := by decide +kernel
theorem dX9_laysSlice_48 : decode cX9_laysSlice 48 = .ok (.iadd, 1) := by decide +kernel
theorem dX9_laysSlice_49 : decode cX9_laysSlice 49 = .ok (.iaload, 1) := by decide +kernel
theorem dX9_laysSlice_50 : decode cX9_laysSlice 50 = .ok (.i2l, 1) := by decide +kernel
theorem dX9_laysSlice_51 : decode cX9_laysSlice 51 = .ok (.aload_n 0, 1) := by decide +kernel
theorem dX9_laysSlice_52 : decode cX9_laysSlice 52 = .ok (.iload 7, 2) := by decide +kernel
theorem dX9_laysSlice_54 : decode cX9_laysSlice 54 = .ok (.iload_n 1, 1) := by decide +kernel
theorem dX9_laysSlice_55 : decode cX9_laysSlice 55 = .ok (.iload_n 2, 1) := by decide +kernel
theorem dX9_laysSlice_56 : decode cX9_laysSlice 56 = .ok (.invokevirtual 120, 3) := by decide +kernel
theorem dX9_laysSlice_59 : decode cX9_laysSlice 59 = .ok (.aload_n 0, 1) := by decide +kernel
theorem dX9_laysSlice_60 : decode cX9_laysSlice 60 = .ok (.iload 7, 2) := by decide +kernel
theorem dX9_laysSlice_62 : decode cX9_laysSlice 62 = .ok (.iload_n 1, 1) := by decide +kernel
theorem dX9_laysSlice_63 : decode cX9_laysSlice 63 = .ok (.iconst 1, 1) := by decide +kernel
theorem dX9_laysSlice_64 : decode cX9_laysSlice 64 = .ok (.iadd, 1) := by decide +kernel
theorem dX9_laysSlice_65 : decode cX9_laysSlice 65 = .ok (.iload_n 3, 1) := by decide +kernel
theorem dX9_laysSlice_66 : decode cX9_laysSlice 66 = .ok (.invokevirtual 120, 3) := by decide +kernel
theorem dX9_laysSlice_69 : decode cX9_laysSlice 69 = .ok (.iadd, 1) := by decide +kernel
theorem dX9_laysSlice_70 : decode cX9_laysSlice 70 = .ok (.i2l, 1) := by decide +kernel
theorem dX9_laysSlice_71 : decode cX9_laysSlice 71 = .ok (.lmul, 1) := by decide +kernel
theorem dX9_laysSlice_72 : decode cX9_laysSlice 72 = .ok (.ladd, 1) := by decide +kernel
theorem dX9_laysSlice_73 : decode cX9_laysSlice 73 = .ok (.lstore 5, 2) := by decide +kernel
theorem dX9_laysSlice_75 : decode cX9_laysSlice 75 = .ok (.aload_n 0, 1) := by decide +kernel
theorem dX9_laysSlice_76 : decode cX9_laysSlice 76 = .ok (.iload 7, 2) := by decide +kernel
theorem dX9_laysSlice_78 : decode cX9_laysSlice 78 = .ok (.iload_n 1, 1) := by decide +kernel
theorem dX9_laysSlice_79 : decode cX9_laysSlice 79 = .ok (.invokevirtual 108, 3) := by decide +kernel
theorem dX9_laysSlice_82 : decode cX9_laysSlice 82 = .ok (.aload_n 0, 1) := by decide +kernel
theorem dX9_laysSlice_83 : decode cX9_laysSlice 83 = .ok (.iload 7, 2) := by decide +kernel
theorem dX9_laysSlice_85 : decode cX9_laysSlice 85 = .ok (.iload_n 1, 1) := by decide +kernel
theorem dX9_laysSlice_86 : decode cX9_laysSlice 86 = .ok (.iconst 1, 1) := by decide +kernel
theorem dX9_laysSlice_87 : decode cX9_laysSlice 87 = .ok (.iadd, 1) := by decide +kernel
theorem dX9_laysSlice_88 : decode cX9_laysSlice 88 = .ok (.invokevirtual 108, 3) := by decide +kernel
theorem dX9_laysSlice_91 : decode cX9_laysSlice 91 = .ok (.iadd, 1) := by decide +kernel
theorem dX9_laysSlice_92 : decode cX9_laysSlice 92 = .ok (.iload_n 2, 1) := by decide +kernel
theorem dX9_laysSlice_93 : decode cX9_laysSlice 93 = .ok (.iload_n 3, 1) := by decide +kernel
theorem dX9_laysSlice_94 : decode cX9_laysSlice 94 = .ok (.iadd, 1) := by decide +kernel
theorem dX9_laysSlice_95 : decode cX9_laysSlice 95 = .ok (.if_icmp .le 9, 3) := by decide +kernel
theorem dX9_laysSlice_98 : decode cX9_laysSlice 98 = .ok (.aload_n 0, 1) := by decide +kernel
theorem dX9_laysSlice_99 : decode cX9_laysSlice 99 = .ok (.iload 7, 2) := by decide +kernel
theorem dX9_laysSlice_101 : decode cX9_laysSlice 101 = .ok (.putfield 117, 3) := by decide +kernel
theorem dX9_laysSlice_104 : decode cX9_laysSlice 104 = .ok (.iinc 7 1, 3) := by decide +kernel
theorem dX9_laysSlice_107 : decode cX9_laysSlice 107 = .ok (.goto (-78), 3) := by decide +kernel
theorem dX9_laysSlice_110 : decode cX9_laysSlice 110 = .ok (.aload_n 0, 1) := by decide +kernel
theorem dX9_laysSlice_111 : decode cX9_laysSlice 111 = .ok (.aload_n 0, 1) := by decide +kernel
theorem dX9_laysSlice_112 : decode cX9_laysSlice 112 = .ok (.getfield 9, 3) := by decide +kernel
theorem dX9_laysSlice_115 : decode cX9_laysSlice 115 = .ok (.iconst 1, 1) := by decide +kernel
theorem dX9_laysSlice_116 : decode cX9_laysSlice 116 = .ok (.iaload, 1) := by decide +kernel
theorem dX9_laysSlice_117 : decode cX9_laysSlice 117 = .ok (.i2l, 1) := by decide +kernel
theorem dX9_laysSlice_118 : decode cX9_laysSlice 118 = .ok (.lload 5, 2) := by decide +kernel
theorem dX9_laysSlice_120 : decode cX9_laysSlice 120 = .ok (.aload_n 0, 1) := by decide +kernel
theorem dX9_laysSlice_121 : decode cX9_laysSlice 121 = .ok (.getfield 9, 3) := by decide +kernel
theorem dX9_laysSlice_124 : decode cX9_laysSlice 124 = .ok (.bipush 126, 2) := by decide +kernel
theorem dX9_laysSlice_126 : decode cX9_laysSlice 126 = .ok (.iload_n 1, 1) := by decide +kernel
theorem dX9_laysSlice_127 : decode cX9_laysSlice 127 = .ok (.iadd, 1) := by decide +kernel
theorem dX9_laysSlice_128 : decode cX9_laysSlice 128 = .ok (.iaload, 1) := by decide +kernel
theorem dX9_laysSlice_129 : decode cX9_laysSlice 129 = .ok (.i2l, 1) := by decide +kernel
theorem dX9_laysSlice_130 : decode cX9_laysSlice 130 = .ok (.ladd, 1) := by decide +kernel
theorem dX9_laysSlice_131 : decode cX9_laysSlice 131 = .ok (.aload_n 0, 1) := by decide +kernel
theorem dX9_laysSlice_132 : decode cX9_laysSlice 132 = .ok (.getfield 9, 3) := by decide +kernel
theorem dX9_laysSlice_135 : decode cX9_laysSlice 135 = .ok (.bipush 126, 2) := by decide +kernel
theorem dX9_laysSlice_137 : decode cX9_laysSlice 137 = .ok (.iload_n 1, 1) := by decide +kernel
theorem dX9_laysSlice_138 : decode cX9_laysSlice 138 = .ok (.iadd, 1) := by decide +kernel
theorem dX9_laysSlice_139 : decode cX9_laysSlice 139 = .ok (.iconst 1, 1) := by decide +kernel
theorem dX9_laysSlice_140 : decode cX9_laysSlice 140 = .ok (.iadd, 1) := by decide +kernel
theorem dX9_laysSlice_141 : decode cX9_laysSlice 141 = .ok (.iaload, 1) := by decide +kernel
theorem dX9_laysSlice_142 : decode cX9_laysSlice 142 = .ok (.i2l, 1) := by decide +kernel
theorem dX9_laysSlice_143 : decode cX9_laysSlice 143 = .ok (.ladd, 1) := by decide +kernel
theorem dX9_laysSlice_144 : decode cX9_laysSlice 144 = .ok (.lmul, 1) := by decide +kernel
theorem dX9_laysSlice_145 : decode cX9_laysSlice 145 = .ok (.putfield 124, 3) := by decide +kernel
theorem dX9_laysSlice_148 : decode cX9_laysSlice 148 = .ok (.aload_n 0, 1) := by decide +kernel
theorem dX9_laysSlice_149 : decode cX9_laysSlice 149 = .ok (.ldc2_w 68, 3) := by decide +kernel
theorem dX9_laysSlice_152 : decode cX9_laysSlice 152 = .ok (.aload_n 0, 1) := by decide +kernel
theorem dX9_laysSlice_153 : decode cX9_laysSlice 153 = .ok (.getfield 9, 3) := by decide +kernel
theorem dX9_laysSlice_156 : decode cX9_laysSlice 156 = .ok (.iconst 1, 1) := by decide +kernel
theorem dX9_laysSlice_157 : decode cX9_laysSlice 157 = .ok (.iaload, 1) := by decide +kernel
theorem dX9_laysSlice_158 : decode cX9_laysSlice 158 = .ok (.i2l, 1) := by decide +kernel
theorem dX9_laysSlice_159 : decode cX9_laysSlice 159 = .ok (.lmul, 1) := by decide +kernel
theorem dX9_laysSlice_160 : decode cX9_laysSlice 160 = .ok (.iconst 0, 1) := by decide +kernel
theorem dX9_laysSlice_161 : decode cX9_laysSlice 161 = .ok (.aload_n 0, 1) := by decide +kernel
theorem dX9_laysSlice_162 : decode cX9_laysSlice 162 = .ok (.iload_n 1, 1) := by decide +kernel
theorem dX9_laysSlice_163 : decode cX9_laysSlice 163 = .ok (.invokevirtual 128, 3) := by decide +kernel
theorem dX9_laysSlice_166 : decode cX9_laysSlice 166 = .ok (.iload_n 2, 1) := by decide +kernel
theorem dX9_laysSlice_167 : decode cX9_laysSlice 167 = .ok (.isub, 1) := by decide +kernel
theorem dX9_laysSlice_168 : decode cX9_laysSlice 168 = .ok (.invokestatic 111, 3) := by decide +kernel
theorem dX9_laysSlice_171 : decode cX9_laysSlice 171 = .ok (.iconst 0, 1) := by decide +kernel
theorem dX9_laysSlice_172 : decode cX9_laysSlice 172 = .ok (.aload_n 0, 1) := by decide +kernel
theorem dX9_laysSlice_173 : decode cX9_laysSlice 173 = .ok (.iload_n 1, 1) := by decide +kernel
theorem dX9_laysSlice_174 : decode cX9_laysSlice 174 = .ok (.iconst 1, 1) := by decide +kernel
theorem dX9_laysSlice_175 : decode cX9_laysSlice 175 = .ok (.iadd, 1) := by decide +kernel
theorem dX9_laysSlice_176 : decode cX9_laysSlice 176 = .ok (.invokevirtual 128, 3) := by decide +kernel
theorem dX9_laysSlice_179 : decode cX9_laysSlice 179 = .ok (.iload_n 3, 1) := by decide +kernel
theorem dX9_laysSlice_180 : decode cX9_laysSlice 180 = .ok (.isub, 1) := by decide +kernel
theorem dX9_laysSlice_181 : decode cX9_laysSlice 181 = .ok (.invokestatic 111, 3) := by decide +kernel
theorem dX9_laysSlice_184 : decode cX9_laysSlice 184 = .ok (.iadd, 1) := by decide +kernel
theorem dX9_laysSlice_185 : decode cX9_laysSlice 185 = .ok (.i2l, 1) := by decide +kernel
theorem dX9_laysSlice_186 : decode cX9_laysSlice 186 = .ok (.lmul, 1) := by decide +kernel
theorem dX9_laysSlice_187 : decode cX9_laysSlice 187 = .ok (.putfield 132, 3) := by decide +kernel
theorem dX9_laysSlice_190 : decode cX9_laysSlice 190 = .ok (.aload_n 0, 1) := by decide +kernel
theorem dX9_laysSlice_191 : decode cX9_laysSlice 191 = .ok (.aload_n 0, 1) := by decide +kernel
theorem dX9_laysSlice_192 : decode cX9_laysSlice 192 = .ok (.getfield 124, 3) := by decide +kernel
theorem dX9_laysSlice_195 : decode cX9_laysSlice 195 = .ok (.aload_n 0, 1) := by decide +kernel
theorem dX9_laysSlice_196 : decode cX9_laysSlice 196 = .ok (.getfield 132, 3) := by decide +kernel
theorem dX9_laysSlice_199 : decode cX9_laysSlice 199 = .ok (.lcmp, 1) := by decide +kernel
theorem dX9_laysSlice_200 : decode cX9_laysSlice 200 = .ok (.ifCond .le 15, 3) := by decide +kernel
theorem dX9_laysSlice_203 : decode cX9_laysSlice 203 = .ok (.aload_n 0, 1) := by decide +kernel
theorem dX9_laysSlice_204 : decode cX9_laysSlice 204 = .ok (.getfield 124, 3) := by decide +kernel
theorem dX9_laysSlice_207 : decode cX9_laysSlice 207 = .ok (.aload_n 0, 1) := by decide +kernel
theorem dX9_laysSlice_208 : decode cX9_laysSlice 208 = .ok (.getfield 132, 3) := by decide +kernel
theorem dX9_laysSlice_211 : decode cX9_laysSlice 211 = .ok (.lsub, 1) := by decide +kernel
theorem dX9_laysSlice_212 : decode cX9_laysSlice 212 = .ok (.goto 4, 3) := by decide +kernel
theorem dX9_laysSlice_215 : decode cX9_laysSlice 215 = .ok (.lconst 0, 1) := by decide +kernel
theorem dX9_laysSlice_216 : decode cX9_laysSlice 216 = .ok (.putfield 135, 3) := by decide +kernel
theorem dX9_laysSlice_219 : decode cX9_laysSlice 219 = .ok (.aload_n 0, 1) := by decide +kernel
theorem dX9_laysSlice_220 : decode cX9_laysSlice 220 = .ok (.ldc2_w 138, 3) := by decide +kernel
theorem dX9_laysSlice_223 : decode cX9_laysSlice 223 = .ok (.aload_n 0, 1) := by decide +kernel
theorem dX9_laysSlice_224 : decode cX9_laysSlice 224 = .ok (.getfield 9, 3) := by decide +kernel
theorem dX9_laysSlice_227 : decode cX9_laysSlice 227 = .ok (.sipush 290, 3) := by decide +kernel
theorem dX9_laysSlice_230 : decode cX9_laysSlice 230 = .ok (.iconst 3, 1) := by decide +kernel
theorem dX9_laysSlice_231 : decode cX9_laysSlice 231 = .ok (.aload_n 0, 1) := by decide +kernel
theorem dX9_laysSlice_232 : decode cX9_laysSlice 232 = .ok (.getfield 117, 3) := by decide +kernel
theorem dX9_laysSlice_235 : decode cX9_laysSlice 235 = .ok (.imul, 1) := by decide +kernel
theorem dX9_laysSlice_236 : decode cX9_laysSlice 236 = .ok (.iadd, 1) := by decide +kernel
theorem dX9_laysSlice_237 : decode cX9_laysSlice 237 = .ok (.iconst 1, 1) := by decide +kernel
theorem dX9_laysSlice_238 : decode cX9_laysSlice 238 = .ok (.iadd, 1) := by decide +kernel
theorem dX9_laysSlice_239 : decode cX9_laysSlice 239 = .ok (.iaload, 1) := by decide +kernel
theorem dX9_laysSlice_240 : decode cX9_laysSlice 240 = .ok (.i2l, 1) := by decide +kernel
theorem dX9_laysSlice_241 : decode cX9_laysSlice 241 = .ok (.lmul, 1) := by decide +kernel
theorem dX9_laysSlice_242 : decode cX9_laysSlice 242 = .ok (.aload_n 0, 1) := by decide +kernel
theorem dX9_laysSlice_243 : decode cX9_laysSlice 243 = .ok (.getfield 9, 3) := by decide +kernel
theorem dX9_laysSlice_246 : decode cX9_laysSlice 246 = .ok (.iconst 1, 1) := by decide +kernel
theorem dX9_laysSlice_247 : decode cX9_laysSlice 247 = .ok (.iaload, 1) := by decide +kernel
theorem dX9_laysSlice_248 : decode cX9_laysSlice 248 = .ok (.i2l, 1) := by decide +kernel
theorem dX9_laysSlice_249 : decode cX9_laysSlice 249 = .ok (.lmul, 1) := by decide +kernel
theorem dX9_laysSlice_250 : decode cX9_laysSlice 250 = .ok (.aload_n 0, 1) := by decide +kernel
theorem dX9_laysSlice_251 : decode cX9_laysSlice 251 = .ok (.getfield 135, 3) := by decide +kernel
theorem dX9_laysSlice_254 : decode cX9_laysSlice 254 = .ok (.aload_n 0, 1) := by decide +kernel
theorem dX9_laysSlice_255 : decode cX9_laysSlice 255 = .ok (.getfield 9, 3) := by decide +kernel
theorem dX9_laysSlice_258 : decode cX9_laysSlice 258 = .ok (.sipush 290, 3) := by decide +kernel
theorem dX9_laysSlice_261 : decode cX9_laysSlice 261 = .ok (.iconst 3, 1) := by decide +kernel
theorem dX9_laysSlice_262 : decode cX9_laysSlice 262 = .ok (.aload_n 0, 1) := by decide +kernel
theorem dX9_laysSlice_263 : decode cX9_laysSlice 263 = .ok (.getfield 117, 3) := by decide +kernel
theorem dX9_laysSlice_266 : decode cX9_laysSlice 266 = .ok (.imul, 1) := by decide +kernel
theorem dX9_laysSlice_267 : decode cX9_laysSlice 267 = .ok (.iadd, 1) := by decide +kernel
theorem dX9_laysSlice_268 : decode cX9_laysSlice 268 = .ok (.iconst 2, 1) := by decide +kernel
theorem dX9_laysSlice_269 : decode cX9_laysSlice 269 = .ok (.iadd, 1) := by decide +kernel
theorem dX9_laysSlice_270 : decode cX9_laysSlice 270 = .ok (.iaload, 1) := by decide +kernel
theorem dX9_laysSlice_271 : decode cX9_laysSlice 271 = .ok (.i2l, 1) := by decide +kernel
theorem dX9_laysSlice_272 : decode cX9_laysSlice 272 = .ok (.lmul, 1) := by decide +kernel
theorem dX9_laysSlice_273 : decode cX9_laysSlice 273 = .ok (.ladd, 1) := by decide +kernel
theorem dX9_laysSlice_274 : decode cX9_laysSlice 274 = .ok (.putfield 140, 3) := by decide +kernel
theorem dX9_laysSlice_277 : decode cX9_laysSlice 277 = .ok (.aload_n 0, 1) := by decide +kernel
theorem dX9_laysSlice_278 : decode cX9_laysSlice 278 = .ok (.aload_n 0, 1) := by decide +kernel
theorem dX9_laysSlice_279 : decode cX9_laysSlice 279 = .ok (.getfield 124, 3) := by decide +kernel
theorem dX9_laysSlice_282 : decode cX9_laysSlice 282 = .ok (.ldc2_w 143, 3) := by decide +kernel
theorem dX9_laysSlice_285 : decode cX9_laysSlice 285 = .ok (.aload_n 0, 1) := by decide +kernel
theorem dX9_laysSlice_286 : decode cX9_laysSlice 286 = .ok (.getfield 114, 3) := by decide +kernel
theorem dX9_laysSlice_289 : decode cX9_laysSlice 289 = .ok (.i2l, 1) := by decide +kernel
theorem dX9_laysSlice_290 : decode cX9_laysSlice 290 = .ok (.lmul, 1) := by decide +kernel
theorem dX9_laysSlice_291 : decode cX9_laysSlice 291 = .ok (.aload_n 0, 1) := by decide +kernel
theorem dX9_laysSlice_292 : decode cX9_laysSlice 292 = .ok (.getfield 9, 3) := by decide +kernel
theorem dX9_laysSlice_295 : decode cX9_laysSlice 295 = .ok (.iconst 2, 1) := by decide +kernel
theorem dX9_laysSlice_296 : decode cX9_laysSlice 296 = .ok (.iaload, 1) := by decide +kernel
theorem dX9_laysSlice_297 : decode cX9_laysSlice 297 = .ok (.i2l, 1) := by decide +kernel
theorem dX9_laysSlice_298 : decode cX9_laysSlice 298 = .ok (.aload_n 0, 1) := by decide +kernel
theorem dX9_laysSlice_299 : decode cX9_laysSlice 299 = .ok (.getfield 9, 3) := by decide +kernel
theorem dX9_laysSlice_302 : decode cX9_laysSlice 302 = .ok (.iconst 1, 1) := by decide +kernel
theorem dX9_laysSlice_303 : decode cX9_laysSlice 303 = .ok (.iaload, 1) := by decide +kernel
theorem dX9_laysSlice_304 : decode cX9_laysSlice 304 = .ok (.i2l, 1) := by decide +kernel
theorem dX9_laysSlice_305 : decode cX9_laysSlice 305 = .ok (.lmul, 1) := by decide +kernel
theorem dX9_laysSlice_306 : decode cX9_laysSlice 306 = .ok (.ladd, 1) := by decide +kernel
theorem dX9_laysSlice_307 : decode cX9_laysSlice 307 = .ok (.lmul, 1) := by decide +kernel
theorem dX9_laysSlice_308 : decode cX9_laysSlice 308 = .ok (.putfield 145, 3) := by decide +kernel
theorem dX9_laysSlice_311 : decode cX9_laysSlice 311 = .ok (.return_, 1) := by decide +kernel
set_option maxHeartbeats 4000000 in
theorem st_X9_laysSlice_104 {X : sj_X} {g : sj_G} {s0 : sj_Mem} {N : Nat} {q : Unit × sj_VV} {k29 : Nat → Int → Int → Int → Int → Int → sj_VV → Option (Unit × sj_VV)} (hk29 : ∀ (a0 : Nat) (x1 : Int) (x2 : Int) (x3 : Int) (x5 : Int) (x7 : Int) (V : sj_VV), OK9 g a0 → k29 a0 x1 x2 x3 x5 x7 V = some q → sj_T X m_X9_laysSlice s0 (none, (g, q.2)) 29 [some (sj_r (some a0)), some (sj_i x1), some (sj_i x2), some (sj_i x3), none, some (sj_j x5), none, some (sj_i x7)] [] (g, V)) :
    ∀ (a0 : Nat) (x1 : Int) (x2 : Int) (x3 : Int) (x5 : Int) (x7 : Int) (V : sj_VV), OK9 g a0 → g_X9_laysSlice_104 N k29 a0 x1 x2 x3 x5 x7 V = some q → sj_T X m_X9_laysSlice s0 (none, (g, q.2)) 104 [some (sj_r (some a0)), some (sj_i x1), some (sj_i x2), some (sj_i x3), none, some (sj_j x5), none, some (sj_i x7)] [] (g, V) := by
  intro a0 x1 x2 x3 x5 x7 V ha0 h
  unfold g_X9_laysSlice_104 at h
  refine r_iinc (ln := fun w => [some (sj_r (some a0)), some (sj_i x1), some (sj_i x2), some (sj_i x3), none, some (sj_j x5), none, some (sj_i w)]) (pc := 104) h dX9_laysSlice_104 rfl (Nat.le_of_ble_eq_true rfl) (fun _ => rfl) (fun v1 h => ?_)
  refine r_goto (pc := 107) (tgt := 29) dX9_laysSlice_107 (by decide) ?_
  exact sj_weak (l2 := [some (sj_r (some a0)), some (sj_i x1), some (sj_i x2), some (sj_i x3), none, some (sj_j x5), none, some (sj_i v1)]) (⟨rfl, ⟨rfl, ⟨rfl, ⟨rfl, ⟨rfl, ⟨rfl, trivial⟩⟩⟩⟩⟩⟩) (hk29 a0 x1 x2 x3 x5 v1 V ha0 h)
set_option maxHeartbeats 4000000 in
theorem st_X9_laysSlice_216 {X : sj_X} {g : sj_G} {s0 : sj_Mem} {N : Nat} {q : Unit × sj_VV} :
    ∀ (a0 : Nat) (y0 : Int) (y1 : Nat) (V : sj_VV), OK9 g a0 → OK9 g y1 → g_X9_laysSlice_216 N a0 y0 y1 V = some q → sj_T X m_X9_laysSlice s0 (none, (g, q.2)) 216 [some (sj_r (some a0)), none, none, none, none, none, none, none] [(sj_j y0), (sj_r (some y1))] (g, V) := by
  intro a0 y0 y1 V ha0 hy1 h
  unfold g_X9_laysSlice_216 at h
  refine r_pJs (pc := 216) h dX9_laysSlice_216 fw_X9_135 rfl rfl (nf9_10) (ok9 hy1) (fun V1 h => ?_)
  refine r_aload_n (pc := 219) dX9_laysSlice_219 rfl rfl ?_
  refine r_ldc2 (n := 2000) (pc := 220) dX9_laysSlice_220 kc_X9_138 ?_
  refine r_aload_n (pc := 223) dX9_laysSlice_223 rfl rfl ?_
  refine r_gRs (b := a0 + 1) (pc := 224) dX9_laysSlice_224 fw_X9_9 rfl (ok9 ha0) (ok9_0 ha0).1 ?_
  refine r_sipush (pc := 227) dX9_laysSlice_227 ⟨by decide, by decide⟩ ?_
  refine r_iconst (pc := 230) dX9_laysSlice_230 ?_
  refine r_aload_n (pc := 231) dX9_laysSlice_231 rfl rfl ?_
  refine r_gIs (pc := 232) dX9_laysSlice_232 fw_X9_117 rfl (ok9 ha0) ?_
  refine r_imul (pc := 235) dX9_laysSlice_235 ?_
  refine r_iadd (pc := 236) dX9_laysSlice_236 ?_
  refine r_iconst (pc := 237) dX9_laysSlice_237 ?_
  refine r_iadd (pc := 238) dX9_laysSlice_238 ?_
  refine r_ialoads (pc := 239) h dX9_laysSlice_239 (ok9_0 ha0).2 (fun h => ?_)
  refine r_i2l (pc := 240) h dX9_laysSlice_240 (fun v2 h => ?_)
  refine r_lmul (pc := 241) dX9_laysSlice_241 ?_
  refine r_aload_n (pc := 242) dX9_laysSlice_242 rfl rfl ?_
  refine r_gRs (b := a0 + 1) (pc := 243) dX9_laysSlice_243 fw_X9_9 rfl (ok9 ha0) (ok9_0 ha0).1 ?_
  refine r_iconst (pc := 246) dX9_laysSlice_246 ?_
  refine r_ialoads (pc := 247) h dX9_laysSlice_247 (ok9_0 ha0).2 (fun h => ?_)
  refine r_i2l (pc := 248) h dX9_laysSlice_248 (fun v3 h => ?_)
  refine r_lmul (pc := 249) dX9_laysSlice_249 ?_
  refine r_aload_n (pc := 250) dX9_laysSlice_250 rfl rfl ?_
  refine r_gJs (pc := 251) dX9_laysSlice_251 fw_X9_135 rfl (ok9 ha0) ?_
  refine r_aload_n (pc := 254) dX9_laysSlice_254 rfl rfl ?_
  refine r_gRs (b := a0 + 1) (pc := 255) dX9_laysSlice_255 fw_X9_9 rfl (ok9 ha0) (ok9_0 ha0).1 ?_
  refine r_sipush (pc := 258) dX9_laysSlice_258 ⟨by decide, by decide⟩ ?_
  refine r_iconst (pc := 261) dX9_laysSlice_261 ?_
  refine r_aload_n (pc := 262) dX9_laysSlice_262 rfl rfl ?_
  refine r_gIs (pc := 263) dX9_laysSlice_263 fw_X9_117 rfl (ok9 ha0) ?_
  refine r_imul (pc := 266) dX9_laysSlice_266 ?_
  refine r_iadd (pc := 267) dX9_laysSlice_267 ?_
  refine r_iconst (pc := 268) dX9_laysSlice_268 ?_
  refine r_iadd (pc := 269) dX9_laysSlice_269 ?_
  refine r_ialoads (pc := 270) h dX9_laysSlice_270 (ok9_0 ha0).2 (fun h => ?_)
  refine r_i2l (pc := 271) h dX9_laysSlice_271 (fun v4 h => ?_)
  refine r_lmul (pc := 272) dX9_laysSlice_272 ?_
  refine r_ladd (pc := 273) dX9_laysSlice_273 ?_
  refine r_pJs (pc := 274) h dX9_laysSlice_274 fw_X9_140 rfl rfl (nf9_11) (ok9 ha0) (fun V5 h => ?_)
  refine r_aload_n (pc := 277) dX9_laysSlice_277 rfl rfl ?_
  refine r_aload_n (pc := 278) dX9_laysSlice_278 rfl rfl ?_
  refine r_gJs (pc := 279) dX9_laysSlice_279 fw_X9_124 rfl (ok9 ha0) ?_
  refine r_ldc2 (n := 1000) (pc := 282) dX9_laysSlice_282 kc_X9_143 ?_
  refine r_aload_n (pc := 285) dX9_laysSlice_285 rfl rfl ?_
  refine r_gIs (pc := 286) dX9_laysSlice_286 fw_X9_114 rfl (ok9 ha0) ?_
  refine r_i2l (pc := 289) h dX9_laysSlice_289 (fun v6 h => ?_)
  refine r_lmul (pc := 290) dX9_laysSlice_290 ?_
  refine r_aload_n (pc := 291) dX9_laysSlice_291 rfl rfl ?_
  refine r_gRs (b := a0 + 1) (pc := 292) dX9_laysSlice_292 fw_X9_9 rfl (ok9 ha0) (ok9_0 ha0).1 ?_
  refine r_iconst (pc := 295) dX9_laysSlice_295 ?_
  refine r_ialoads (pc := 296) h dX9_laysSlice_296 (ok9_0 ha0).2 (fun h => ?_)
  refine r_i2l (pc := 297) h dX9_laysSlice_297 (fun v7 h => ?_)
  refine r_aload_n (pc := 298) dX9_laysSlice_298 rfl rfl ?_
  refine r_gRs (b := a0 + 1) (pc := 299) dX9_laysSlice_299 fw_X9_9 rfl (ok9 ha0) (ok9_0 ha0).1 ?_
  refine r_iconst (pc := 302) dX9_laysSlice_302 ?_
  refine r_ialoads (pc := 303) h dX9_laysSlice_303 (ok9_0 ha0).2 (fun h => ?_)
  refine r_i2l (pc := 304) h dX9_laysSlice_304 (fun v8 h => ?_)
  refine r_lmul (pc := 305) dX9_laysSlice_305 ?_
  refine r_ladd (pc := 306) dX9_laysSlice_306 ?_
  refine r_lmul (pc := 307) dX9_laysSlice_307 ?_
  refine r_pJs (pc := 308) h dX9_laysSlice_308 fw_X9_145 rfl rfl (nf9_12) (ok9 ha0) (fun V9 h => ?_)
  exact r_vrets (pc := 311) h rfl dX9_laysSlice_311
set_option maxHeartbeats 4000000 in
theorem st_X9_laysSlice_29_b {X : sj_X} {g : sj_G} {s0 : sj_Mem} {N : Nat} {q : Unit × sj_VV} {k29 : Nat → Int → Int → Int → Int → Int → sj_VV → Option (Unit × sj_VV)} (hk29 : ∀ (a0 : Nat) (x1 : Int) (x2 : Int) (x3 : Int) (x5 : Int) (x7 : Int) (V : sj_VV), OK9 g a0 → k29 a0 x1 x2 x3 x5 x7 V = some q → sj_T X m_X9_laysSlice s0 (none, (g, q.2)) 29 [some (sj_r (some a0)), some (sj_i x1), some (sj_i x2), some (sj_i x3), none, some (sj_j x5), none, some (sj_i x7)] [] (g, V)) :
    ∀ (a0 : Nat) (x1 : Int) (x2 : Int) (x3 : Int) (x5 : Int) (x7 : Int) (V : sj_VV), OK9 g a0 → g_X9_laysSlice_29_b N k29 a0 x1 x2 x3 x5 x7 V = some q → sj_T X m_X9_laysSlice s0 (none, (g, q.2)) 29 [some (sj_r (some a0)), some (sj_i x1), some (sj_i x2), some (sj_i x3), none, some (sj_j x5), none, some (sj_i x7)] [] (g, V) := by
  intro a0 x1 x2 x3 x5 x7 V ha0 h
  unfold g_X9_laysSlice_29_b at h
  refine r_iload (pc := 29) dX9_laysSlice_29 rfl ?_
  refine r_iconst (pc := 31) dX9_laysSlice_31 ?_
  refine r_icmp_ge (pc := 32) (tgt := 110) h dX9_laysSlice_32 (by decide) (fun h => ?_) (fun h => ?_)
  · refine r_aload_n (pc := 110) dX9_laysSlice_110 rfl rfl ?_
    refine r_aload_n (pc := 111) dX9_laysSlice_111 rfl rfl ?_
    refine r_gRs (b := a0 + 1) (pc := 112) dX9_laysSlice_112 fw_X9_9 rfl (ok9 ha0) (ok9_0 ha0).1 ?_
    refine r_iconst (pc := 115) dX9_laysSlice_115 ?_
    refine r_ialoads (pc := 116) h dX9_laysSlice_116 (ok9_0 ha0).2 (fun h => ?_)
    refine r_i2l (pc := 117) h dX9_laysSlice_117 (fun v1 h => ?_)
    refine r_lload (pc := 118) dX9_laysSlice_118 rfl ?_
    refine r_aload_n (pc := 120) dX9_laysSlice_120 rfl rfl ?_
    refine r_gRs (b := a0 + 1) (pc := 121) dX9_laysSlice_121 fw_X9_9 rfl (ok9 ha0) (ok9_0 ha0).1 ?_
    refine r_bipush (pc := 124) dX9_laysSlice_124 ⟨by decide, by decide⟩ ?_
    refine r_iload_n (pc := 126) dX9_laysSlice_126 rfl rfl ?_
    refine r_iadd (pc := 127) dX9_laysSlice_127 ?_
    refine r_ialoads (pc := 128) h dX9_laysSlice_128 (ok9_0 ha0).2 (fun h => ?_)
    refine r_i2l (pc := 129) h dX9_laysSlice_129 (fun v2 h => ?_)
    refine r_ladd (pc := 130) dX9_laysSlice_130 ?_
    refine r_aload_n (pc := 131) dX9_laysSlice_131 rfl rfl ?_
    refine r_gRs (b := a0 + 1) (pc := 132) dX9_laysSlice_132 fw_X9_9 rfl (ok9 ha0) (ok9_0 ha0).1 ?_
    refine r_bipush (pc := 135) dX9_laysSlice_135 ⟨by decide, by decide⟩ ?_
    refine r_iload_n (pc := 137) dX9_laysSlice_137 rfl rfl ?_
    refine r_iadd (pc := 138) dX9_laysSlice_138 ?_
    refine r_iconst (pc := 139) dX9_laysSlice_139 ?_
    refine r_iadd (pc := 140) dX9_laysSlice_140 ?_
    refine r_ialoads (pc := 141) h dX9_laysSlice_141 (ok9_0 ha0).2 (fun h => ?_)
    refine r_i2l (pc := 142) h dX9_laysSlice_142 (fun v3 h => ?_)
    refine r_ladd (pc := 143) dX9_laysSlice_143 ?_
    refine r_lmul (pc := 144) dX9_laysSlice_144 ?_
    refine r_pJs (pc := 145) h dX9_laysSlice_145 fw_X9_124 rfl rfl (nf9_8) (ok9 ha0) (fun V4 h => ?_)
    refine r_aload_n (pc := 148) dX9_laysSlice_148 rfl rfl ?_
    refine r_ldc2 (n := 10) (pc := 149) dX9_laysSlice_149 kc_X9_68 ?_
    refine r_aload_n (pc := 152) dX9_laysSlice_152 rfl rfl ?_
    refine r_gRs (b := a0 + 1) (pc := 153) dX9_laysSlice_153 fw_X9_9 rfl (ok9 ha0) (ok9_0 ha0).1 ?_
    refine r_iconst (pc := 156) dX9_laysSlice_156 ?_
    refine r_ialoads (pc := 157) h dX9_laysSlice_157 (ok9_0 ha0).2 (fun h => ?_)
    refine r_i2l (pc := 158) h dX9_laysSlice_158 (fun v5 h => ?_)
    refine r_lmul (pc := 159) dX9_laysSlice_159 ?_
    refine r_iconst (pc := 160) dX9_laysSlice_160 ?_
    refine r_aload_n (pc := 161) dX9_laysSlice_161 rfl rfl ?_
    refine r_iload_n (pc := 162) dX9_laysSlice_162 rfl rfl ?_
    refine r_callVs (pc := 163) (fun v => some (sj_i v)) (As := [sj_i x1]) (rest := [(sj_i 0), (sj_j (10 * v5)), (sj_r (some a0))]) (b := a0) (ok9 ha0) h dX9_laysSlice_163 mw_X9_128 vw_X9_water (fun _ _ hc => cg_X9_water ha0 hc) rfl ⟨(Nat.le_of_ble_eq_true rfl), (Nat.le_of_ble_eq_true rfl)⟩ (Nat.le_of_ble_eq_true rfl) rfl (fun v7 V6 h => ?_)
    refine r_iload_n (pc := 166) dX9_laysSlice_166 rfl rfl ?_
    refine r_isub (pc := 167) dX9_laysSlice_167 ?_
    refine r_callSs (pc := 168) (fun v => some (sj_i v)) (As := [sj_i 0, sj_i (v7 - x2)]) (rest := [(sj_j (10 * v5)), (sj_r (some a0))]) h dX9_laysSlice_168 mw_X9_111 kw_1300 (fun _ _ hc => cg_X9_most  hc) rfl ⟨(Nat.le_of_ble_eq_true rfl), (Nat.le_of_ble_eq_true rfl)⟩ (Nat.le_of_ble_eq_true rfl) rfl (fun v9 V8 h => ?_)
    refine r_iconst (pc := 171) dX9_laysSlice_171 ?_
    refine r_aload_n (pc := 172) dX9_laysSlice_172 rfl rfl ?_
    refine r_iload_n (pc := 173) dX9_laysSlice_173 rfl rfl ?_
    refine r_iconst (pc := 174) dX9_laysSlice_174 ?_
    refine r_iadd (pc := 175) dX9_laysSlice_175 ?_
    refine r_callVs (pc := 176) (fun v => some (sj_i v)) (As := [sj_i (x1 + 1)]) (rest := [(sj_i 0), (sj_i v9), (sj_j (10 * v5)), (sj_r (some a0))]) (b := a0) (ok9 ha0) h dX9_laysSlice_176 mw_X9_128 vw_X9_water (fun _ _ hc => cg_X9_water ha0 hc) rfl ⟨(Nat.le_of_ble_eq_true rfl), (Nat.le_of_ble_eq_true rfl)⟩ (Nat.le_of_ble_eq_true rfl) rfl (fun v11 V10 h => ?_)
    refine r_iload_n (pc := 179) dX9_laysSlice_179 rfl rfl ?_
    refine r_isub (pc := 180) dX9_laysSlice_180 ?_
    refine r_callSs (pc := 181) (fun v => some (sj_i v)) (As := [sj_i 0, sj_i (v11 - x3)]) (rest := [(sj_i v9), (sj_j (10 * v5)), (sj_r (some a0))]) h dX9_laysSlice_181 mw_X9_111 kw_1300 (fun _ _ hc => cg_X9_most  hc) rfl ⟨(Nat.le_of_ble_eq_true rfl), (Nat.le_of_ble_eq_true rfl)⟩ (Nat.le_of_ble_eq_true rfl) rfl (fun v13 V12 h => ?_)
    refine r_iadd (pc := 184) dX9_laysSlice_184 ?_
    refine r_i2l (pc := 185) h dX9_laysSlice_185 (fun v14 h => ?_)
    refine r_lmul (pc := 186) dX9_laysSlice_186 ?_
    refine r_pJs (pc := 187) h dX9_laysSlice_187 fw_X9_132 rfl rfl (nf9_9) (ok9 ha0) (fun V15 h => ?_)
    refine r_aload_n (pc := 190) dX9_laysSlice_190 rfl rfl ?_
    refine r_aload_n (pc := 191) dX9_laysSlice_191 rfl rfl ?_
    refine r_gJs (pc := 192) dX9_laysSlice_192 fw_X9_124 rfl (ok9 ha0) ?_
    refine r_aload_n (pc := 195) dX9_laysSlice_195 rfl rfl ?_
    refine r_gJs (pc := 196) dX9_laysSlice_196 fw_X9_132 rfl (ok9 ha0) ?_
    refine r_lle (pc := 199) (tgt := 215) h dX9_laysSlice_199 rfl dX9_laysSlice_200 (by decide) (fun h => ?_) (fun h => ?_)
    · refine r_lconst0 (pc := 215) dX9_laysSlice_215 ?_
      exact sj_weak (l2 := [some (sj_r (some a0)), none, none, none, none, none, none, none]) (⟨rfl, trivial⟩) (st_X9_laysSlice_216 a0 0 a0 V15 ha0 ha0 h)
    · refine r_aload_n (pc := 203) dX9_laysSlice_203 rfl rfl ?_
      refine r_gJs (pc := 204) dX9_laysSlice_204 fw_X9_124 rfl (ok9 ha0) ?_
      refine r_aload_n (pc := 207) dX9_laysSlice_207 rfl rfl ?_
      refine r_gJs (pc := 208) dX9_laysSlice_208 fw_X9_132 rfl (ok9 ha0) ?_
      refine r_lsub (pc := 211) dX9_laysSlice_211 ?_
      refine r_goto (pc := 212) (tgt := 216) dX9_laysSlice_212 (by decide) ?_
      exact sj_weak (l2 := [some (sj_r (some a0)), none, none, none, none, none, none, none]) (⟨rfl, trivial⟩) (st_X9_laysSlice_216 a0 ((V15 a0 8) - (V15 a0 9)) a0 V15 ha0 ha0 h)
  · refine r_lload (pc := 35) dX9_laysSlice_35 rfl ?_
    refine r_aload_n (pc := 37) dX9_laysSlice_37 rfl rfl ?_
    refine r_gRs (b := a0 + 1) (pc := 38) dX9_laysSlice_38 fw_X9_9 rfl (ok9 ha0) (ok9_0 ha0).1 ?_
    refine r_sipush (pc := 41) dX9_laysSlice_41 ⟨by decide, by decide⟩ ?_
    refine r_iconst (pc := 44) dX9_laysSlice_44 ?_
    refine r_iload (pc := 45) dX9_laysSlice_45 rfl ?_
    refine r_imul (pc := 47) dX9_laysSlice_47 ?_
    refine r_iadd (pc := 48) dX9_laysSlice_48 ?_
    refine r_ialoads (pc := 49) h dX9_laysSlice_49 (ok9_0 ha0).2 (fun h => ?_)
    refine r_i2l (pc := 50) h dX9_laysSlice_50 (fun v16 h => ?_)
    refine r_aload_n (pc := 51) dX9_laysSlice_51 rfl rfl ?_
    refine r_iload (pc := 52) dX9_laysSlice_52 rfl ?_
    refine r_iload_n (pc := 54) dX9_laysSlice_54 rfl rfl ?_
    refine r_iload_n (pc := 55) dX9_laysSlice_55 rfl rfl ?_
    refine r_callVs (pc := 56) (fun v => some (sj_i v)) (As := [sj_i x7, sj_i x1, sj_i x2]) (rest := [(sj_j v16), (sj_j x5)]) (b := a0) (ok9 ha0) h dX9_laysSlice_56 mw_X9_120 vw_X9_thick (fun _ _ hc => cg_X9_thick ha0 hc) rfl ⟨(Nat.le_of_ble_eq_true rfl), (Nat.le_of_ble_eq_true rfl)⟩ (Nat.le_of_ble_eq_true rfl) rfl (fun v18 V17 h => ?_)
    refine r_aload_n (pc := 59) dX9_laysSlice_59 rfl rfl ?_
    refine r_iload (pc := 60) dX9_laysSlice_60 rfl ?_
    refine r_iload_n (pc := 62) dX9_laysSlice_62 rfl rfl ?_
    refine r_iconst (pc := 63) dX9_laysSlice_63 ?_
    refine r_iadd (pc := 64) dX9_laysSlice_64 ?_
    refine r_iload_n (pc := 65) dX9_laysSlice_65 rfl rfl ?_
    refine r_callVs (pc := 66) (fun v => some (sj_i v)) (As := [sj_i x7, sj_i (x1 + 1), sj_i x3]) (rest := [(sj_i v18), (sj_j v16), (sj_j x5)]) (b := a0) (ok9 ha0) h dX9_laysSlice_66 mw_X9_120 vw_X9_thick (fun _ _ hc => cg_X9_thick ha0 hc) rfl ⟨(Nat.le_of_ble_eq_true rfl), (Nat.le_of_ble_eq_true rfl)⟩ (Nat.le_of_ble_eq_true rfl) rfl (fun v20 V19 h => ?_)
    refine r_iadd (pc := 69) dX9_laysSlice_69 ?_
    refine r_i2l (pc := 70) h dX9_laysSlice_70 (fun v21 h => ?_)
    refine r_lmul (pc := 71) dX9_laysSlice_71 ?_
    refine r_ladd (pc := 72) dX9_laysSlice_72 ?_
    refine r_lstoreL (ln := fun w => [some (sj_r (some a0)), some (sj_i x1), some (sj_i x2), some (sj_i x3), none, some (sj_j w), none, some (sj_i x7)]) (pc := 73) h dX9_laysSlice_73 (Nat.le_of_ble_eq_true rfl) (fun _ => rfl) (fun v22 h => ?_)
    refine r_aload_n (pc := 75) dX9_laysSlice_75 rfl rfl ?_
    refine r_iload (pc := 76) dX9_laysSlice_76 rfl ?_
    refine r_iload_n (pc := 78) dX9_laysSlice_78 rfl rfl ?_
    refine r_callVs (pc := 79) (fun v => some (sj_i v)) (As := [sj_i x7, sj_i x1]) (rest := []) (b := a0) (ok9 ha0) h dX9_laysSlice_79 mw_X9_108 vw_X9_top (fun _ _ hc => cg_X9_top ha0 hc) rfl ⟨(Nat.le_of_ble_eq_true rfl), (Nat.le_of_ble_eq_true rfl)⟩ (Nat.le_of_ble_eq_true rfl) rfl (fun v24 V23 h => ?_)
    refine r_aload_n (pc := 82) dX9_laysSlice_82 rfl rfl ?_
    refine r_iload (pc := 83) dX9_laysSlice_83 rfl ?_
    refine r_iload_n (pc := 85) dX9_laysSlice_85 rfl rfl ?_
    refine r_iconst (pc := 86) dX9_laysSlice_86 ?_
    refine r_iadd (pc := 87) dX9_laysSlice_87 ?_
    refine r_callVs (pc := 88) (fun v => some (sj_i v)) (As := [sj_i x7, sj_i (x1 + 1)]) (rest := [(sj_i v24)]) (b := a0) (ok9 ha0) h dX9_laysSlice_88 mw_X9_108 vw_X9_top (fun _ _ hc => cg_X9_top ha0 hc) rfl ⟨(Nat.le_of_ble_eq_true rfl), (Nat.le_of_ble_eq_true rfl)⟩ (Nat.le_of_ble_eq_true rfl) rfl (fun v26 V25 h => ?_)
    refine r_iadd (pc := 91) dX9_laysSlice_91 ?_
    refine r_iload_n (pc := 92) dX9_laysSlice_92 rfl rfl ?_
    refine r_iload_n (pc := 93) dX9_laysSlice_93 rfl rfl ?_
    refine r_iadd (pc := 94) dX9_laysSlice_94 ?_
    refine r_icmp_le (pc := 95) (tgt := 104) h dX9_laysSlice_95 (by decide) (fun h => ?_) (fun h => ?_)
    · exact sj_weak (l2 := [some (sj_r (some a0)), some (sj_i x1), some (sj_i x2), some (sj_i x3), none, some (sj_j v22), none, some (sj_i x7)]) (⟨rfl, ⟨rfl, ⟨rfl, ⟨rfl, ⟨rfl, ⟨rfl, trivial⟩⟩⟩⟩⟩⟩) (st_X9_laysSlice_104 hk29 a0 x1 x2 x3 v22 x7 V25 ha0 h)
    · refine r_aload_n (pc := 98) dX9_laysSlice_98 rfl rfl ?_
      refine r_iload (pc := 99) dX9_laysSlice_99 rfl ?_
      refine r_pIs (pc := 101) h dX9_laysSlice_101 fw_X9_117 rfl rfl (nf9_7) (ok9 ha0) (fun V27 h => ?_)
      exact sj_weak (l2 := [some (sj_r (some a0)), some (sj_i x1), some (sj_i x2), some (sj_i x3), none, some (sj_j v22), none, some (sj_i x7)]) (⟨rfl, ⟨rfl, ⟨rfl, ⟨rfl, ⟨rfl, ⟨rfl, trivial⟩⟩⟩⟩⟩⟩) (st_X9_laysSlice_104 hk29 a0 x1 x2 x3 v22 x7 V27 ha0 h)
set_option maxHeartbeats 4000000 in
theorem st_X9_laysSlice_29 {X : sj_X} {g : sj_G} {s0 : sj_Mem} {N : Nat} {q : Unit × sj_VV} :
    ∀ (n : Nat) (a0 : Nat) (x1 : Int) (x2 : Int) (x3 : Int) (x5 : Int) (x7 : Int) (V : sj_VV), OK9 g a0 → g_X9_laysSlice_29 N n a0 x1 x2 x3 x5 x7 V = some q → sj_T X m_X9_laysSlice s0 (none, (g, q.2)) 29 [some (sj_r (some a0)), some (sj_i x1), some (sj_i x2), some (sj_i x3), none, some (sj_j x5), none, some (sj_i x7)] [] (g, V) := by
  intro n
  induction n with
  | zero => intro a0 x1 x2 x3 x5 x7 V ha0 h; exact nomatch h
  | succ n ih => intro a0 x1 x2 x3 x5 x7 V ha0 h; exact st_X9_laysSlice_29_b (N := N) ih a0 x1 x2 x3 x5 x7 V ha0 h
set_option maxHeartbeats 4000000 in
theorem st_X9_laysSlice_15 {X : sj_X} {g : sj_G} {s0 : sj_Mem} {N : Nat} {q : Unit × sj_VV} :
    ∀ (a0 : Nat) (x1 : Int) (x2 : Int) (x3 : Int) (y0 : Int) (y1 : Nat) (V : sj_VV), OK9 g a0 → OK9 g y1 → g_X9_laysSlice_15 N a0 x1 x2 x3 y0 y1 V = some q → sj_T X m_X9_laysSlice s0 (none, (g, q.2)) 15 [some (sj_r (some a0)), some (sj_i x1), some (sj_i x2), some (sj_i x3), none, none, none, none] [(sj_i y0), (sj_r (some y1))] (g, V) := by
  intro a0 x1 x2 x3 y0 y1 V ha0 hy1 h
  unfold g_X9_laysSlice_15 at h
  refine r_pIs (pc := 15) h dX9_laysSlice_15 fw_X9_114 rfl rfl (nf9_6) (ok9 hy1) (fun V1 h => ?_)
  refine r_lconst0 (pc := 18) dX9_laysSlice_18 ?_
  refine r_lstore (ln := [some (sj_r (some a0)), some (sj_i x1), some (sj_i x2), some (sj_i x3), none, some (sj_j 0), none, none]) (pc := 19) dX9_laysSlice_19 (Nat.le_of_ble_eq_true rfl) rfl ?_
  refine r_aload_n (pc := 21) dX9_laysSlice_21 rfl rfl ?_
  refine r_iconst (pc := 22) dX9_laysSlice_22 ?_
  refine r_pIs (pc := 23) h dX9_laysSlice_23 fw_X9_117 rfl rfl (nf9_7) (ok9 ha0) (fun V2 h => ?_)
  refine r_iconst (pc := 26) dX9_laysSlice_26 ?_
  refine r_istore (ln := [some (sj_r (some a0)), some (sj_i x1), some (sj_i x2), some (sj_i x3), none, some (sj_j 0), none, some (sj_i 0)]) (pc := 27) dX9_laysSlice_27 (Nat.le_of_ble_eq_true rfl) rfl ?_
  exact sj_weak (l2 := [some (sj_r (some a0)), some (sj_i x1), some (sj_i x2), some (sj_i x3), none, some (sj_j 0), none, some (sj_i 0)]) (⟨rfl, ⟨rfl, ⟨rfl, ⟨rfl, ⟨rfl, ⟨rfl, trivial⟩⟩⟩⟩⟩⟩) (st_X9_laysSlice_29 N a0 x1 x2 x3 0 0 V2 ha0 h)
set_option maxHeartbeats 4000000 in
theorem st_X9_laysSlice_0 {X : sj_X} {g : sj_G} {s0 : sj_Mem} {N : Nat} {q : Unit × sj_VV} :
    ∀ (a0 : Nat) (x1 : Int) (x2 : Int) (x3 : Int) (x4 : Int) (V : sj_VV), OK9 g a0 → g_X9_laysSlice N a0 x1 x2 x3 x4 V = some q → sj_T X m_X9_laysSlice s0 (none, (g, q.2)) 0 [some (sj_r (some a0)), some (sj_i x1), some (sj_i x2), some (sj_i x3), some (sj_i x4), none, none, none] [] (g, V) := by
  intro a0 x1 x2 x3 x4 V ha0 h
  unfold g_X9_laysSlice at h
  refine r_aload_n (pc := 0) dX9_laysSlice_0 rfl rfl ?_
  refine r_iload (pc := 1) dX9_laysSlice_1 rfl ?_
  refine r_if_eq (pc := 3) (tgt := 12) h dX9_laysSlice_3 (by decide) (fun h => ?_) (fun h => ?_)
  · refine r_iload_n (pc := 12) dX9_laysSlice_12 rfl rfl ?_
    refine r_iload_n (pc := 13) dX9_laysSlice_13 rfl rfl ?_
    refine r_isub (pc := 14) dX9_laysSlice_14 ?_
    exact sj_weak (l2 := [some (sj_r (some a0)), some (sj_i x1), some (sj_i x2), some (sj_i x3), none, none, none, none]) (⟨rfl, ⟨rfl, ⟨rfl, ⟨rfl, trivial⟩⟩⟩⟩) (st_X9_laysSlice_15 a0 x1 x2 x3 (x2 - x3) a0 V ha0 ha0 h)
  · refine r_iload_n (pc := 6) dX9_laysSlice_6 rfl rfl ?_
    refine r_iload_n (pc := 7) dX9_laysSlice_7 rfl rfl ?_
    refine r_isub (pc := 8) dX9_laysSlice_8 ?_
    refine r_goto (pc := 9) (tgt := 15) dX9_laysSlice_9 (by decide) ?_
    exact sj_weak (l2 := [some (sj_r (some a0)), some (sj_i x1), some (sj_i x2), some (sj_i x3), none, none, none, none]) (⟨rfl, ⟨rfl, ⟨rfl, ⟨rfl, trivial⟩⟩⟩⟩) (st_X9_laysSlice_15 a0 x1 x2 x3 (x3 - x2) a0 V ha0 ha0 h)
set_option maxHeartbeats 4000000 in
theorem cg_X9_laysSlice {X : sj_X} {g : sj_G} {N : Nat} {a0 : Nat} {x1 : Int} {x2 : Int} {x3 : Int} {x4 : Int} {V : sj_VV} {q : Unit × sj_VV} (ha0 : OK9 g a0) (h : g_X9_laysSlice N a0 x1 x2 x3 x4 V = some q) : sj_C X m_X9_laysSlice [sj_r (some a0), sj_i x1, sj_i x2, sj_i x3, sj_i x4] (g, V) (none, (g, q.2)) :=
  sj_C_of (by decide +kernel) (Nat.le_of_ble_eq_true rfl) (lo := [some (sj_r (some a0)), some (sj_i x1), some (sj_i x2), some (sj_i x3), some (sj_i x4), none, none, none]) rfl (sj_weak (l2 := [some (sj_r (some a0)), some (sj_i x1), some (sj_i x2), some (sj_i x3), some (sj_i x4), none, none, none]) (⟨rfl, ⟨rfl, ⟨rfl, ⟨rfl, ⟨rfl, trivial⟩⟩⟩⟩⟩) (st_X9_laysSlice_0 a0 x1 x2 x3 x4 V ha0 h))
set_option maxHeartbeats 4000000 in
theorem c_X9_laysSlice {X : sj_X} {N : Nat} {a0 : Nat} {x1 : Int} {x2 : Int} {x3 : Int} {x4 : Int} {s : sj_Mem} {q : Unit × sj_Mem} (h : f_X9_laysSlice N a0 x1 x2 x3 x4 s = some q) : sj_C X m_X9_laysSlice [sj_r (some a0), sj_i x1, sj_i x2, sj_i x3, sj_i x4] s (none, q.2) := by
  obtain ⟨g, V⟩ := s
  unfold f_X9_laysSlice at h
  obtain ⟨ho, h1⟩ := e_ok_some h
  obtain ⟨q2, h2, rfl⟩ := sj_map_some h1
  exact cg_X9_laysSlice ho h2
theorem dX9_laysAt_0 : decode cX9_laysAt 0 = .ok (.aload_n 0, 1) := by decide +kernel
theorem dX9_laysAt_1 : decode cX9_laysAt 1 = .ok (.iload_n 1, 1) := by decide +kernel
theorem dX9_laysAt_2 : decode cX9_laysAt 2 = .ok (.aload_n 0, 1) := by decide +kernel
theorem dX9_laysAt_3 : decode cX9_laysAt 3 = .ok (.getfield 26, 3) := by decide +kernel
theorem dX9_laysAt_6 : decode cX9_laysAt 6 = .ok (.iload_n 1, 1) := by decide +kernel
theorem dX9_laysAt_7 : decode cX9_laysAt 7 = .ok (.iaload, 1) := by decide +kernel
theorem dX9_laysAt_8 : decode cX9_laysAt 8 = .ok (.aload_n 0, 1) := by decide +kernel
theorem dX9_laysAt_9 : decode cX9_laysAt 9 = .ok (.getfield 26, 3) := by decide +kernel
theorem dX9_laysAt_12 : decode cX9_laysAt 12 = .ok (.iload_n 1, 1) := by decide +kernel
theorem dX9_laysAt_13 : decode cX9_laysAt 13 = .ok (.iconst 1, 1) := by decide +kernel
theorem dX9_laysAt_14 : decode cX9_laysAt 14 = .ok (.iadd, 1) := by decide +kernel
theorem dX9_laysAt_15 : decode cX9_laysAt 15 = .ok (.iaload, 1) := by decide +kernel
theorem dX9_laysAt_16 : decode cX9_laysAt 16 = .ok (.aload_n 0, 1) := by decide +kernel
theorem dX9_laysAt_17 : decode cX9_laysAt 17 = .ok (.getfield 153, 3) := by decide +kernel
theorem dX9_laysAt_20 : decode cX9_laysAt 20 = .ok (.invokevirtual 157, 3) := by decide +kernel
theorem dX9_laysAt_23 : decode cX9_laysAt 23 = .ok (.return_, 1) := by decide +kernel
set_option maxHeartbeats 4000000 in
theorem st_X9_laysAt_0 {X : sj_X} {g : sj_G} {s0 : sj_Mem} {N : Nat} {q : Unit × sj_VV} :
    ∀ (a0 : Nat) (x1 : Int) (V : sj_VV), OK9 g a0 → g_X9_laysAt N a0 x1 V = some q → sj_T X m_X9_laysAt s0 (none, (g, q.2)) 0 [some (sj_r (some a0)), some (sj_i x1)] [] (g, V) := by
  intro a0 x1 V ha0 h
  unfold g_X9_laysAt at h
  refine r_aload_n (pc := 0) dX9_laysAt_0 rfl rfl ?_
  refine r_iload_n (pc := 1) dX9_laysAt_1 rfl rfl ?_
  refine r_aload_n (pc := 2) dX9_laysAt_2 rfl rfl ?_
  refine r_gRs (b := a0 + 5) (pc := 3) dX9_laysAt_3 fw_X9_26 rfl (ok9 ha0) (ok9_16 ha0).1 ?_
  refine r_iload_n (pc := 6) dX9_laysAt_6 rfl rfl ?_
  refine r_ialoads (pc := 7) h dX9_laysAt_7 (ok9_16 ha0).2 (fun h => ?_)
  refine r_aload_n (pc := 8) dX9_laysAt_8 rfl rfl ?_
  refine r_gRs (b := a0 + 5) (pc := 9) dX9_laysAt_9 fw_X9_26 rfl (ok9 ha0) (ok9_16 ha0).1 ?_
  refine r_iload_n (pc := 12) dX9_laysAt_12 rfl rfl ?_
  refine r_iconst (pc := 13) dX9_laysAt_13 ?_
  refine r_iadd (pc := 14) dX9_laysAt_14 ?_
  refine r_ialoads (pc := 15) h dX9_laysAt_15 (ok9_16 ha0).2 (fun h => ?_)
  refine r_aload_n (pc := 16) dX9_laysAt_16 rfl rfl ?_
  refine r_gIs (pc := 17) dX9_laysAt_17 fw_X9_153 rfl (ok9 ha0) ?_
  refine r_callVs (pc := 20) (fun _ => none) (As := [sj_i x1, sj_i (V (a0 + 5) x1.toNat), sj_i (V (a0 + 5) (x1 + 1).toNat), sj_i (V a0 15)]) (rest := []) (b := a0) (ok9 ha0) h dX9_laysAt_20 mw_X9_157 vw_X9_laysSlice (fun _ _ hc => cg_X9_laysSlice ha0 hc) rfl ⟨(Nat.le_of_ble_eq_true rfl), (Nat.le_of_ble_eq_true rfl)⟩ (Nat.le_of_ble_eq_true rfl) rfl (fun _u V1 h => ?_)
  exact r_vrets (pc := 23) h rfl dX9_laysAt_23
set_option maxHeartbeats 4000000 in
theorem cg_X9_laysAt {X : sj_X} {g : sj_G} {N : Nat} {a0 : Nat} {x1 : Int} {V : sj_VV} {q : Unit × sj_VV} (ha0 : OK9 g a0) (h : g_X9_laysAt N a0 x1 V = some q) : sj_C X m_X9_laysAt [sj_r (some a0), sj_i x1] (g, V) (none, (g, q.2)) :=
  sj_C_of (by decide +kernel) (Nat.le_of_ble_eq_true rfl) (lo := [some (sj_r (some a0)), some (sj_i x1)]) rfl (sj_weak (l2 := [some (sj_r (some a0)), some (sj_i x1)]) (⟨rfl, ⟨rfl, trivial⟩⟩) (st_X9_laysAt_0 a0 x1 V ha0 h))
set_option maxHeartbeats 4000000 in
theorem c_X9_laysAt {X : sj_X} {N : Nat} {a0 : Nat} {x1 : Int} {s : sj_Mem} {q : Unit × sj_Mem} (h : f_X9_laysAt N a0 x1 s = some q) : sj_C X m_X9_laysAt [sj_r (some a0), sj_i x1] s (none, q.2) := by
  obtain ⟨g, V⟩ := s
  unfold f_X9_laysAt at h
  obtain ⟨ho, h1⟩ := e_ok_some h
  obtain ⟨q2, h2, rfl⟩ := sj_map_some h1
  exact cg_X9_laysAt ho h2
theorem dX9_rubsOf_0 : decode cX9_rubsOf 0 = .ok (.aload_n 0, 1) := by decide +kernel
theorem dX9_rubsOf_1 : decode cX9_rubsOf 1 = .ok (.getfield 9, 3) := by decide +kernel
theorem dX9_rubsOf_4 : decode cX9_rubsOf 4 = .ok (.iconst 1, 1) := by decide +kernel
theorem dX9_rubsOf_5 : decode cX9_rubsOf 5 = .ok (.iaload, 1) := by decide +kernel
theorem dX9_rubsOf_6 : decode cX9_rubsOf 6 = .ok (.i2l, 1) := by decide +kernel
theorem dX9_rubsOf_7 : decode cX9_rubsOf 7 = .ok (.iload_n 1, 1) := by decide +kernel
theorem dX9_rubsOf_8 : decode cX9_rubsOf 8 = .ok (.i2l, 1) := by decide +kernel
theorem dX9_rubsOf_9 : decode cX9_rubsOf 9 = .ok (.lmul, 1) := by decide +kernel
theorem dX9_rubsOf_10 : decode cX9_rubsOf 10 = .ok (.aload_n 0, 1) := by decide +kernel
theorem dX9_rubsOf_11 : decode cX9_rubsOf 11 = .ok (.getfield 114, 3) := by decide +kernel
theorem dX9_rubsOf_14 : decode cX9_rubsOf 14 = .ok (.i2l, 1) := by decide +kernel
theorem dX9_rubsOf_15 : decode cX9_rubsOf 15 = .ok (.aload_n 0, 1) := by decide +kernel
theorem dX9_rubsOf_16 : decode cX9_rubsOf 16 = .ok (.getfield 9, 3) := by decide +kernel
theorem dX9_rubsOf_19 : decode cX9_rubsOf 19 = .ok (.sipush 290, 3) := by decide +kernel
theorem dX9_rubsOf_22 : decode cX9_rubsOf 22 = .ok (.iconst 3, 1) := by decide +kernel
theorem dX9_rubsOf_23 : decode cX9_rubsOf 23 = .ok (.aload_n 0, 1) := by decide +kernel
theorem dX9_rubsOf_24 : decode cX9_rubsOf 24 = .ok (.getfield 117, 3) := by decide +kernel
theorem dX9_rubsOf_27 : decode cX9_rubsOf 27 = .ok (.imul, 1) := by decide +kernel
theorem dX9_rubsOf_28 : decode cX9_rubsOf 28 = .ok (.iadd, 1) := by decide +kernel
theorem dX9_rubsOf_29 : decode cX9_rubsOf 29 = .ok (.iconst 2, 1) := by decide +kernel
theorem dX9_rubsOf_30 : decode cX9_rubsOf 30 = .ok (.iadd, 1) := by decide +kernel
theorem dX9_rubsOf_31 : decode cX9_rubsOf 31 = .ok (.iaload, 1) := by decide +kernel
theorem dX9_rubsOf_32 : decode cX9_rubsOf 32 = .ok (.i2l, 1) := by decide +kernel
theorem dX9_rubsOf_33 : decode cX9_rubsOf 33 = .ok (.lmul, 1) := by decide +kernel
theorem dX9_rubsOf_34 : decode cX9_rubsOf 34 = .ok (.ladd, 1) := by decide +kernel
theorem dX9_rubsOf_35 : decode cX9_rubsOf 35 = .ok (.lstore_n 2, 1) := by decide +kernel
theorem dX9_rubsOf_36 : decode cX9_rubsOf 36 = .ok (.lload_n 2, 1) := by decide +kernel
theorem dX9_rubsOf_37 : decode cX9_rubsOf 37 = .ok (.lconst 0, 1) := by decide +kernel
theorem dX9_rubsOf_38 : decode cX9_rubsOf 38 = .ok (.lcmp, 1) := by decide +kernel
theorem dX9_rubsOf_39 : decode cX9_rubsOf 39 = .ok (.ifCond .gt 9, 3) := by decide +kernel
theorem dX9_rubsOf_42 : decode cX9_rubsOf 42 = .ok (.ldc2_w 148, 3) := by decide +kernel
theorem dX9_rubsOf_45 : decode cX9_rubsOf 45 = .ok (.goto 40, 3) := by decide +kernel
theorem dX9_rubsOf_48 : decode cX9_rubsOf 48 = .ok (.aload_n 0, 1) := by decide +kernel
theorem dX9_rubsOf_49 : decode cX9_rubsOf 49 = .ok (.getfield 140, 3) := by decide +kernel
theorem dX9_rubsOf_52 : decode cX9_rubsOf 52 = .ok (.aload_n 0, 1) := by decide +kernel
theorem dX9_rubsOf_53 : decode cX9_rubsOf 53 = .ok (.getfield 9, 3) := by decide +kernel
theorem dX9_rubsOf_56 : decode cX9_rubsOf 56 = .ok (.iconst 1, 1) := by decide +kernel
theorem dX9_rubsOf_57 : decode cX9_rubsOf 57 = .ok (.iaload, 1) := by decide +kernel
theorem dX9_rubsOf_58 : decode cX9_rubsOf 58 = .ok (.i2l, 1) := by decide +kernel
theorem dX9_rubsOf_59 : decode cX9_rubsOf 59 = .ok (.aload_n 0, 1) := by decide +kernel
theorem dX9_rubsOf_60 : decode cX9_rubsOf 60 = .ok (.getfield 9, 3) := by decide +kernel
theorem dX9_rubsOf_63 : decode cX9_rubsOf 63 = .ok (.iconst 1, 1) := by decide +kernel
theorem dX9_rubsOf_64 : decode cX9_rubsOf 64 = .ok (.iaload, 1) := by decide +kernel
theorem dX9_rubsOf_65 : decode cX9_rubsOf 65 = .ok (.i2l, 1) := by decide +kernel
theorem dX9_rubsOf_66 : decode cX9_rubsOf 66 = .ok (.lmul, 1) := by decide +kernel
theorem dX9_rubsOf_67 : decode cX9_rubsOf 67 = .ok (.aload_n 0, 1) := by decide +kernel
theorem dX9_rubsOf_68 : decode cX9_rubsOf 68 = .ok (.getfield 114, 3) := by decide +kernel
theorem dX9_rubsOf_71 : decode cX9_rubsOf 71 = .ok (.i2l, 1) := by decide +kernel
theorem dX9_rubsOf_72 : decode cX9_rubsOf 72 = .ok (.aload_n 0, 1) := by decide +kernel
theorem dX9_rubsOf_73 : decode cX9_rubsOf 73 = .ok (.getfield 114, 3) := by decide +kernel
theorem dX9_rubsOf_76 : decode cX9_rubsOf 76 = .ok (.i2l, 1) := by decide +kernel
theorem dX9_rubsOf_77 : decode cX9_rubsOf 77 = .ok (.lmul, 1) := by decide +kernel
theorem dX9_rubsOf_78 : decode cX9_rubsOf 78 = .ok (.ladd, 1) := by decide +kernel
theorem dX9_rubsOf_79 : decode cX9_rubsOf 79 = .ok (.lmul, 1) := by decide +kernel
theorem dX9_rubsOf_80 : decode cX9_rubsOf 80 = .ok (.iload_n 1, 1) := by decide +kernel
theorem dX9_rubsOf_81 : decode cX9_rubsOf 81 = .ok (.i2l, 1) := by decide +kernel
theorem dX9_rubsOf_82 : decode cX9_rubsOf 82 = .ok (.lmul, 1) := by decide +kernel
theorem dX9_rubsOf_83 : decode cX9_rubsOf 83 = .ok (.lload_n 2, 1) := by decide +kernel
theorem dX9_rubsOf_84 : decode cX9_rubsOf 84 = .ok (.ldiv, 1) := by decide +kernel
theorem dX9_rubsOf_85 : decode cX9_rubsOf 85 = .ok (.lreturn, 1) := by decide +kernel
set_option maxHeartbeats 4000000 in
theorem st_X9_rubsOf_0 {X : sj_X} {g : sj_G} {s0 : sj_Mem} {N : Nat} {q : Int × sj_VV} :
    ∀ (a0 : Nat) (x1 : Int) (V : sj_VV), OK9 g a0 → g_X9_rubsOf N a0 x1 V = some q → sj_T X m_X9_rubsOf s0 (some (sj_j q.1), (g, q.2)) 0 [some (sj_r (some a0)), some (sj_i x1), none, none] [] (g, V) := by
  intro a0 x1 V ha0 h
  unfold g_X9_rubsOf at h
  refine r_aload_n (pc := 0) dX9_rubsOf_0 rfl rfl ?_
  refine r_gRs (b := a0 + 1) (pc := 1) dX9_rubsOf_1 fw_X9_9 rfl (ok9 ha0) (ok9_0 ha0).1 ?_
  refine r_iconst (pc := 4) dX9_rubsOf_4 ?_
  refine r_ialoads (pc := 5) h dX9_rubsOf_5 (ok9_0 ha0).2 (fun h => ?_)
  refine r_i2l (pc := 6) h dX9_rubsOf_6 (fun v1 h => ?_)
  refine r_iload_n (pc := 7) dX9_rubsOf_7 rfl rfl ?_
  refine r_i2l (pc := 8) h dX9_rubsOf_8 (fun v2 h => ?_)
  refine r_lmul (pc := 9) dX9_rubsOf_9 ?_
  refine r_aload_n (pc := 10) dX9_rubsOf_10 rfl rfl ?_
  refine r_gIs (pc := 11) dX9_rubsOf_11 fw_X9_114 rfl (ok9 ha0) ?_
  refine r_i2l (pc := 14) h dX9_rubsOf_14 (fun v3 h => ?_)
  refine r_aload_n (pc := 15) dX9_rubsOf_15 rfl rfl ?_
  refine r_gRs (b := a0 + 1) (pc := 16) dX9_rubsOf_16 fw_X9_9 rfl (ok9 ha0) (ok9_0 ha0).1 ?_
  refine r_sipush (pc := 19) dX9_rubsOf_19 ⟨by decide, by decide⟩ ?_
  refine r_iconst (pc := 22) dX9_rubsOf_22 ?_
  refine r_aload_n (pc := 23) dX9_rubsOf_23 rfl rfl ?_
  refine r_gIs (pc := 24) dX9_rubsOf_24 fw_X9_117 rfl (ok9 ha0) ?_
  refine r_imul (pc := 27) dX9_rubsOf_27 ?_
  refine r_iadd (pc := 28) dX9_rubsOf_28 ?_
  refine r_iconst (pc := 29) dX9_rubsOf_29 ?_
  refine r_iadd (pc := 30) dX9_rubsOf_30 ?_
  refine r_ialoads (pc := 31) h dX9_rubsOf_31 (ok9_0 ha0).2 (fun h => ?_)
  refine r_i2l (pc := 32) h dX9_rubsOf_32 (fun v4 h => ?_)
  refine r_lmul (pc := 33) dX9_rubsOf_33 ?_
  refine r_ladd (pc := 34) dX9_rubsOf_34 ?_
  refine r_lstore_nL (ln := fun w => [some (sj_r (some a0)), some (sj_i x1), some (sj_j w), none]) (pc := 35) h dX9_rubsOf_35 rfl (Nat.le_of_ble_eq_true rfl) (fun _ => rfl) (fun v5 h => ?_)
  refine r_lload_n (pc := 36) dX9_rubsOf_36 rfl rfl ?_
  refine r_lconst0 (pc := 37) dX9_rubsOf_37 ?_
  refine r_lgt (pc := 38) (tgt := 48) h dX9_rubsOf_38 rfl dX9_rubsOf_39 (by decide) (fun h => ?_) (fun h => ?_)
  · refine r_aload_n (pc := 48) dX9_rubsOf_48 rfl rfl ?_
    refine r_gJs (pc := 49) dX9_rubsOf_49 fw_X9_140 rfl (ok9 ha0) ?_
    refine r_aload_n (pc := 52) dX9_rubsOf_52 rfl rfl ?_
    refine r_gRs (b := a0 + 1) (pc := 53) dX9_rubsOf_53 fw_X9_9 rfl (ok9 ha0) (ok9_0 ha0).1 ?_
    refine r_iconst (pc := 56) dX9_rubsOf_56 ?_
    refine r_ialoads (pc := 57) h dX9_rubsOf_57 (ok9_0 ha0).2 (fun h => ?_)
    refine r_i2l (pc := 58) h dX9_rubsOf_58 (fun v6 h => ?_)
    refine r_aload_n (pc := 59) dX9_rubsOf_59 rfl rfl ?_
    refine r_gRs (b := a0 + 1) (pc := 60) dX9_rubsOf_60 fw_X9_9 rfl (ok9 ha0) (ok9_0 ha0).1 ?_
    refine r_iconst (pc := 63) dX9_rubsOf_63 ?_
    refine r_ialoads (pc := 64) h dX9_rubsOf_64 (ok9_0 ha0).2 (fun h => ?_)
    refine r_i2l (pc := 65) h dX9_rubsOf_65 (fun v7 h => ?_)
    refine r_lmul (pc := 66) dX9_rubsOf_66 ?_
    refine r_aload_n (pc := 67) dX9_rubsOf_67 rfl rfl ?_
    refine r_gIs (pc := 68) dX9_rubsOf_68 fw_X9_114 rfl (ok9 ha0) ?_
    refine r_i2l (pc := 71) h dX9_rubsOf_71 (fun v8 h => ?_)
    refine r_aload_n (pc := 72) dX9_rubsOf_72 rfl rfl ?_
    refine r_gIs (pc := 73) dX9_rubsOf_73 fw_X9_114 rfl (ok9 ha0) ?_
    refine r_i2l (pc := 76) h dX9_rubsOf_76 (fun v9 h => ?_)
    refine r_lmul (pc := 77) dX9_rubsOf_77 ?_
    refine r_ladd (pc := 78) dX9_rubsOf_78 ?_
    refine r_lmul (pc := 79) dX9_rubsOf_79 ?_
    refine r_iload_n (pc := 80) dX9_rubsOf_80 rfl rfl ?_
    refine r_i2l (pc := 81) h dX9_rubsOf_81 (fun v10 h => ?_)
    refine r_lmul (pc := 82) dX9_rubsOf_82 ?_
    refine r_lload_n (pc := 83) dX9_rubsOf_83 rfl rfl ?_
    refine r_ldiv (pc := 84) h dX9_rubsOf_84 (fun v11 h => ?_)
    exact r_lrets (pc := 85) h rfl dX9_rubsOf_85
  · refine r_ldc2 (n := -1) (pc := 42) dX9_rubsOf_42 kc_X9_148 ?_
    refine r_goto (pc := 45) (tgt := 85) dX9_rubsOf_45 (by decide) ?_
    exact r_lrets (pc := 85) h rfl dX9_rubsOf_85
set_option maxHeartbeats 4000000 in
theorem cg_X9_rubsOf {X : sj_X} {g : sj_G} {N : Nat} {a0 : Nat} {x1 : Int} {V : sj_VV} {q : Int × sj_VV} (ha0 : OK9 g a0) (h : g_X9_rubsOf N a0 x1 V = some q) : sj_C X m_X9_rubsOf [sj_r (some a0), sj_i x1] (g, V) (some (sj_j q.1), (g, q.2)) :=
  sj_C_of (by decide +kernel) (Nat.le_of_ble_eq_true rfl) (lo := [some (sj_r (some a0)), some (sj_i x1), none, none]) rfl (sj_weak (l2 := [some (sj_r (some a0)), some (sj_i x1), none, none]) (⟨rfl, ⟨rfl, trivial⟩⟩) (st_X9_rubsOf_0 a0 x1 V ha0 h))
set_option maxHeartbeats 4000000 in
theorem c_X9_rubsOf {X : sj_X} {N : Nat} {a0 : Nat} {x1 : Int} {s : sj_Mem} {q : Int × sj_Mem} (h : f_X9_rubsOf N a0 x1 s = some q) : sj_C X m_X9_rubsOf [sj_r (some a0), sj_i x1] s (some (sj_j q.1), q.2) := by
  obtain ⟨g, V⟩ := s
  unfold f_X9_rubsOf at h
  obtain ⟨ho, h1⟩ := e_ok_some h
  obtain ⟨q2, h2, rfl⟩ := sj_map_some h1
  exact cg_X9_rubsOf ho h2
theorem dX9_standsWith_0 : decode cX9_standsWith 0 = .ok (.lconst 0, 1) := by decide +kernel
theorem dX9_standsWith_1 : decode cX9_standsWith 1 = .ok (.lstore 4, 2) := by decide +kernel
theorem dX9_standsWith_3 : decode cX9_standsWith 3 = .ok (.aload_n 0, 1) := by decide +kernel
theorem dX9_standsWith_4 : decode cX9_standsWith 4 = .ok (.invokevirtual 164, 3) := by decide +kernel
theorem dX9_standsWith_7 : decode cX9_standsWith 7 = .ok (.lneg, 1) := by decide +kernel
theorem dX9_standsWith_8 : decode cX9_standsWith 8 = .ok (.lload_n 2, 1) := by decide +kernel
theorem dX9_standsWith_9 : decode cX9_standsWith 9 = .ok (.lsub, 1) := by decide +kernel
theorem dX9_standsWith_10 : decode cX9_standsWith 10 = .ok (.lstore 6, 2) := by decide +kernel
theorem dX9_standsWith_12 : decode cX9_standsWith 12 = .ok (.aload_n 0, 1) := by decide +kernel
theorem dX9_standsWith_13 : decode cX9_standsWith 13 = .ok (.getfield 22, 3) := by decide +kernel
theorem dX9_standsWith_16 : decode cX9_standsWith 16 = .ok (.istore 8, 2) := by decide +kernel
theorem dX9_standsWith_18 : decode cX9_standsWith 18 = .ok (.iload 8, 2) := by decide +kernel
theorem dX9_standsWith_20 : decode cX9_standsWith 20 = .ok (.aload_n 0, 1) := by decide +kernel
theorem dX9_standsWith_21 : decode cX9_standsWith 21 = .ok (.getfield 150, 3) := by decide +kernel
theorem dX9_standsWith_24 : decode cX9_standsWith 24 = .ok (.if_icmp .ge 49, 3) := by decide +kernel
theorem dX9_standsWith_27 : decode cX9_standsWith 27 = .ok (.aload_n 0, 1) := by decide +kernel
theorem dX9_standsWith_28 : decode cX9_standsWith 28 = .ok (.iload 8, 2) := by decide +kernel
theorem dX9_standsWith_30 : decode cX9_standsWith 30 = .ok (.invokevirtual 168, 3) := by decide +kernel
theorem dX9_standsWith_33 : decode cX9_standsWith 33 = .ok (.aload_n 0, 1) := by decide +kernel
theorem dX9_standsWith_34 : decode cX9_standsWith 34 = .ok (.iload_n 1, 1) := by decide +kernel
theorem dX9_standsWith_35 : decode cX9_standsWith 35 = .ok (.invokevirtual 171, 3) := by decide +kernel
theorem dX9_standsWith_38 : decode cX9_standsWith 38 = .ok (.lstore 9, 2) := by decide +kernel
theorem dX9_standsWith_40 : decode cX9_standsWith 40 = .ok (.lload 9, 2) := by decide +kernel
theorem dX9_standsWith_42 : decode cX9_standsWith 42 = .ok (.ldc2_w 148, 3) := by decide +kernel
theorem dX9_standsWith_45 : decode cX9_standsWith 45 = .ok (.lcmp, 1) := by decide +kernel
theorem dX9_standsWith_46 : decode cX9_standsWith 46 = .ok (.ifCond .ne 5, 3) := by decide +kernel
theorem dX9_standsWith_49 : decode cX9_standsWith 49 = .ok (.iconst 1, 1) := by decide +kernel
theorem dX9_standsWith_50 : decode cX9_standsWith 50 = .ok (.ireturn, 1) := by decide +kernel
theorem dX9_standsWith_51 : decode cX9_standsWith 51 = .ok (.lload 4, 2) := by decide +kernel
theorem dX9_standsWith_53 : decode cX9_standsWith 53 = .ok (.lload 9, 2) := by decide +kernel
theorem dX9_standsWith_55 : decode cX9_standsWith 55 = .ok (.ladd, 1) := by decide +kernel
theorem dX9_standsWith_56 : decode cX9_standsWith 56 = .ok (.lstore 4, 2) := by decide +kernel
theorem dX9_standsWith_58 : decode cX9_standsWith 58 = .ok (.lload 6, 2) := by decide +kernel
theorem dX9_standsWith_60 : decode cX9_standsWith 60 = .ok (.aload_n 0, 1) := by decide +kernel
theorem dX9_standsWith_61 : decode cX9_standsWith 61 = .ok (.getfield 145, 3) := by decide +kernel
theorem dX9_standsWith_64 : decode cX9_standsWith 64 = .ok (.ladd, 1) := by decide +kernel
theorem dX9_standsWith_65 : decode cX9_standsWith 65 = .ok (.lstore 6, 2) := by decide +kernel
theorem dX9_standsWith_67 : decode cX9_standsWith 67 = .ok (.iinc 8 1, 3) := by decide +kernel
theorem dX9_standsWith_70 : decode cX9_standsWith 70 = .ok (.goto (-52), 3) := by decide +kernel
theorem dX9_standsWith_73 : decode cX9_standsWith 73 = .ok (.lload 4, 2) := by decide +kernel
theorem dX9_standsWith_75 : decode cX9_standsWith 75 = .ok (.iload_n 1, 1) := by decide +kernel
theorem dX9_standsWith_76 : decode cX9_standsWith 76 = .ok (.i2l, 1) := by decide +kernel
theorem dX9_standsWith_77 : decode cX9_standsWith 77 = .ok (.lload 6, 2) := by decide +kernel
theorem dX9_standsWith_79 : decode cX9_standsWith 79 = .ok (.lmul, 1) := by decide +kernel
theorem dX9_standsWith_80 : decode cX9_standsWith 80 = .ok (.ldc2_w 143, 3) := by decide +kernel
theorem dX9_standsWith_83 : decode cX9_standsWith 83 = .ok (.invokestatic 175, 3) := by decide +kernel
theorem dX9_standsWith_86 : decode cX9_standsWith 86 = .ok (.lcmp, 1) := by decide +kernel
theorem dX9_standsWith_87 : decode cX9_standsWith 87 = .ok (.ifCond .lt 7, 3) := by decide +kernel
theorem dX9_standsWith_90 : decode cX9_standsWith 90 = .ok (.iconst 1, 1) := by decide +kernel
theorem dX9_standsWith_91 : decode cX9_standsWith 91 = .ok (.goto 4, 3) := by decide +kernel
theorem dX9_standsWith_94 : decode cX9_standsWith 94 = .ok (.iconst 0, 1) := by decide +kernel
theorem dX9_standsWith_95 : decode cX9_standsWith 95 = .ok (.ireturn, 1) := by decide +kernel
set_option maxHeartbeats 4000000 in
theorem st_X9_standsWith_18_b {X : sj_X} {g : sj_G} {s0 : sj_Mem} {N : Nat} {q : Int × sj_VV} {k18 : Nat → Int → Int → Int → Int → sj_VV → Option (Int × sj_VV)} (hk18 : ∀ (a0 : Nat) (x1 : Int) (x4 : Int) (x6 : Int) (x8 : Int) (V : sj_VV), OK9 g a0 → k18 a0 x1 x4 x6 x8 V = some q → sj_T X m_X9_standsWith s0 (some (sj_i q.1), (g, q.2)) 18 [some (sj_r (some a0)), some (sj_i x1), none, none, some (sj_j x4), none, some (sj_j x6), none, some (sj_i x8), none, none] [] (g, V)) :
    ∀ (a0 : Nat) (x1 : Int) (x4 : Int) (x6 : Int) (x8 : Int) (V : sj_VV), OK9 g a0 → g_X9_standsWith_18_b N k18 a0 x1 x4 x6 x8 V = some q → sj_T X m_X9_standsWith s0 (some (sj_i q.1), (g, q.2)) 18 [some (sj_r (some a0)), some (sj_i x1), none, none, some (sj_j x4), none, some (sj_j x6), none, some (sj_i x8), none, none] [] (g, V) := by
  intro a0 x1 x4 x6 x8 V ha0 h
  unfold g_X9_standsWith_18_b at h
  refine r_iload (pc := 18) dX9_standsWith_18 rfl ?_
  refine r_aload_n (pc := 20) dX9_standsWith_20 rfl rfl ?_
  refine r_gIs (pc := 21) dX9_standsWith_21 fw_X9_150 rfl (ok9 ha0) ?_
  refine r_icmp_ge (pc := 24) (tgt := 73) h dX9_standsWith_24 (by decide) (fun h => ?_) (fun h => ?_)
  · refine r_lload (pc := 73) dX9_standsWith_73 rfl ?_
    refine r_iload_n (pc := 75) dX9_standsWith_75 rfl rfl ?_
    refine r_i2l (pc := 76) h dX9_standsWith_76 (fun v1 h => ?_)
    refine r_lload (pc := 77) dX9_standsWith_77 rfl ?_
    refine r_lmul (pc := 79) dX9_standsWith_79 ?_
    refine r_ldc2 (n := 1000) (pc := 80) dX9_standsWith_80 kc_X9_143 ?_
    refine r_callSs (pc := 83) (fun v => some (sj_j v)) (As := [sj_j (v1 * x6), sj_j 1000]) (rest := [(sj_j x4)]) h dX9_standsWith_83 mw_X9_175 kw_1365 (fun _ _ hc => cg_X9_upwards  hc) rfl ⟨(Nat.le_of_ble_eq_true rfl), (Nat.le_of_ble_eq_true rfl)⟩ (Nat.le_of_ble_eq_true rfl) rfl (fun v3 V2 h => ?_)
    refine r_llt (pc := 86) (tgt := 94) h dX9_standsWith_86 rfl dX9_standsWith_87 (by decide) (fun h => ?_) (fun h => ?_)
    · refine r_iconst (pc := 94) dX9_standsWith_94 ?_
      exact r_zrets (pc := 95) h rfl dX9_standsWith_95
    · refine r_iconst (pc := 90) dX9_standsWith_90 ?_
      refine r_goto (pc := 91) (tgt := 95) dX9_standsWith_91 (by decide) ?_
      exact r_zrets (pc := 95) h rfl dX9_standsWith_95
  · refine r_aload_n (pc := 27) dX9_standsWith_27 rfl rfl ?_
    refine r_iload (pc := 28) dX9_standsWith_28 rfl ?_
    refine r_callVs (pc := 30) (fun _ => none) (As := [sj_i x8]) (rest := []) (b := a0) (ok9 ha0) h dX9_standsWith_30 mw_X9_168 vw_X9_laysAt (fun _ _ hc => cg_X9_laysAt ha0 hc) rfl ⟨(Nat.le_of_ble_eq_true rfl), (Nat.le_of_ble_eq_true rfl)⟩ (Nat.le_of_ble_eq_true rfl) rfl (fun _u V4 h => ?_)
    refine r_aload_n (pc := 33) dX9_standsWith_33 rfl rfl ?_
    refine r_iload_n (pc := 34) dX9_standsWith_34 rfl rfl ?_
    refine r_callVs (pc := 35) (fun v => some (sj_j v)) (As := [sj_i x1]) (rest := []) (b := a0) (ok9 ha0) h dX9_standsWith_35 mw_X9_171 vw_X9_rubsOf (fun _ _ hc => cg_X9_rubsOf ha0 hc) rfl ⟨(Nat.le_of_ble_eq_true rfl), (Nat.le_of_ble_eq_true rfl)⟩ (Nat.le_of_ble_eq_true rfl) rfl (fun v6 V5 h => ?_)
    refine r_lstore (ln := [some (sj_r (some a0)), some (sj_i x1), none, none, some (sj_j x4), none, some (sj_j x6), none, some (sj_i x8), some (sj_j v6), none]) (pc := 38) dX9_standsWith_38 (Nat.le_of_ble_eq_true rfl) rfl ?_
    refine r_lload (pc := 40) dX9_standsWith_40 rfl ?_
    refine r_ldc2 (n := -1) (pc := 42) dX9_standsWith_42 kc_X9_148 ?_
    refine r_lne (pc := 45) (tgt := 51) h dX9_standsWith_45 rfl dX9_standsWith_46 (by decide) (fun h => ?_) (fun h => ?_)
    · refine r_iconst (pc := 49) dX9_standsWith_49 ?_
      exact r_zrets (pc := 50) h rfl dX9_standsWith_50
    · refine r_lload (pc := 51) dX9_standsWith_51 rfl ?_
      refine r_lload (pc := 53) dX9_standsWith_53 rfl ?_
      refine r_ladd (pc := 55) dX9_standsWith_55 ?_
      refine r_lstoreL (ln := fun w => [some (sj_r (some a0)), some (sj_i x1), none, none, some (sj_j w), none, some (sj_j x6), none, some (sj_i x8), some (sj_j v6), none]) (pc := 56) h dX9_standsWith_56 (Nat.le_of_ble_eq_true rfl) (fun _ => rfl) (fun v7 h => ?_)
      refine r_lload (pc := 58) dX9_standsWith_58 rfl ?_
      refine r_aload_n (pc := 60) dX9_standsWith_60 rfl rfl ?_
      refine r_gJs (pc := 61) dX9_standsWith_61 fw_X9_145 rfl (ok9 ha0) ?_
      refine r_ladd (pc := 64) dX9_standsWith_64 ?_
      refine r_lstoreL (ln := fun w => [some (sj_r (some a0)), some (sj_i x1), none, none, some (sj_j v7), none, some (sj_j w), none, some (sj_i x8), some (sj_j v6), none]) (pc := 65) h dX9_standsWith_65 (Nat.le_of_ble_eq_true rfl) (fun _ => rfl) (fun v8 h => ?_)
      refine r_iinc (ln := fun w => [some (sj_r (some a0)), some (sj_i x1), none, none, some (sj_j v7), none, some (sj_j v8), none, some (sj_i w), some (sj_j v6), none]) (pc := 67) h dX9_standsWith_67 rfl (Nat.le_of_ble_eq_true rfl) (fun _ => rfl) (fun v9 h => ?_)
      refine r_goto (pc := 70) (tgt := 18) dX9_standsWith_70 (by decide) ?_
      exact sj_weak (l2 := [some (sj_r (some a0)), some (sj_i x1), none, none, some (sj_j v7), none, some (sj_j v8), none, some (sj_i v9), none, none]) (⟨rfl, ⟨rfl, ⟨rfl, ⟨rfl, ⟨rfl, trivial⟩⟩⟩⟩⟩) (hk18 a0 x1 v7 v8 v9 V5 ha0 h)
set_option maxHeartbeats 4000000 in
theorem st_X9_standsWith_18 {X : sj_X} {g : sj_G} {s0 : sj_Mem} {N : Nat} {q : Int × sj_VV} :
    ∀ (n : Nat) (a0 : Nat) (x1 : Int) (x4 : Int) (x6 : Int) (x8 : Int) (V : sj_VV), OK9 g a0 → g_X9_standsWith_18 N n a0 x1 x4 x6 x8 V = some q → sj_T X m_X9_standsWith s0 (some (sj_i q.1), (g, q.2)) 18 [some (sj_r (some a0)), some (sj_i x1), none, none, some (sj_j x4), none, some (sj_j x6), none, some (sj_i x8), none, none] [] (g, V) := by
  intro n
  induction n with
  | zero => intro a0 x1 x4 x6 x8 V ha0 h; exact nomatch h
  | succ n ih => intro a0 x1 x4 x6 x8 V ha0 h; exact st_X9_standsWith_18_b (N := N) ih a0 x1 x4 x6 x8 V ha0 h
set_option maxHeartbeats 4000000 in
theorem st_X9_standsWith_0 {X : sj_X} {g : sj_G} {s0 : sj_Mem} {N : Nat} {q : Int × sj_VV} :
    ∀ (a0 : Nat) (x1 : Int) (x2 : Int) (V : sj_VV), OK9 g a0 → g_X9_standsWith N a0 x1 x2 V = some q → sj_T X m_X9_standsWith s0 (some (sj_i q.1), (g, q.2)) 0 [some (sj_r (some a0)), some (sj_i x1), some (sj_j x2), none, none, none, none, none, none, none, none] [] (g, V) := by
  intro a0 x1 x2 V ha0 h
  unfold g_X9_standsWith at h
  refine r_lconst0 (pc := 0) dX9_standsWith_0 ?_
  refine r_lstore (ln := [some (sj_r (some a0)), some (sj_i x1), some (sj_j x2), none, some (sj_j 0), none, none, none, none, none, none]) (pc := 1) dX9_standsWith_1 (Nat.le_of_ble_eq_true rfl) rfl ?_
  refine r_aload_n (pc := 3) dX9_standsWith_3 rfl rfl ?_
  refine r_callVs (pc := 4) (fun v => some (sj_j v)) (As := []) (rest := []) (b := a0) (ok9 ha0) h dX9_standsWith_4 mw_X9_164 vw_X9_pulls (fun _ _ hc => cg_X9_pulls ha0 hc) rfl ⟨(Nat.le_of_ble_eq_true rfl), (Nat.le_of_ble_eq_true rfl)⟩ (Nat.le_of_ble_eq_true rfl) rfl (fun v2 V1 h => ?_)
  refine r_lneg (pc := 7) dX9_standsWith_7 ?_
  refine r_lload_n (pc := 8) dX9_standsWith_8 rfl rfl ?_
  refine r_lsub (pc := 9) dX9_standsWith_9 ?_
  refine r_lstoreL (ln := fun w => [some (sj_r (some a0)), some (sj_i x1), some (sj_j x2), none, some (sj_j 0), none, some (sj_j w), none, none, none, none]) (pc := 10) h dX9_standsWith_10 (Nat.le_of_ble_eq_true rfl) (fun _ => rfl) (fun v3 h => ?_)
  refine r_aload_n (pc := 12) dX9_standsWith_12 rfl rfl ?_
  refine r_gIs (pc := 13) dX9_standsWith_13 fw_X9_22 rfl (ok9 ha0) ?_
  refine r_istoreL (ln := fun w => [some (sj_r (some a0)), some (sj_i x1), some (sj_j x2), none, some (sj_j 0), none, some (sj_j v3), none, some (sj_i w), none, none]) (pc := 16) h dX9_standsWith_16 (Nat.le_of_ble_eq_true rfl) (fun _ => rfl) (fun v4 h => ?_)
  exact sj_weak (l2 := [some (sj_r (some a0)), some (sj_i x1), none, none, some (sj_j 0), none, some (sj_j v3), none, some (sj_i v4), none, none]) (⟨rfl, ⟨rfl, ⟨rfl, ⟨rfl, ⟨rfl, trivial⟩⟩⟩⟩⟩) (st_X9_standsWith_18 N a0 x1 0 v3 v4 V1 ha0 h)
set_option maxHeartbeats 4000000 in
theorem cg_X9_standsWith {X : sj_X} {g : sj_G} {N : Nat} {a0 : Nat} {x1 : Int} {x2 : Int} {V : sj_VV} {q : Int × sj_VV} (ha0 : OK9 g a0) (h : g_X9_standsWith N a0 x1 x2 V = some q) : sj_C X m_X9_standsWith [sj_r (some a0), sj_i x1, sj_j x2] (g, V) (some (sj_i q.1), (g, q.2)) :=
  sj_C_of (by decide +kernel) (Nat.le_of_ble_eq_true rfl) (lo := [some (sj_r (some a0)), some (sj_i x1), some (sj_j x2), none, none, none, none, none, none, none, none]) rfl (sj_weak (l2 := [some (sj_r (some a0)), some (sj_i x1), some (sj_j x2), none, none, none, none, none, none, none, none]) (⟨rfl, ⟨rfl, ⟨rfl, trivial⟩⟩⟩) (st_X9_standsWith_0 a0 x1 x2 V ha0 h))
set_option maxHeartbeats 4000000 in
theorem c_X9_standsWith {X : sj_X} {N : Nat} {a0 : Nat} {x1 : Int} {x2 : Int} {s : sj_Mem} {q : Int × sj_Mem} (h : f_X9_standsWith N a0 x1 x2 s = some q) : sj_C X m_X9_standsWith [sj_r (some a0), sj_i x1, sj_j x2] s (some (sj_i q.1), q.2) := by
  obtain ⟨g, V⟩ := s
  unfold f_X9_standsWith at h
  obtain ⟨ho, h1⟩ := e_ok_some h
  obtain ⟨q2, h2, rfl⟩ := sj_map_some h1
  exact cg_X9_standsWith ho h2
theorem dX9_isStanding_0 : decode cX9_isStanding 0 = .ok (.aload_n 0, 1) := by decide +kernel
theorem dX9_isStanding_1 : decode cX9_isStanding 1 = .ok (.iload_n 1, 1) := by decide +kernel
theorem dX9_isStanding_2 : decode cX9_isStanding 2 = .ok (.lconst 0, 1) := by decide +kernel
theorem dX9_isStanding_3 : decode cX9_isStanding 3 = .ok (.invokevirtual 179, 3) := by decide +kernel
theorem dX9_isStanding_6 : decode cX9_isStanding 6 = .ok (.ireturn, 1) := by decide +kernel
set_option maxHeartbeats 4000000 in
theorem st_X9_isStanding_0 {X : sj_X} {g : sj_G} {s0 : sj_Mem} {N : Nat} {q : Int × sj_VV} :
    ∀ (a0 : Nat) (x1 : Int) (V : sj_VV), OK9 g a0 → g_X9_isStanding N a0 x1 V = some q → sj_T X m_X9_isStanding s0 (some (sj_i q.1), (g, q.2)) 0 [some (sj_r (some a0)), some (sj_i x1)] [] (g, V) := by
  intro a0 x1 V ha0 h
  unfold g_X9_isStanding at h
  refine r_aload_n (pc := 0) dX9_isStanding_0 rfl rfl ?_
  refine r_iload_n (pc := 1) dX9_isStanding_1 rfl rfl ?_
  refine r_lconst0 (pc := 2) dX9_isStanding_2 ?_
  refine r_callVs (pc := 3) (fun v => some (sj_i v)) (As := [sj_i x1, sj_j 0]) (rest := []) (b := a0) (ok9 ha0) h dX9_isStanding_3 mw_X9_179 vw_X9_standsWith (fun _ _ hc => cg_X9_standsWith ha0 hc) rfl ⟨(Nat.le_of_ble_eq_true rfl), (Nat.le_of_ble_eq_true rfl)⟩ (Nat.le_of_ble_eq_true rfl) rfl (fun v2 V1 h => ?_)
  exact r_zrets (pc := 6) h rfl dX9_isStanding_6
set_option maxHeartbeats 4000000 in
theorem cg_X9_isStanding {X : sj_X} {g : sj_G} {N : Nat} {a0 : Nat} {x1 : Int} {V : sj_VV} {q : Int × sj_VV} (ha0 : OK9 g a0) (h : g_X9_isStanding N a0 x1 V = some q) : sj_C X m_X9_isStanding [sj_r (some a0), sj_i x1] (g, V) (some (sj_i q.1), (g, q.2)) :=
  sj_C_of (by decide +kernel) (Nat.le_of_ble_eq_true rfl) (lo := [some (sj_r (some a0)), some (sj_i x1)]) rfl (sj_weak (l2 := [some (sj_r (some a0)), some (sj_i x1)]) (⟨rfl, ⟨rfl, trivial⟩⟩) (st_X9_isStanding_0 a0 x1 V ha0 h))
set_option maxHeartbeats 4000000 in
theorem c_X9_isStanding {X : sj_X} {N : Nat} {a0 : Nat} {x1 : Int} {s : sj_Mem} {q : Int × sj_Mem} (h : f_X9_isStanding N a0 x1 s = some q) : sj_C X m_X9_isStanding [sj_r (some a0), sj_i x1] s (some (sj_i q.1), q.2) := by
  obtain ⟨g, V⟩ := s
  unfold f_X9_isStanding at h
  obtain ⟨ho, h1⟩ := e_ok_some h
  obtain ⟨q2, h2, rfl⟩ := sj_map_some h1
  exact cg_X9_isStanding ho h2
theorem dX9_factorOf_0 : decode cX9_factorOf 0 = .ok (.iconst 0, 1) := by decide +kernel
theorem dX9_factorOf_1 : decode cX9_factorOf 1 = .ok (.istore_n 1, 1) := by decide +kernel
theorem dX9_factorOf_2 : decode cX9_factorOf 2 = .ok (.sipush 20001, 3) := by decide +kernel
theorem dX9_factorOf_5 : decode cX9_factorOf 5 = .ok (.istore_n 2, 1) := by decide +kernel
theorem dX9_factorOf_6 : decode cX9_factorOf 6 = .ok (.iload_n 2, 1) := by decide +kernel
theorem dX9_factorOf_7 : decode cX9_factorOf 7 = .ok (.iload_n 1, 1) := by decide +kernel
theorem dX9_factorOf_8 : decode cX9_factorOf 8 = .ok (.isub, 1) := by decide +kernel
theorem dX9_factorOf_9 : decode cX9_factorOf 9 = .ok (.iconst 1, 1) := by decide +kernel
theorem dX9_factorOf_10 : decode cX9_factorOf 10 = .ok (.if_icmp .le 27, 3) := by decide +kernel
theorem dX9_factorOf_13 : decode cX9_factorOf 13 = .ok (.iload_n 1, 1) := by decide +kernel
theorem dX9_factorOf_14 : decode cX9_factorOf 14 = .ok (.iload_n 2, 1) := by decide +kernel
theorem dX9_factorOf_15 : decode cX9_factorOf 15 = .ok (.iadd, 1) := by decide +kernel
theorem dX9_factorOf_16 : decode cX9_factorOf 16 = .ok (.iconst 2, 1) := by decide +kernel
theorem dX9_factorOf_17 : decode cX9_factorOf 17 = .ok (.idiv, 1) := by decide +kernel
theorem dX9_factorOf_18 : decode cX9_factorOf 18 = .ok (.istore_n 3, 1) := by decide +kernel
theorem dX9_factorOf_19 : decode cX9_factorOf 19 = .ok (.aload_n 0, 1) := by decide +kernel
theorem dX9_factorOf_20 : decode cX9_factorOf 20 = .ok (.iload_n 3, 1) := by decide +kernel
theorem dX9_factorOf_21 : decode cX9_factorOf 21 = .ok (.invokevirtual 183, 3) := by decide +kernel
theorem dX9_factorOf_24 : decode cX9_factorOf 24 = .ok (.ifCond .eq 8, 3) := by decide +kernel
theorem dX9_factorOf_27 : decode cX9_factorOf 27 = .ok (.iload_n 3, 1) := by decide +kernel
theorem dX9_factorOf_28 : decode cX9_factorOf 28 = .ok (.istore_n 1, 1) := by decide +kernel
theorem dX9_factorOf_29 : decode cX9_factorOf 29 = .ok (.goto 5, 3) := by decide +kernel
theorem dX9_factorOf_32 : decode cX9_factorOf 32 = .ok (.iload_n 3, 1) := by decide +kernel
theorem dX9_factorOf_33 : decode cX9_factorOf 33 = .ok (.istore_n 2, 1) := by decide +kernel
theorem dX9_factorOf_34 : decode cX9_factorOf 34 = .ok (.goto (-28), 3) := by decide +kernel
theorem dX9_factorOf_37 : decode cX9_factorOf 37 = .ok (.iload_n 1, 1) := by decide +kernel
theorem dX9_factorOf_38 : decode cX9_factorOf 38 = .ok (.ireturn, 1) := by decide +kernel
set_option maxHeartbeats 4000000 in
theorem st_X9_factorOf_34 {X : sj_X} {g : sj_G} {s0 : sj_Mem} {N : Nat} {q : Int × sj_VV} {k6 : Nat → Int → Int → sj_VV → Option (Int × sj_VV)} (hk6 : ∀ (a0 : Nat) (x1 : Int) (x2 : Int) (V : sj_VV), OK9 g a0 → k6 a0 x1 x2 V = some q → sj_T X m_X9_factorOf s0 (some (sj_i q.1), (g, q.2)) 6 [some (sj_r (some a0)), some (sj_i x1), some (sj_i x2), none] [] (g, V)) :
    ∀ (a0 : Nat) (x1 : Int) (x2 : Int) (V : sj_VV), OK9 g a0 → g_X9_factorOf_34 N k6 a0 x1 x2 V = some q → sj_T X m_X9_factorOf s0 (some (sj_i q.1), (g, q.2)) 34 [some (sj_r (some a0)), some (sj_i x1), some (sj_i x2), none] [] (g, V) := by
  intro a0 x1 x2 V ha0 h
  unfold g_X9_factorOf_34 at h
  refine r_goto (pc := 34) (tgt := 6) dX9_factorOf_34 (by decide) ?_
  exact sj_weak (l2 := [some (sj_r (some a0)), some (sj_i x1), some (sj_i x2), none]) (⟨rfl, ⟨rfl, ⟨rfl, trivial⟩⟩⟩) (hk6 a0 x1 x2 V ha0 h)
set_option maxHeartbeats 4000000 in
theorem st_X9_factorOf_6_b {X : sj_X} {g : sj_G} {s0 : sj_Mem} {N : Nat} {q : Int × sj_VV} {k6 : Nat → Int → Int → sj_VV → Option (Int × sj_VV)} (hk6 : ∀ (a0 : Nat) (x1 : Int) (x2 : Int) (V : sj_VV), OK9 g a0 → k6 a0 x1 x2 V = some q → sj_T X m_X9_factorOf s0 (some (sj_i q.1), (g, q.2)) 6 [some (sj_r (some a0)), some (sj_i x1), some (sj_i x2), none] [] (g, V)) :
    ∀ (a0 : Nat) (x1 : Int) (x2 : Int) (V : sj_VV), OK9 g a0 → g_X9_factorOf_6_b N k6 a0 x1 x2 V = some q → sj_T X m_X9_factorOf s0 (some (sj_i q.1), (g, q.2)) 6 [some (sj_r (some a0)), some (sj_i x1), some (sj_i x2), none] [] (g, V) := by
  intro a0 x1 x2 V ha0 h
  unfold g_X9_factorOf_6_b at h
  refine r_iload_n (pc := 6) dX9_factorOf_6 rfl rfl ?_
  refine r_iload_n (pc := 7) dX9_factorOf_7 rfl rfl ?_
  refine r_isub (pc := 8) dX9_factorOf_8 ?_
  refine r_iconst (pc := 9) dX9_factorOf_9 ?_
  refine r_icmp_le (pc := 10) (tgt := 37) h dX9_factorOf_10 (by decide) (fun h => ?_) (fun h => ?_)
  · refine r_iload_n (pc := 37) dX9_factorOf_37 rfl rfl ?_
    exact r_irets (pc := 38) h rfl dX9_factorOf_38
  · refine r_iload_n (pc := 13) dX9_factorOf_13 rfl rfl ?_
    refine r_iload_n (pc := 14) dX9_factorOf_14 rfl rfl ?_
    refine r_iadd (pc := 15) dX9_factorOf_15 ?_
    refine r_iconst (pc := 16) dX9_factorOf_16 ?_
    refine r_idiv (pc := 17) h dX9_factorOf_17 (fun v1 h => ?_)
    refine r_istore_n (ln := [some (sj_r (some a0)), some (sj_i x1), some (sj_i x2), some (sj_i v1)]) (pc := 18) dX9_factorOf_18 rfl (Nat.le_of_ble_eq_true rfl) rfl ?_
    refine r_aload_n (pc := 19) dX9_factorOf_19 rfl rfl ?_
    refine r_iload_n (pc := 20) dX9_factorOf_20 rfl rfl ?_
    refine r_callVs (pc := 21) (fun v => some (sj_i v)) (As := [sj_i v1]) (rest := []) (b := a0) (ok9 ha0) h dX9_factorOf_21 mw_X9_183 vw_X9_isStanding (fun _ _ hc => cg_X9_isStanding ha0 hc) rfl ⟨(Nat.le_of_ble_eq_true rfl), (Nat.le_of_ble_eq_true rfl)⟩ (Nat.le_of_ble_eq_true rfl) rfl (fun v3 V2 h => ?_)
    refine r_if_eq (pc := 24) (tgt := 32) h dX9_factorOf_24 (by decide) (fun h => ?_) (fun h => ?_)
    · refine r_iload_n (pc := 32) dX9_factorOf_32 rfl rfl ?_
      refine r_istore_n (ln := [some (sj_r (some a0)), some (sj_i x1), some (sj_i v1), some (sj_i v1)]) (pc := 33) dX9_factorOf_33 rfl (Nat.le_of_ble_eq_true rfl) rfl ?_
      exact sj_weak (l2 := [some (sj_r (some a0)), some (sj_i x1), some (sj_i v1), none]) (⟨rfl, ⟨rfl, ⟨rfl, trivial⟩⟩⟩) (st_X9_factorOf_34 hk6 a0 x1 v1 V2 ha0 h)
    · refine r_iload_n (pc := 27) dX9_factorOf_27 rfl rfl ?_
      refine r_istore_n (ln := [some (sj_r (some a0)), some (sj_i v1), some (sj_i x2), some (sj_i v1)]) (pc := 28) dX9_factorOf_28 rfl (Nat.le_of_ble_eq_true rfl) rfl ?_
      refine r_goto (pc := 29) (tgt := 34) dX9_factorOf_29 (by decide) ?_
      exact sj_weak (l2 := [some (sj_r (some a0)), some (sj_i v1), some (sj_i x2), none]) (⟨rfl, ⟨rfl, ⟨rfl, trivial⟩⟩⟩) (st_X9_factorOf_34 hk6 a0 v1 x2 V2 ha0 h)
set_option maxHeartbeats 4000000 in
theorem st_X9_factorOf_6 {X : sj_X} {g : sj_G} {s0 : sj_Mem} {N : Nat} {q : Int × sj_VV} :
    ∀ (n : Nat) (a0 : Nat) (x1 : Int) (x2 : Int) (V : sj_VV), OK9 g a0 → g_X9_factorOf_6 N n a0 x1 x2 V = some q → sj_T X m_X9_factorOf s0 (some (sj_i q.1), (g, q.2)) 6 [some (sj_r (some a0)), some (sj_i x1), some (sj_i x2), none] [] (g, V) := by
  intro n
  induction n with
  | zero => intro a0 x1 x2 V ha0 h; exact nomatch h
  | succ n ih => intro a0 x1 x2 V ha0 h; exact st_X9_factorOf_6_b (N := N) ih a0 x1 x2 V ha0 h
set_option maxHeartbeats 4000000 in
theorem st_X9_factorOf_0 {X : sj_X} {g : sj_G} {s0 : sj_Mem} {N : Nat} {q : Int × sj_VV} :
    ∀ (a0 : Nat) (V : sj_VV), OK9 g a0 → g_X9_factorOf N a0 V = some q → sj_T X m_X9_factorOf s0 (some (sj_i q.1), (g, q.2)) 0 [some (sj_r (some a0)), none, none, none] [] (g, V) := by
  intro a0 V ha0 h
  unfold g_X9_factorOf at h
  refine r_iconst (pc := 0) dX9_factorOf_0 ?_
  refine r_istore_n (ln := [some (sj_r (some a0)), some (sj_i 0), none, none]) (pc := 1) dX9_factorOf_1 rfl (Nat.le_of_ble_eq_true rfl) rfl ?_
  refine r_sipush (pc := 2) dX9_factorOf_2 ⟨by decide, by decide⟩ ?_
  refine r_istore_n (ln := [some (sj_r (some a0)), some (sj_i 0), some (sj_i 20001), none]) (pc := 5) dX9_factorOf_5 rfl (Nat.le_of_ble_eq_true rfl) rfl ?_
  exact sj_weak (l2 := [some (sj_r (some a0)), some (sj_i 0), some (sj_i 20001), none]) (⟨rfl, ⟨rfl, ⟨rfl, trivial⟩⟩⟩) (st_X9_factorOf_6 N a0 0 20001 V ha0 h)
set_option maxHeartbeats 4000000 in
theorem cg_X9_factorOf {X : sj_X} {g : sj_G} {N : Nat} {a0 : Nat} {V : sj_VV} {q : Int × sj_VV} (ha0 : OK9 g a0) (h : g_X9_factorOf N a0 V = some q) : sj_C X m_X9_factorOf [sj_r (some a0)] (g, V) (some (sj_i q.1), (g, q.2)) :=
  sj_C_of (by decide +kernel) (Nat.le_of_ble_eq_true rfl) (lo := [some (sj_r (some a0)), none, none, none]) rfl (sj_weak (l2 := [some (sj_r (some a0)), none, none, none]) (⟨rfl, trivial⟩) (st_X9_factorOf_0 a0 V ha0 h))
set_option maxHeartbeats 4000000 in
theorem c_X9_factorOf {X : sj_X} {N : Nat} {a0 : Nat} {s : sj_Mem} {q : Int × sj_Mem} (h : f_X9_factorOf N a0 s = some q) : sj_C X m_X9_factorOf [sj_r (some a0)] s (some (sj_i q.1), q.2) := by
  obtain ⟨g, V⟩ := s
  unfold f_X9_factorOf at h
  obtain ⟨ho, h1⟩ := e_ok_some h
  obtain ⟨q2, h2, rfl⟩ := sj_map_some h1
  exact cg_X9_factorOf ho h2
theorem dX9_factor_0 : decode cX9_factor 0 = .ok (.aload_n 0, 1) := by decide +kernel
theorem dX9_factor_1 : decode cX9_factor 1 = .ok (.invokevirtual 277, 3) := by decide +kernel
theorem dX9_factor_4 : decode cX9_factor 4 = .ok (.ifCond .eq 10, 3) := by decide +kernel
theorem dX9_factor_7 : decode cX9_factor 7 = .ok (.aload_n 0, 1) := by decide +kernel
theorem dX9_factor_8 : decode cX9_factor 8 = .ok (.invokevirtual 209, 3) := by decide +kernel
theorem dX9_factor_11 : decode cX9_factor 11 = .ok (.goto 4, 3) := by decide +kernel
theorem dX9_factor_14 : decode cX9_factor 14 = .ok (.iconst (-1), 1) := by decide +kernel
theorem dX9_factor_15 : decode cX9_factor 15 = .ok (.ireturn, 1) := by decide +kernel
set_option maxHeartbeats 4000000 in
theorem st_X9_factor_0 {X : sj_X} {g : sj_G} {s0 : sj_Mem} {N : Nat} {q : Int × sj_VV} :
    ∀ (a0 : Nat) (V : sj_VV), OK9 g a0 → g_X9_factor N a0 V = some q → sj_T X m_X9_factor s0 (some (sj_i q.1), (g, q.2)) 0 [some (sj_r (some a0))] [] (g, V) := by
  intro a0 V ha0 h
  unfold g_X9_factor at h
  refine r_aload_n (pc := 0) dX9_factor_0 rfl rfl ?_
  refine r_callVs (pc := 1) (fun v => some (sj_i v)) (As := []) (rest := []) (b := a0) (ok9 ha0) h dX9_factor_1 mw_X9_277 vw_X9_takesSlip (fun _ _ hc => cg_X9_takesSlip ha0 hc) rfl ⟨(Nat.le_of_ble_eq_true rfl), (Nat.le_of_ble_eq_true rfl)⟩ (Nat.le_of_ble_eq_true rfl) rfl (fun v2 V1 h => ?_)
  refine r_if_eq (pc := 4) (tgt := 14) h dX9_factor_4 (by decide) (fun h => ?_) (fun h => ?_)
  · refine r_iconst (pc := 14) dX9_factor_14 ?_
    exact r_irets (pc := 15) h rfl dX9_factor_15
  · refine r_aload_n (pc := 7) dX9_factor_7 rfl rfl ?_
    refine r_callVs (pc := 8) (fun v => some (sj_i v)) (As := []) (rest := []) (b := a0) (ok9 ha0) h dX9_factor_8 mw_X9_209 vw_X9_factorOf (fun _ _ hc => cg_X9_factorOf ha0 hc) rfl ⟨(Nat.le_of_ble_eq_true rfl), (Nat.le_of_ble_eq_true rfl)⟩ (Nat.le_of_ble_eq_true rfl) rfl (fun v4 V3 h => ?_)
    refine r_goto (pc := 11) (tgt := 15) dX9_factor_11 (by decide) ?_
    exact r_irets (pc := 15) h rfl dX9_factor_15
set_option maxHeartbeats 4000000 in
theorem cg_X9_factor {X : sj_X} {g : sj_G} {N : Nat} {a0 : Nat} {V : sj_VV} {q : Int × sj_VV} (ha0 : OK9 g a0) (h : g_X9_factor N a0 V = some q) : sj_C X m_X9_factor [sj_r (some a0)] (g, V) (some (sj_i q.1), (g, q.2)) :=
  sj_C_of (by decide +kernel) (Nat.le_of_ble_eq_true rfl) (lo := [some (sj_r (some a0))]) rfl (sj_weak (l2 := [some (sj_r (some a0))]) (⟨rfl, trivial⟩) (st_X9_factor_0 a0 V ha0 h))
set_option maxHeartbeats 4000000 in
theorem c_X9_factor {X : sj_X} {N : Nat} {a0 : Nat} {s : sj_Mem} {q : Int × sj_Mem} (h : f_X9_factor N a0 s = some q) : sj_C X m_X9_factor [sj_r (some a0)] s (some (sj_i q.1), q.2) := by
  obtain ⟨g, V⟩ := s
  unfold f_X9_factor at h
  obtain ⟨ho, h1⟩ := e_ok_some h
  obtain ⟨q2, h2, rfl⟩ := sj_map_some h1
  exact cg_X9_factor ho h2
theorem dX9_says_0 : decode cX9_says 0 = .ok (.aload_n 0, 1) := by decide +kernel
theorem dX9_says_1 : decode cX9_says 1 = .ok (.getfield 39, 3) := by decide +kernel
theorem dX9_says_4 : decode cX9_says 4 = .ok (.aload_n 0, 1) := by decide +kernel
theorem dX9_says_5 : decode cX9_says 5 = .ok (.getfield 325, 3) := by decide +kernel
theorem dX9_says_8 : decode cX9_says 8 = .ok (.iload_n 1, 1) := by decide +kernel
theorem dX9_says_9 : decode cX9_says 9 = .ok (.iastore, 1) := by decide +kernel
theorem dX9_says_10 : decode cX9_says 10 = .ok (.aload_n 0, 1) := by decide +kernel
theorem dX9_says_11 : decode cX9_says 11 = .ok (.dup, 1) := by decide +kernel
theorem dX9_says_12 : decode cX9_says 12 = .ok (.getfield 325, 3) := by decide +kernel
theorem dX9_says_15 : decode cX9_says 15 = .ok (.iconst 1, 1) := by decide +kernel
theorem dX9_says_16 : decode cX9_says 16 = .ok (.iadd, 1) := by decide +kernel
theorem dX9_says_17 : decode cX9_says 17 = .ok (.putfield 325, 3) := by decide +kernel
theorem dX9_says_20 : decode cX9_says 20 = .ok (.return_, 1) := by decide +kernel
set_option maxHeartbeats 4000000 in
theorem st_X9_says_0 {X : sj_X} {g : sj_G} {s0 : sj_Mem} {N : Nat} {q : Unit × sj_VV} :
    ∀ (a0 : Nat) (x1 : Int) (V : sj_VV), OK9 g a0 → g_X9_says N a0 x1 V = some q → sj_T X m_X9_says s0 (none, (g, q.2)) 0 [some (sj_r (some a0)), some (sj_i x1)] [] (g, V) := by
  intro a0 x1 V ha0 h
  unfold g_X9_says at h
  refine r_aload_n (pc := 0) dX9_says_0 rfl rfl ?_
  refine r_gRs (b := a0 + 9) (pc := 1) dX9_says_1 fw_X9_39 rfl (ok9 ha0) (ok9_25 ha0).1 ?_
  refine r_aload_n (pc := 4) dX9_says_4 rfl rfl ?_
  refine r_gIs (pc := 5) dX9_says_5 fw_X9_325 rfl (ok9 ha0) ?_
  refine r_iload_n (pc := 8) dX9_says_8 rfl rfl ?_
  refine r_iastores (pc := 9) h dX9_says_9 (ok9_25 ha0).2 (fun V1 h => ?_)
  refine r_aload_n (pc := 10) dX9_says_10 rfl rfl ?_
  refine r_dup (pc := 11) dX9_says_11 rfl ?_
  refine r_gIs (pc := 12) dX9_says_12 fw_X9_325 rfl (ok9 ha0) ?_
  refine r_iconst (pc := 15) dX9_says_15 ?_
  refine r_iadd (pc := 16) dX9_says_16 ?_
  refine r_pIs (pc := 17) h dX9_says_17 fw_X9_325 rfl rfl (nf9_26) (ok9 ha0) (fun V2 h => ?_)
  exact r_vrets (pc := 20) h rfl dX9_says_20
set_option maxHeartbeats 4000000 in
theorem cg_X9_says {X : sj_X} {g : sj_G} {N : Nat} {a0 : Nat} {x1 : Int} {V : sj_VV} {q : Unit × sj_VV} (ha0 : OK9 g a0) (h : g_X9_says N a0 x1 V = some q) : sj_C X m_X9_says [sj_r (some a0), sj_i x1] (g, V) (none, (g, q.2)) :=
  sj_C_of (by decide +kernel) (Nat.le_of_ble_eq_true rfl) (lo := [some (sj_r (some a0)), some (sj_i x1)]) rfl (sj_weak (l2 := [some (sj_r (some a0)), some (sj_i x1)]) (⟨rfl, ⟨rfl, trivial⟩⟩) (st_X9_says_0 a0 x1 V ha0 h))
set_option maxHeartbeats 4000000 in
theorem c_X9_says {X : sj_X} {N : Nat} {a0 : Nat} {x1 : Int} {s : sj_Mem} {q : Unit × sj_Mem} (h : f_X9_says N a0 x1 s = some q) : sj_C X m_X9_says [sj_r (some a0), sj_i x1] s (none, q.2) := by
  obtain ⟨g, V⟩ := s
  unfold f_X9_says at h
  obtain ⟨ho, h1⟩ := e_ok_some h
  obtain ⟨q2, h2, rfl⟩ := sj_map_some h1
  exact cg_X9_says ho h2
theorem dX9_saysNumber_0 : decode cX9_saysNumber 0 = .ok (.iload_n 1, 1) := by decide +kernel
theorem dX9_saysNumber_1 : decode cX9_saysNumber 1 = .ok (.bipush 9, 2) := by decide +kernel
theorem dX9_saysNumber_3 : decode cX9_saysNumber 3 = .ok (.if_icmp .le 11, 3) := by decide +kernel
theorem dX9_saysNumber_6 : decode cX9_saysNumber 6 = .ok (.aload_n 0, 1) := by decide +kernel
theorem dX9_saysNumber_7 : decode cX9_saysNumber 7 = .ok (.iload_n 1, 1) := by decide +kernel
theorem dX9_saysNumber_8 : decode cX9_saysNumber 8 = .ok (.bipush 10, 2) := by decide +kernel
theorem dX9_saysNumber_10 : decode cX9_saysNumber 10 = .ok (.idiv, 1) := by decide +kernel
theorem dX9_saysNumber_11 : decode cX9_saysNumber 11 = .ok (.invokevirtual 328, 3) := by decide +kernel
theorem dX9_saysNumber_14 : decode cX9_saysNumber 14 = .ok (.aload_n 0, 1) := by decide +kernel
theorem dX9_saysNumber_15 : decode cX9_saysNumber 15 = .ok (.bipush 48, 2) := by decide +kernel
theorem dX9_saysNumber_17 : decode cX9_saysNumber 17 = .ok (.iload_n 1, 1) := by decide +kernel
theorem dX9_saysNumber_18 : decode cX9_saysNumber 18 = .ok (.bipush 10, 2) := by decide +kernel
theorem dX9_saysNumber_20 : decode cX9_saysNumber 20 = .ok (.irem, 1) := by decide +kernel
theorem dX9_saysNumber_21 : decode cX9_saysNumber 21 = .ok (.iadd, 1) := by decide +kernel
theorem dX9_saysNumber_22 : decode cX9_saysNumber 22 = .ok (.invokevirtual 331, 3) := by decide +kernel
theorem dX9_saysNumber_25 : decode cX9_saysNumber 25 = .ok (.return_, 1) := by decide +kernel
set_option maxHeartbeats 4000000 in
theorem st_X9_saysNumber_14 {X : sj_X} {g : sj_G} {s0 : sj_Mem} {N : Nat} {q : Unit × sj_VV} {rc : Nat → Int → sj_VV → Option (Unit × sj_VV)} {d : Nat} (hrc : ∀ (a0 : Nat) (x1 : Int) (V : sj_VV) (q : Unit × sj_VV), OK9 g a0 → rc a0 x1 V = some q → sj_C X (m_X9_saysNumber d) [sj_r (some a0), sj_i x1] (g, V) (none, (g, q.2))) :
    ∀ (a0 : Nat) (x1 : Int) (V : sj_VV), OK9 g a0 → g_X9_saysNumber_14 N rc a0 x1 V = some q → sj_T X (m_X9_saysNumber (d + 1)) s0 (none, (g, q.2)) 14 [some (sj_r (some a0)), some (sj_i x1)] [] (g, V) := by
  intro a0 x1 V ha0 h
  unfold g_X9_saysNumber_14 at h
  refine r_aload_n (pc := 14) dX9_saysNumber_14 rfl rfl ?_
  refine r_bipush (pc := 15) dX9_saysNumber_15 ⟨by decide, by decide⟩ ?_
  refine r_iload_n (pc := 17) dX9_saysNumber_17 rfl rfl ?_
  refine r_bipush (pc := 18) dX9_saysNumber_18 ⟨by decide, by decide⟩ ?_
  refine r_irem (pc := 20) h dX9_saysNumber_20 (fun v1 h => ?_)
  refine r_iadd (pc := 21) dX9_saysNumber_21 ?_
  refine r_callVs (pc := 22) (fun _ => none) (As := [sj_i (48 + v1)]) (rest := []) (b := a0) (ok9 ha0) h dX9_saysNumber_22 mw_X9_331 vw_X9_says (fun _ _ hc => cg_X9_says ha0 hc) rfl ⟨by show _ ≤ _ + _; exact Nat.le_add_left _ _, (Nat.le_of_ble_eq_true rfl)⟩ (Nat.le_of_ble_eq_true rfl) rfl (fun _u V2 h => ?_)
  exact r_vrets (pc := 25) h rfl dX9_saysNumber_25
set_option maxHeartbeats 4000000 in
theorem st_X9_saysNumber_0 {X : sj_X} {g : sj_G} {s0 : sj_Mem} {N : Nat} {q : Unit × sj_VV} {rc : Nat → Int → sj_VV → Option (Unit × sj_VV)} {d : Nat} (hrc : ∀ (a0 : Nat) (x1 : Int) (V : sj_VV) (q : Unit × sj_VV), OK9 g a0 → rc a0 x1 V = some q → sj_C X (m_X9_saysNumber d) [sj_r (some a0), sj_i x1] (g, V) (none, (g, q.2))) :
    ∀ (a0 : Nat) (x1 : Int) (V : sj_VV), OK9 g a0 → g_X9_saysNumber_r N rc a0 x1 V = some q → sj_T X (m_X9_saysNumber (d + 1)) s0 (none, (g, q.2)) 0 [some (sj_r (some a0)), some (sj_i x1)] [] (g, V) := by
  intro a0 x1 V ha0 h
  unfold g_X9_saysNumber_r at h
  refine r_iload_n (pc := 0) dX9_saysNumber_0 rfl rfl ?_
  refine r_bipush (pc := 1) dX9_saysNumber_1 ⟨by decide, by decide⟩ ?_
  refine r_icmp_le (pc := 3) (tgt := 14) h dX9_saysNumber_3 (by decide) (fun h => ?_) (fun h => ?_)
  · exact sj_weak (l2 := [some (sj_r (some a0)), some (sj_i x1)]) (⟨rfl, ⟨rfl, trivial⟩⟩) (st_X9_saysNumber_14 hrc a0 x1 V ha0 h)
  · refine r_aload_n (pc := 6) dX9_saysNumber_6 rfl rfl ?_
    refine r_iload_n (pc := 7) dX9_saysNumber_7 rfl rfl ?_
    refine r_bipush (pc := 8) dX9_saysNumber_8 ⟨by decide, by decide⟩ ?_
    refine r_idiv (pc := 10) h dX9_saysNumber_10 (fun v1 h => ?_)
    refine r_callVs (pc := 11) (fun _ => none) (As := [sj_i v1]) (rest := []) (b := a0) (ok9 ha0) h dX9_saysNumber_11 mw_X9_328 vw_X9_saysNumber (fun _ _ hc => hrc _ _ _ (_, _) ha0 hc) rfl ⟨Nat.le_refl _, (Nat.le_of_ble_eq_true rfl)⟩ (Nat.le_of_ble_eq_true rfl) rfl (fun _u V2 h => ?_)
    exact sj_weak (l2 := [some (sj_r (some a0)), some (sj_i x1)]) (⟨rfl, ⟨rfl, trivial⟩⟩) (st_X9_saysNumber_14 hrc a0 x1 V2 ha0 h)
set_option maxHeartbeats 4000000 in
theorem cg_X9_saysNumber {X : sj_X} {g : sj_G} {N : Nat} : ∀ (d : Nat) (a0 : Nat) (x1 : Int) (V : sj_VV) (q : Unit × sj_VV) (ha0 : OK9 g a0), g_X9_saysNumber N d a0 x1 V = some q → sj_C X (m_X9_saysNumber d) [sj_r (some a0), sj_i x1] (g, V) (none, (g, q.2)) := by
  intro d
  induction d with
  | zero => intro a0 x1 V q ha0 h; exact nomatch h
  | succ d ih =>
    intro a0 x1 V q ha0 h
    exact sj_C_of (show plainFor yX9_saysNumber = true by decide +kernel) (Nat.le_of_ble_eq_true rfl) (lo := [some (sj_r (some a0)), some (sj_i x1)]) rfl (st_X9_saysNumber_0 ih a0 x1 V ha0 h)
theorem dX9_report_0 : decode cX9_report 0 = .ok (.aload_n 0, 1) := by decide +kernel
theorem dX9_report_1 : decode cX9_report 1 = .ok (.iconst 0, 1) := by decide +kernel
theorem dX9_report_2 : decode cX9_report 2 = .ok (.putfield 325, 3) := by decide +kernel
theorem dX9_report_5 : decode cX9_report 5 = .ok (.aload_n 0, 1) := by decide +kernel
theorem dX9_report_6 : decode cX9_report 6 = .ok (.invokevirtual 334, 3) := by decide +kernel
theorem dX9_report_9 : decode cX9_report 9 = .ok (.istore_n 1, 1) := by decide +kernel
theorem dX9_report_10 : decode cX9_report 10 = .ok (.iload_n 1, 1) := by decide +kernel
theorem dX9_report_11 : decode cX9_report 11 = .ok (.iconst (-1), 1) := by decide +kernel
theorem dX9_report_12 : decode cX9_report 12 = .ok (.if_icmp .ne 5, 3) := by decide +kernel
theorem dX9_report_15 : decode cX9_report 15 = .ok (.iconst (-1), 1) := by decide +kernel
theorem dX9_report_16 : decode cX9_report 16 = .ok (.ireturn, 1) := by decide +kernel
theorem dX9_report_17 : decode cX9_report 17 = .ok (.aload_n 0, 1) := by decide +kernel
theorem dX9_report_18 : decode cX9_report 18 = .ok (.iload_n 1, 1) := by decide +kernel
theorem dX9_report_19 : decode cX9_report 19 = .ok (.sipush 1000, 3) := by decide +kernel
theorem dX9_report_22 : decode cX9_report 22 = .ok (.idiv, 1) := by decide +kernel
theorem dX9_report_23 : decode cX9_report 23 = .ok (.invokevirtual 328, 3) := by decide +kernel
theorem dX9_report_26 : decode cX9_report 26 = .ok (.aload_n 0, 1) := by decide +kernel
theorem dX9_report_27 : decode cX9_report 27 = .ok (.bipush 46, 2) := by decide +kernel
theorem dX9_report_29 : decode cX9_report 29 = .ok (.invokevirtual 331, 3) := by decide +kernel
theorem dX9_report_32 : decode cX9_report 32 = .ok (.aload_n 0, 1) := by decide +kernel
theorem dX9_report_33 : decode cX9_report 33 = .ok (.bipush 48, 2) := by decide +kernel
theorem dX9_report_35 : decode cX9_report 35 = .ok (.iload_n 1, 1) := by decide +kernel
theorem dX9_report_36 : decode cX9_report 36 = .ok (.bipush 100, 2) := by decide +kernel
theorem dX9_report_38 : decode cX9_report 38 = .ok (.idiv, 1) := by decide +kernel
theorem dX9_report_39 : decode cX9_report 39 = .ok (.bipush 10, 2) := by decide +kernel
theorem dX9_report_41 : decode cX9_report 41 = .ok (.irem, 1) := by decide +kernel
theorem dX9_report_42 : decode cX9_report 42 = .ok (.iadd, 1) := by decide +kernel
theorem dX9_report_43 : decode cX9_report 43 = .ok (.invokevirtual 331, 3) := by decide +kernel
theorem dX9_report_46 : decode cX9_report 46 = .ok (.aload_n 0, 1) := by decide +kernel
theorem dX9_report_47 : decode cX9_report 47 = .ok (.bipush 48, 2) := by decide +kernel
theorem dX9_report_49 : decode cX9_report 49 = .ok (.iload_n 1, 1) := by decide +kernel
theorem dX9_report_50 : decode cX9_report 50 = .ok (.bipush 10, 2) := by decide +kernel
theorem dX9_report_52 : decode cX9_report 52 = .ok (.idiv, 1) := by decide +kernel
theorem dX9_report_53 : decode cX9_report 53 = .ok (.bipush 10, 2) := by decide +kernel
theorem dX9_report_55 : decode cX9_report 55 = .ok (.irem, 1) := by decide +kernel
theorem dX9_report_56 : decode cX9_report 56 = .ok (.iadd, 1) := by decide +kernel
theorem dX9_report_57 : decode cX9_report 57 = .ok (.invokevirtual 331, 3) := by decide +kernel
theorem dX9_report_60 : decode cX9_report 60 = .ok (.aload_n 0, 1) := by decide +kernel
theorem dX9_report_61 : decode cX9_report 61 = .ok (.bipush 48, 2) := by decide +kernel
theorem dX9_report_63 : decode cX9_report 63 = .ok (.iload_n 1, 1) := by decide +kernel
theorem dX9_report_64 : decode cX9_report 64 = .ok (.bipush 10, 2) := by decide +kernel
theorem dX9_report_66 : decode cX9_report 66 = .ok (.irem, 1) := by decide +kernel
theorem dX9_report_67 : decode cX9_report 67 = .ok (.iadd, 1) := by decide +kernel
theorem dX9_report_68 : decode cX9_report 68 = .ok (.invokevirtual 331, 3) := by decide +kernel
theorem dX9_report_71 : decode cX9_report 71 = .ok (.aload_n 0, 1) := by decide +kernel
theorem dX9_report_72 : decode cX9_report 72 = .ok (.bipush 32, 2) := by decide +kernel
theorem dX9_report_74 : decode cX9_report 74 = .ok (.invokevirtual 331, 3) := by decide +kernel
theorem dX9_report_77 : decode cX9_report 77 = .ok (.aload_n 0, 1) := by decide +kernel
theorem dX9_report_78 : decode cX9_report 78 = .ok (.aload_n 0, 1) := by decide +kernel
theorem dX9_report_79 : decode cX9_report 79 = .ok (.getfield 22, 3) := by decide +kernel
theorem dX9_report_82 : decode cX9_report 82 = .ok (.invokevirtual 328, 3) := by decide +kernel
theorem dX9_report_85 : decode cX9_report 85 = .ok (.aload_n 0, 1) := by decide +kernel
theorem dX9_report_86 : decode cX9_report 86 = .ok (.bipush 45, 2) := by decide +kernel
theorem dX9_report_88 : decode cX9_report 88 = .ok (.invokevirtual 331, 3) := by decide +kernel
theorem dX9_report_91 : decode cX9_report 91 = .ok (.aload_n 0, 1) := by decide +kernel
theorem dX9_report_92 : decode cX9_report 92 = .ok (.aload_n 0, 1) := by decide +kernel
theorem dX9_report_93 : decode cX9_report 93 = .ok (.getfield 150, 3) := by decide +kernel
theorem dX9_report_96 : decode cX9_report 96 = .ok (.invokevirtual 328, 3) := by decide +kernel
theorem dX9_report_99 : decode cX9_report 99 = .ok (.aload_n 0, 1) := by decide +kernel
theorem dX9_report_100 : decode cX9_report 100 = .ok (.bipush 32, 2) := by decide +kernel
theorem dX9_report_102 : decode cX9_report 102 = .ok (.invokevirtual 331, 3) := by decide +kernel
theorem dX9_report_105 : decode cX9_report 105 = .ok (.aload_n 0, 1) := by decide +kernel
theorem dX9_report_106 : decode cX9_report 106 = .ok (.aload_n 0, 1) := by decide +kernel
theorem dX9_report_107 : decode cX9_report 107 = .ok (.getfield 153, 3) := by decide +kernel
theorem dX9_report_110 : decode cX9_report 110 = .ok (.ifCond .eq 8, 3) := by decide +kernel
theorem dX9_report_113 : decode cX9_report 113 = .ok (.bipush 76, 2) := by decide +kernel
theorem dX9_report_115 : decode cX9_report 115 = .ok (.goto 5, 3) := by decide +kernel
theorem dX9_report_118 : decode cX9_report 118 = .ok (.bipush 82, 2) := by decide +kernel
theorem dX9_report_120 : decode cX9_report 120 = .ok (.invokevirtual 331, 3) := by decide +kernel
theorem dX9_report_123 : decode cX9_report 123 = .ok (.aload_n 0, 1) := by decide +kernel
theorem dX9_report_124 : decode cX9_report 124 = .ok (.getfield 325, 3) := by decide +kernel
theorem dX9_report_127 : decode cX9_report 127 = .ok (.ireturn, 1) := by decide +kernel
set_option maxHeartbeats 4000000 in
theorem st_X9_report_120 {X : sj_X} {g : sj_G} {s0 : sj_Mem} {N : Nat} {q : Int × sj_VV} :
    ∀ (a0 : Nat) (y0 : Int) (y1 : Nat) (V : sj_VV), OK9 g a0 → OK9 g y1 → g_X9_report_120 N a0 y0 y1 V = some q → sj_T X m_X9_report s0 (some (sj_i q.1), (g, q.2)) 120 [some (sj_r (some a0)), none] [(sj_i y0), (sj_r (some y1))] (g, V) := by
  intro a0 y0 y1 V ha0 hy1 h
  unfold g_X9_report_120 at h
  refine r_callVs (pc := 120) (fun _ => none) (As := [sj_i y0]) (rest := []) (b := y1) (ok9 hy1) h dX9_report_120 mw_X9_331 vw_X9_says (fun _ _ hc => cg_X9_says hy1 hc) rfl ⟨(Nat.le_of_ble_eq_true rfl), (Nat.le_of_ble_eq_true rfl)⟩ (Nat.le_of_ble_eq_true rfl) rfl (fun _u V1 h => ?_)
  refine r_aload_n (pc := 123) dX9_report_123 rfl rfl ?_
  refine r_gIs (pc := 124) dX9_report_124 fw_X9_325 rfl (ok9 ha0) ?_
  exact r_irets (pc := 127) h rfl dX9_report_127
set_option maxHeartbeats 4000000 in
theorem st_X9_report_0 {X : sj_X} {g : sj_G} {s0 : sj_Mem} {N : Nat} {q : Int × sj_VV} :
    ∀ (a0 : Nat) (V : sj_VV), OK9 g a0 → g_X9_report N a0 V = some q → sj_T X m_X9_report s0 (some (sj_i q.1), (g, q.2)) 0 [some (sj_r (some a0)), none] [] (g, V) := by
  intro a0 V ha0 h
  unfold g_X9_report at h
  refine r_aload_n (pc := 0) dX9_report_0 rfl rfl ?_
  refine r_iconst (pc := 1) dX9_report_1 ?_
  refine r_pIs (pc := 2) h dX9_report_2 fw_X9_325 rfl rfl (nf9_26) (ok9 ha0) (fun V1 h => ?_)
  refine r_aload_n (pc := 5) dX9_report_5 rfl rfl ?_
  refine r_callVs (pc := 6) (fun v => some (sj_i v)) (As := []) (rest := []) (b := a0) (ok9 ha0) h dX9_report_6 mw_X9_334 vw_X9_factor (fun _ _ hc => cg_X9_factor ha0 hc) rfl ⟨(Nat.le_of_ble_eq_true rfl), (Nat.le_of_ble_eq_true rfl)⟩ (Nat.le_of_ble_eq_true rfl) rfl (fun v3 V2 h => ?_)
  refine r_istore_n (ln := [some (sj_r (some a0)), some (sj_i v3)]) (pc := 9) dX9_report_9 rfl (Nat.le_of_ble_eq_true rfl) rfl ?_
  refine r_iload_n (pc := 10) dX9_report_10 rfl rfl ?_
  refine r_iconst (pc := 11) dX9_report_11 ?_
  refine r_icmp_ne (pc := 12) (tgt := 17) h dX9_report_12 (by decide) (fun h => ?_) (fun h => ?_)
  · refine r_iconst (pc := 15) dX9_report_15 ?_
    exact r_irets (pc := 16) h rfl dX9_report_16
  · refine r_aload_n (pc := 17) dX9_report_17 rfl rfl ?_
    refine r_iload_n (pc := 18) dX9_report_18 rfl rfl ?_
    refine r_sipush (pc := 19) dX9_report_19 ⟨by decide, by decide⟩ ?_
    refine r_idiv (pc := 22) h dX9_report_22 (fun v4 h => ?_)
    refine r_callVs (pc := 23) (fun _ => none) (As := [sj_i v4]) (rest := []) (b := a0) (ok9 ha0) h dX9_report_23 mw_X9_328 vw_X9_saysNumber (fun _ _ hc => cg_X9_saysNumber 12 _ _ _ _ ha0 hc) rfl ⟨(Nat.le_of_ble_eq_true rfl), (Nat.le_of_ble_eq_true rfl)⟩ (Nat.le_of_ble_eq_true rfl) rfl (fun _u V5 h => ?_)
    refine r_aload_n (pc := 26) dX9_report_26 rfl rfl ?_
    refine r_bipush (pc := 27) dX9_report_27 ⟨by decide, by decide⟩ ?_
    refine r_callVs (pc := 29) (fun _ => none) (As := [sj_i 46]) (rest := []) (b := a0) (ok9 ha0) h dX9_report_29 mw_X9_331 vw_X9_says (fun _ _ hc => cg_X9_says ha0 hc) rfl ⟨(Nat.le_of_ble_eq_true rfl), (Nat.le_of_ble_eq_true rfl)⟩ (Nat.le_of_ble_eq_true rfl) rfl (fun _u V6 h => ?_)
    refine r_aload_n (pc := 32) dX9_report_32 rfl rfl ?_
    refine r_bipush (pc := 33) dX9_report_33 ⟨by decide, by decide⟩ ?_
    refine r_iload_n (pc := 35) dX9_report_35 rfl rfl ?_
    refine r_bipush (pc := 36) dX9_report_36 ⟨by decide, by decide⟩ ?_
    refine r_idiv (pc := 38) h dX9_report_38 (fun v7 h => ?_)
    refine r_bipush (pc := 39) dX9_report_39 ⟨by decide, by decide⟩ ?_
    refine r_irem (pc := 41) h dX9_report_41 (fun v8 h => ?_)
    refine r_iadd (pc := 42) dX9_report_42 ?_
    refine r_callVs (pc := 43) (fun _ => none) (As := [sj_i (48 + v8)]) (rest := []) (b := a0) (ok9 ha0) h dX9_report_43 mw_X9_331 vw_X9_says (fun _ _ hc => cg_X9_says ha0 hc) rfl ⟨(Nat.le_of_ble_eq_true rfl), (Nat.le_of_ble_eq_true rfl)⟩ (Nat.le_of_ble_eq_true rfl) rfl (fun _u V9 h => ?_)
    refine r_aload_n (pc := 46) dX9_report_46 rfl rfl ?_
    refine r_bipush (pc := 47) dX9_report_47 ⟨by decide, by decide⟩ ?_
    refine r_iload_n (pc := 49) dX9_report_49 rfl rfl ?_
    refine r_bipush (pc := 50) dX9_report_50 ⟨by decide, by decide⟩ ?_
    refine r_idiv (pc := 52) h dX9_report_52 (fun v10 h => ?_)
    refine r_bipush (pc := 53) dX9_report_53 ⟨by decide, by decide⟩ ?_
    refine r_irem (pc := 55) h dX9_report_55 (fun v11 h => ?_)
    refine r_iadd (pc := 56) dX9_report_56 ?_
    refine r_callVs (pc := 57) (fun _ => none) (As := [sj_i (48 + v11)]) (rest := []) (b := a0) (ok9 ha0) h dX9_report_57 mw_X9_331 vw_X9_says (fun _ _ hc => cg_X9_says ha0 hc) rfl ⟨(Nat.le_of_ble_eq_true rfl), (Nat.le_of_ble_eq_true rfl)⟩ (Nat.le_of_ble_eq_true rfl) rfl (fun _u V12 h => ?_)
    refine r_aload_n (pc := 60) dX9_report_60 rfl rfl ?_
    refine r_bipush (pc := 61) dX9_report_61 ⟨by decide, by decide⟩ ?_
    refine r_iload_n (pc := 63) dX9_report_63 rfl rfl ?_
    refine r_bipush (pc := 64) dX9_report_64 ⟨by decide, by decide⟩ ?_
    refine r_irem (pc := 66) h dX9_report_66 (fun v13 h => ?_)
    refine r_iadd (pc := 67) dX9_report_67 ?_
    refine r_callVs (pc := 68) (fun _ => none) (As := [sj_i (48 + v13)]) (rest := []) (b := a0) (ok9 ha0) h dX9_report_68 mw_X9_331 vw_X9_says (fun _ _ hc => cg_X9_says ha0 hc) rfl ⟨(Nat.le_of_ble_eq_true rfl), (Nat.le_of_ble_eq_true rfl)⟩ (Nat.le_of_ble_eq_true rfl) rfl (fun _u V14 h => ?_)
    refine r_aload_n (pc := 71) dX9_report_71 rfl rfl ?_
    refine r_bipush (pc := 72) dX9_report_72 ⟨by decide, by decide⟩ ?_
    refine r_callVs (pc := 74) (fun _ => none) (As := [sj_i 32]) (rest := []) (b := a0) (ok9 ha0) h dX9_report_74 mw_X9_331 vw_X9_says (fun _ _ hc => cg_X9_says ha0 hc) rfl ⟨(Nat.le_of_ble_eq_true rfl), (Nat.le_of_ble_eq_true rfl)⟩ (Nat.le_of_ble_eq_true rfl) rfl (fun _u V15 h => ?_)
    refine r_aload_n (pc := 77) dX9_report_77 rfl rfl ?_
    refine r_aload_n (pc := 78) dX9_report_78 rfl rfl ?_
    refine r_gIs (pc := 79) dX9_report_79 fw_X9_22 rfl (ok9 ha0) ?_
    refine r_callVs (pc := 82) (fun _ => none) (As := [sj_i (V15 a0 13)]) (rest := []) (b := a0) (ok9 ha0) h dX9_report_82 mw_X9_328 vw_X9_saysNumber (fun _ _ hc => cg_X9_saysNumber 12 _ _ _ _ ha0 hc) rfl ⟨(Nat.le_of_ble_eq_true rfl), (Nat.le_of_ble_eq_true rfl)⟩ (Nat.le_of_ble_eq_true rfl) rfl (fun _u V16 h => ?_)
    refine r_aload_n (pc := 85) dX9_report_85 rfl rfl ?_
    refine r_bipush (pc := 86) dX9_report_86 ⟨by decide, by decide⟩ ?_
    refine r_callVs (pc := 88) (fun _ => none) (As := [sj_i 45]) (rest := []) (b := a0) (ok9 ha0) h dX9_report_88 mw_X9_331 vw_X9_says (fun _ _ hc => cg_X9_says ha0 hc) rfl ⟨(Nat.le_of_ble_eq_true rfl), (Nat.le_of_ble_eq_true rfl)⟩ (Nat.le_of_ble_eq_true rfl) rfl (fun _u V17 h => ?_)
    refine r_aload_n (pc := 91) dX9_report_91 rfl rfl ?_
    refine r_aload_n (pc := 92) dX9_report_92 rfl rfl ?_
    refine r_gIs (pc := 93) dX9_report_93 fw_X9_150 rfl (ok9 ha0) ?_
    refine r_callVs (pc := 96) (fun _ => none) (As := [sj_i (V17 a0 14)]) (rest := []) (b := a0) (ok9 ha0) h dX9_report_96 mw_X9_328 vw_X9_saysNumber (fun _ _ hc => cg_X9_saysNumber 12 _ _ _ _ ha0 hc) rfl ⟨(Nat.le_of_ble_eq_true rfl), (Nat.le_of_ble_eq_true rfl)⟩ (Nat.le_of_ble_eq_true rfl) rfl (fun _u V18 h => ?_)
    refine r_aload_n (pc := 99) dX9_report_99 rfl rfl ?_
    refine r_bipush (pc := 100) dX9_report_100 ⟨by decide, by decide⟩ ?_
    refine r_callVs (pc := 102) (fun _ => none) (As := [sj_i 32]) (rest := []) (b := a0) (ok9 ha0) h dX9_report_102 mw_X9_331 vw_X9_says (fun _ _ hc => cg_X9_says ha0 hc) rfl ⟨(Nat.le_of_ble_eq_true rfl), (Nat.le_of_ble_eq_true rfl)⟩ (Nat.le_of_ble_eq_true rfl) rfl (fun _u V19 h => ?_)
    refine r_aload_n (pc := 105) dX9_report_105 rfl rfl ?_
    refine r_aload_n (pc := 106) dX9_report_106 rfl rfl ?_
    refine r_gIs (pc := 107) dX9_report_107 fw_X9_153 rfl (ok9 ha0) ?_
    refine r_if_eq (pc := 110) (tgt := 118) h dX9_report_110 (by decide) (fun h => ?_) (fun h => ?_)
    · refine r_bipush (pc := 118) dX9_report_118 ⟨by decide, by decide⟩ ?_
      exact sj_weak (l2 := [some (sj_r (some a0)), none]) (⟨rfl, trivial⟩) (st_X9_report_120 a0 82 a0 V19 ha0 ha0 h)
    · refine r_bipush (pc := 113) dX9_report_113 ⟨by decide, by decide⟩ ?_
      refine r_goto (pc := 115) (tgt := 120) dX9_report_115 (by decide) ?_
      exact sj_weak (l2 := [some (sj_r (some a0)), none]) (⟨rfl, trivial⟩) (st_X9_report_120 a0 76 a0 V19 ha0 ha0 h)
set_option maxHeartbeats 4000000 in
theorem cg_X9_report {X : sj_X} {g : sj_G} {N : Nat} {a0 : Nat} {V : sj_VV} {q : Int × sj_VV} (ha0 : OK9 g a0) (h : g_X9_report N a0 V = some q) : sj_C X m_X9_report [sj_r (some a0)] (g, V) (some (sj_i q.1), (g, q.2)) :=
  sj_C_of (by decide +kernel) (Nat.le_of_ble_eq_true rfl) (lo := [some (sj_r (some a0)), none]) rfl (sj_weak (l2 := [some (sj_r (some a0)), none]) (⟨rfl, trivial⟩) (st_X9_report_0 a0 V ha0 h))
set_option maxHeartbeats 4000000 in
theorem c_X9_report {X : sj_X} {N : Nat} {a0 : Nat} {s : sj_Mem} {q : Int × sj_Mem} (h : f_X9_report N a0 s = some q) : sj_C X m_X9_report [sj_r (some a0)] s (some (sj_i q.1), q.2) := by
  obtain ⟨g, V⟩ := s
  unfold f_X9_report at h
  obtain ⟨ho, h1⟩ := e_ok_some h
  obtain ⟨q2, h2, rfl⟩ := sj_map_some h1
  exact cg_X9_report ho h2
theorem dX9_isK_0 : decode cX9_isK 0 = .ok (.iload_n 0, 1) := by decide +kernel
theorem dX9_isK_1 : decode cX9_isK 1 = .ok (.i2l, 1) := by decide +kernel
theorem dX9_isK_2 : decode cX9_isK 2 = .ok (.lconst 1, 1) := by decide +kernel
theorem dX9_isK_3 : decode cX9_isK 3 = .ok (.ldc2_w 285, 3) := by decide +kernel
theorem dX9_isK_6 : decode cX9_isK 6 = .ok (.invokestatic 57, 3) := by decide +kernel
theorem dX9_isK_9 : decode cX9_isK 9 = .ok (.ireturn, 1) := by decide +kernel
set_option maxHeartbeats 4000000 in
theorem st_X9_isK_0 {X : sj_X} {g : sj_G} {s0 : sj_Mem} {N : Nat} {q : Int × sj_VV} :
    ∀ (x0 : Int) (V : sj_VV), g_X9_isK N x0 V = some q → sj_T X m_X9_isK s0 (some (sj_i q.1), (g, q.2)) 0 [some (sj_i x0)] [] (g, V) := by
  intro x0 V  h
  unfold g_X9_isK at h
  refine r_iload_n (pc := 0) dX9_isK_0 rfl rfl ?_
  refine r_i2l (pc := 1) h dX9_isK_1 (fun v1 h => ?_)
  refine r_lconst1 (pc := 2) dX9_isK_2 ?_
  refine r_ldc2 (n := 20000) (pc := 3) dX9_isK_3 kc_X9_285 ?_
  refine r_callSs (pc := 6) (fun v => some (sj_i v)) (As := [sj_j v1, sj_j 1, sj_j 20000]) (rest := []) h dX9_isK_6 mw_X9_57 kw_1225 (fun _ _ hc => cg_X9_isIn  hc) rfl ⟨(Nat.le_of_ble_eq_true rfl), (Nat.le_of_ble_eq_true rfl)⟩ (Nat.le_of_ble_eq_true rfl) rfl (fun v3 V2 h => ?_)
  exact r_zrets (pc := 9) h rfl dX9_isK_9
set_option maxHeartbeats 4000000 in
theorem cg_X9_isK {X : sj_X} {g : sj_G} {N : Nat} {x0 : Int} {V : sj_VV} {q : Int × sj_VV} (h : g_X9_isK N x0 V = some q) : sj_C X m_X9_isK [sj_i x0] (g, V) (some (sj_i q.1), (g, q.2)) :=
  sj_C_of (by decide +kernel) (Nat.le_of_ble_eq_true rfl) (lo := [some (sj_i x0)]) rfl (sj_weak (l2 := [some (sj_i x0)]) (⟨rfl, trivial⟩) (st_X9_isK_0 x0 V h))
set_option maxHeartbeats 4000000 in
theorem c_X9_isK {X : sj_X} {N : Nat} {x0 : Int} {s : sj_Mem} {q : Int × sj_Mem} (h : f_X9_isK N x0 s = some q) : sj_C X m_X9_isK [sj_i x0] s (some (sj_i q.1), q.2) := by
  obtain ⟨g, V⟩ := s
  unfold f_X9_isK at h
  obtain ⟨ho, h1⟩ := e_ok_some h
  obtain ⟨q2, h2, rfl⟩ := sj_map_some h1
  exact cg_X9_isK  h2
theorem dX9_laysAside_0 : decode cX9_laysAside 0 = .ok (.iconst 0, 1) := by decide +kernel
theorem dX9_laysAside_1 : decode cX9_laysAside 1 = .ok (.istore_n 1, 1) := by decide +kernel
theorem dX9_laysAside_2 : decode cX9_laysAside 2 = .ok (.iload_n 1, 1) := by decide +kernel
theorem dX9_laysAside_3 : decode cX9_laysAside 3 = .ok (.sipush 390, 3) := by decide +kernel
theorem dX9_laysAside_6 : decode cX9_laysAside 6 = .ok (.if_icmp .ge 21, 3) := by decide +kernel
theorem dX9_laysAside_9 : decode cX9_laysAside 9 = .ok (.aload_n 0, 1) := by decide +kernel
theorem dX9_laysAside_10 : decode cX9_laysAside 10 = .ok (.getfield 13, 3) := by decide +kernel
theorem dX9_laysAside_13 : decode cX9_laysAside 13 = .ok (.iload_n 1, 1) := by decide +kernel
theorem dX9_laysAside_14 : decode cX9_laysAside 14 = .ok (.aload_n 0, 1) := by decide +kernel
theorem dX9_laysAside_15 : decode cX9_laysAside 15 = .ok (.getfield 9, 3) := by decide +kernel
theorem dX9_laysAside_18 : decode cX9_laysAside 18 = .ok (.iload_n 1, 1) := by decide +kernel
theorem dX9_laysAside_19 : decode cX9_laysAside 19 = .ok (.iaload, 1) := by decide +kernel
theorem dX9_laysAside_20 : decode cX9_laysAside 20 = .ok (.iastore, 1) := by decide +kernel
theorem dX9_laysAside_21 : decode cX9_laysAside 21 = .ok (.iinc 1 1, 3) := by decide +kernel
theorem dX9_laysAside_24 : decode cX9_laysAside 24 = .ok (.goto (-22), 3) := by decide +kernel
theorem dX9_laysAside_27 : decode cX9_laysAside 27 = .ok (.return_, 1) := by decide +kernel
set_option maxHeartbeats 4000000 in
theorem st_X9_laysAside_2_b {X : sj_X} {g : sj_G} {s0 : sj_Mem} {N : Nat} {q : Unit × sj_VV} {k2 : Nat → Int → sj_VV → Option (Unit × sj_VV)} (hk2 : ∀ (a0 : Nat) (x1 : Int) (V : sj_VV), OK9 g a0 → k2 a0 x1 V = some q → sj_T X m_X9_laysAside s0 (none, (g, q.2)) 2 [some (sj_r (some a0)), some (sj_i x1)] [] (g, V)) :
    ∀ (a0 : Nat) (x1 : Int) (V : sj_VV), OK9 g a0 → g_X9_laysAside_2_b N k2 a0 x1 V = some q → sj_T X m_X9_laysAside s0 (none, (g, q.2)) 2 [some (sj_r (some a0)), some (sj_i x1)] [] (g, V) := by
  intro a0 x1 V ha0 h
  unfold g_X9_laysAside_2_b at h
  refine r_iload_n (pc := 2) dX9_laysAside_2 rfl rfl ?_
  refine r_sipush (pc := 3) dX9_laysAside_3 ⟨by decide, by decide⟩ ?_
  refine r_icmp_ge (pc := 6) (tgt := 27) h dX9_laysAside_6 (by decide) (fun h => ?_) (fun h => ?_)
  · exact r_vrets (pc := 27) h rfl dX9_laysAside_27
  · refine r_aload_n (pc := 9) dX9_laysAside_9 rfl rfl ?_
    refine r_gRs (b := a0 + 2) (pc := 10) dX9_laysAside_10 fw_X9_13 rfl (ok9 ha0) (ok9_1 ha0).1 ?_
    refine r_iload_n (pc := 13) dX9_laysAside_13 rfl rfl ?_
    refine r_aload_n (pc := 14) dX9_laysAside_14 rfl rfl ?_
    refine r_gRs (b := a0 + 1) (pc := 15) dX9_laysAside_15 fw_X9_9 rfl (ok9 ha0) (ok9_0 ha0).1 ?_
    refine r_iload_n (pc := 18) dX9_laysAside_18 rfl rfl ?_
    refine r_ialoads (pc := 19) h dX9_laysAside_19 (ok9_0 ha0).2 (fun h => ?_)
    refine r_iastores (pc := 20) h dX9_laysAside_20 (ok9_1 ha0).2 (fun V1 h => ?_)
    refine r_iinc (ln := fun w => [some (sj_r (some a0)), some (sj_i w)]) (pc := 21) h dX9_laysAside_21 rfl (Nat.le_of_ble_eq_true rfl) (fun _ => rfl) (fun v2 h => ?_)
    refine r_goto (pc := 24) (tgt := 2) dX9_laysAside_24 (by decide) ?_
    exact sj_weak (l2 := [some (sj_r (some a0)), some (sj_i v2)]) (⟨rfl, ⟨rfl, trivial⟩⟩) (hk2 a0 v2 V1 ha0 h)
set_option maxHeartbeats 4000000 in
theorem st_X9_laysAside_2 {X : sj_X} {g : sj_G} {s0 : sj_Mem} {N : Nat} {q : Unit × sj_VV} :
    ∀ (n : Nat) (a0 : Nat) (x1 : Int) (V : sj_VV), OK9 g a0 → g_X9_laysAside_2 N n a0 x1 V = some q → sj_T X m_X9_laysAside s0 (none, (g, q.2)) 2 [some (sj_r (some a0)), some (sj_i x1)] [] (g, V) := by
  intro n
  induction n with
  | zero => intro a0 x1 V ha0 h; exact nomatch h
  | succ n ih => intro a0 x1 V ha0 h; exact st_X9_laysAside_2_b (N := N) ih a0 x1 V ha0 h
set_option maxHeartbeats 4000000 in
theorem st_X9_laysAside_0 {X : sj_X} {g : sj_G} {s0 : sj_Mem} {N : Nat} {q : Unit × sj_VV} :
    ∀ (a0 : Nat) (V : sj_VV), OK9 g a0 → g_X9_laysAside N a0 V = some q → sj_T X m_X9_laysAside s0 (none, (g, q.2)) 0 [some (sj_r (some a0)), none] [] (g, V) := by
  intro a0 V ha0 h
  unfold g_X9_laysAside at h
  refine r_iconst (pc := 0) dX9_laysAside_0 ?_
  refine r_istore_n (ln := [some (sj_r (some a0)), some (sj_i 0)]) (pc := 1) dX9_laysAside_1 rfl (Nat.le_of_ble_eq_true rfl) rfl ?_
  exact sj_weak (l2 := [some (sj_r (some a0)), some (sj_i 0)]) (⟨rfl, ⟨rfl, trivial⟩⟩) (st_X9_laysAside_2 N a0 0 V ha0 h)
set_option maxHeartbeats 4000000 in
theorem cg_X9_laysAside {X : sj_X} {g : sj_G} {N : Nat} {a0 : Nat} {V : sj_VV} {q : Unit × sj_VV} (ha0 : OK9 g a0) (h : g_X9_laysAside N a0 V = some q) : sj_C X m_X9_laysAside [sj_r (some a0)] (g, V) (none, (g, q.2)) :=
  sj_C_of (by decide +kernel) (Nat.le_of_ble_eq_true rfl) (lo := [some (sj_r (some a0)), none]) rfl (sj_weak (l2 := [some (sj_r (some a0)), none]) (⟨rfl, trivial⟩) (st_X9_laysAside_0 a0 V ha0 h))
set_option maxHeartbeats 4000000 in
theorem c_X9_laysAside {X : sj_X} {N : Nat} {a0 : Nat} {s : sj_Mem} {q : Unit × sj_Mem} (h : f_X9_laysAside N a0 s = some q) : sj_C X m_X9_laysAside [sj_r (some a0)] s (none, q.2) := by
  obtain ⟨g, V⟩ := s
  unfold f_X9_laysAside at h
  obtain ⟨ho, h1⟩ := e_ok_some h
  obtain ⟨q2, h2, rfl⟩ := sj_map_some h1
  exact cg_X9_laysAside ho h2
theorem dX9_comesBack_0 : decode cX9_comesBack 0 = .ok (.iconst 0, 1) := by decide +kernel
theorem dX9_comesBack_1 : decode cX9_comesBack 1 = .ok (.istore_n 1, 1) := by decide +kernel
theorem dX9_comesBack_2 : decode cX9_comesBack 2 = .ok (.iload_n 1, 1) := by decide +kernel
theorem dX9_comesBack_3 : decode cX9_comesBack 3 = .ok (.sipush 390, 3) := by decide +kernel
theorem dX9_comesBack_6 : decode cX9_comesBack 6 = .ok (.if_icmp .ge 21, 3) := by decide +kernel
theorem dX9_comesBack_9 : decode cX9_comesBack 9 = .ok (.aload_n 0, 1) := by decide +kernel
theorem dX9_comesBack_10 : decode cX9_comesBack 10 = .ok (.getfield 9, 3) := by decide +kernel
theorem dX9_comesBack_13 : decode cX9_comesBack 13 = .ok (.iload_n 1, 1) := by decide +kernel
theorem dX9_comesBack_14 : decode cX9_comesBack 14 = .ok (.aload_n 0, 1) := by decide +kernel
theorem dX9_comesBack_15 : decode cX9_comesBack 15 = .ok (.getfield 13, 3) := by decide +kernel
theorem dX9_comesBack_18 : decode cX9_comesBack 18 = .ok (.iload_n 1, 1) := by decide +kernel
theorem dX9_comesBack_19 : decode cX9_comesBack 19 = .ok (.iaload, 1) := by decide +kernel
theorem dX9_comesBack_20 : decode cX9_comesBack 20 = .ok (.iastore, 1) := by decide +kernel
theorem dX9_comesBack_21 : decode cX9_comesBack 21 = .ok (.iinc 1 1, 3) := by decide +kernel
theorem dX9_comesBack_24 : decode cX9_comesBack 24 = .ok (.goto (-22), 3) := by decide +kernel
theorem dX9_comesBack_27 : decode cX9_comesBack 27 = .ok (.return_, 1) := by decide +kernel
set_option maxHeartbeats 4000000 in
theorem st_X9_comesBack_2_b {X : sj_X} {g : sj_G} {s0 : sj_Mem} {N : Nat} {q : Unit × sj_VV} {k2 : Nat → Int → sj_VV → Option (Unit × sj_VV)} (hk2 : ∀ (a0 : Nat) (x1 : Int) (V : sj_VV), OK9 g a0 → k2 a0 x1 V = some q → sj_T X m_X9_comesBack s0 (none, (g, q.2)) 2 [some (sj_r (some a0)), some (sj_i x1)] [] (g, V)) :
    ∀ (a0 : Nat) (x1 : Int) (V : sj_VV), OK9 g a0 → g_X9_comesBack_2_b N k2 a0 x1 V = some q → sj_T X m_X9_comesBack s0 (none, (g, q.2)) 2 [some (sj_r (some a0)), some (sj_i x1)] [] (g, V) := by
  intro a0 x1 V ha0 h
  unfold g_X9_comesBack_2_b at h
  refine r_iload_n (pc := 2) dX9_comesBack_2 rfl rfl ?_
  refine r_sipush (pc := 3) dX9_comesBack_3 ⟨by decide, by decide⟩ ?_
  refine r_icmp_ge (pc := 6) (tgt := 27) h dX9_comesBack_6 (by decide) (fun h => ?_) (fun h => ?_)
  · exact r_vrets (pc := 27) h rfl dX9_comesBack_27
  · refine r_aload_n (pc := 9) dX9_comesBack_9 rfl rfl ?_
    refine r_gRs (b := a0 + 1) (pc := 10) dX9_comesBack_10 fw_X9_9 rfl (ok9 ha0) (ok9_0 ha0).1 ?_
    refine r_iload_n (pc := 13) dX9_comesBack_13 rfl rfl ?_
    refine r_aload_n (pc := 14) dX9_comesBack_14 rfl rfl ?_
    refine r_gRs (b := a0 + 2) (pc := 15) dX9_comesBack_15 fw_X9_13 rfl (ok9 ha0) (ok9_1 ha0).1 ?_
    refine r_iload_n (pc := 18) dX9_comesBack_18 rfl rfl ?_
    refine r_ialoads (pc := 19) h dX9_comesBack_19 (ok9_1 ha0).2 (fun h => ?_)
    refine r_iastores (pc := 20) h dX9_comesBack_20 (ok9_0 ha0).2 (fun V1 h => ?_)
    refine r_iinc (ln := fun w => [some (sj_r (some a0)), some (sj_i w)]) (pc := 21) h dX9_comesBack_21 rfl (Nat.le_of_ble_eq_true rfl) (fun _ => rfl) (fun v2 h => ?_)
    refine r_goto (pc := 24) (tgt := 2) dX9_comesBack_24 (by decide) ?_
    exact sj_weak (l2 := [some (sj_r (some a0)), some (sj_i v2)]) (⟨rfl, ⟨rfl, trivial⟩⟩) (hk2 a0 v2 V1 ha0 h)
set_option maxHeartbeats 4000000 in
theorem st_X9_comesBack_2 {X : sj_X} {g : sj_G} {s0 : sj_Mem} {N : Nat} {q : Unit × sj_VV} :
    ∀ (n : Nat) (a0 : Nat) (x1 : Int) (V : sj_VV), OK9 g a0 → g_X9_comesBack_2 N n a0 x1 V = some q → sj_T X m_X9_comesBack s0 (none, (g, q.2)) 2 [some (sj_r (some a0)), some (sj_i x1)] [] (g, V) := by
  intro n
  induction n with
  | zero => intro a0 x1 V ha0 h; exact nomatch h
  | succ n ih => intro a0 x1 V ha0 h; exact st_X9_comesBack_2_b (N := N) ih a0 x1 V ha0 h
set_option maxHeartbeats 4000000 in
theorem st_X9_comesBack_0 {X : sj_X} {g : sj_G} {s0 : sj_Mem} {N : Nat} {q : Unit × sj_VV} :
    ∀ (a0 : Nat) (V : sj_VV), OK9 g a0 → g_X9_comesBack N a0 V = some q → sj_T X m_X9_comesBack s0 (none, (g, q.2)) 0 [some (sj_r (some a0)), none] [] (g, V) := by
  intro a0 V ha0 h
  unfold g_X9_comesBack at h
  refine r_iconst (pc := 0) dX9_comesBack_0 ?_
  refine r_istore_n (ln := [some (sj_r (some a0)), some (sj_i 0)]) (pc := 1) dX9_comesBack_1 rfl (Nat.le_of_ble_eq_true rfl) rfl ?_
  exact sj_weak (l2 := [some (sj_r (some a0)), some (sj_i 0)]) (⟨rfl, ⟨rfl, trivial⟩⟩) (st_X9_comesBack_2 N a0 0 V ha0 h)
set_option maxHeartbeats 4000000 in
theorem cg_X9_comesBack {X : sj_X} {g : sj_G} {N : Nat} {a0 : Nat} {V : sj_VV} {q : Unit × sj_VV} (ha0 : OK9 g a0) (h : g_X9_comesBack N a0 V = some q) : sj_C X m_X9_comesBack [sj_r (some a0)] (g, V) (none, (g, q.2)) :=
  sj_C_of (by decide +kernel) (Nat.le_of_ble_eq_true rfl) (lo := [some (sj_r (some a0)), none]) rfl (sj_weak (l2 := [some (sj_r (some a0)), none]) (⟨rfl, trivial⟩) (st_X9_comesBack_0 a0 V ha0 h))
set_option maxHeartbeats 4000000 in
theorem c_X9_comesBack {X : sj_X} {N : Nat} {a0 : Nat} {s : sj_Mem} {q : Unit × sj_Mem} (h : f_X9_comesBack N a0 s = some q) : sj_C X m_X9_comesBack [sj_r (some a0)] s (none, q.2) := by
  obtain ⟨g, V⟩ := s
  unfold f_X9_comesBack at h
  obtain ⟨ho, h1⟩ := e_ok_some h
  obtain ⟨q2, h2, rfl⟩ := sj_map_some h1
  exact cg_X9_comesBack ho h2
theorem dX9_draw_0 : decode cX9_draw 0 = .ok (.aload_n 0, 1) := by decide +kernel
theorem dX9_draw_1 : decode cX9_draw 1 = .ok (.getfield 9, 3) := by decide +kernel
theorem dX9_draw_4 : decode cX9_draw 4 = .ok (.sipush 389, 3) := by decide +kernel
theorem dX9_draw_7 : decode cX9_draw 7 = .ok (.ldc_w 320, 3) := by decide +kernel
theorem dX9_draw_10 : decode cX9_draw 10 = .ok (.aload_n 0, 1) := by decide +kernel
theorem dX9_draw_11 : decode cX9_draw 11 = .ok (.getfield 9, 3) := by decide +kernel
theorem dX9_draw_14 : decode cX9_draw 14 = .ok (.sipush 389, 3) := by decide +kernel
theorem dX9_draw_17 : decode cX9_draw 17 = .ok (.iaload, 1) := by decide +kernel
theorem dX9_draw_18 : decode cX9_draw 18 = .ok (.imul, 1) := by decide +kernel
theorem dX9_draw_19 : decode cX9_draw 19 = .ok (.ldc_w 321, 3) := by decide +kernel
theorem dX9_draw_22 : decode cX9_draw 22 = .ok (.iadd, 1) := by decide +kernel
theorem dX9_draw_23 : decode cX9_draw 23 = .ok (.iastore, 1) := by decide +kernel
theorem dX9_draw_24 : decode cX9_draw 24 = .ok (.aload_n 0, 1) := by decide +kernel
theorem dX9_draw_25 : decode cX9_draw 25 = .ok (.getfield 9, 3) := by decide +kernel
theorem dX9_draw_28 : decode cX9_draw 28 = .ok (.sipush 389, 3) := by decide +kernel
theorem dX9_draw_31 : decode cX9_draw 31 = .ok (.iaload, 1) := by decide +kernel
theorem dX9_draw_32 : decode cX9_draw 32 = .ok (.bipush 8, 2) := by decide +kernel
theorem dX9_draw_34 : decode cX9_draw 34 = .ok (.iushr, 1) := by decide +kernel
theorem dX9_draw_35 : decode cX9_draw 35 = .ok (.iload_n 1, 1) := by decide +kernel
theorem dX9_draw_36 : decode cX9_draw 36 = .ok (.irem, 1) := by decide +kernel
theorem dX9_draw_37 : decode cX9_draw 37 = .ok (.ireturn, 1) := by decide +kernel
set_option maxHeartbeats 4000000 in
theorem st_X9_draw_0 {X : sj_X} {g : sj_G} {s0 : sj_Mem} {N : Nat} {q : Int × sj_VV} :
    ∀ (a0 : Nat) (x1 : Int) (V : sj_VV), OK9 g a0 → g_X9_draw N a0 x1 V = some q → sj_T X m_X9_draw s0 (some (sj_i q.1), (g, q.2)) 0 [some (sj_r (some a0)), some (sj_i x1)] [] (g, V) := by
  intro a0 x1 V ha0 h
  unfold g_X9_draw at h
  refine r_aload_n (pc := 0) dX9_draw_0 rfl rfl ?_
  refine r_gRs (b := a0 + 1) (pc := 1) dX9_draw_1 fw_X9_9 rfl (ok9 ha0) (ok9_0 ha0).1 ?_
  refine r_sipush (pc := 4) dX9_draw_4 ⟨by decide, by decide⟩ ?_
  refine r_ldc_w (n := 1664525) (pc := 7) dX9_draw_7 kc_X9_320 ?_
  refine r_aload_n (pc := 10) dX9_draw_10 rfl rfl ?_
  refine r_gRs (b := a0 + 1) (pc := 11) dX9_draw_11 fw_X9_9 rfl (ok9 ha0) (ok9_0 ha0).1 ?_
  refine r_sipush (pc := 14) dX9_draw_14 ⟨by decide, by decide⟩ ?_
  refine r_ialoads (pc := 17) h dX9_draw_17 (ok9_0 ha0).2 (fun h => ?_)
  refine r_imul (pc := 18) dX9_draw_18 ?_
  refine r_ldc_w (n := 1013904223) (pc := 19) dX9_draw_19 kc_X9_321 ?_
  refine r_iadd (pc := 22) dX9_draw_22 ?_
  refine r_iastores (pc := 23) h dX9_draw_23 (ok9_0 ha0).2 (fun V1 h => ?_)
  refine r_aload_n (pc := 24) dX9_draw_24 rfl rfl ?_
  refine r_gRs (b := a0 + 1) (pc := 25) dX9_draw_25 fw_X9_9 rfl (ok9 ha0) (ok9_0 ha0).1 ?_
  refine r_sipush (pc := 28) dX9_draw_28 ⟨by decide, by decide⟩ ?_
  refine r_ialoads (pc := 31) h dX9_draw_31 (ok9_0 ha0).2 (fun h => ?_)
  refine r_bipush (pc := 32) dX9_draw_32 ⟨by decide, by decide⟩ ?_
  refine r_iushr (pc := 34) h dX9_draw_34 (fun v2 h => ?_)
  refine r_iload_n (pc := 35) dX9_draw_35 rfl rfl ?_
  refine r_irem (pc := 36) h dX9_draw_36 (fun v3 h => ?_)
  exact r_irets (pc := 37) h rfl dX9_draw_37
set_option maxHeartbeats 4000000 in
theorem cg_X9_draw {X : sj_X} {g : sj_G} {N : Nat} {a0 : Nat} {x1 : Int} {V : sj_VV} {q : Int × sj_VV} (ha0 : OK9 g a0) (h : g_X9_draw N a0 x1 V = some q) : sj_C X m_X9_draw [sj_r (some a0), sj_i x1] (g, V) (some (sj_i q.1), (g, q.2)) :=
  sj_C_of (by decide +kernel) (Nat.le_of_ble_eq_true rfl) (lo := [some (sj_r (some a0)), some (sj_i x1)]) rfl (sj_weak (l2 := [some (sj_r (some a0)), some (sj_i x1)]) (⟨rfl, ⟨rfl, trivial⟩⟩) (st_X9_draw_0 a0 x1 V ha0 h))
set_option maxHeartbeats 4000000 in
theorem c_X9_draw {X : sj_X} {N : Nat} {a0 : Nat} {x1 : Int} {s : sj_Mem} {q : Int × sj_Mem} (h : f_X9_draw N a0 x1 s = some q) : sj_C X m_X9_draw [sj_r (some a0), sj_i x1] s (some (sj_i q.1), q.2) := by
  obtain ⟨g, V⟩ := s
  unfold f_X9_draw at h
  obtain ⟨ho, h1⟩ := e_ok_some h
  obtain ⟨q2, h2, rfl⟩ := sj_map_some h1
  exact cg_X9_draw ho h2
theorem dX9_chance_0 : decode cX9_chance 0 = .ok (.iload_n 1, 1) := by decide +kernel
theorem dX9_chance_1 : decode cX9_chance 1 = .ok (.i2l, 1) := by decide +kernel
theorem dX9_chance_2 : decode cX9_chance 2 = .ok (.lconst 1, 1) := by decide +kernel
theorem dX9_chance_3 : decode cX9_chance 3 = .ok (.ldc2_w 66, 3) := by decide +kernel
theorem dX9_chance_6 : decode cX9_chance 6 = .ok (.invokestatic 57, 3) := by decide +kernel
theorem dX9_chance_9 : decode cX9_chance 9 = .ok (.ifCond .eq 29, 3) := by decide +kernel
theorem dX9_chance_12 : decode cX9_chance 12 = .ok (.iload_n 2, 1) := by decide +kernel
theorem dX9_chance_13 : decode cX9_chance 13 = .ok (.i2l, 1) := by decide +kernel
theorem dX9_chance_14 : decode cX9_chance 14 = .ok (.lconst 0, 1) := by decide +kernel
theorem dX9_chance_15 : decode cX9_chance 15 = .ok (.ldc2_w 267, 3) := by decide +kernel
theorem dX9_chance_18 : decode cX9_chance 18 = .ok (.invokestatic 57, 3) := by decide +kernel
theorem dX9_chance_21 : decode cX9_chance 21 = .ok (.ifCond .eq 17, 3) := by decide +kernel
theorem dX9_chance_24 : decode cX9_chance 24 = .ok (.iload_n 3, 1) := by decide +kernel
theorem dX9_chance_25 : decode cX9_chance 25 = .ok (.invokestatic 287, 3) := by decide +kernel
theorem dX9_chance_28 : decode cX9_chance 28 = .ok (.ifCond .eq 10, 3) := by decide +kernel
theorem dX9_chance_31 : decode cX9_chance 31 = .ok (.aload_n 0, 1) := by decide +kernel
theorem dX9_chance_32 : decode cX9_chance 32 = .ok (.invokevirtual 277, 3) := by decide +kernel
theorem dX9_chance_35 : decode cX9_chance 35 = .ok (.ifCond .ne 5, 3) := by decide +kernel
theorem dX9_chance_38 : decode cX9_chance 38 = .ok (.iconst (-1), 1) := by decide +kernel
theorem dX9_chance_39 : decode cX9_chance 39 = .ok (.ireturn, 1) := by decide +kernel
theorem dX9_chance_40 : decode cX9_chance 40 = .ok (.aload_n 0, 1) := by decide +kernel
theorem dX9_chance_41 : decode cX9_chance 41 = .ok (.invokevirtual 301, 3) := by decide +kernel
theorem dX9_chance_44 : decode cX9_chance 44 = .ok (.iconst 0, 1) := by decide +kernel
theorem dX9_chance_45 : decode cX9_chance 45 = .ok (.istore 4, 2) := by decide +kernel
theorem dX9_chance_47 : decode cX9_chance 47 = .ok (.iconst 0, 1) := by decide +kernel
theorem dX9_chance_48 : decode cX9_chance 48 = .ok (.istore 5, 2) := by decide +kernel
theorem dX9_chance_50 : decode cX9_chance 50 = .ok (.iload 5, 2) := by decide +kernel
theorem dX9_chance_52 : decode cX9_chance 52 = .ok (.iload_n 1, 1) := by decide +kernel
theorem dX9_chance_53 : decode cX9_chance 53 = .ok (.if_icmp .ge 107, 3) := by decide +kernel
theorem dX9_chance_56 : decode cX9_chance 56 = .ok (.iconst 0, 1) := by decide +kernel
theorem dX9_chance_57 : decode cX9_chance 57 = .ok (.istore 6, 2) := by decide +kernel
theorem dX9_chance_59 : decode cX9_chance 59 = .ok (.iload 6, 2) := by decide +kernel
theorem dX9_chance_61 : decode cX9_chance 61 = .ok (.iconst 4, 1) := by decide +kernel
theorem dX9_chance_62 : decode cX9_chance 62 = .ok (.if_icmp .ge 74, 3) := by decide +kernel
theorem dX9_chance_65 : decode cX9_chance 65 = .ok (.iconst 1, 1) := by decide +kernel
theorem dX9_chance_66 : decode cX9_chance 66 = .ok (.istore 7, 2) := by decide +kernel
theorem dX9_chance_68 : decode cX9_chance 68 = .ok (.iload 7, 2) := by decide +kernel
theorem dX9_chance_70 : decode cX9_chance 70 = .ok (.iconst 3, 1) := by decide +kernel
theorem dX9_chance_71 : decode cX9_chance 71 = .ok (.if_icmp .ge 59, 3) := by decide +kernel
theorem dX9_chance_74 : decode cX9_chance 74 = .ok (.aload_n 0, 1) := by decide +kernel
theorem dX9_chance_75 : decode cX9_chance 75 = .ok (.getfield 9, 3) := by decide +kernel
theorem dX9_chance_78 : decode cX9_chance 78 = .ok (.sipush 290, 3) := by decide +kernel
theorem dX9_chance_81 : decode cX9_chance 81 = .ok (.iconst 3, 1) := by decide +kernel
theorem dX9_chance_82 : decode cX9_chance 82 = .ok (.iload 6, 2) := by decide +kernel
theorem dX9_chance_84 : decode cX9_chance 84 = .ok (.imul, 1) := by decide +kernel
theorem dX9_chance_85 : decode cX9_chance 85 = .ok (.iadd, 1) := by decide +kernel
theorem dX9_chance_86 : decode cX9_chance 86 = .ok (.iload 7, 2) := by decide +kernel
theorem dX9_chance_88 : decode cX9_chance 88 = .ok (.iadd, 1) := by decide +kernel
theorem dX9_chance_89 : decode cX9_chance 89 = .ok (.aload_n 0, 1) := by decide +kernel
theorem dX9_chance_90 : decode cX9_chance 90 = .ok (.getfield 13, 3) := by decide +kernel
theorem dX9_chance_93 : decode cX9_chance 93 = .ok (.sipush 290, 3) := by decide +kernel
theorem dX9_chance_96 : decode cX9_chance 96 = .ok (.iconst 3, 1) := by decide +kernel
theorem dX9_chance_97 : decode cX9_chance 97 = .ok (.iload 6, 2) := by decide +kernel
theorem dX9_chance_99 : decode cX9_chance 99 = .ok (.imul, 1) := by decide +kernel
theorem dX9_chance_100 : decode cX9_chance 100 = .ok (.iadd, 1) := by decide +kernel
theorem dX9_chance_101 : decode cX9_chance 101 = .ok (.iload 7, 2) := by decide +kernel
theorem dX9_chance_103 : decode cX9_chance 103 = .ok (.iadd, 1) := by decide +kernel
theorem dX9_chance_104 : decode cX9_chance 104 = .ok (.iaload, 1) := by decide +kernel
theorem dX9_chance_105 : decode cX9_chance 105 = .ok (.bipush 100, 2) := by decide +kernel
theorem dX9_chance_107 : decode cX9_chance 107 = .ok (.iload_n 2, 1) := by decide +kernel
theorem dX9_chance_108 : decode cX9_chance 108 = .ok (.isub, 1) := by decide +kernel
theorem dX9_chance_109 : decode cX9_chance 109 = .ok (.aload_n 0, 1) := by decide +kernel
theorem dX9_chance_110 : decode cX9_chance 110 = .ok (.iconst 2, 1) := by decide +kernel
theorem dX9_chance_111 : decode cX9_chance 111 = .ok (.iload_n 2, 1) := by decide +kernel
theorem dX9_chance_112 : decode cX9_chance 112 = .ok (.imul, 1) := by decide +kernel
theorem dX9_chance_113 : decode cX9_chance 113 = .ok (.iconst 1, 1) := by decide +kernel
theorem dX9_chance_114 : decode cX9_chance 114 = .ok (.iadd, 1) := by decide +kernel
theorem dX9_chance_115 : decode cX9_chance 115 = .ok (.invokevirtual 322, 3) := by decide +kernel
theorem dX9_chance_118 : decode cX9_chance 118 = .ok (.iadd, 1) := by decide +kernel
theorem dX9_chance_119 : decode cX9_chance 119 = .ok (.imul, 1) := by decide +kernel
theorem dX9_chance_120 : decode cX9_chance 120 = .ok (.bipush 100, 2) := by decide +kernel
theorem dX9_chance_122 : decode cX9_chance 122 = .ok (.idiv, 1) := by decide +kernel
theorem dX9_chance_123 : decode cX9_chance 123 = .ok (.iastore, 1) := by decide +kernel
theorem dX9_chance_124 : decode cX9_chance 124 = .ok (.iinc 7 1, 3) := by decide +kernel
theorem dX9_chance_127 : decode cX9_chance 127 = .ok (.goto (-59), 3) := by decide +kernel
theorem dX9_chance_130 : decode cX9_chance 130 = .ok (.iinc 6 1, 3) := by decide +kernel
theorem dX9_chance_133 : decode cX9_chance 133 = .ok (.goto (-74), 3) := by decide +kernel
theorem dX9_chance_136 : decode cX9_chance 136 = .ok (.iload 4, 2) := by decide +kernel
theorem dX9_chance_138 : decode cX9_chance 138 = .ok (.aload_n 0, 1) := by decide +kernel
theorem dX9_chance_139 : decode cX9_chance 139 = .ok (.iload_n 3, 1) := by decide +kernel
theorem dX9_chance_140 : decode cX9_chance 140 = .ok (.invokevirtual 183, 3) := by decide +kernel
theorem dX9_chance_143 : decode cX9_chance 143 = .ok (.ifCond .eq 7, 3) := by decide +kernel
theorem dX9_chance_146 : decode cX9_chance 146 = .ok (.iconst 0, 1) := by decide +kernel
theorem dX9_chance_147 : decode cX9_chance 147 = .ok (.goto 4, 3) := by decide +kernel
theorem dX9_chance_150 : decode cX9_chance 150 = .ok (.iconst 1, 1) := by decide +kernel
theorem dX9_chance_151 : decode cX9_chance 151 = .ok (.iadd, 1) := by decide +kernel
theorem dX9_chance_152 : decode cX9_chance 152 = .ok (.istore 4, 2) := by decide +kernel
theorem dX9_chance_154 : decode cX9_chance 154 = .ok (.iinc 5 1, 3) := by decide +kernel
theorem dX9_chance_157 : decode cX9_chance 157 = .ok (.goto (-107), 3) := by decide +kernel
theorem dX9_chance_160 : decode cX9_chance 160 = .ok (.aload_n 0, 1) := by decide +kernel
theorem dX9_chance_161 : decode cX9_chance 161 = .ok (.getfield 9, 3) := by decide +kernel
theorem dX9_chance_164 : decode cX9_chance 164 = .ok (.sipush 389, 3) := by decide +kernel
theorem dX9_chance_167 : decode cX9_chance 167 = .ok (.iaload, 1) := by decide +kernel
theorem dX9_chance_168 : decode cX9_chance 168 = .ok (.istore 5, 2) := by decide +kernel
theorem dX9_chance_170 : decode cX9_chance 170 = .ok (.aload_n 0, 1) := by decide +kernel
theorem dX9_chance_171 : decode cX9_chance 171 = .ok (.invokevirtual 304, 3) := by decide +kernel
theorem dX9_chance_174 : decode cX9_chance 174 = .ok (.aload_n 0, 1) := by decide +kernel
theorem dX9_chance_175 : decode cX9_chance 175 = .ok (.getfield 9, 3) := by decide +kernel
theorem dX9_chance_178 : decode cX9_chance 178 = .ok (.sipush 389, 3) := by decide +kernel
theorem dX9_chance_181 : decode cX9_chance 181 = .ok (.iload 5, 2) := by decide +kernel
theorem dX9_chance_183 : decode cX9_chance 183 = .ok (.iastore, 1) := by decide +kernel
theorem dX9_chance_184 : decode cX9_chance 184 = .ok (.iload 4, 2) := by decide +kernel
theorem dX9_chance_186 : decode cX9_chance 186 = .ok (.ireturn, 1) := by decide +kernel
set_option maxHeartbeats 4000000 in
theorem st_X9_chance_68_b {X : sj_X} {g : sj_G} {s0 : sj_Mem} {N : Nat} {q : Int × sj_VV} {k50 : Nat → Int → Int → Int → Int → Int → sj_VV → Option (Int × sj_VV)} {k59 : Nat → Int → Int → Int → Int → Int → Int → sj_VV → Option (Int × sj_VV)} {k68 : Nat → Int → Int → Int → Int → Int → Int → Int → sj_VV → Option (Int × sj_VV)} (hk50 : ∀ (a0 : Nat) (x1 : Int) (x2 : Int) (x3 : Int) (x4 : Int) (x5 : Int) (V : sj_VV), OK9 g a0 → k50 a0 x1 x2 x3 x4 x5 V = some q → sj_T X m_X9_chance s0 (some (sj_i q.1), (g, q.2)) 50 [some (sj_r (some a0)), some (sj_i x1), some (sj_i x2), some (sj_i x3), some (sj_i x4), some (sj_i x5), none, none] [] (g, V)) (hk59 : ∀ (a0 : Nat) (x1 : Int) (x2 : Int) (x3 : Int) (x4 : Int) (x5 : Int) (x6 : Int) (V : sj_VV), OK9 g a0 → k59 a0 x1 x2 x3 x4 x5 x6 V = some q → sj_T X m_X9_chance s0 (some (sj_i q.1), (g, q.2)) 59 [some (sj_r (some a0)), some (sj_i x1), some (sj_i x2), some (sj_i x3), some (sj_i x4), some (sj_i x5), some (sj_i x6), none] [] (g, V)) (hk68 : ∀ (a0 : Nat) (x1 : Int) (x2 : Int) (x3 : Int) (x4 : Int) (x5 : Int) (x6 : Int) (x7 : Int) (V : sj_VV), OK9 g a0 → k68 a0 x1 x2 x3 x4 x5 x6 x7 V = some q → sj_T X m_X9_chance s0 (some (sj_i q.1), (g, q.2)) 68 [some (sj_r (some a0)), some (sj_i x1), some (sj_i x2), some (sj_i x3), some (sj_i x4), some (sj_i x5), some (sj_i x6), some (sj_i x7)] [] (g, V)) :
    ∀ (a0 : Nat) (x1 : Int) (x2 : Int) (x3 : Int) (x4 : Int) (x5 : Int) (x6 : Int) (x7 : Int) (V : sj_VV), OK9 g a0 → g_X9_chance_68_b N k50 k59 k68 a0 x1 x2 x3 x4 x5 x6 x7 V = some q → sj_T X m_X9_chance s0 (some (sj_i q.1), (g, q.2)) 68 [some (sj_r (some a0)), some (sj_i x1), some (sj_i x2), some (sj_i x3), some (sj_i x4), some (sj_i x5), some (sj_i x6), some (sj_i x7)] [] (g, V) := by
  intro a0 x1 x2 x3 x4 x5 x6 x7 V ha0 h
  unfold g_X9_chance_68_b at h
  refine r_iload (pc := 68) dX9_chance_68 rfl ?_
  refine r_iconst (pc := 70) dX9_chance_70 ?_
  refine r_icmp_ge (pc := 71) (tgt := 130) h dX9_chance_71 (by decide) (fun h => ?_) (fun h => ?_)
  · refine r_iinc (ln := fun w => [some (sj_r (some a0)), some (sj_i x1), some (sj_i x2), some (sj_i x3), some (sj_i x4), some (sj_i x5), some (sj_i w), some (sj_i x7)]) (pc := 130) h dX9_chance_130 rfl (Nat.le_of_ble_eq_true rfl) (fun _ => rfl) (fun v1 h => ?_)
    refine r_goto (pc := 133) (tgt := 59) dX9_chance_133 (by decide) ?_
    exact sj_weak (l2 := [some (sj_r (some a0)), some (sj_i x1), some (sj_i x2), some (sj_i x3), some (sj_i x4), some (sj_i x5), some (sj_i v1), none]) (⟨rfl, ⟨rfl, ⟨rfl, ⟨rfl, ⟨rfl, ⟨rfl, ⟨rfl, trivial⟩⟩⟩⟩⟩⟩⟩) (hk59 a0 x1 x2 x3 x4 x5 v1 V ha0 h)
  · refine r_aload_n (pc := 74) dX9_chance_74 rfl rfl ?_
    refine r_gRs (b := a0 + 1) (pc := 75) dX9_chance_75 fw_X9_9 rfl (ok9 ha0) (ok9_0 ha0).1 ?_
    refine r_sipush (pc := 78) dX9_chance_78 ⟨by decide, by decide⟩ ?_
    refine r_iconst (pc := 81) dX9_chance_81 ?_
    refine r_iload (pc := 82) dX9_chance_82 rfl ?_
    refine r_imul (pc := 84) dX9_chance_84 ?_
    refine r_iadd (pc := 85) dX9_chance_85 ?_
    refine r_iload (pc := 86) dX9_chance_86 rfl ?_
    refine r_iadd (pc := 88) dX9_chance_88 ?_
    refine r_aload_n (pc := 89) dX9_chance_89 rfl rfl ?_
    refine r_gRs (b := a0 + 2) (pc := 90) dX9_chance_90 fw_X9_13 rfl (ok9 ha0) (ok9_1 ha0).1 ?_
    refine r_sipush (pc := 93) dX9_chance_93 ⟨by decide, by decide⟩ ?_
    refine r_iconst (pc := 96) dX9_chance_96 ?_
    refine r_iload (pc := 97) dX9_chance_97 rfl ?_
    refine r_imul (pc := 99) dX9_chance_99 ?_
    refine r_iadd (pc := 100) dX9_chance_100 ?_
    refine r_iload (pc := 101) dX9_chance_101 rfl ?_
    refine r_iadd (pc := 103) dX9_chance_103 ?_
    refine r_ialoads (pc := 104) h dX9_chance_104 (ok9_1 ha0).2 (fun h => ?_)
    refine r_bipush (pc := 105) dX9_chance_105 ⟨by decide, by decide⟩ ?_
    refine r_iload_n (pc := 107) dX9_chance_107 rfl rfl ?_
    refine r_isub (pc := 108) dX9_chance_108 ?_
    refine r_aload_n (pc := 109) dX9_chance_109 rfl rfl ?_
    refine r_iconst (pc := 110) dX9_chance_110 ?_
    refine r_iload_n (pc := 111) dX9_chance_111 rfl rfl ?_
    refine r_imul (pc := 112) dX9_chance_112 ?_
    refine r_iconst (pc := 113) dX9_chance_113 ?_
    refine r_iadd (pc := 114) dX9_chance_114 ?_
    refine r_callVs (pc := 115) (fun v => some (sj_i v)) (As := [sj_i ((2 * x2) + 1)]) (rest := [(sj_i (100 - x2)), (sj_i (V (a0 + 2) ((290 + (3 * x6)) + x7).toNat)), (sj_i ((290 + (3 * x6)) + x7)), (sj_r (some (a0 + 1)))]) (b := a0) (ok9 ha0) h dX9_chance_115 mw_X9_322 vw_X9_draw (fun _ _ hc => cg_X9_draw ha0 hc) rfl ⟨(Nat.le_of_ble_eq_true rfl), (Nat.le_of_ble_eq_true rfl)⟩ (Nat.le_of_ble_eq_true rfl) rfl (fun v3 V2 h => ?_)
    refine r_iadd (pc := 118) dX9_chance_118 ?_
    refine r_imul (pc := 119) dX9_chance_119 ?_
    refine r_bipush (pc := 120) dX9_chance_120 ⟨by decide, by decide⟩ ?_
    refine r_idiv (pc := 122) h dX9_chance_122 (fun v4 h => ?_)
    refine r_iastores (pc := 123) h dX9_chance_123 (ok9_0 ha0).2 (fun V5 h => ?_)
    refine r_iinc (ln := fun w => [some (sj_r (some a0)), some (sj_i x1), some (sj_i x2), some (sj_i x3), some (sj_i x4), some (sj_i x5), some (sj_i x6), some (sj_i w)]) (pc := 124) h dX9_chance_124 rfl (Nat.le_of_ble_eq_true rfl) (fun _ => rfl) (fun v6 h => ?_)
    refine r_goto (pc := 127) (tgt := 68) dX9_chance_127 (by decide) ?_
    exact sj_weak (l2 := [some (sj_r (some a0)), some (sj_i x1), some (sj_i x2), some (sj_i x3), some (sj_i x4), some (sj_i x5), some (sj_i x6), some (sj_i v6)]) (⟨rfl, ⟨rfl, ⟨rfl, ⟨rfl, ⟨rfl, ⟨rfl, ⟨rfl, ⟨rfl, trivial⟩⟩⟩⟩⟩⟩⟩⟩) (hk68 a0 x1 x2 x3 x4 x5 x6 v6 V5 ha0 h)
set_option maxHeartbeats 4000000 in
theorem st_X9_chance_68 {X : sj_X} {g : sj_G} {s0 : sj_Mem} {N : Nat} {q : Int × sj_VV} {k50 : Nat → Int → Int → Int → Int → Int → sj_VV → Option (Int × sj_VV)} {k59 : Nat → Int → Int → Int → Int → Int → Int → sj_VV → Option (Int × sj_VV)} (hk50 : ∀ (a0 : Nat) (x1 : Int) (x2 : Int) (x3 : Int) (x4 : Int) (x5 : Int) (V : sj_VV), OK9 g a0 → k50 a0 x1 x2 x3 x4 x5 V = some q → sj_T X m_X9_chance s0 (some (sj_i q.1), (g, q.2)) 50 [some (sj_r (some a0)), some (sj_i x1), some (sj_i x2), some (sj_i x3), some (sj_i x4), some (sj_i x5), none, none] [] (g, V)) (hk59 : ∀ (a0 : Nat) (x1 : Int) (x2 : Int) (x3 : Int) (x4 : Int) (x5 : Int) (x6 : Int) (V : sj_VV), OK9 g a0 → k59 a0 x1 x2 x3 x4 x5 x6 V = some q → sj_T X m_X9_chance s0 (some (sj_i q.1), (g, q.2)) 59 [some (sj_r (some a0)), some (sj_i x1), some (sj_i x2), some (sj_i x3), some (sj_i x4), some (sj_i x5), some (sj_i x6), none] [] (g, V)) :
    ∀ (n : Nat) (a0 : Nat) (x1 : Int) (x2 : Int) (x3 : Int) (x4 : Int) (x5 : Int) (x6 : Int) (x7 : Int) (V : sj_VV), OK9 g a0 → g_X9_chance_68 N k50 k59 n a0 x1 x2 x3 x4 x5 x6 x7 V = some q → sj_T X m_X9_chance s0 (some (sj_i q.1), (g, q.2)) 68 [some (sj_r (some a0)), some (sj_i x1), some (sj_i x2), some (sj_i x3), some (sj_i x4), some (sj_i x5), some (sj_i x6), some (sj_i x7)] [] (g, V) := by
  intro n
  induction n with
  | zero => intro a0 x1 x2 x3 x4 x5 x6 x7 V ha0 h; exact nomatch h
  | succ n ih => intro a0 x1 x2 x3 x4 x5 x6 x7 V ha0 h; exact st_X9_chance_68_b (N := N) hk50 hk59 ih a0 x1 x2 x3 x4 x5 x6 x7 V ha0 h
set_option maxHeartbeats 4000000 in
theorem st_X9_chance_151 {X : sj_X} {g : sj_G} {s0 : sj_Mem} {N : Nat} {q : Int × sj_VV} {k50 : Nat → Int → Int → Int → Int → Int → sj_VV → Option (Int × sj_VV)} (hk50 : ∀ (a0 : Nat) (x1 : Int) (x2 : Int) (x3 : Int) (x4 : Int) (x5 : Int) (V : sj_VV), OK9 g a0 → k50 a0 x1 x2 x3 x4 x5 V = some q → sj_T X m_X9_chance s0 (some (sj_i q.1), (g, q.2)) 50 [some (sj_r (some a0)), some (sj_i x1), some (sj_i x2), some (sj_i x3), some (sj_i x4), some (sj_i x5), none, none] [] (g, V)) :
    ∀ (a0 : Nat) (x1 : Int) (x2 : Int) (x3 : Int) (x5 : Int) (y0 : Int) (y1 : Int) (V : sj_VV), OK9 g a0 → g_X9_chance_151 N k50 a0 x1 x2 x3 x5 y0 y1 V = some q → sj_T X m_X9_chance s0 (some (sj_i q.1), (g, q.2)) 151 [some (sj_r (some a0)), some (sj_i x1), some (sj_i x2), some (sj_i x3), none, some (sj_i x5), none, none] [(sj_i y0), (sj_i y1)] (g, V) := by
  intro a0 x1 x2 x3 x5 y0 y1 V ha0 h
  unfold g_X9_chance_151 at h
  refine r_iadd (pc := 151) dX9_chance_151 ?_
  refine r_istoreL (ln := fun w => [some (sj_r (some a0)), some (sj_i x1), some (sj_i x2), some (sj_i x3), some (sj_i w), some (sj_i x5), none, none]) (pc := 152) h dX9_chance_152 (Nat.le_of_ble_eq_true rfl) (fun _ => rfl) (fun v1 h => ?_)
  refine r_iinc (ln := fun w => [some (sj_r (some a0)), some (sj_i x1), some (sj_i x2), some (sj_i x3), some (sj_i v1), some (sj_i w), none, none]) (pc := 154) h dX9_chance_154 rfl (Nat.le_of_ble_eq_true rfl) (fun _ => rfl) (fun v2 h => ?_)
  refine r_goto (pc := 157) (tgt := 50) dX9_chance_157 (by decide) ?_
  exact sj_weak (l2 := [some (sj_r (some a0)), some (sj_i x1), some (sj_i x2), some (sj_i x3), some (sj_i v1), some (sj_i v2), none, none]) (⟨rfl, ⟨rfl, ⟨rfl, ⟨rfl, ⟨rfl, ⟨rfl, trivial⟩⟩⟩⟩⟩⟩) (hk50 a0 x1 x2 x3 v1 v2 V ha0 h)
set_option maxHeartbeats 4000000 in
theorem st_X9_chance_59_b {X : sj_X} {g : sj_G} {s0 : sj_Mem} {N : Nat} {q : Int × sj_VV} {k50 : Nat → Int → Int → Int → Int → Int → sj_VV → Option (Int × sj_VV)} {k59 : Nat → Int → Int → Int → Int → Int → Int → sj_VV → Option (Int × sj_VV)} (hk50 : ∀ (a0 : Nat) (x1 : Int) (x2 : Int) (x3 : Int) (x4 : Int) (x5 : Int) (V : sj_VV), OK9 g a0 → k50 a0 x1 x2 x3 x4 x5 V = some q → sj_T X m_X9_chance s0 (some (sj_i q.1), (g, q.2)) 50 [some (sj_r (some a0)), some (sj_i x1), some (sj_i x2), some (sj_i x3), some (sj_i x4), some (sj_i x5), none, none] [] (g, V)) (hk59 : ∀ (a0 : Nat) (x1 : Int) (x2 : Int) (x3 : Int) (x4 : Int) (x5 : Int) (x6 : Int) (V : sj_VV), OK9 g a0 → k59 a0 x1 x2 x3 x4 x5 x6 V = some q → sj_T X m_X9_chance s0 (some (sj_i q.1), (g, q.2)) 59 [some (sj_r (some a0)), some (sj_i x1), some (sj_i x2), some (sj_i x3), some (sj_i x4), some (sj_i x5), some (sj_i x6), none] [] (g, V)) :
    ∀ (a0 : Nat) (x1 : Int) (x2 : Int) (x3 : Int) (x4 : Int) (x5 : Int) (x6 : Int) (V : sj_VV), OK9 g a0 → g_X9_chance_59_b N k50 k59 a0 x1 x2 x3 x4 x5 x6 V = some q → sj_T X m_X9_chance s0 (some (sj_i q.1), (g, q.2)) 59 [some (sj_r (some a0)), some (sj_i x1), some (sj_i x2), some (sj_i x3), some (sj_i x4), some (sj_i x5), some (sj_i x6), none] [] (g, V) := by
  intro a0 x1 x2 x3 x4 x5 x6 V ha0 h
  unfold g_X9_chance_59_b at h
  refine r_iload (pc := 59) dX9_chance_59 rfl ?_
  refine r_iconst (pc := 61) dX9_chance_61 ?_
  refine r_icmp_ge (pc := 62) (tgt := 136) h dX9_chance_62 (by decide) (fun h => ?_) (fun h => ?_)
  · refine r_iload (pc := 136) dX9_chance_136 rfl ?_
    refine r_aload_n (pc := 138) dX9_chance_138 rfl rfl ?_
    refine r_iload_n (pc := 139) dX9_chance_139 rfl rfl ?_
    refine r_callVs (pc := 140) (fun v => some (sj_i v)) (As := [sj_i x3]) (rest := [(sj_i x4)]) (b := a0) (ok9 ha0) h dX9_chance_140 mw_X9_183 vw_X9_isStanding (fun _ _ hc => cg_X9_isStanding ha0 hc) rfl ⟨(Nat.le_of_ble_eq_true rfl), (Nat.le_of_ble_eq_true rfl)⟩ (Nat.le_of_ble_eq_true rfl) rfl (fun v2 V1 h => ?_)
    refine r_if_eq (pc := 143) (tgt := 150) h dX9_chance_143 (by decide) (fun h => ?_) (fun h => ?_)
    · refine r_iconst (pc := 150) dX9_chance_150 ?_
      exact sj_weak (l2 := [some (sj_r (some a0)), some (sj_i x1), some (sj_i x2), some (sj_i x3), none, some (sj_i x5), none, none]) (⟨rfl, ⟨rfl, ⟨rfl, ⟨rfl, ⟨rfl, trivial⟩⟩⟩⟩⟩) (st_X9_chance_151 hk50 a0 x1 x2 x3 x5 1 x4 V1 ha0 h)
    · refine r_iconst (pc := 146) dX9_chance_146 ?_
      refine r_goto (pc := 147) (tgt := 151) dX9_chance_147 (by decide) ?_
      exact sj_weak (l2 := [some (sj_r (some a0)), some (sj_i x1), some (sj_i x2), some (sj_i x3), none, some (sj_i x5), none, none]) (⟨rfl, ⟨rfl, ⟨rfl, ⟨rfl, ⟨rfl, trivial⟩⟩⟩⟩⟩) (st_X9_chance_151 hk50 a0 x1 x2 x3 x5 0 x4 V1 ha0 h)
  · refine r_iconst (pc := 65) dX9_chance_65 ?_
    refine r_istore (ln := [some (sj_r (some a0)), some (sj_i x1), some (sj_i x2), some (sj_i x3), some (sj_i x4), some (sj_i x5), some (sj_i x6), some (sj_i 1)]) (pc := 66) dX9_chance_66 (Nat.le_of_ble_eq_true rfl) rfl ?_
    exact sj_weak (l2 := [some (sj_r (some a0)), some (sj_i x1), some (sj_i x2), some (sj_i x3), some (sj_i x4), some (sj_i x5), some (sj_i x6), some (sj_i 1)]) (⟨rfl, ⟨rfl, ⟨rfl, ⟨rfl, ⟨rfl, ⟨rfl, ⟨rfl, ⟨rfl, trivial⟩⟩⟩⟩⟩⟩⟩⟩) (st_X9_chance_68 hk50 hk59 N a0 x1 x2 x3 x4 x5 x6 1 V ha0 h)
set_option maxHeartbeats 4000000 in
theorem st_X9_chance_59 {X : sj_X} {g : sj_G} {s0 : sj_Mem} {N : Nat} {q : Int × sj_VV} {k50 : Nat → Int → Int → Int → Int → Int → sj_VV → Option (Int × sj_VV)} (hk50 : ∀ (a0 : Nat) (x1 : Int) (x2 : Int) (x3 : Int) (x4 : Int) (x5 : Int) (V : sj_VV), OK9 g a0 → k50 a0 x1 x2 x3 x4 x5 V = some q → sj_T X m_X9_chance s0 (some (sj_i q.1), (g, q.2)) 50 [some (sj_r (some a0)), some (sj_i x1), some (sj_i x2), some (sj_i x3), some (sj_i x4), some (sj_i x5), none, none] [] (g, V)) :
    ∀ (n : Nat) (a0 : Nat) (x1 : Int) (x2 : Int) (x3 : Int) (x4 : Int) (x5 : Int) (x6 : Int) (V : sj_VV), OK9 g a0 → g_X9_chance_59 N k50 n a0 x1 x2 x3 x4 x5 x6 V = some q → sj_T X m_X9_chance s0 (some (sj_i q.1), (g, q.2)) 59 [some (sj_r (some a0)), some (sj_i x1), some (sj_i x2), some (sj_i x3), some (sj_i x4), some (sj_i x5), some (sj_i x6), none] [] (g, V) := by
  intro n
  induction n with
  | zero => intro a0 x1 x2 x3 x4 x5 x6 V ha0 h; exact nomatch h
  | succ n ih => intro a0 x1 x2 x3 x4 x5 x6 V ha0 h; exact st_X9_chance_59_b (N := N) hk50 ih a0 x1 x2 x3 x4 x5 x6 V ha0 h
set_option maxHeartbeats 4000000 in
theorem st_X9_chance_50_b {X : sj_X} {g : sj_G} {s0 : sj_Mem} {N : Nat} {q : Int × sj_VV} {k50 : Nat → Int → Int → Int → Int → Int → sj_VV → Option (Int × sj_VV)} (hk50 : ∀ (a0 : Nat) (x1 : Int) (x2 : Int) (x3 : Int) (x4 : Int) (x5 : Int) (V : sj_VV), OK9 g a0 → k50 a0 x1 x2 x3 x4 x5 V = some q → sj_T X m_X9_chance s0 (some (sj_i q.1), (g, q.2)) 50 [some (sj_r (some a0)), some (sj_i x1), some (sj_i x2), some (sj_i x3), some (sj_i x4), some (sj_i x5), none, none] [] (g, V)) :
    ∀ (a0 : Nat) (x1 : Int) (x2 : Int) (x3 : Int) (x4 : Int) (x5 : Int) (V : sj_VV), OK9 g a0 → g_X9_chance_50_b N k50 a0 x1 x2 x3 x4 x5 V = some q → sj_T X m_X9_chance s0 (some (sj_i q.1), (g, q.2)) 50 [some (sj_r (some a0)), some (sj_i x1), some (sj_i x2), some (sj_i x3), some (sj_i x4), some (sj_i x5), none, none] [] (g, V) := by
  intro a0 x1 x2 x3 x4 x5 V ha0 h
  unfold g_X9_chance_50_b at h
  refine r_iload (pc := 50) dX9_chance_50 rfl ?_
  refine r_iload_n (pc := 52) dX9_chance_52 rfl rfl ?_
  refine r_icmp_ge (pc := 53) (tgt := 160) h dX9_chance_53 (by decide) (fun h => ?_) (fun h => ?_)
  · refine r_aload_n (pc := 160) dX9_chance_160 rfl rfl ?_
    refine r_gRs (b := a0 + 1) (pc := 161) dX9_chance_161 fw_X9_9 rfl (ok9 ha0) (ok9_0 ha0).1 ?_
    refine r_sipush (pc := 164) dX9_chance_164 ⟨by decide, by decide⟩ ?_
    refine r_ialoads (pc := 167) h dX9_chance_167 (ok9_0 ha0).2 (fun h => ?_)
    refine r_istoreL (ln := fun w => [some (sj_r (some a0)), some (sj_i x1), some (sj_i x2), some (sj_i x3), some (sj_i x4), some (sj_i w), none, none]) (pc := 168) h dX9_chance_168 (Nat.le_of_ble_eq_true rfl) (fun _ => rfl) (fun v1 h => ?_)
    refine r_aload_n (pc := 170) dX9_chance_170 rfl rfl ?_
    refine r_callVs (pc := 171) (fun _ => none) (As := []) (rest := []) (b := a0) (ok9 ha0) h dX9_chance_171 mw_X9_304 vw_X9_comesBack (fun _ _ hc => cg_X9_comesBack ha0 hc) rfl ⟨(Nat.le_of_ble_eq_true rfl), (Nat.le_of_ble_eq_true rfl)⟩ (Nat.le_of_ble_eq_true rfl) rfl (fun _u V2 h => ?_)
    refine r_aload_n (pc := 174) dX9_chance_174 rfl rfl ?_
    refine r_gRs (b := a0 + 1) (pc := 175) dX9_chance_175 fw_X9_9 rfl (ok9 ha0) (ok9_0 ha0).1 ?_
    refine r_sipush (pc := 178) dX9_chance_178 ⟨by decide, by decide⟩ ?_
    refine r_iload (pc := 181) dX9_chance_181 rfl ?_
    refine r_iastores (pc := 183) h dX9_chance_183 (ok9_0 ha0).2 (fun V3 h => ?_)
    refine r_iload (pc := 184) dX9_chance_184 rfl ?_
    exact r_irets (pc := 186) h rfl dX9_chance_186
  · refine r_iconst (pc := 56) dX9_chance_56 ?_
    refine r_istore (ln := [some (sj_r (some a0)), some (sj_i x1), some (sj_i x2), some (sj_i x3), some (sj_i x4), some (sj_i x5), some (sj_i 0), none]) (pc := 57) dX9_chance_57 (Nat.le_of_ble_eq_true rfl) rfl ?_
    exact sj_weak (l2 := [some (sj_r (some a0)), some (sj_i x1), some (sj_i x2), some (sj_i x3), some (sj_i x4), some (sj_i x5), some (sj_i 0), none]) (⟨rfl, ⟨rfl, ⟨rfl, ⟨rfl, ⟨rfl, ⟨rfl, ⟨rfl, trivial⟩⟩⟩⟩⟩⟩⟩) (st_X9_chance_59 hk50 N a0 x1 x2 x3 x4 x5 0 V ha0 h)
set_option maxHeartbeats 4000000 in
theorem st_X9_chance_50 {X : sj_X} {g : sj_G} {s0 : sj_Mem} {N : Nat} {q : Int × sj_VV} :
    ∀ (n : Nat) (a0 : Nat) (x1 : Int) (x2 : Int) (x3 : Int) (x4 : Int) (x5 : Int) (V : sj_VV), OK9 g a0 → g_X9_chance_50 N n a0 x1 x2 x3 x4 x5 V = some q → sj_T X m_X9_chance s0 (some (sj_i q.1), (g, q.2)) 50 [some (sj_r (some a0)), some (sj_i x1), some (sj_i x2), some (sj_i x3), some (sj_i x4), some (sj_i x5), none, none] [] (g, V) := by
  intro n
  induction n with
  | zero => intro a0 x1 x2 x3 x4 x5 V ha0 h; exact nomatch h
  | succ n ih => intro a0 x1 x2 x3 x4 x5 V ha0 h; exact st_X9_chance_50_b (N := N) ih a0 x1 x2 x3 x4 x5 V ha0 h
set_option maxHeartbeats 4000000 in
theorem st_X9_chance_0 {X : sj_X} {g : sj_G} {s0 : sj_Mem} {N : Nat} {q : Int × sj_VV} :
    ∀ (a0 : Nat) (x1 : Int) (x2 : Int) (x3 : Int) (V : sj_VV), OK9 g a0 → g_X9_chance N a0 x1 x2 x3 V = some q → sj_T X m_X9_chance s0 (some (sj_i q.1), (g, q.2)) 0 [some (sj_r (some a0)), some (sj_i x1), some (sj_i x2), some (sj_i x3), none, none, none, none] [] (g, V) := by
  intro a0 x1 x2 x3 V ha0 h
  unfold g_X9_chance at h
  refine r_iload_n (pc := 0) dX9_chance_0 rfl rfl ?_
  refine r_i2l (pc := 1) h dX9_chance_1 (fun v1 h => ?_)
  refine r_lconst1 (pc := 2) dX9_chance_2 ?_
  refine r_ldc2 (n := 40) (pc := 3) dX9_chance_3 kc_X9_66 ?_
  refine r_callSs (pc := 6) (fun v => some (sj_i v)) (As := [sj_j v1, sj_j 1, sj_j 40]) (rest := []) h dX9_chance_6 mw_X9_57 kw_1225 (fun _ _ hc => cg_X9_isIn  hc) rfl ⟨(Nat.le_of_ble_eq_true rfl), (Nat.le_of_ble_eq_true rfl)⟩ (Nat.le_of_ble_eq_true rfl) rfl (fun v3 V2 h => ?_)
  refine r_if_eq (pc := 9) (tgt := 38) h dX9_chance_9 (by decide) (fun h => ?_) (fun h => ?_)
  · refine r_iconst (pc := 38) dX9_chance_38 ?_
    exact r_irets (pc := 39) h rfl dX9_chance_39
  · refine r_iload_n (pc := 12) dX9_chance_12 rfl rfl ?_
    refine r_i2l (pc := 13) h dX9_chance_13 (fun v4 h => ?_)
    refine r_lconst0 (pc := 14) dX9_chance_14 ?_
    refine r_ldc2 (n := 50) (pc := 15) dX9_chance_15 kc_X9_267 ?_
    refine r_callSs (pc := 18) (fun v => some (sj_i v)) (As := [sj_j v4, sj_j 0, sj_j 50]) (rest := []) h dX9_chance_18 mw_X9_57 kw_1225 (fun _ _ hc => cg_X9_isIn  hc) rfl ⟨(Nat.le_of_ble_eq_true rfl), (Nat.le_of_ble_eq_true rfl)⟩ (Nat.le_of_ble_eq_true rfl) rfl (fun v6 V5 h => ?_)
    refine r_if_eq (pc := 21) (tgt := 38) h dX9_chance_21 (by decide) (fun h => ?_) (fun h => ?_)
    · refine r_iconst (pc := 38) dX9_chance_38 ?_
      exact r_irets (pc := 39) h rfl dX9_chance_39
    · refine r_iload_n (pc := 24) dX9_chance_24 rfl rfl ?_
      refine r_callSs (pc := 25) (fun v => some (sj_i v)) (As := [sj_i x3]) (rest := []) h dX9_chance_25 mw_X9_287 kw_1446 (fun _ _ hc => cg_X9_isK  hc) rfl ⟨(Nat.le_of_ble_eq_true rfl), (Nat.le_of_ble_eq_true rfl)⟩ (Nat.le_of_ble_eq_true rfl) rfl (fun v8 V7 h => ?_)
      refine r_if_eq (pc := 28) (tgt := 38) h dX9_chance_28 (by decide) (fun h => ?_) (fun h => ?_)
      · refine r_iconst (pc := 38) dX9_chance_38 ?_
        exact r_irets (pc := 39) h rfl dX9_chance_39
      · refine r_aload_n (pc := 31) dX9_chance_31 rfl rfl ?_
        refine r_callVs (pc := 32) (fun v => some (sj_i v)) (As := []) (rest := []) (b := a0) (ok9 ha0) h dX9_chance_32 mw_X9_277 vw_X9_takesSlip (fun _ _ hc => cg_X9_takesSlip ha0 hc) rfl ⟨(Nat.le_of_ble_eq_true rfl), (Nat.le_of_ble_eq_true rfl)⟩ (Nat.le_of_ble_eq_true rfl) rfl (fun v10 V9 h => ?_)
        refine r_if_ne (pc := 35) (tgt := 40) h dX9_chance_35 (by decide) (fun h => ?_) (fun h => ?_)
        · refine r_iconst (pc := 38) dX9_chance_38 ?_
          exact r_irets (pc := 39) h rfl dX9_chance_39
        · refine r_aload_n (pc := 40) dX9_chance_40 rfl rfl ?_
          refine r_callVs (pc := 41) (fun _ => none) (As := []) (rest := []) (b := a0) (ok9 ha0) h dX9_chance_41 mw_X9_301 vw_X9_laysAside (fun _ _ hc => cg_X9_laysAside ha0 hc) rfl ⟨(Nat.le_of_ble_eq_true rfl), (Nat.le_of_ble_eq_true rfl)⟩ (Nat.le_of_ble_eq_true rfl) rfl (fun _u V11 h => ?_)
          refine r_iconst (pc := 44) dX9_chance_44 ?_
          refine r_istore (ln := [some (sj_r (some a0)), some (sj_i x1), some (sj_i x2), some (sj_i x3), some (sj_i 0), none, none, none]) (pc := 45) dX9_chance_45 (Nat.le_of_ble_eq_true rfl) rfl ?_
          refine r_iconst (pc := 47) dX9_chance_47 ?_
          refine r_istore (ln := [some (sj_r (some a0)), some (sj_i x1), some (sj_i x2), some (sj_i x3), some (sj_i 0), some (sj_i 0), none, none]) (pc := 48) dX9_chance_48 (Nat.le_of_ble_eq_true rfl) rfl ?_
          exact sj_weak (l2 := [some (sj_r (some a0)), some (sj_i x1), some (sj_i x2), some (sj_i x3), some (sj_i 0), some (sj_i 0), none, none]) (⟨rfl, ⟨rfl, ⟨rfl, ⟨rfl, ⟨rfl, ⟨rfl, trivial⟩⟩⟩⟩⟩⟩) (st_X9_chance_50 N a0 x1 x2 x3 0 0 V11 ha0 h)
set_option maxHeartbeats 4000000 in
theorem cg_X9_chance {X : sj_X} {g : sj_G} {N : Nat} {a0 : Nat} {x1 : Int} {x2 : Int} {x3 : Int} {V : sj_VV} {q : Int × sj_VV} (ha0 : OK9 g a0) (h : g_X9_chance N a0 x1 x2 x3 V = some q) : sj_C X m_X9_chance [sj_r (some a0), sj_i x1, sj_i x2, sj_i x3] (g, V) (some (sj_i q.1), (g, q.2)) :=
  sj_C_of (by decide +kernel) (Nat.le_of_ble_eq_true rfl) (lo := [some (sj_r (some a0)), some (sj_i x1), some (sj_i x2), some (sj_i x3), none, none, none, none]) rfl (sj_weak (l2 := [some (sj_r (some a0)), some (sj_i x1), some (sj_i x2), some (sj_i x3), none, none, none, none]) (⟨rfl, ⟨rfl, ⟨rfl, ⟨rfl, trivial⟩⟩⟩⟩) (st_X9_chance_0 a0 x1 x2 x3 V ha0 h))
set_option maxHeartbeats 4000000 in
theorem c_X9_chance {X : sj_X} {N : Nat} {a0 : Nat} {x1 : Int} {x2 : Int} {x3 : Int} {s : sj_Mem} {q : Int × sj_Mem} (h : f_X9_chance N a0 x1 x2 x3 s = some q) : sj_C X m_X9_chance [sj_r (some a0), sj_i x1, sj_i x2, sj_i x3] s (some (sj_i q.1), q.2) := by
  obtain ⟨g, V⟩ := s
  unfold f_X9_chance at h
  obtain ⟨ho, h1⟩ := e_ok_some h
  obtain ⟨q2, h2, rfl⟩ := sj_map_some h1
  exact cg_X9_chance ho h2
