theorem dX9_state_0 : decode cX9_state 0 = .ok (.aload_n 0, 1) := by decide +kernel
theorem dX9_state_1 : decode cX9_state 1 = .ok (.getfield 9, 3) := by decide +kernel
theorem dX9_state_4 : decode cX9_state 4 = .ok (.sipush 389, 3) := by decide +kernel
theorem dX9_state_7 : decode cX9_state 7 = .ok (.iaload, 1) := by decide +kernel
theorem dX9_state_8 : decode cX9_state 8 = .ok (.istore_n 2, 1) := by decide +kernel
theorem dX9_state_9 : decode cX9_state 9 = .ok (.aload_n 0, 1) := by decide +kernel
theorem dX9_state_10 : decode cX9_state 10 = .ok (.getfield 9, 3) := by decide +kernel
theorem dX9_state_13 : decode cX9_state 13 = .ok (.sipush 389, 3) := by decide +kernel
theorem dX9_state_16 : decode cX9_state 16 = .ok (.iload_n 1, 1) := by decide +kernel
theorem dX9_state_17 : decode cX9_state 17 = .ok (.iastore, 1) := by decide +kernel
theorem dX9_state_18 : decode cX9_state 18 = .ok (.iload_n 2, 1) := by decide +kernel
theorem dX9_state_19 : decode cX9_state 19 = .ok (.ireturn, 1) := by decide +kernel
set_option maxHeartbeats 4000000 in
theorem st_X9_state_0 {X : sj_X} {g : sj_G} {s0 : sj_Mem} {N : Nat} {q : Int × sj_VV} :
    ∀ (a0 : Nat) (x1 : Int) (V : sj_VV), OK9 g a0 → g_X9_state N a0 x1 V = some q → sj_T X m_X9_state s0 (some (sj_i q.1), (g, q.2)) 0 [some (sj_r (some a0)), some (sj_i x1), none] [] (g, V) := by
  intro a0 x1 V ha0 h
  unfold g_X9_state at h
  refine r_aload_n (pc := 0) dX9_state_0 rfl rfl ?_
  refine r_gRs (b := a0 + 1) (pc := 1) dX9_state_1 fw_X9_9 rfl (ok9 ha0) (ok9_0 ha0).1 ?_
  refine r_sipush (pc := 4) dX9_state_4 ⟨by decide, by decide⟩ ?_
  refine r_ialoads (pc := 7) h dX9_state_7 (ok9_0 ha0).2 (fun h => ?_)
  refine r_istore_nL (ln := fun w => [some (sj_r (some a0)), some (sj_i x1), some (sj_i w)]) (pc := 8) h dX9_state_8 rfl (Nat.le_of_ble_eq_true rfl) (fun _ => rfl) (fun v1 h => ?_)
  refine r_aload_n (pc := 9) dX9_state_9 rfl rfl ?_
  refine r_gRs (b := a0 + 1) (pc := 10) dX9_state_10 fw_X9_9 rfl (ok9 ha0) (ok9_0 ha0).1 ?_
  refine r_sipush (pc := 13) dX9_state_13 ⟨by decide, by decide⟩ ?_
  refine r_iload_n (pc := 16) dX9_state_16 rfl rfl ?_
  refine r_iastores (pc := 17) h dX9_state_17 (ok9_0 ha0).2 (fun V2 h => ?_)
  refine r_iload_n (pc := 18) dX9_state_18 rfl rfl ?_
  exact r_irets (pc := 19) h rfl dX9_state_19
set_option maxHeartbeats 4000000 in
theorem cg_X9_state {X : sj_X} {g : sj_G} {N : Nat} {a0 : Nat} {x1 : Int} {V : sj_VV} {q : Int × sj_VV} (ha0 : OK9 g a0) (h : g_X9_state N a0 x1 V = some q) : sj_C X m_X9_state [sj_r (some a0), sj_i x1] (g, V) (some (sj_i q.1), (g, q.2)) :=
  sj_C_of (by decide +kernel) (Nat.le_of_ble_eq_true rfl) (lo := [some (sj_r (some a0)), some (sj_i x1), none]) rfl (sj_weak (l2 := [some (sj_r (some a0)), some (sj_i x1), none]) (⟨rfl, ⟨rfl, trivial⟩⟩) (st_X9_state_0 a0 x1 V ha0 h))
set_option maxHeartbeats 4000000 in
theorem c_X9_state {X : sj_X} {N : Nat} {a0 : Nat} {x1 : Int} {s : sj_Mem} {q : Int × sj_Mem} (h : f_X9_state N a0 x1 s = some q) : sj_C X m_X9_state [sj_r (some a0), sj_i x1] s (some (sj_i q.1), q.2) := by
  obtain ⟨g, V⟩ := s
  unfold f_X9_state at h
  obtain ⟨ho, h1⟩ := e_ok_some h
  obtain ⟨q2, h2, rfl⟩ := sj_map_some h1
  exact cg_X9_state ho h2
theorem dX9_isCircle_0 : decode cX9_isCircle 0 = .ok (.iload_n 0, 1) := by decide +kernel
theorem dX9_isCircle_1 : decode cX9_isCircle 1 = .ok (.i2l, 1) := by decide +kernel
theorem dX9_isCircle_2 : decode cX9_isCircle 2 = .ok (.ldc2_w 186, 3) := by decide +kernel
theorem dX9_isCircle_5 : decode cX9_isCircle 5 = .ok (.ldc2_w 188, 3) := by decide +kernel
theorem dX9_isCircle_8 : decode cX9_isCircle 8 = .ok (.invokestatic 57, 3) := by decide +kernel
theorem dX9_isCircle_11 : decode cX9_isCircle 11 = .ok (.ifCond .eq 33, 3) := by decide +kernel
theorem dX9_isCircle_14 : decode cX9_isCircle 14 = .ok (.iload_n 1, 1) := by decide +kernel
theorem dX9_isCircle_15 : decode cX9_isCircle 15 = .ok (.i2l, 1) := by decide +kernel
theorem dX9_isCircle_16 : decode cX9_isCircle 16 = .ok (.ldc2_w 186, 3) := by decide +kernel
theorem dX9_isCircle_19 : decode cX9_isCircle 19 = .ok (.ldc2_w 188, 3) := by decide +kernel
theorem dX9_isCircle_22 : decode cX9_isCircle 22 = .ok (.invokestatic 57, 3) := by decide +kernel
theorem dX9_isCircle_25 : decode cX9_isCircle 25 = .ok (.ifCond .eq 19, 3) := by decide +kernel
theorem dX9_isCircle_28 : decode cX9_isCircle 28 = .ok (.iload_n 2, 1) := by decide +kernel
theorem dX9_isCircle_29 : decode cX9_isCircle 29 = .ok (.i2l, 1) := by decide +kernel
theorem dX9_isCircle_30 : decode cX9_isCircle 30 = .ok (.lconst 1, 1) := by decide +kernel
theorem dX9_isCircle_31 : decode cX9_isCircle 31 = .ok (.ldc2_w 80, 3) := by decide +kernel
theorem dX9_isCircle_34 : decode cX9_isCircle 34 = .ok (.invokestatic 57, 3) := by decide +kernel
theorem dX9_isCircle_37 : decode cX9_isCircle 37 = .ok (.ifCond .eq 7, 3) := by decide +kernel
theorem dX9_isCircle_40 : decode cX9_isCircle 40 = .ok (.iconst 1, 1) := by decide +kernel
theorem dX9_isCircle_41 : decode cX9_isCircle 41 = .ok (.goto 4, 3) := by decide +kernel
theorem dX9_isCircle_44 : decode cX9_isCircle 44 = .ok (.iconst 0, 1) := by decide +kernel
theorem dX9_isCircle_45 : decode cX9_isCircle 45 = .ok (.ireturn, 1) := by decide +kernel
set_option maxHeartbeats 4000000 in
theorem st_X9_isCircle_0 {X : sj_X} {g : sj_G} {s0 : sj_Mem} {N : Nat} {q : Int × sj_VV} :
    ∀ (x0 : Int) (x1 : Int) (x2 : Int) (V : sj_VV), g_X9_isCircle N x0 x1 x2 V = some q → sj_T X m_X9_isCircle s0 (some (sj_i q.1), (g, q.2)) 0 [some (sj_i x0), some (sj_i x1), some (sj_i x2)] [] (g, V) := by
  intro x0 x1 x2 V  h
  unfold g_X9_isCircle at h
  refine r_iload_n (pc := 0) dX9_isCircle_0 rfl rfl ?_
  refine r_i2l (pc := 1) h dX9_isCircle_1 (fun v1 h => ?_)
  refine r_ldc2 (n := -50) (pc := 2) dX9_isCircle_2 kc_X9_186 ?_
  refine r_ldc2 (n := 450) (pc := 5) dX9_isCircle_5 kc_X9_188 ?_
  refine r_callSs (pc := 8) (fun v => some (sj_i v)) (As := [sj_j v1, sj_j ((-50)), sj_j 450]) (rest := []) h dX9_isCircle_8 mw_X9_57 kw_1225 (fun _ _ hc => cg_X9_isIn  hc) rfl ⟨(Nat.le_of_ble_eq_true rfl), (Nat.le_of_ble_eq_true rfl)⟩ (Nat.le_of_ble_eq_true rfl) rfl (fun v3 V2 h => ?_)
  refine r_if_eq (pc := 11) (tgt := 44) h dX9_isCircle_11 (by decide) (fun h => ?_) (fun h => ?_)
  · refine r_iconst (pc := 44) dX9_isCircle_44 ?_
    exact r_zrets (pc := 45) h rfl dX9_isCircle_45
  · refine r_iload_n (pc := 14) dX9_isCircle_14 rfl rfl ?_
    refine r_i2l (pc := 15) h dX9_isCircle_15 (fun v4 h => ?_)
    refine r_ldc2 (n := -50) (pc := 16) dX9_isCircle_16 kc_X9_186 ?_
    refine r_ldc2 (n := 450) (pc := 19) dX9_isCircle_19 kc_X9_188 ?_
    refine r_callSs (pc := 22) (fun v => some (sj_i v)) (As := [sj_j v4, sj_j ((-50)), sj_j 450]) (rest := []) h dX9_isCircle_22 mw_X9_57 kw_1225 (fun _ _ hc => cg_X9_isIn  hc) rfl ⟨(Nat.le_of_ble_eq_true rfl), (Nat.le_of_ble_eq_true rfl)⟩ (Nat.le_of_ble_eq_true rfl) rfl (fun v6 V5 h => ?_)
    refine r_if_eq (pc := 25) (tgt := 44) h dX9_isCircle_25 (by decide) (fun h => ?_) (fun h => ?_)
    · refine r_iconst (pc := 44) dX9_isCircle_44 ?_
      exact r_zrets (pc := 45) h rfl dX9_isCircle_45
    · refine r_iload_n (pc := 28) dX9_isCircle_28 rfl rfl ?_
      refine r_i2l (pc := 29) h dX9_isCircle_29 (fun v7 h => ?_)
      refine r_lconst1 (pc := 30) dX9_isCircle_30 ?_
      refine r_ldc2 (n := 500) (pc := 31) dX9_isCircle_31 kc_X9_80 ?_
      refine r_callSs (pc := 34) (fun v => some (sj_i v)) (As := [sj_j v7, sj_j 1, sj_j 500]) (rest := []) h dX9_isCircle_34 mw_X9_57 kw_1225 (fun _ _ hc => cg_X9_isIn  hc) rfl ⟨(Nat.le_of_ble_eq_true rfl), (Nat.le_of_ble_eq_true rfl)⟩ (Nat.le_of_ble_eq_true rfl) rfl (fun v9 V8 h => ?_)
      refine r_if_eq (pc := 37) (tgt := 44) h dX9_isCircle_37 (by decide) (fun h => ?_) (fun h => ?_)
      · refine r_iconst (pc := 44) dX9_isCircle_44 ?_
        exact r_zrets (pc := 45) h rfl dX9_isCircle_45
      · refine r_iconst (pc := 40) dX9_isCircle_40 ?_
        refine r_goto (pc := 41) (tgt := 45) dX9_isCircle_41 (by decide) ?_
        exact r_zrets (pc := 45) h rfl dX9_isCircle_45
set_option maxHeartbeats 4000000 in
theorem cg_X9_isCircle {X : sj_X} {g : sj_G} {N : Nat} {x0 : Int} {x1 : Int} {x2 : Int} {V : sj_VV} {q : Int × sj_VV} (h : g_X9_isCircle N x0 x1 x2 V = some q) : sj_C X m_X9_isCircle [sj_i x0, sj_i x1, sj_i x2] (g, V) (some (sj_i q.1), (g, q.2)) :=
  sj_C_of (by decide +kernel) (Nat.le_of_ble_eq_true rfl) (lo := [some (sj_i x0), some (sj_i x1), some (sj_i x2)]) rfl (sj_weak (l2 := [some (sj_i x0), some (sj_i x1), some (sj_i x2)]) (⟨rfl, ⟨rfl, ⟨rfl, trivial⟩⟩⟩) (st_X9_isCircle_0 x0 x1 x2 V h))
set_option maxHeartbeats 4000000 in
theorem c_X9_isCircle {X : sj_X} {N : Nat} {x0 : Int} {x1 : Int} {x2 : Int} {s : sj_Mem} {q : Int × sj_Mem} (h : f_X9_isCircle N x0 x1 x2 s = some q) : sj_C X m_X9_isCircle [sj_i x0, sj_i x1, sj_i x2] s (some (sj_i q.1), q.2) := by
  obtain ⟨g, V⟩ := s
  unfold f_X9_isCircle at h
  obtain ⟨ho, h1⟩ := e_ok_some h
  obtain ⟨q2, h2, rfl⟩ := sj_map_some h1
  exact cg_X9_isCircle  h2
theorem dX9_root_0 : decode cX9_root 0 = .ok (.iconst 0, 1) := by decide +kernel
theorem dX9_root_1 : decode cX9_root 1 = .ok (.istore_n 1, 1) := by decide +kernel
theorem dX9_root_2 : decode cX9_root 2 = .ok (.iload_n 1, 1) := by decide +kernel
theorem dX9_root_3 : decode cX9_root 3 = .ok (.iconst 1, 1) := by decide +kernel
theorem dX9_root_4 : decode cX9_root 4 = .ok (.iadd, 1) := by decide +kernel
theorem dX9_root_5 : decode cX9_root 5 = .ok (.iload_n 1, 1) := by decide +kernel
theorem dX9_root_6 : decode cX9_root 6 = .ok (.iconst 1, 1) := by decide +kernel
theorem dX9_root_7 : decode cX9_root 7 = .ok (.iadd, 1) := by decide +kernel
theorem dX9_root_8 : decode cX9_root 8 = .ok (.imul, 1) := by decide +kernel
theorem dX9_root_9 : decode cX9_root 9 = .ok (.iload_n 0, 1) := by decide +kernel
theorem dX9_root_10 : decode cX9_root 10 = .ok (.if_icmp .gt 9, 3) := by decide +kernel
theorem dX9_root_13 : decode cX9_root 13 = .ok (.iinc 1 1, 3) := by decide +kernel
theorem dX9_root_16 : decode cX9_root 16 = .ok (.goto (-14), 3) := by decide +kernel
theorem dX9_root_19 : decode cX9_root 19 = .ok (.iload_n 1, 1) := by decide +kernel
theorem dX9_root_20 : decode cX9_root 20 = .ok (.ireturn, 1) := by decide +kernel
set_option maxHeartbeats 4000000 in
theorem st_X9_root_2_b {X : sj_X} {g : sj_G} {s0 : sj_Mem} {N : Nat} {q : Int × sj_VV} {k2 : Int → Int → sj_VV → Option (Int × sj_VV)} (hk2 : ∀ (x0 : Int) (x1 : Int) (V : sj_VV), k2 x0 x1 V = some q → sj_T X m_X9_root s0 (some (sj_i q.1), (g, q.2)) 2 [some (sj_i x0), some (sj_i x1)] [] (g, V)) :
    ∀ (x0 : Int) (x1 : Int) (V : sj_VV), g_X9_root_2_b N k2 x0 x1 V = some q → sj_T X m_X9_root s0 (some (sj_i q.1), (g, q.2)) 2 [some (sj_i x0), some (sj_i x1)] [] (g, V) := by
  intro x0 x1 V  h
  unfold g_X9_root_2_b at h
  refine r_iload_n (pc := 2) dX9_root_2 rfl rfl ?_
  refine r_iconst (pc := 3) dX9_root_3 ?_
  refine r_iadd (pc := 4) dX9_root_4 ?_
  refine r_iload_n (pc := 5) dX9_root_5 rfl rfl ?_
  refine r_iconst (pc := 6) dX9_root_6 ?_
  refine r_iadd (pc := 7) dX9_root_7 ?_
  refine r_imul (pc := 8) dX9_root_8 ?_
  refine r_iload_n (pc := 9) dX9_root_9 rfl rfl ?_
  refine r_icmp_gt (pc := 10) (tgt := 19) h dX9_root_10 (by decide) (fun h => ?_) (fun h => ?_)
  · refine r_iload_n (pc := 19) dX9_root_19 rfl rfl ?_
    exact r_irets (pc := 20) h rfl dX9_root_20
  · refine r_iinc (ln := fun w => [some (sj_i x0), some (sj_i w)]) (pc := 13) h dX9_root_13 rfl (Nat.le_of_ble_eq_true rfl) (fun _ => rfl) (fun v1 h => ?_)
    refine r_goto (pc := 16) (tgt := 2) dX9_root_16 (by decide) ?_
    exact sj_weak (l2 := [some (sj_i x0), some (sj_i v1)]) (⟨rfl, ⟨rfl, trivial⟩⟩) (hk2 x0 v1 V h)
set_option maxHeartbeats 4000000 in
theorem st_X9_root_2 {X : sj_X} {g : sj_G} {s0 : sj_Mem} {N : Nat} {q : Int × sj_VV} :
    ∀ (n : Nat) (x0 : Int) (x1 : Int) (V : sj_VV), g_X9_root_2 N n x0 x1 V = some q → sj_T X m_X9_root s0 (some (sj_i q.1), (g, q.2)) 2 [some (sj_i x0), some (sj_i x1)] [] (g, V) := by
  intro n
  induction n with
  | zero => intro x0 x1 V  h; exact nomatch h
  | succ n ih => intro x0 x1 V  h; exact st_X9_root_2_b (N := N) ih x0 x1 V  h
set_option maxHeartbeats 4000000 in
theorem st_X9_root_0 {X : sj_X} {g : sj_G} {s0 : sj_Mem} {N : Nat} {q : Int × sj_VV} :
    ∀ (x0 : Int) (V : sj_VV), g_X9_root N x0 V = some q → sj_T X m_X9_root s0 (some (sj_i q.1), (g, q.2)) 0 [some (sj_i x0), none] [] (g, V) := by
  intro x0 V  h
  unfold g_X9_root at h
  refine r_iconst (pc := 0) dX9_root_0 ?_
  refine r_istore_n (ln := [some (sj_i x0), some (sj_i 0)]) (pc := 1) dX9_root_1 rfl (Nat.le_of_ble_eq_true rfl) rfl ?_
  exact sj_weak (l2 := [some (sj_i x0), some (sj_i 0)]) (⟨rfl, ⟨rfl, trivial⟩⟩) (st_X9_root_2 N x0 0 V h)
set_option maxHeartbeats 4000000 in
theorem cg_X9_root {X : sj_X} {g : sj_G} {N : Nat} {x0 : Int} {V : sj_VV} {q : Int × sj_VV} (h : g_X9_root N x0 V = some q) : sj_C X m_X9_root [sj_i x0] (g, V) (some (sj_i q.1), (g, q.2)) :=
  sj_C_of (by decide +kernel) (Nat.le_of_ble_eq_true rfl) (lo := [some (sj_i x0), none]) rfl (sj_weak (l2 := [some (sj_i x0), none]) (⟨rfl, trivial⟩) (st_X9_root_0 x0 V h))
set_option maxHeartbeats 4000000 in
theorem c_X9_root {X : sj_X} {N : Nat} {x0 : Int} {s : sj_Mem} {q : Int × sj_Mem} (h : f_X9_root N x0 s = some q) : sj_C X m_X9_root [sj_i x0] s (some (sj_i q.1), q.2) := by
  obtain ⟨g, V⟩ := s
  unfold f_X9_root at h
  obtain ⟨ho, h1⟩ := e_ok_some h
  obtain ⟨q2, h2, rfl⟩ := sj_map_some h1
  exact cg_X9_root  h2
theorem dX9_isBelow_0 : decode cX9_isBelow 0 = .ok (.aload_n 0, 1) := by decide +kernel
theorem dX9_isBelow_1 : decode cX9_isBelow 1 = .ok (.getfield 9, 3) := by decide +kernel
theorem dX9_isBelow_4 : decode cX9_isBelow 4 = .ok (.iconst 1, 1) := by decide +kernel
theorem dX9_isBelow_5 : decode cX9_isBelow 5 = .ok (.iaload, 1) := by decide +kernel
theorem dX9_isBelow_6 : decode cX9_isBelow 6 = .ok (.iload_n 1, 1) := by decide +kernel
theorem dX9_isBelow_7 : decode cX9_isBelow 7 = .ok (.imul, 1) := by decide +kernel
theorem dX9_isBelow_8 : decode cX9_isBelow 8 = .ok (.iload_n 2, 1) := by decide +kernel
theorem dX9_isBelow_9 : decode cX9_isBelow 9 = .ok (.isub, 1) := by decide +kernel
theorem dX9_isBelow_10 : decode cX9_isBelow 10 = .ok (.istore 5, 2) := by decide +kernel
theorem dX9_isBelow_12 : decode cX9_isBelow 12 = .ok (.iload 4, 2) := by decide +kernel
theorem dX9_isBelow_14 : decode cX9_isBelow 14 = .ok (.iload 4, 2) := by decide +kernel
theorem dX9_isBelow_16 : decode cX9_isBelow 16 = .ok (.imul, 1) := by decide +kernel
theorem dX9_isBelow_17 : decode cX9_isBelow 17 = .ok (.iload 5, 2) := by decide +kernel
theorem dX9_isBelow_19 : decode cX9_isBelow 19 = .ok (.iload 5, 2) := by decide +kernel
theorem dX9_isBelow_21 : decode cX9_isBelow 21 = .ok (.imul, 1) := by decide +kernel
theorem dX9_isBelow_22 : decode cX9_isBelow 22 = .ok (.isub, 1) := by decide +kernel
theorem dX9_isBelow_23 : decode cX9_isBelow 23 = .ok (.istore 6, 2) := by decide +kernel
theorem dX9_isBelow_25 : decode cX9_isBelow 25 = .ok (.iload 6, 2) := by decide +kernel
theorem dX9_isBelow_27 : decode cX9_isBelow 27 = .ok (.ifCond .ge 5, 3) := by decide +kernel
theorem dX9_isBelow_30 : decode cX9_isBelow 30 = .ok (.iconst 0, 1) := by decide +kernel
theorem dX9_isBelow_31 : decode cX9_isBelow 31 = .ok (.ireturn, 1) := by decide +kernel
theorem dX9_isBelow_32 : decode cX9_isBelow 32 = .ok (.aload_n 0, 1) := by decide +kernel
theorem dX9_isBelow_33 : decode cX9_isBelow 33 = .ok (.getfield 26, 3) := by decide +kernel
theorem dX9_isBelow_36 : decode cX9_isBelow 36 = .ok (.iload_n 1, 1) := by decide +kernel
theorem dX9_isBelow_37 : decode cX9_isBelow 37 = .ok (.iload_n 3, 1) := by decide +kernel
theorem dX9_isBelow_38 : decode cX9_isBelow 38 = .ok (.iload 6, 2) := by decide +kernel
theorem dX9_isBelow_40 : decode cX9_isBelow 40 = .ok (.invokestatic 190, 3) := by decide +kernel
theorem dX9_isBelow_43 : decode cX9_isBelow 43 = .ok (.isub, 1) := by decide +kernel
theorem dX9_isBelow_44 : decode cX9_isBelow 44 = .ok (.aload_n 0, 1) := by decide +kernel
theorem dX9_isBelow_45 : decode cX9_isBelow 45 = .ok (.getfield 9, 3) := by decide +kernel
theorem dX9_isBelow_48 : decode cX9_isBelow 48 = .ok (.bipush 44, 2) := by decide +kernel
theorem dX9_isBelow_50 : decode cX9_isBelow 50 = .ok (.iload_n 1, 1) := by decide +kernel
theorem dX9_isBelow_51 : decode cX9_isBelow 51 = .ok (.iadd, 1) := by decide +kernel
theorem dX9_isBelow_52 : decode cX9_isBelow 52 = .ok (.iaload, 1) := by decide +kernel
theorem dX9_isBelow_53 : decode cX9_isBelow 53 = .ok (.invokestatic 111, 3) := by decide +kernel
theorem dX9_isBelow_56 : decode cX9_isBelow 56 = .ok (.iastore, 1) := by decide +kernel
theorem dX9_isBelow_57 : decode cX9_isBelow 57 = .ok (.aload_n 0, 1) := by decide +kernel
theorem dX9_isBelow_58 : decode cX9_isBelow 58 = .ok (.getfield 26, 3) := by decide +kernel
theorem dX9_isBelow_61 : decode cX9_isBelow 61 = .ok (.iload_n 1, 1) := by decide +kernel
theorem dX9_isBelow_62 : decode cX9_isBelow 62 = .ok (.iaload, 1) := by decide +kernel
theorem dX9_isBelow_63 : decode cX9_isBelow 63 = .ok (.aload_n 0, 1) := by decide +kernel
theorem dX9_isBelow_64 : decode cX9_isBelow 64 = .ok (.getfield 9, 3) := by decide +kernel
theorem dX9_isBelow_67 : decode cX9_isBelow 67 = .ok (.iconst 3, 1) := by decide +kernel
theorem dX9_isBelow_68 : decode cX9_isBelow 68 = .ok (.iload_n 1, 1) := by decide +kernel
theorem dX9_isBelow_69 : decode cX9_isBelow 69 = .ok (.iadd, 1) := by decide +kernel
theorem dX9_isBelow_70 : decode cX9_isBelow 70 = .ok (.iaload, 1) := by decide +kernel
theorem dX9_isBelow_71 : decode cX9_isBelow 71 = .ok (.if_icmp .ge 7, 3) := by decide +kernel
theorem dX9_isBelow_74 : decode cX9_isBelow 74 = .ok (.iconst 1, 1) := by decide +kernel
theorem dX9_isBelow_75 : decode cX9_isBelow 75 = .ok (.goto 4, 3) := by decide +kernel
theorem dX9_isBelow_78 : decode cX9_isBelow 78 = .ok (.iconst 0, 1) := by decide +kernel
theorem dX9_isBelow_79 : decode cX9_isBelow 79 = .ok (.ireturn, 1) := by decide +kernel
set_option maxHeartbeats 4000000 in
theorem st_X9_isBelow_0 {X : sj_X} {g : sj_G} {s0 : sj_Mem} {N : Nat} {q : Int × sj_VV} :
    ∀ (a0 : Nat) (x1 : Int) (x2 : Int) (x3 : Int) (x4 : Int) (V : sj_VV), OK9 g a0 → g_X9_isBelow N a0 x1 x2 x3 x4 V = some q → sj_T X m_X9_isBelow s0 (some (sj_i q.1), (g, q.2)) 0 [some (sj_r (some a0)), some (sj_i x1), some (sj_i x2), some (sj_i x3), some (sj_i x4), none, none] [] (g, V) := by
  intro a0 x1 x2 x3 x4 V ha0 h
  unfold g_X9_isBelow at h
  refine r_aload_n (pc := 0) dX9_isBelow_0 rfl rfl ?_
  refine r_gRs (b := a0 + 1) (pc := 1) dX9_isBelow_1 fw_X9_9 rfl (ok9 ha0) (ok9_0 ha0).1 ?_
  refine r_iconst (pc := 4) dX9_isBelow_4 ?_
  refine r_ialoads (pc := 5) h dX9_isBelow_5 (ok9_0 ha0).2 (fun h => ?_)
  refine r_iload_n (pc := 6) dX9_isBelow_6 rfl rfl ?_
  refine r_imul (pc := 7) dX9_isBelow_7 ?_
  refine r_iload_n (pc := 8) dX9_isBelow_8 rfl rfl ?_
  refine r_isub (pc := 9) dX9_isBelow_9 ?_
  refine r_istoreL (ln := fun w => [some (sj_r (some a0)), some (sj_i x1), some (sj_i x2), some (sj_i x3), some (sj_i x4), some (sj_i w), none]) (pc := 10) h dX9_isBelow_10 (Nat.le_of_ble_eq_true rfl) (fun _ => rfl) (fun v1 h => ?_)
  refine r_iload (pc := 12) dX9_isBelow_12 rfl ?_
  refine r_iload (pc := 14) dX9_isBelow_14 rfl ?_
  refine r_imul (pc := 16) dX9_isBelow_16 ?_
  refine r_iload (pc := 17) dX9_isBelow_17 rfl ?_
  refine r_iload (pc := 19) dX9_isBelow_19 rfl ?_
  refine r_imul (pc := 21) dX9_isBelow_21 ?_
  refine r_isub (pc := 22) dX9_isBelow_22 ?_
  refine r_istoreL (ln := fun w => [some (sj_r (some a0)), some (sj_i x1), some (sj_i x2), some (sj_i x3), some (sj_i x4), some (sj_i v1), some (sj_i w)]) (pc := 23) h dX9_isBelow_23 (Nat.le_of_ble_eq_true rfl) (fun _ => rfl) (fun v2 h => ?_)
  refine r_iload (pc := 25) dX9_isBelow_25 rfl ?_
  refine r_if_ge (pc := 27) (tgt := 32) h dX9_isBelow_27 (by decide) (fun h => ?_) (fun h => ?_)
  · refine r_aload_n (pc := 32) dX9_isBelow_32 rfl rfl ?_
    refine r_gRs (b := a0 + 5) (pc := 33) dX9_isBelow_33 fw_X9_26 rfl (ok9 ha0) (ok9_16 ha0).1 ?_
    refine r_iload_n (pc := 36) dX9_isBelow_36 rfl rfl ?_
    refine r_iload_n (pc := 37) dX9_isBelow_37 rfl rfl ?_
    refine r_iload (pc := 38) dX9_isBelow_38 rfl ?_
    refine r_callSs (pc := 40) (fun v => some (sj_i v)) (As := [sj_i v2]) (rest := [(sj_i x3), (sj_i x1), (sj_r (some (a0 + 5)))]) h dX9_isBelow_40 mw_X9_190 kw_1297 (fun _ _ hc => cg_X9_root  hc) rfl ⟨(Nat.le_of_ble_eq_true rfl), (Nat.le_of_ble_eq_true rfl)⟩ (Nat.le_of_ble_eq_true rfl) rfl (fun v4 V3 h => ?_)
    refine r_isub (pc := 43) dX9_isBelow_43 ?_
    refine r_aload_n (pc := 44) dX9_isBelow_44 rfl rfl ?_
    refine r_gRs (b := a0 + 1) (pc := 45) dX9_isBelow_45 fw_X9_9 rfl (ok9 ha0) (ok9_0 ha0).1 ?_
    refine r_bipush (pc := 48) dX9_isBelow_48 ⟨by decide, by decide⟩ ?_
    refine r_iload_n (pc := 50) dX9_isBelow_50 rfl rfl ?_
    refine r_iadd (pc := 51) dX9_isBelow_51 ?_
    refine r_ialoads (pc := 52) h dX9_isBelow_52 (ok9_0 ha0).2 (fun h => ?_)
    refine r_callSs (pc := 53) (fun v => some (sj_i v)) (As := [sj_i (x3 - v4), sj_i (V3 (a0 + 1) (44 + x1).toNat)]) (rest := [(sj_i x1), (sj_r (some (a0 + 5)))]) h dX9_isBelow_53 mw_X9_111 kw_1300 (fun _ _ hc => cg_X9_most  hc) rfl ⟨(Nat.le_of_ble_eq_true rfl), (Nat.le_of_ble_eq_true rfl)⟩ (Nat.le_of_ble_eq_true rfl) rfl (fun v6 V5 h => ?_)
    refine r_iastores (pc := 56) h dX9_isBelow_56 (ok9_16 ha0).2 (fun V7 h => ?_)
    refine r_aload_n (pc := 57) dX9_isBelow_57 rfl rfl ?_
    refine r_gRs (b := a0 + 5) (pc := 58) dX9_isBelow_58 fw_X9_26 rfl (ok9 ha0) (ok9_16 ha0).1 ?_
    refine r_iload_n (pc := 61) dX9_isBelow_61 rfl rfl ?_
    refine r_ialoads (pc := 62) h dX9_isBelow_62 (ok9_16 ha0).2 (fun h => ?_)
    refine r_aload_n (pc := 63) dX9_isBelow_63 rfl rfl ?_
    refine r_gRs (b := a0 + 1) (pc := 64) dX9_isBelow_64 fw_X9_9 rfl (ok9 ha0) (ok9_0 ha0).1 ?_
    refine r_iconst (pc := 67) dX9_isBelow_67 ?_
    refine r_iload_n (pc := 68) dX9_isBelow_68 rfl rfl ?_
    refine r_iadd (pc := 69) dX9_isBelow_69 ?_
    refine r_ialoads (pc := 70) h dX9_isBelow_70 (ok9_0 ha0).2 (fun h => ?_)
    refine r_icmp_ge (pc := 71) (tgt := 78) h dX9_isBelow_71 (by decide) (fun h => ?_) (fun h => ?_)
    · refine r_iconst (pc := 78) dX9_isBelow_78 ?_
      exact r_zrets (pc := 79) h rfl dX9_isBelow_79
    · refine r_iconst (pc := 74) dX9_isBelow_74 ?_
      refine r_goto (pc := 75) (tgt := 79) dX9_isBelow_75 (by decide) ?_
      exact r_zrets (pc := 79) h rfl dX9_isBelow_79
  · refine r_iconst (pc := 30) dX9_isBelow_30 ?_
    exact r_zrets (pc := 31) h rfl dX9_isBelow_31
set_option maxHeartbeats 4000000 in
theorem cg_X9_isBelow {X : sj_X} {g : sj_G} {N : Nat} {a0 : Nat} {x1 : Int} {x2 : Int} {x3 : Int} {x4 : Int} {V : sj_VV} {q : Int × sj_VV} (ha0 : OK9 g a0) (h : g_X9_isBelow N a0 x1 x2 x3 x4 V = some q) : sj_C X m_X9_isBelow [sj_r (some a0), sj_i x1, sj_i x2, sj_i x3, sj_i x4] (g, V) (some (sj_i q.1), (g, q.2)) :=
  sj_C_of (by decide +kernel) (Nat.le_of_ble_eq_true rfl) (lo := [some (sj_r (some a0)), some (sj_i x1), some (sj_i x2), some (sj_i x3), some (sj_i x4), none, none]) rfl (sj_weak (l2 := [some (sj_r (some a0)), some (sj_i x1), some (sj_i x2), some (sj_i x3), some (sj_i x4), none, none]) (⟨rfl, ⟨rfl, ⟨rfl, ⟨rfl, ⟨rfl, trivial⟩⟩⟩⟩⟩) (st_X9_isBelow_0 a0 x1 x2 x3 x4 V ha0 h))
set_option maxHeartbeats 4000000 in
theorem c_X9_isBelow {X : sj_X} {N : Nat} {a0 : Nat} {x1 : Int} {x2 : Int} {x3 : Int} {x4 : Int} {s : sj_Mem} {q : Int × sj_Mem} (h : f_X9_isBelow N a0 x1 x2 x3 x4 s = some q) : sj_C X m_X9_isBelow [sj_r (some a0), sj_i x1, sj_i x2, sj_i x3, sj_i x4] s (some (sj_i q.1), q.2) := by
  obtain ⟨g, V⟩ := s
  unfold f_X9_isBelow at h
  obtain ⟨ho, h1⟩ := e_ok_some h
  obtain ⟨q2, h2, rfl⟩ := sj_map_some h1
  exact cg_X9_isBelow ho h2
theorem dX9_cuts_0 : decode cX9_cuts 0 = .ok (.iconst 0, 1) := by decide +kernel
theorem dX9_cuts_1 : decode cX9_cuts 1 = .ok (.istore 5, 2) := by decide +kernel
theorem dX9_cuts_3 : decode cX9_cuts 3 = .ok (.iload 5, 2) := by decide +kernel
theorem dX9_cuts_5 : decode cX9_cuts 5 = .ok (.aload_n 0, 1) := by decide +kernel
theorem dX9_cuts_6 : decode cX9_cuts 6 = .ok (.getfield 9, 3) := by decide +kernel
theorem dX9_cuts_9 : decode cX9_cuts 9 = .ok (.iconst 0, 1) := by decide +kernel
theorem dX9_cuts_10 : decode cX9_cuts 10 = .ok (.iaload, 1) := by decide +kernel
theorem dX9_cuts_11 : decode cX9_cuts 11 = .ok (.if_icmp .gt 21, 3) := by decide +kernel
theorem dX9_cuts_14 : decode cX9_cuts 14 = .ok (.aload_n 0, 1) := by decide +kernel
theorem dX9_cuts_15 : decode cX9_cuts 15 = .ok (.iload 5, 2) := by decide +kernel
theorem dX9_cuts_17 : decode cX9_cuts 17 = .ok (.iload_n 1, 1) := by decide +kernel
theorem dX9_cuts_18 : decode cX9_cuts 18 = .ok (.iload_n 2, 1) := by decide +kernel
theorem dX9_cuts_19 : decode cX9_cuts 19 = .ok (.iload_n 3, 1) := by decide +kernel
theorem dX9_cuts_20 : decode cX9_cuts 20 = .ok (.invokevirtual 193, 3) := by decide +kernel
theorem dX9_cuts_23 : decode cX9_cuts 23 = .ok (.ifCond .ne 9, 3) := by decide +kernel
theorem dX9_cuts_26 : decode cX9_cuts 26 = .ok (.iinc 5 1, 3) := by decide +kernel
theorem dX9_cuts_29 : decode cX9_cuts 29 = .ok (.goto (-26), 3) := by decide +kernel
theorem dX9_cuts_32 : decode cX9_cuts 32 = .ok (.iload 5, 2) := by decide +kernel
theorem dX9_cuts_34 : decode cX9_cuts 34 = .ok (.ifCond .eq 14, 3) := by decide +kernel
theorem dX9_cuts_37 : decode cX9_cuts 37 = .ok (.iload 5, 2) := by decide +kernel
theorem dX9_cuts_39 : decode cX9_cuts 39 = .ok (.aload_n 0, 1) := by decide +kernel
theorem dX9_cuts_40 : decode cX9_cuts 40 = .ok (.getfield 9, 3) := by decide +kernel
theorem dX9_cuts_43 : decode cX9_cuts 43 = .ok (.iconst 0, 1) := by decide +kernel
theorem dX9_cuts_44 : decode cX9_cuts 44 = .ok (.iaload, 1) := by decide +kernel
theorem dX9_cuts_45 : decode cX9_cuts 45 = .ok (.if_icmp .le 5, 3) := by decide +kernel
theorem dX9_cuts_48 : decode cX9_cuts 48 = .ok (.iconst 0, 1) := by decide +kernel
theorem dX9_cuts_49 : decode cX9_cuts 49 = .ok (.ireturn, 1) := by decide +kernel
theorem dX9_cuts_50 : decode cX9_cuts 50 = .ok (.iload 5, 2) := by decide +kernel
theorem dX9_cuts_52 : decode cX9_cuts 52 = .ok (.istore 6, 2) := by decide +kernel
theorem dX9_cuts_54 : decode cX9_cuts 54 = .ok (.iload 6, 2) := by decide +kernel
theorem dX9_cuts_56 : decode cX9_cuts 56 = .ok (.aload_n 0, 1) := by decide +kernel
theorem dX9_cuts_57 : decode cX9_cuts 57 = .ok (.getfield 9, 3) := by decide +kernel
theorem dX9_cuts_60 : decode cX9_cuts 60 = .ok (.iconst 0, 1) := by decide +kernel
theorem dX9_cuts_61 : decode cX9_cuts 61 = .ok (.iaload, 1) := by decide +kernel
theorem dX9_cuts_62 : decode cX9_cuts 62 = .ok (.if_icmp .gt 21, 3) := by decide +kernel
theorem dX9_cuts_65 : decode cX9_cuts 65 = .ok (.aload_n 0, 1) := by decide +kernel
theorem dX9_cuts_66 : decode cX9_cuts 66 = .ok (.iload 6, 2) := by decide +kernel
theorem dX9_cuts_68 : decode cX9_cuts 68 = .ok (.iload_n 1, 1) := by decide +kernel
theorem dX9_cuts_69 : decode cX9_cuts 69 = .ok (.iload_n 2, 1) := by decide +kernel
theorem dX9_cuts_70 : decode cX9_cuts 70 = .ok (.iload_n 3, 1) := by decide +kernel
theorem dX9_cuts_71 : decode cX9_cuts 71 = .ok (.invokevirtual 193, 3) := by decide +kernel
theorem dX9_cuts_74 : decode cX9_cuts 74 = .ok (.ifCond .eq 9, 3) := by decide +kernel
theorem dX9_cuts_77 : decode cX9_cuts 77 = .ok (.iinc 6 1, 3) := by decide +kernel
theorem dX9_cuts_80 : decode cX9_cuts 80 = .ok (.goto (-26), 3) := by decide +kernel
theorem dX9_cuts_83 : decode cX9_cuts 83 = .ok (.iload 6, 2) := by decide +kernel
theorem dX9_cuts_85 : decode cX9_cuts 85 = .ok (.aload_n 0, 1) := by decide +kernel
theorem dX9_cuts_86 : decode cX9_cuts 86 = .ok (.getfield 9, 3) := by decide +kernel
theorem dX9_cuts_89 : decode cX9_cuts 89 = .ok (.iconst 0, 1) := by decide +kernel
theorem dX9_cuts_90 : decode cX9_cuts 90 = .ok (.iaload, 1) := by decide +kernel
theorem dX9_cuts_91 : decode cX9_cuts 91 = .ok (.if_icmp .le 5, 3) := by decide +kernel
theorem dX9_cuts_94 : decode cX9_cuts 94 = .ok (.iconst 0, 1) := by decide +kernel
theorem dX9_cuts_95 : decode cX9_cuts 95 = .ok (.ireturn, 1) := by decide +kernel
theorem dX9_cuts_96 : decode cX9_cuts 96 = .ok (.aload_n 0, 1) := by decide +kernel
theorem dX9_cuts_97 : decode cX9_cuts 97 = .ok (.iload 5, 2) := by decide +kernel
theorem dX9_cuts_99 : decode cX9_cuts 99 = .ok (.iconst 1, 1) := by decide +kernel
theorem dX9_cuts_100 : decode cX9_cuts 100 = .ok (.isub, 1) := by decide +kernel
theorem dX9_cuts_101 : decode cX9_cuts 101 = .ok (.putfield 22, 3) := by decide +kernel
theorem dX9_cuts_104 : decode cX9_cuts 104 = .ok (.aload_n 0, 1) := by decide +kernel
theorem dX9_cuts_105 : decode cX9_cuts 105 = .ok (.iload 6, 2) := by decide +kernel
theorem dX9_cuts_107 : decode cX9_cuts 107 = .ok (.putfield 150, 3) := by decide +kernel
theorem dX9_cuts_110 : decode cX9_cuts 110 = .ok (.aload_n 0, 1) := by decide +kernel
theorem dX9_cuts_111 : decode cX9_cuts 111 = .ok (.iload 4, 2) := by decide +kernel
theorem dX9_cuts_113 : decode cX9_cuts 113 = .ok (.putfield 153, 3) := by decide +kernel
theorem dX9_cuts_116 : decode cX9_cuts 116 = .ok (.aload_n 0, 1) := by decide +kernel
theorem dX9_cuts_117 : decode cX9_cuts 117 = .ok (.getfield 26, 3) := by decide +kernel
theorem dX9_cuts_120 : decode cX9_cuts 120 = .ok (.aload_n 0, 1) := by decide +kernel
theorem dX9_cuts_121 : decode cX9_cuts 121 = .ok (.getfield 22, 3) := by decide +kernel
theorem dX9_cuts_124 : decode cX9_cuts 124 = .ok (.aload_n 0, 1) := by decide +kernel
theorem dX9_cuts_125 : decode cX9_cuts 125 = .ok (.getfield 9, 3) := by decide +kernel
theorem dX9_cuts_128 : decode cX9_cuts 128 = .ok (.iconst 3, 1) := by decide +kernel
theorem dX9_cuts_129 : decode cX9_cuts 129 = .ok (.aload_n 0, 1) := by decide +kernel
theorem dX9_cuts_130 : decode cX9_cuts 130 = .ok (.getfield 22, 3) := by decide +kernel
theorem dX9_cuts_133 : decode cX9_cuts 133 = .ok (.iadd, 1) := by decide +kernel
theorem dX9_cuts_134 : decode cX9_cuts 134 = .ok (.iaload, 1) := by decide +kernel
theorem dX9_cuts_135 : decode cX9_cuts 135 = .ok (.iastore, 1) := by decide +kernel
theorem dX9_cuts_136 : decode cX9_cuts 136 = .ok (.aload_n 0, 1) := by decide +kernel
theorem dX9_cuts_137 : decode cX9_cuts 137 = .ok (.getfield 26, 3) := by decide +kernel
theorem dX9_cuts_140 : decode cX9_cuts 140 = .ok (.aload_n 0, 1) := by decide +kernel
theorem dX9_cuts_141 : decode cX9_cuts 141 = .ok (.getfield 150, 3) := by decide +kernel
theorem dX9_cuts_144 : decode cX9_cuts 144 = .ok (.aload_n 0, 1) := by decide +kernel
theorem dX9_cuts_145 : decode cX9_cuts 145 = .ok (.getfield 9, 3) := by decide +kernel
theorem dX9_cuts_148 : decode cX9_cuts 148 = .ok (.iconst 3, 1) := by decide +kernel
theorem dX9_cuts_149 : decode cX9_cuts 149 = .ok (.aload_n 0, 1) := by decide +kernel
theorem dX9_cuts_150 : decode cX9_cuts 150 = .ok (.getfield 150, 3) := by decide +kernel
theorem dX9_cuts_153 : decode cX9_cuts 153 = .ok (.iadd, 1) := by decide +kernel
theorem dX9_cuts_154 : decode cX9_cuts 154 = .ok (.iaload, 1) := by decide +kernel
theorem dX9_cuts_155 : decode cX9_cuts 155 = .ok (.iastore, 1) := by decide +kernel
theorem dX9_cuts_156 : decode cX9_cuts 156 = .ok (.iconst 1, 1) := by decide +kernel
theorem dX9_cuts_157 : decode cX9_cuts 157 = .ok (.ireturn, 1) := by decide +kernel
set_option maxHeartbeats 4000000 in
theorem st_X9_cuts_83 {X : sj_X} {g : sj_G} {s0 : sj_Mem} {N : Nat} {q : Int × sj_VV} :
    ∀ (a0 : Nat) (x4 : Int) (x5 : Int) (x6 : Int) (V : sj_VV), OK9 g a0 → g_X9_cuts_83 N a0 x4 x5 x6 V = some q → sj_T X m_X9_cuts s0 (some (sj_i q.1), (g, q.2)) 83 [some (sj_r (some a0)), none, none, none, some (sj_i x4), some (sj_i x5), some (sj_i x6)] [] (g, V) := by
  intro a0 x4 x5 x6 V ha0 h
  unfold g_X9_cuts_83 at h
  refine r_iload (pc := 83) dX9_cuts_83 rfl ?_
  refine r_aload_n (pc := 85) dX9_cuts_85 rfl rfl ?_
  refine r_gRs (b := a0 + 1) (pc := 86) dX9_cuts_86 fw_X9_9 rfl (ok9 ha0) (ok9_0 ha0).1 ?_
  refine r_iconst (pc := 89) dX9_cuts_89 ?_
  refine r_ialoads (pc := 90) h dX9_cuts_90 (ok9_0 ha0).2 (fun h => ?_)
  refine r_icmp_le (pc := 91) (tgt := 96) h dX9_cuts_91 (by decide) (fun h => ?_) (fun h => ?_)
  · refine r_aload_n (pc := 96) dX9_cuts_96 rfl rfl ?_
    refine r_iload (pc := 97) dX9_cuts_97 rfl ?_
    refine r_iconst (pc := 99) dX9_cuts_99 ?_
    refine r_isub (pc := 100) dX9_cuts_100 ?_
    refine r_pIs (pc := 101) h dX9_cuts_101 fw_X9_22 rfl rfl (nf9_13) (ok9 ha0) (fun V1 h => ?_)
    refine r_aload_n (pc := 104) dX9_cuts_104 rfl rfl ?_
    refine r_iload (pc := 105) dX9_cuts_105 rfl ?_
    refine r_pIs (pc := 107) h dX9_cuts_107 fw_X9_150 rfl rfl (nf9_14) (ok9 ha0) (fun V2 h => ?_)
    refine r_aload_n (pc := 110) dX9_cuts_110 rfl rfl ?_
    refine r_iload (pc := 111) dX9_cuts_111 rfl ?_
    refine r_pZs (pc := 113) h dX9_cuts_113 fw_X9_153 rfl rfl (nf9_15) (ok9 ha0) (fun V3 h => ?_)
    refine r_aload_n (pc := 116) dX9_cuts_116 rfl rfl ?_
    refine r_gRs (b := a0 + 5) (pc := 117) dX9_cuts_117 fw_X9_26 rfl (ok9 ha0) (ok9_16 ha0).1 ?_
    refine r_aload_n (pc := 120) dX9_cuts_120 rfl rfl ?_
    refine r_gIs (pc := 121) dX9_cuts_121 fw_X9_22 rfl (ok9 ha0) ?_
    refine r_aload_n (pc := 124) dX9_cuts_124 rfl rfl ?_
    refine r_gRs (b := a0 + 1) (pc := 125) dX9_cuts_125 fw_X9_9 rfl (ok9 ha0) (ok9_0 ha0).1 ?_
    refine r_iconst (pc := 128) dX9_cuts_128 ?_
    refine r_aload_n (pc := 129) dX9_cuts_129 rfl rfl ?_
    refine r_gIs (pc := 130) dX9_cuts_130 fw_X9_22 rfl (ok9 ha0) ?_
    refine r_iadd (pc := 133) dX9_cuts_133 ?_
    refine r_ialoads (pc := 134) h dX9_cuts_134 (ok9_0 ha0).2 (fun h => ?_)
    refine r_iastores (pc := 135) h dX9_cuts_135 (ok9_16 ha0).2 (fun V4 h => ?_)
    refine r_aload_n (pc := 136) dX9_cuts_136 rfl rfl ?_
    refine r_gRs (b := a0 + 5) (pc := 137) dX9_cuts_137 fw_X9_26 rfl (ok9 ha0) (ok9_16 ha0).1 ?_
    refine r_aload_n (pc := 140) dX9_cuts_140 rfl rfl ?_
    refine r_gIs (pc := 141) dX9_cuts_141 fw_X9_150 rfl (ok9 ha0) ?_
    refine r_aload_n (pc := 144) dX9_cuts_144 rfl rfl ?_
    refine r_gRs (b := a0 + 1) (pc := 145) dX9_cuts_145 fw_X9_9 rfl (ok9 ha0) (ok9_0 ha0).1 ?_
    refine r_iconst (pc := 148) dX9_cuts_148 ?_
    refine r_aload_n (pc := 149) dX9_cuts_149 rfl rfl ?_
    refine r_gIs (pc := 150) dX9_cuts_150 fw_X9_150 rfl (ok9 ha0) ?_
    refine r_iadd (pc := 153) dX9_cuts_153 ?_
    refine r_ialoads (pc := 154) h dX9_cuts_154 (ok9_0 ha0).2 (fun h => ?_)
    refine r_iastores (pc := 155) h dX9_cuts_155 (ok9_16 ha0).2 (fun V5 h => ?_)
    refine r_iconst (pc := 156) dX9_cuts_156 ?_
    exact r_zrets (pc := 157) h rfl dX9_cuts_157
  · refine r_iconst (pc := 94) dX9_cuts_94 ?_
    exact r_zrets (pc := 95) h rfl dX9_cuts_95
set_option maxHeartbeats 4000000 in
theorem st_X9_cuts_54_b {X : sj_X} {g : sj_G} {s0 : sj_Mem} {N : Nat} {q : Int × sj_VV} {k54 : Nat → Int → Int → Int → Int → Int → Int → sj_VV → Option (Int × sj_VV)} (hk54 : ∀ (a0 : Nat) (x1 : Int) (x2 : Int) (x3 : Int) (x4 : Int) (x5 : Int) (x6 : Int) (V : sj_VV), OK9 g a0 → k54 a0 x1 x2 x3 x4 x5 x6 V = some q → sj_T X m_X9_cuts s0 (some (sj_i q.1), (g, q.2)) 54 [some (sj_r (some a0)), some (sj_i x1), some (sj_i x2), some (sj_i x3), some (sj_i x4), some (sj_i x5), some (sj_i x6)] [] (g, V)) :
    ∀ (a0 : Nat) (x1 : Int) (x2 : Int) (x3 : Int) (x4 : Int) (x5 : Int) (x6 : Int) (V : sj_VV), OK9 g a0 → g_X9_cuts_54_b N k54 a0 x1 x2 x3 x4 x5 x6 V = some q → sj_T X m_X9_cuts s0 (some (sj_i q.1), (g, q.2)) 54 [some (sj_r (some a0)), some (sj_i x1), some (sj_i x2), some (sj_i x3), some (sj_i x4), some (sj_i x5), some (sj_i x6)] [] (g, V) := by
  intro a0 x1 x2 x3 x4 x5 x6 V ha0 h
  unfold g_X9_cuts_54_b at h
  refine r_iload (pc := 54) dX9_cuts_54 rfl ?_
  refine r_aload_n (pc := 56) dX9_cuts_56 rfl rfl ?_
  refine r_gRs (b := a0 + 1) (pc := 57) dX9_cuts_57 fw_X9_9 rfl (ok9 ha0) (ok9_0 ha0).1 ?_
  refine r_iconst (pc := 60) dX9_cuts_60 ?_
  refine r_ialoads (pc := 61) h dX9_cuts_61 (ok9_0 ha0).2 (fun h => ?_)
  refine r_icmp_gt (pc := 62) (tgt := 83) h dX9_cuts_62 (by decide) (fun h => ?_) (fun h => ?_)
  · exact sj_weak (l2 := [some (sj_r (some a0)), none, none, none, some (sj_i x4), some (sj_i x5), some (sj_i x6)]) (⟨rfl, ⟨rfl, ⟨rfl, ⟨rfl, trivial⟩⟩⟩⟩) (st_X9_cuts_83 a0 x4 x5 x6 V ha0 h)
  · refine r_aload_n (pc := 65) dX9_cuts_65 rfl rfl ?_
    refine r_iload (pc := 66) dX9_cuts_66 rfl ?_
    refine r_iload_n (pc := 68) dX9_cuts_68 rfl rfl ?_
    refine r_iload_n (pc := 69) dX9_cuts_69 rfl rfl ?_
    refine r_iload_n (pc := 70) dX9_cuts_70 rfl rfl ?_
    refine r_callVs (pc := 71) (fun v => some (sj_i v)) (As := [sj_i x6, sj_i x1, sj_i x2, sj_i x3]) (rest := []) (b := a0) (ok9 ha0) h dX9_cuts_71 mw_X9_193 vw_X9_isBelow (fun _ _ hc => cg_X9_isBelow ha0 hc) rfl ⟨(Nat.le_of_ble_eq_true rfl), (Nat.le_of_ble_eq_true rfl)⟩ (Nat.le_of_ble_eq_true rfl) rfl (fun v2 V1 h => ?_)
    refine r_if_eq (pc := 74) (tgt := 83) h dX9_cuts_74 (by decide) (fun h => ?_) (fun h => ?_)
    · exact sj_weak (l2 := [some (sj_r (some a0)), none, none, none, some (sj_i x4), some (sj_i x5), some (sj_i x6)]) (⟨rfl, ⟨rfl, ⟨rfl, ⟨rfl, trivial⟩⟩⟩⟩) (st_X9_cuts_83 a0 x4 x5 x6 V1 ha0 h)
    · refine r_iinc (ln := fun w => [some (sj_r (some a0)), some (sj_i x1), some (sj_i x2), some (sj_i x3), some (sj_i x4), some (sj_i x5), some (sj_i w)]) (pc := 77) h dX9_cuts_77 rfl (Nat.le_of_ble_eq_true rfl) (fun _ => rfl) (fun v3 h => ?_)
      refine r_goto (pc := 80) (tgt := 54) dX9_cuts_80 (by decide) ?_
      exact sj_weak (l2 := [some (sj_r (some a0)), some (sj_i x1), some (sj_i x2), some (sj_i x3), some (sj_i x4), some (sj_i x5), some (sj_i v3)]) (⟨rfl, ⟨rfl, ⟨rfl, ⟨rfl, ⟨rfl, ⟨rfl, ⟨rfl, trivial⟩⟩⟩⟩⟩⟩⟩) (hk54 a0 x1 x2 x3 x4 x5 v3 V1 ha0 h)
set_option maxHeartbeats 4000000 in
theorem st_X9_cuts_54 {X : sj_X} {g : sj_G} {s0 : sj_Mem} {N : Nat} {q : Int × sj_VV} :
    ∀ (n : Nat) (a0 : Nat) (x1 : Int) (x2 : Int) (x3 : Int) (x4 : Int) (x5 : Int) (x6 : Int) (V : sj_VV), OK9 g a0 → g_X9_cuts_54 N n a0 x1 x2 x3 x4 x5 x6 V = some q → sj_T X m_X9_cuts s0 (some (sj_i q.1), (g, q.2)) 54 [some (sj_r (some a0)), some (sj_i x1), some (sj_i x2), some (sj_i x3), some (sj_i x4), some (sj_i x5), some (sj_i x6)] [] (g, V) := by
  intro n
  induction n with
  | zero => intro a0 x1 x2 x3 x4 x5 x6 V ha0 h; exact nomatch h
  | succ n ih => intro a0 x1 x2 x3 x4 x5 x6 V ha0 h; exact st_X9_cuts_54_b (N := N) ih a0 x1 x2 x3 x4 x5 x6 V ha0 h
set_option maxHeartbeats 4000000 in
theorem st_X9_cuts_32 {X : sj_X} {g : sj_G} {s0 : sj_Mem} {N : Nat} {q : Int × sj_VV} :
    ∀ (a0 : Nat) (x1 : Int) (x2 : Int) (x3 : Int) (x4 : Int) (x5 : Int) (V : sj_VV), OK9 g a0 → g_X9_cuts_32 N a0 x1 x2 x3 x4 x5 V = some q → sj_T X m_X9_cuts s0 (some (sj_i q.1), (g, q.2)) 32 [some (sj_r (some a0)), some (sj_i x1), some (sj_i x2), some (sj_i x3), some (sj_i x4), some (sj_i x5), none] [] (g, V) := by
  intro a0 x1 x2 x3 x4 x5 V ha0 h
  unfold g_X9_cuts_32 at h
  refine r_iload (pc := 32) dX9_cuts_32 rfl ?_
  refine r_if_eq (pc := 34) (tgt := 48) h dX9_cuts_34 (by decide) (fun h => ?_) (fun h => ?_)
  · refine r_iconst (pc := 48) dX9_cuts_48 ?_
    exact r_zrets (pc := 49) h rfl dX9_cuts_49
  · refine r_iload (pc := 37) dX9_cuts_37 rfl ?_
    refine r_aload_n (pc := 39) dX9_cuts_39 rfl rfl ?_
    refine r_gRs (b := a0 + 1) (pc := 40) dX9_cuts_40 fw_X9_9 rfl (ok9 ha0) (ok9_0 ha0).1 ?_
    refine r_iconst (pc := 43) dX9_cuts_43 ?_
    refine r_ialoads (pc := 44) h dX9_cuts_44 (ok9_0 ha0).2 (fun h => ?_)
    refine r_icmp_le (pc := 45) (tgt := 50) h dX9_cuts_45 (by decide) (fun h => ?_) (fun h => ?_)
    · refine r_iload (pc := 50) dX9_cuts_50 rfl ?_
      refine r_istore (ln := [some (sj_r (some a0)), some (sj_i x1), some (sj_i x2), some (sj_i x3), some (sj_i x4), some (sj_i x5), some (sj_i x5)]) (pc := 52) dX9_cuts_52 (Nat.le_of_ble_eq_true rfl) rfl ?_
      exact sj_weak (l2 := [some (sj_r (some a0)), some (sj_i x1), some (sj_i x2), some (sj_i x3), some (sj_i x4), some (sj_i x5), some (sj_i x5)]) (⟨rfl, ⟨rfl, ⟨rfl, ⟨rfl, ⟨rfl, ⟨rfl, ⟨rfl, trivial⟩⟩⟩⟩⟩⟩⟩) (st_X9_cuts_54 N a0 x1 x2 x3 x4 x5 x5 V ha0 h)
    · refine r_iconst (pc := 48) dX9_cuts_48 ?_
      exact r_zrets (pc := 49) h rfl dX9_cuts_49
set_option maxHeartbeats 4000000 in
theorem st_X9_cuts_3_b {X : sj_X} {g : sj_G} {s0 : sj_Mem} {N : Nat} {q : Int × sj_VV} {k3 : Nat → Int → Int → Int → Int → Int → sj_VV → Option (Int × sj_VV)} (hk3 : ∀ (a0 : Nat) (x1 : Int) (x2 : Int) (x3 : Int) (x4 : Int) (x5 : Int) (V : sj_VV), OK9 g a0 → k3 a0 x1 x2 x3 x4 x5 V = some q → sj_T X m_X9_cuts s0 (some (sj_i q.1), (g, q.2)) 3 [some (sj_r (some a0)), some (sj_i x1), some (sj_i x2), some (sj_i x3), some (sj_i x4), some (sj_i x5), none] [] (g, V)) :
    ∀ (a0 : Nat) (x1 : Int) (x2 : Int) (x3 : Int) (x4 : Int) (x5 : Int) (V : sj_VV), OK9 g a0 → g_X9_cuts_3_b N k3 a0 x1 x2 x3 x4 x5 V = some q → sj_T X m_X9_cuts s0 (some (sj_i q.1), (g, q.2)) 3 [some (sj_r (some a0)), some (sj_i x1), some (sj_i x2), some (sj_i x3), some (sj_i x4), some (sj_i x5), none] [] (g, V) := by
  intro a0 x1 x2 x3 x4 x5 V ha0 h
  unfold g_X9_cuts_3_b at h
  refine r_iload (pc := 3) dX9_cuts_3 rfl ?_
  refine r_aload_n (pc := 5) dX9_cuts_5 rfl rfl ?_
  refine r_gRs (b := a0 + 1) (pc := 6) dX9_cuts_6 fw_X9_9 rfl (ok9 ha0) (ok9_0 ha0).1 ?_
  refine r_iconst (pc := 9) dX9_cuts_9 ?_
  refine r_ialoads (pc := 10) h dX9_cuts_10 (ok9_0 ha0).2 (fun h => ?_)
  refine r_icmp_gt (pc := 11) (tgt := 32) h dX9_cuts_11 (by decide) (fun h => ?_) (fun h => ?_)
  · exact sj_weak (l2 := [some (sj_r (some a0)), some (sj_i x1), some (sj_i x2), some (sj_i x3), some (sj_i x4), some (sj_i x5), none]) (⟨rfl, ⟨rfl, ⟨rfl, ⟨rfl, ⟨rfl, ⟨rfl, trivial⟩⟩⟩⟩⟩⟩) (st_X9_cuts_32 a0 x1 x2 x3 x4 x5 V ha0 h)
  · refine r_aload_n (pc := 14) dX9_cuts_14 rfl rfl ?_
    refine r_iload (pc := 15) dX9_cuts_15 rfl ?_
    refine r_iload_n (pc := 17) dX9_cuts_17 rfl rfl ?_
    refine r_iload_n (pc := 18) dX9_cuts_18 rfl rfl ?_
    refine r_iload_n (pc := 19) dX9_cuts_19 rfl rfl ?_
    refine r_callVs (pc := 20) (fun v => some (sj_i v)) (As := [sj_i x5, sj_i x1, sj_i x2, sj_i x3]) (rest := []) (b := a0) (ok9 ha0) h dX9_cuts_20 mw_X9_193 vw_X9_isBelow (fun _ _ hc => cg_X9_isBelow ha0 hc) rfl ⟨(Nat.le_of_ble_eq_true rfl), (Nat.le_of_ble_eq_true rfl)⟩ (Nat.le_of_ble_eq_true rfl) rfl (fun v2 V1 h => ?_)
    refine r_if_ne (pc := 23) (tgt := 32) h dX9_cuts_23 (by decide) (fun h => ?_) (fun h => ?_)
    · refine r_iinc (ln := fun w => [some (sj_r (some a0)), some (sj_i x1), some (sj_i x2), some (sj_i x3), some (sj_i x4), some (sj_i w), none]) (pc := 26) h dX9_cuts_26 rfl (Nat.le_of_ble_eq_true rfl) (fun _ => rfl) (fun v3 h => ?_)
      refine r_goto (pc := 29) (tgt := 3) dX9_cuts_29 (by decide) ?_
      exact sj_weak (l2 := [some (sj_r (some a0)), some (sj_i x1), some (sj_i x2), some (sj_i x3), some (sj_i x4), some (sj_i v3), none]) (⟨rfl, ⟨rfl, ⟨rfl, ⟨rfl, ⟨rfl, ⟨rfl, trivial⟩⟩⟩⟩⟩⟩) (hk3 a0 x1 x2 x3 x4 v3 V1 ha0 h)
    · exact sj_weak (l2 := [some (sj_r (some a0)), some (sj_i x1), some (sj_i x2), some (sj_i x3), some (sj_i x4), some (sj_i x5), none]) (⟨rfl, ⟨rfl, ⟨rfl, ⟨rfl, ⟨rfl, ⟨rfl, trivial⟩⟩⟩⟩⟩⟩) (st_X9_cuts_32 a0 x1 x2 x3 x4 x5 V1 ha0 h)
set_option maxHeartbeats 4000000 in
theorem st_X9_cuts_3 {X : sj_X} {g : sj_G} {s0 : sj_Mem} {N : Nat} {q : Int × sj_VV} :
    ∀ (n : Nat) (a0 : Nat) (x1 : Int) (x2 : Int) (x3 : Int) (x4 : Int) (x5 : Int) (V : sj_VV), OK9 g a0 → g_X9_cuts_3 N n a0 x1 x2 x3 x4 x5 V = some q → sj_T X m_X9_cuts s0 (some (sj_i q.1), (g, q.2)) 3 [some (sj_r (some a0)), some (sj_i x1), some (sj_i x2), some (sj_i x3), some (sj_i x4), some (sj_i x5), none] [] (g, V) := by
  intro n
  induction n with
  | zero => intro a0 x1 x2 x3 x4 x5 V ha0 h; exact nomatch h
  | succ n ih => intro a0 x1 x2 x3 x4 x5 V ha0 h; exact st_X9_cuts_3_b (N := N) ih a0 x1 x2 x3 x4 x5 V ha0 h
set_option maxHeartbeats 4000000 in
theorem st_X9_cuts_0 {X : sj_X} {g : sj_G} {s0 : sj_Mem} {N : Nat} {q : Int × sj_VV} :
    ∀ (a0 : Nat) (x1 : Int) (x2 : Int) (x3 : Int) (x4 : Int) (V : sj_VV), OK9 g a0 → g_X9_cuts N a0 x1 x2 x3 x4 V = some q → sj_T X m_X9_cuts s0 (some (sj_i q.1), (g, q.2)) 0 [some (sj_r (some a0)), some (sj_i x1), some (sj_i x2), some (sj_i x3), some (sj_i x4), none, none] [] (g, V) := by
  intro a0 x1 x2 x3 x4 V ha0 h
  unfold g_X9_cuts at h
  refine r_iconst (pc := 0) dX9_cuts_0 ?_
  refine r_istore (ln := [some (sj_r (some a0)), some (sj_i x1), some (sj_i x2), some (sj_i x3), some (sj_i x4), some (sj_i 0), none]) (pc := 1) dX9_cuts_1 (Nat.le_of_ble_eq_true rfl) rfl ?_
  exact sj_weak (l2 := [some (sj_r (some a0)), some (sj_i x1), some (sj_i x2), some (sj_i x3), some (sj_i x4), some (sj_i 0), none]) (⟨rfl, ⟨rfl, ⟨rfl, ⟨rfl, ⟨rfl, ⟨rfl, trivial⟩⟩⟩⟩⟩⟩) (st_X9_cuts_3 N a0 x1 x2 x3 x4 0 V ha0 h)
set_option maxHeartbeats 4000000 in
theorem cg_X9_cuts {X : sj_X} {g : sj_G} {N : Nat} {a0 : Nat} {x1 : Int} {x2 : Int} {x3 : Int} {x4 : Int} {V : sj_VV} {q : Int × sj_VV} (ha0 : OK9 g a0) (h : g_X9_cuts N a0 x1 x2 x3 x4 V = some q) : sj_C X m_X9_cuts [sj_r (some a0), sj_i x1, sj_i x2, sj_i x3, sj_i x4] (g, V) (some (sj_i q.1), (g, q.2)) :=
  sj_C_of (by decide +kernel) (Nat.le_of_ble_eq_true rfl) (lo := [some (sj_r (some a0)), some (sj_i x1), some (sj_i x2), some (sj_i x3), some (sj_i x4), none, none]) rfl (sj_weak (l2 := [some (sj_r (some a0)), some (sj_i x1), some (sj_i x2), some (sj_i x3), some (sj_i x4), none, none]) (⟨rfl, ⟨rfl, ⟨rfl, ⟨rfl, ⟨rfl, trivial⟩⟩⟩⟩⟩) (st_X9_cuts_0 a0 x1 x2 x3 x4 V ha0 h))
set_option maxHeartbeats 4000000 in
theorem c_X9_cuts {X : sj_X} {N : Nat} {a0 : Nat} {x1 : Int} {x2 : Int} {x3 : Int} {x4 : Int} {s : sj_Mem} {q : Int × sj_Mem} (h : f_X9_cuts N a0 x1 x2 x3 x4 s = some q) : sj_C X m_X9_cuts [sj_r (some a0), sj_i x1, sj_i x2, sj_i x3, sj_i x4] s (some (sj_i q.1), q.2) := by
  obtain ⟨g, V⟩ := s
  unfold f_X9_cuts at h
  obtain ⟨ho, h1⟩ := e_ok_some h
  obtain ⟨q2, h2, rfl⟩ := sj_map_some h1
  exact cg_X9_cuts ho h2
theorem dX9_factorBy_0 : decode cX9_factorBy 0 = .ok (.iload_n 1, 1) := by decide +kernel
theorem dX9_factorBy_1 : decode cX9_factorBy 1 = .ok (.iload_n 2, 1) := by decide +kernel
theorem dX9_factorBy_2 : decode cX9_factorBy 2 = .ok (.iload_n 3, 1) := by decide +kernel
theorem dX9_factorBy_3 : decode cX9_factorBy 3 = .ok (.invokestatic 197, 3) := by decide +kernel
theorem dX9_factorBy_6 : decode cX9_factorBy 6 = .ok (.ifCond .eq 22, 3) := by decide +kernel
theorem dX9_factorBy_9 : decode cX9_factorBy 9 = .ok (.aload_n 0, 1) := by decide +kernel
theorem dX9_factorBy_10 : decode cX9_factorBy 10 = .ok (.iload_n 1, 1) := by decide +kernel
theorem dX9_factorBy_11 : decode cX9_factorBy 11 = .ok (.iload_n 2, 1) := by decide +kernel
theorem dX9_factorBy_12 : decode cX9_factorBy 12 = .ok (.iload_n 3, 1) := by decide +kernel
theorem dX9_factorBy_13 : decode cX9_factorBy 13 = .ok (.iload 4, 2) := by decide +kernel
theorem dX9_factorBy_15 : decode cX9_factorBy 15 = .ok (.invokevirtual 201, 3) := by decide +kernel
theorem dX9_factorBy_18 : decode cX9_factorBy 18 = .ok (.ifCond .eq 10, 3) := by decide +kernel
theorem dX9_factorBy_21 : decode cX9_factorBy 21 = .ok (.aload_n 0, 1) := by decide +kernel
theorem dX9_factorBy_22 : decode cX9_factorBy 22 = .ok (.invokevirtual 209, 3) := by decide +kernel
theorem dX9_factorBy_25 : decode cX9_factorBy 25 = .ok (.goto 4, 3) := by decide +kernel
theorem dX9_factorBy_28 : decode cX9_factorBy 28 = .ok (.iconst (-1), 1) := by decide +kernel
theorem dX9_factorBy_29 : decode cX9_factorBy 29 = .ok (.ireturn, 1) := by decide +kernel
set_option maxHeartbeats 4000000 in
theorem st_X9_factorBy_0 {X : sj_X} {g : sj_G} {s0 : sj_Mem} {N : Nat} {q : Int × sj_VV} :
    ∀ (a0 : Nat) (x1 : Int) (x2 : Int) (x3 : Int) (x4 : Int) (V : sj_VV), OK9 g a0 → g_X9_factorBy N a0 x1 x2 x3 x4 V = some q → sj_T X m_X9_factorBy s0 (some (sj_i q.1), (g, q.2)) 0 [some (sj_r (some a0)), some (sj_i x1), some (sj_i x2), some (sj_i x3), some (sj_i x4)] [] (g, V) := by
  intro a0 x1 x2 x3 x4 V ha0 h
  unfold g_X9_factorBy at h
  refine r_iload_n (pc := 0) dX9_factorBy_0 rfl rfl ?_
  refine r_iload_n (pc := 1) dX9_factorBy_1 rfl rfl ?_
  refine r_iload_n (pc := 2) dX9_factorBy_2 rfl rfl ?_
  refine r_callSs (pc := 3) (fun v => some (sj_i v)) (As := [sj_i x1, sj_i x2, sj_i x3]) (rest := []) h dX9_factorBy_3 mw_X9_197 kw_1284 (fun _ _ hc => cg_X9_isCircle  hc) rfl ⟨(Nat.le_of_ble_eq_true rfl), (Nat.le_of_ble_eq_true rfl)⟩ (Nat.le_of_ble_eq_true rfl) rfl (fun v2 V1 h => ?_)
  refine r_if_eq (pc := 6) (tgt := 28) h dX9_factorBy_6 (by decide) (fun h => ?_) (fun h => ?_)
  · refine r_iconst (pc := 28) dX9_factorBy_28 ?_
    exact r_irets (pc := 29) h rfl dX9_factorBy_29
  · refine r_aload_n (pc := 9) dX9_factorBy_9 rfl rfl ?_
    refine r_iload_n (pc := 10) dX9_factorBy_10 rfl rfl ?_
    refine r_iload_n (pc := 11) dX9_factorBy_11 rfl rfl ?_
    refine r_iload_n (pc := 12) dX9_factorBy_12 rfl rfl ?_
    refine r_iload (pc := 13) dX9_factorBy_13 rfl ?_
    refine r_callVs (pc := 15) (fun v => some (sj_i v)) (As := [sj_i x1, sj_i x2, sj_i x3, sj_i x4]) (rest := []) (b := a0) (ok9 ha0) h dX9_factorBy_15 mw_X9_201 vw_X9_cuts (fun _ _ hc => cg_X9_cuts ha0 hc) rfl ⟨(Nat.le_of_ble_eq_true rfl), (Nat.le_of_ble_eq_true rfl)⟩ (Nat.le_of_ble_eq_true rfl) rfl (fun v4 V3 h => ?_)
    refine r_if_eq (pc := 18) (tgt := 28) h dX9_factorBy_18 (by decide) (fun h => ?_) (fun h => ?_)
    · refine r_iconst (pc := 28) dX9_factorBy_28 ?_
      exact r_irets (pc := 29) h rfl dX9_factorBy_29
    · refine r_aload_n (pc := 21) dX9_factorBy_21 rfl rfl ?_
      refine r_callVs (pc := 22) (fun v => some (sj_i v)) (As := []) (rest := []) (b := a0) (ok9 ha0) h dX9_factorBy_22 mw_X9_209 vw_X9_factorOf (fun _ _ hc => cg_X9_factorOf ha0 hc) rfl ⟨(Nat.le_of_ble_eq_true rfl), (Nat.le_of_ble_eq_true rfl)⟩ (Nat.le_of_ble_eq_true rfl) rfl (fun v6 V5 h => ?_)
      refine r_goto (pc := 25) (tgt := 29) dX9_factorBy_25 (by decide) ?_
      exact r_irets (pc := 29) h rfl dX9_factorBy_29
set_option maxHeartbeats 4000000 in
theorem cg_X9_factorBy {X : sj_X} {g : sj_G} {N : Nat} {a0 : Nat} {x1 : Int} {x2 : Int} {x3 : Int} {x4 : Int} {V : sj_VV} {q : Int × sj_VV} (ha0 : OK9 g a0) (h : g_X9_factorBy N a0 x1 x2 x3 x4 V = some q) : sj_C X m_X9_factorBy [sj_r (some a0), sj_i x1, sj_i x2, sj_i x3, sj_i x4] (g, V) (some (sj_i q.1), (g, q.2)) :=
  sj_C_of (by decide +kernel) (Nat.le_of_ble_eq_true rfl) (lo := [some (sj_r (some a0)), some (sj_i x1), some (sj_i x2), some (sj_i x3), some (sj_i x4)]) rfl (sj_weak (l2 := [some (sj_r (some a0)), some (sj_i x1), some (sj_i x2), some (sj_i x3), some (sj_i x4)]) (⟨rfl, ⟨rfl, ⟨rfl, ⟨rfl, ⟨rfl, trivial⟩⟩⟩⟩⟩) (st_X9_factorBy_0 a0 x1 x2 x3 x4 V ha0 h))
set_option maxHeartbeats 4000000 in
theorem c_X9_factorBy {X : sj_X} {N : Nat} {a0 : Nat} {x1 : Int} {x2 : Int} {x3 : Int} {x4 : Int} {s : sj_Mem} {q : Int × sj_Mem} (h : f_X9_factorBy N a0 x1 x2 x3 x4 s = some q) : sj_C X m_X9_factorBy [sj_r (some a0), sj_i x1, sj_i x2, sj_i x3, sj_i x4] s (some (sj_i q.1), q.2) := by
  obtain ⟨g, V⟩ := s
  unfold f_X9_factorBy at h
  obtain ⟨ho, h1⟩ := e_ok_some h
  obtain ⟨q2, h2, rfl⟩ := sj_map_some h1
  exact cg_X9_factorBy ho h2
theorem dX9_scan_0 : decode cX9_scan 0 = .ok (.iload_n 1, 1) := by decide +kernel
theorem dX9_scan_1 : decode cX9_scan 1 = .ok (.iload_n 2, 1) := by decide +kernel
theorem dX9_scan_2 : decode cX9_scan 2 = .ok (.iload_n 3, 1) := by decide +kernel
theorem dX9_scan_3 : decode cX9_scan 3 = .ok (.invokestatic 197, 3) := by decide +kernel
theorem dX9_scan_6 : decode cX9_scan 6 = .ok (.ifCond .eq 35, 3) := by decide +kernel
theorem dX9_scan_9 : decode cX9_scan 9 = .ok (.iload 4, 2) := by decide +kernel
theorem dX9_scan_11 : decode cX9_scan 11 = .ok (.i2l, 1) := by decide +kernel
theorem dX9_scan_12 : decode cX9_scan 12 = .ok (.lconst 1, 1) := by decide +kernel
theorem dX9_scan_13 : decode cX9_scan 13 = .ok (.ldc2_w 241, 3) := by decide +kernel
theorem dX9_scan_16 : decode cX9_scan 16 = .ok (.invokestatic 57, 3) := by decide +kernel
theorem dX9_scan_19 : decode cX9_scan 19 = .ok (.ifCond .eq 22, 3) := by decide +kernel
theorem dX9_scan_22 : decode cX9_scan 22 = .ok (.iload 6, 2) := by decide +kernel
theorem dX9_scan_24 : decode cX9_scan 24 = .ok (.invokestatic 287, 3) := by decide +kernel
theorem dX9_scan_27 : decode cX9_scan 27 = .ok (.ifCond .eq 14, 3) := by decide +kernel
theorem dX9_scan_30 : decode cX9_scan 30 = .ok (.iload 7, 2) := by decide +kernel
theorem dX9_scan_32 : decode cX9_scan 32 = .ok (.i2l, 1) := by decide +kernel
theorem dX9_scan_33 : decode cX9_scan 33 = .ok (.lconst 0, 1) := by decide +kernel
theorem dX9_scan_34 : decode cX9_scan 34 = .ok (.lconst 1, 1) := by decide +kernel
theorem dX9_scan_35 : decode cX9_scan 35 = .ok (.invokestatic 57, 3) := by decide +kernel
theorem dX9_scan_38 : decode cX9_scan 38 = .ok (.ifCond .ne 5, 3) := by decide +kernel
theorem dX9_scan_41 : decode cX9_scan 41 = .ok (.iconst (-1), 1) := by decide +kernel
theorem dX9_scan_42 : decode cX9_scan 42 = .ok (.ireturn, 1) := by decide +kernel
theorem dX9_scan_43 : decode cX9_scan 43 = .ok (.iconst 0, 1) := by decide +kernel
theorem dX9_scan_44 : decode cX9_scan 44 = .ok (.istore 8, 2) := by decide +kernel
theorem dX9_scan_46 : decode cX9_scan 46 = .ok (.iconst 0, 1) := by decide +kernel
theorem dX9_scan_47 : decode cX9_scan 47 = .ok (.istore 9, 2) := by decide +kernel
theorem dX9_scan_49 : decode cX9_scan 49 = .ok (.iconst 0, 1) := by decide +kernel
theorem dX9_scan_50 : decode cX9_scan 50 = .ok (.istore 10, 2) := by decide +kernel
theorem dX9_scan_52 : decode cX9_scan 52 = .ok (.iload 10, 2) := by decide +kernel
theorem dX9_scan_54 : decode cX9_scan 54 = .ok (.bipush 125, 2) := by decide +kernel
theorem dX9_scan_56 : decode cX9_scan 56 = .ok (.if_icmp .ge 92, 3) := by decide +kernel
theorem dX9_scan_59 : decode cX9_scan 59 = .ok (.aload_n 0, 1) := by decide +kernel
theorem dX9_scan_60 : decode cX9_scan 60 = .ok (.iload_n 1, 1) := by decide +kernel
theorem dX9_scan_61 : decode cX9_scan 61 = .ok (.iload 4, 2) := by decide +kernel
theorem dX9_scan_63 : decode cX9_scan 63 = .ok (.iload 10, 2) := by decide +kernel
theorem dX9_scan_65 : decode cX9_scan 65 = .ok (.bipush 25, 2) := by decide +kernel
theorem dX9_scan_67 : decode cX9_scan 67 = .ok (.idiv, 1) := by decide +kernel
theorem dX9_scan_68 : decode cX9_scan 68 = .ok (.iconst 2, 1) := by decide +kernel
theorem dX9_scan_69 : decode cX9_scan 69 = .ok (.isub, 1) := by decide +kernel
theorem dX9_scan_70 : decode cX9_scan 70 = .ok (.imul, 1) := by decide +kernel
theorem dX9_scan_71 : decode cX9_scan 71 = .ok (.iadd, 1) := by decide +kernel
theorem dX9_scan_72 : decode cX9_scan 72 = .ok (.iload_n 2, 1) := by decide +kernel
theorem dX9_scan_73 : decode cX9_scan 73 = .ok (.iload 4, 2) := by decide +kernel
theorem dX9_scan_75 : decode cX9_scan 75 = .ok (.iload 10, 2) := by decide +kernel
theorem dX9_scan_77 : decode cX9_scan 77 = .ok (.iconst 5, 1) := by decide +kernel
theorem dX9_scan_78 : decode cX9_scan 78 = .ok (.idiv, 1) := by decide +kernel
theorem dX9_scan_79 : decode cX9_scan 79 = .ok (.iconst 5, 1) := by decide +kernel
theorem dX9_scan_80 : decode cX9_scan 80 = .ok (.irem, 1) := by decide +kernel
theorem dX9_scan_81 : decode cX9_scan 81 = .ok (.iconst 2, 1) := by decide +kernel
theorem dX9_scan_82 : decode cX9_scan 82 = .ok (.isub, 1) := by decide +kernel
theorem dX9_scan_83 : decode cX9_scan 83 = .ok (.imul, 1) := by decide +kernel
theorem dX9_scan_84 : decode cX9_scan 84 = .ok (.iadd, 1) := by decide +kernel
theorem dX9_scan_85 : decode cX9_scan 85 = .ok (.iload_n 3, 1) := by decide +kernel
theorem dX9_scan_86 : decode cX9_scan 86 = .ok (.iload 4, 2) := by decide +kernel
theorem dX9_scan_88 : decode cX9_scan 88 = .ok (.iload 10, 2) := by decide +kernel
theorem dX9_scan_90 : decode cX9_scan 90 = .ok (.iconst 5, 1) := by decide +kernel
theorem dX9_scan_91 : decode cX9_scan 91 = .ok (.irem, 1) := by decide +kernel
theorem dX9_scan_92 : decode cX9_scan 92 = .ok (.iconst 2, 1) := by decide +kernel
theorem dX9_scan_93 : decode cX9_scan 93 = .ok (.isub, 1) := by decide +kernel
theorem dX9_scan_94 : decode cX9_scan 94 = .ok (.imul, 1) := by decide +kernel
theorem dX9_scan_95 : decode cX9_scan 95 = .ok (.iadd, 1) := by decide +kernel
theorem dX9_scan_96 : decode cX9_scan 96 = .ok (.iload 5, 2) := by decide +kernel
theorem dX9_scan_98 : decode cX9_scan 98 = .ok (.invokevirtual 212, 3) := by decide +kernel
theorem dX9_scan_101 : decode cX9_scan 101 = .ok (.istore 11, 2) := by decide +kernel
theorem dX9_scan_103 : decode cX9_scan 103 = .ok (.iload 8, 2) := by decide +kernel
theorem dX9_scan_105 : decode cX9_scan 105 = .ok (.iload 11, 2) := by decide +kernel
theorem dX9_scan_107 : decode cX9_scan 107 = .ok (.iconst (-1), 1) := by decide +kernel
theorem dX9_scan_108 : decode cX9_scan 108 = .ok (.if_icmp .ne 7, 3) := by decide +kernel
theorem dX9_scan_111 : decode cX9_scan 111 = .ok (.iconst 0, 1) := by decide +kernel
theorem dX9_scan_112 : decode cX9_scan 112 = .ok (.goto 4, 3) := by decide +kernel
theorem dX9_scan_115 : decode cX9_scan 115 = .ok (.iconst 1, 1) := by decide +kernel
theorem dX9_scan_116 : decode cX9_scan 116 = .ok (.iadd, 1) := by decide +kernel
theorem dX9_scan_117 : decode cX9_scan 117 = .ok (.istore 8, 2) := by decide +kernel
theorem dX9_scan_119 : decode cX9_scan 119 = .ok (.iload 9, 2) := by decide +kernel
theorem dX9_scan_121 : decode cX9_scan 121 = .ok (.iload 11, 2) := by decide +kernel
theorem dX9_scan_123 : decode cX9_scan 123 = .ok (.iconst (-1), 1) := by decide +kernel
theorem dX9_scan_124 : decode cX9_scan 124 = .ok (.if_icmp .eq 14, 3) := by decide +kernel
theorem dX9_scan_127 : decode cX9_scan 127 = .ok (.iload 11, 2) := by decide +kernel
theorem dX9_scan_129 : decode cX9_scan 129 = .ok (.iload 6, 2) := by decide +kernel
theorem dX9_scan_131 : decode cX9_scan 131 = .ok (.if_icmp .ge 7, 3) := by decide +kernel
theorem dX9_scan_134 : decode cX9_scan 134 = .ok (.iconst 1, 1) := by decide +kernel
theorem dX9_scan_135 : decode cX9_scan 135 = .ok (.goto 4, 3) := by decide +kernel
theorem dX9_scan_138 : decode cX9_scan 138 = .ok (.iconst 0, 1) := by decide +kernel
theorem dX9_scan_139 : decode cX9_scan 139 = .ok (.iadd, 1) := by decide +kernel
theorem dX9_scan_140 : decode cX9_scan 140 = .ok (.istore 9, 2) := by decide +kernel
theorem dX9_scan_142 : decode cX9_scan 142 = .ok (.iinc 10 1, 3) := by decide +kernel
theorem dX9_scan_145 : decode cX9_scan 145 = .ok (.goto (-93), 3) := by decide +kernel
theorem dX9_scan_148 : decode cX9_scan 148 = .ok (.iload 7, 2) := by decide +kernel
theorem dX9_scan_150 : decode cX9_scan 150 = .ok (.ifCond .ne 8, 3) := by decide +kernel
theorem dX9_scan_153 : decode cX9_scan 153 = .ok (.iload 8, 2) := by decide +kernel
theorem dX9_scan_155 : decode cX9_scan 155 = .ok (.goto 5, 3) := by decide +kernel
theorem dX9_scan_158 : decode cX9_scan 158 = .ok (.iload 9, 2) := by decide +kernel
theorem dX9_scan_160 : decode cX9_scan 160 = .ok (.ireturn, 1) := by decide +kernel
set_option maxHeartbeats 4000000 in
theorem st_X9_scan_139 {X : sj_X} {g : sj_G} {s0 : sj_Mem} {N : Nat} {q : Int × sj_VV} {k52 : Nat → Int → Int → Int → Int → Int → Int → Int → Int → Int → Int → sj_VV → Option (Int × sj_VV)} (hk52 : ∀ (a0 : Nat) (x1 : Int) (x2 : Int) (x3 : Int) (x4 : Int) (x5 : Int) (x6 : Int) (x7 : Int) (x8 : Int) (x9 : Int) (x10 : Int) (V : sj_VV), OK9 g a0 → k52 a0 x1 x2 x3 x4 x5 x6 x7 x8 x9 x10 V = some q → sj_T X m_X9_scan s0 (some (sj_i q.1), (g, q.2)) 52 [some (sj_r (some a0)), some (sj_i x1), some (sj_i x2), some (sj_i x3), some (sj_i x4), some (sj_i x5), some (sj_i x6), some (sj_i x7), some (sj_i x8), some (sj_i x9), some (sj_i x10), none] [] (g, V)) :
    ∀ (a0 : Nat) (x1 : Int) (x2 : Int) (x3 : Int) (x4 : Int) (x5 : Int) (x6 : Int) (x7 : Int) (x8 : Int) (x10 : Int) (y0 : Int) (y1 : Int) (V : sj_VV), OK9 g a0 → g_X9_scan_139 N k52 a0 x1 x2 x3 x4 x5 x6 x7 x8 x10 y0 y1 V = some q → sj_T X m_X9_scan s0 (some (sj_i q.1), (g, q.2)) 139 [some (sj_r (some a0)), some (sj_i x1), some (sj_i x2), some (sj_i x3), some (sj_i x4), some (sj_i x5), some (sj_i x6), some (sj_i x7), some (sj_i x8), none, some (sj_i x10), none] [(sj_i y0), (sj_i y1)] (g, V) := by
  intro a0 x1 x2 x3 x4 x5 x6 x7 x8 x10 y0 y1 V ha0 h
  unfold g_X9_scan_139 at h
  refine r_iadd (pc := 139) dX9_scan_139 ?_
  refine r_istoreL (ln := fun w => [some (sj_r (some a0)), some (sj_i x1), some (sj_i x2), some (sj_i x3), some (sj_i x4), some (sj_i x5), some (sj_i x6), some (sj_i x7), some (sj_i x8), some (sj_i w), some (sj_i x10), none]) (pc := 140) h dX9_scan_140 (Nat.le_of_ble_eq_true rfl) (fun _ => rfl) (fun v1 h => ?_)
  refine r_iinc (ln := fun w => [some (sj_r (some a0)), some (sj_i x1), some (sj_i x2), some (sj_i x3), some (sj_i x4), some (sj_i x5), some (sj_i x6), some (sj_i x7), some (sj_i x8), some (sj_i v1), some (sj_i w), none]) (pc := 142) h dX9_scan_142 rfl (Nat.le_of_ble_eq_true rfl) (fun _ => rfl) (fun v2 h => ?_)
  refine r_goto (pc := 145) (tgt := 52) dX9_scan_145 (by decide) ?_
  exact sj_weak (l2 := [some (sj_r (some a0)), some (sj_i x1), some (sj_i x2), some (sj_i x3), some (sj_i x4), some (sj_i x5), some (sj_i x6), some (sj_i x7), some (sj_i x8), some (sj_i v1), some (sj_i v2), none]) (⟨rfl, ⟨rfl, ⟨rfl, ⟨rfl, ⟨rfl, ⟨rfl, ⟨rfl, ⟨rfl, ⟨rfl, ⟨rfl, ⟨rfl, trivial⟩⟩⟩⟩⟩⟩⟩⟩⟩⟩⟩) (hk52 a0 x1 x2 x3 x4 x5 x6 x7 x8 v1 v2 V ha0 h)
set_option maxHeartbeats 4000000 in
theorem st_X9_scan_138 {X : sj_X} {g : sj_G} {s0 : sj_Mem} {N : Nat} {q : Int × sj_VV} {k52 : Nat → Int → Int → Int → Int → Int → Int → Int → Int → Int → Int → sj_VV → Option (Int × sj_VV)} (hk52 : ∀ (a0 : Nat) (x1 : Int) (x2 : Int) (x3 : Int) (x4 : Int) (x5 : Int) (x6 : Int) (x7 : Int) (x8 : Int) (x9 : Int) (x10 : Int) (V : sj_VV), OK9 g a0 → k52 a0 x1 x2 x3 x4 x5 x6 x7 x8 x9 x10 V = some q → sj_T X m_X9_scan s0 (some (sj_i q.1), (g, q.2)) 52 [some (sj_r (some a0)), some (sj_i x1), some (sj_i x2), some (sj_i x3), some (sj_i x4), some (sj_i x5), some (sj_i x6), some (sj_i x7), some (sj_i x8), some (sj_i x9), some (sj_i x10), none] [] (g, V)) :
    ∀ (a0 : Nat) (x1 : Int) (x2 : Int) (x3 : Int) (x4 : Int) (x5 : Int) (x6 : Int) (x7 : Int) (x8 : Int) (x10 : Int) (y0 : Int) (V : sj_VV), OK9 g a0 → g_X9_scan_138 N k52 a0 x1 x2 x3 x4 x5 x6 x7 x8 x10 y0 V = some q → sj_T X m_X9_scan s0 (some (sj_i q.1), (g, q.2)) 138 [some (sj_r (some a0)), some (sj_i x1), some (sj_i x2), some (sj_i x3), some (sj_i x4), some (sj_i x5), some (sj_i x6), some (sj_i x7), some (sj_i x8), none, some (sj_i x10), none] [(sj_i y0)] (g, V) := by
  intro a0 x1 x2 x3 x4 x5 x6 x7 x8 x10 y0 V ha0 h
  unfold g_X9_scan_138 at h
  refine r_iconst (pc := 138) dX9_scan_138 ?_
  exact sj_weak (l2 := [some (sj_r (some a0)), some (sj_i x1), some (sj_i x2), some (sj_i x3), some (sj_i x4), some (sj_i x5), some (sj_i x6), some (sj_i x7), some (sj_i x8), none, some (sj_i x10), none]) (⟨rfl, ⟨rfl, ⟨rfl, ⟨rfl, ⟨rfl, ⟨rfl, ⟨rfl, ⟨rfl, ⟨rfl, ⟨rfl, trivial⟩⟩⟩⟩⟩⟩⟩⟩⟩⟩) (st_X9_scan_139 hk52 a0 x1 x2 x3 x4 x5 x6 x7 x8 x10 0 y0 V ha0 h)
set_option maxHeartbeats 4000000 in
theorem st_X9_scan_116 {X : sj_X} {g : sj_G} {s0 : sj_Mem} {N : Nat} {q : Int × sj_VV} {k52 : Nat → Int → Int → Int → Int → Int → Int → Int → Int → Int → Int → sj_VV → Option (Int × sj_VV)} (hk52 : ∀ (a0 : Nat) (x1 : Int) (x2 : Int) (x3 : Int) (x4 : Int) (x5 : Int) (x6 : Int) (x7 : Int) (x8 : Int) (x9 : Int) (x10 : Int) (V : sj_VV), OK9 g a0 → k52 a0 x1 x2 x3 x4 x5 x6 x7 x8 x9 x10 V = some q → sj_T X m_X9_scan s0 (some (sj_i q.1), (g, q.2)) 52 [some (sj_r (some a0)), some (sj_i x1), some (sj_i x2), some (sj_i x3), some (sj_i x4), some (sj_i x5), some (sj_i x6), some (sj_i x7), some (sj_i x8), some (sj_i x9), some (sj_i x10), none] [] (g, V)) :
    ∀ (a0 : Nat) (x1 : Int) (x2 : Int) (x3 : Int) (x4 : Int) (x5 : Int) (x6 : Int) (x7 : Int) (x9 : Int) (x10 : Int) (x11 : Int) (y0 : Int) (y1 : Int) (V : sj_VV), OK9 g a0 → g_X9_scan_116 N k52 a0 x1 x2 x3 x4 x5 x6 x7 x9 x10 x11 y0 y1 V = some q → sj_T X m_X9_scan s0 (some (sj_i q.1), (g, q.2)) 116 [some (sj_r (some a0)), some (sj_i x1), some (sj_i x2), some (sj_i x3), some (sj_i x4), some (sj_i x5), some (sj_i x6), some (sj_i x7), none, some (sj_i x9), some (sj_i x10), some (sj_i x11)] [(sj_i y0), (sj_i y1)] (g, V) := by
  intro a0 x1 x2 x3 x4 x5 x6 x7 x9 x10 x11 y0 y1 V ha0 h
  unfold g_X9_scan_116 at h
  refine r_iadd (pc := 116) dX9_scan_116 ?_
  refine r_istoreL (ln := fun w => [some (sj_r (some a0)), some (sj_i x1), some (sj_i x2), some (sj_i x3), some (sj_i x4), some (sj_i x5), some (sj_i x6), some (sj_i x7), some (sj_i w), some (sj_i x9), some (sj_i x10), some (sj_i x11)]) (pc := 117) h dX9_scan_117 (Nat.le_of_ble_eq_true rfl) (fun _ => rfl) (fun v1 h => ?_)
  refine r_iload (pc := 119) dX9_scan_119 rfl ?_
  refine r_iload (pc := 121) dX9_scan_121 rfl ?_
  refine r_iconst (pc := 123) dX9_scan_123 ?_
  refine r_icmp_eq (pc := 124) (tgt := 138) h dX9_scan_124 (by decide) (fun h => ?_) (fun h => ?_)
  · exact sj_weak (l2 := [some (sj_r (some a0)), some (sj_i x1), some (sj_i x2), some (sj_i x3), some (sj_i x4), some (sj_i x5), some (sj_i x6), some (sj_i x7), some (sj_i v1), none, some (sj_i x10), none]) (⟨rfl, ⟨rfl, ⟨rfl, ⟨rfl, ⟨rfl, ⟨rfl, ⟨rfl, ⟨rfl, ⟨rfl, ⟨rfl, trivial⟩⟩⟩⟩⟩⟩⟩⟩⟩⟩) (st_X9_scan_138 hk52 a0 x1 x2 x3 x4 x5 x6 x7 v1 x10 x9 V ha0 h)
  · refine r_iload (pc := 127) dX9_scan_127 rfl ?_
    refine r_iload (pc := 129) dX9_scan_129 rfl ?_
    refine r_icmp_ge (pc := 131) (tgt := 138) h dX9_scan_131 (by decide) (fun h => ?_) (fun h => ?_)
    · exact sj_weak (l2 := [some (sj_r (some a0)), some (sj_i x1), some (sj_i x2), some (sj_i x3), some (sj_i x4), some (sj_i x5), some (sj_i x6), some (sj_i x7), some (sj_i v1), none, some (sj_i x10), none]) (⟨rfl, ⟨rfl, ⟨rfl, ⟨rfl, ⟨rfl, ⟨rfl, ⟨rfl, ⟨rfl, ⟨rfl, ⟨rfl, trivial⟩⟩⟩⟩⟩⟩⟩⟩⟩⟩) (st_X9_scan_138 hk52 a0 x1 x2 x3 x4 x5 x6 x7 v1 x10 x9 V ha0 h)
    · refine r_iconst (pc := 134) dX9_scan_134 ?_
      refine r_goto (pc := 135) (tgt := 139) dX9_scan_135 (by decide) ?_
      exact sj_weak (l2 := [some (sj_r (some a0)), some (sj_i x1), some (sj_i x2), some (sj_i x3), some (sj_i x4), some (sj_i x5), some (sj_i x6), some (sj_i x7), some (sj_i v1), none, some (sj_i x10), none]) (⟨rfl, ⟨rfl, ⟨rfl, ⟨rfl, ⟨rfl, ⟨rfl, ⟨rfl, ⟨rfl, ⟨rfl, ⟨rfl, trivial⟩⟩⟩⟩⟩⟩⟩⟩⟩⟩) (st_X9_scan_139 hk52 a0 x1 x2 x3 x4 x5 x6 x7 v1 x10 1 x9 V ha0 h)
set_option maxHeartbeats 4000000 in
theorem st_X9_scan_52_b {X : sj_X} {g : sj_G} {s0 : sj_Mem} {N : Nat} {q : Int × sj_VV} {k52 : Nat → Int → Int → Int → Int → Int → Int → Int → Int → Int → Int → sj_VV → Option (Int × sj_VV)} (hk52 : ∀ (a0 : Nat) (x1 : Int) (x2 : Int) (x3 : Int) (x4 : Int) (x5 : Int) (x6 : Int) (x7 : Int) (x8 : Int) (x9 : Int) (x10 : Int) (V : sj_VV), OK9 g a0 → k52 a0 x1 x2 x3 x4 x5 x6 x7 x8 x9 x10 V = some q → sj_T X m_X9_scan s0 (some (sj_i q.1), (g, q.2)) 52 [some (sj_r (some a0)), some (sj_i x1), some (sj_i x2), some (sj_i x3), some (sj_i x4), some (sj_i x5), some (sj_i x6), some (sj_i x7), some (sj_i x8), some (sj_i x9), some (sj_i x10), none] [] (g, V)) :
    ∀ (a0 : Nat) (x1 : Int) (x2 : Int) (x3 : Int) (x4 : Int) (x5 : Int) (x6 : Int) (x7 : Int) (x8 : Int) (x9 : Int) (x10 : Int) (V : sj_VV), OK9 g a0 → g_X9_scan_52_b N k52 a0 x1 x2 x3 x4 x5 x6 x7 x8 x9 x10 V = some q → sj_T X m_X9_scan s0 (some (sj_i q.1), (g, q.2)) 52 [some (sj_r (some a0)), some (sj_i x1), some (sj_i x2), some (sj_i x3), some (sj_i x4), some (sj_i x5), some (sj_i x6), some (sj_i x7), some (sj_i x8), some (sj_i x9), some (sj_i x10), none] [] (g, V) := by
  intro a0 x1 x2 x3 x4 x5 x6 x7 x8 x9 x10 V ha0 h
  unfold g_X9_scan_52_b at h
  refine r_iload (pc := 52) dX9_scan_52 rfl ?_
  refine r_bipush (pc := 54) dX9_scan_54 ⟨by decide, by decide⟩ ?_
  refine r_icmp_ge (pc := 56) (tgt := 148) h dX9_scan_56 (by decide) (fun h => ?_) (fun h => ?_)
  · refine r_iload (pc := 148) dX9_scan_148 rfl ?_
    refine r_if_ne (pc := 150) (tgt := 158) h dX9_scan_150 (by decide) (fun h => ?_) (fun h => ?_)
    · refine r_iload (pc := 153) dX9_scan_153 rfl ?_
      refine r_goto (pc := 155) (tgt := 160) dX9_scan_155 (by decide) ?_
      exact r_irets (pc := 160) h rfl dX9_scan_160
    · refine r_iload (pc := 158) dX9_scan_158 rfl ?_
      exact r_irets (pc := 160) h rfl dX9_scan_160
  · refine r_aload_n (pc := 59) dX9_scan_59 rfl rfl ?_
    refine r_iload_n (pc := 60) dX9_scan_60 rfl rfl ?_
    refine r_iload (pc := 61) dX9_scan_61 rfl ?_
    refine r_iload (pc := 63) dX9_scan_63 rfl ?_
    refine r_bipush (pc := 65) dX9_scan_65 ⟨by decide, by decide⟩ ?_
    refine r_idiv (pc := 67) h dX9_scan_67 (fun v1 h => ?_)
    refine r_iconst (pc := 68) dX9_scan_68 ?_
    refine r_isub (pc := 69) dX9_scan_69 ?_
    refine r_imul (pc := 70) dX9_scan_70 ?_
    refine r_iadd (pc := 71) dX9_scan_71 ?_
    refine r_iload_n (pc := 72) dX9_scan_72 rfl rfl ?_
    refine r_iload (pc := 73) dX9_scan_73 rfl ?_
    refine r_iload (pc := 75) dX9_scan_75 rfl ?_
    refine r_iconst (pc := 77) dX9_scan_77 ?_
    refine r_idiv (pc := 78) h dX9_scan_78 (fun v2 h => ?_)
    refine r_iconst (pc := 79) dX9_scan_79 ?_
    refine r_irem (pc := 80) h dX9_scan_80 (fun v3 h => ?_)
    refine r_iconst (pc := 81) dX9_scan_81 ?_
    refine r_isub (pc := 82) dX9_scan_82 ?_
    refine r_imul (pc := 83) dX9_scan_83 ?_
    refine r_iadd (pc := 84) dX9_scan_84 ?_
    refine r_iload_n (pc := 85) dX9_scan_85 rfl rfl ?_
    refine r_iload (pc := 86) dX9_scan_86 rfl ?_
    refine r_iload (pc := 88) dX9_scan_88 rfl ?_
    refine r_iconst (pc := 90) dX9_scan_90 ?_
    refine r_irem (pc := 91) h dX9_scan_91 (fun v4 h => ?_)
    refine r_iconst (pc := 92) dX9_scan_92 ?_
    refine r_isub (pc := 93) dX9_scan_93 ?_
    refine r_imul (pc := 94) dX9_scan_94 ?_
    refine r_iadd (pc := 95) dX9_scan_95 ?_
    refine r_iload (pc := 96) dX9_scan_96 rfl ?_
    refine r_callVs (pc := 98) (fun v => some (sj_i v)) (As := [sj_i (x1 + (x4 * (v1 - 2))), sj_i (x2 + (x4 * (v3 - 2))), sj_i (x3 + (x4 * (v4 - 2))), sj_i x5]) (rest := []) (b := a0) (ok9 ha0) h dX9_scan_98 mw_X9_212 vw_X9_factorBy (fun _ _ hc => cg_X9_factorBy ha0 hc) rfl ⟨(Nat.le_of_ble_eq_true rfl), (Nat.le_of_ble_eq_true rfl)⟩ (Nat.le_of_ble_eq_true rfl) rfl (fun v6 V5 h => ?_)
    refine r_istore (ln := [some (sj_r (some a0)), some (sj_i x1), some (sj_i x2), some (sj_i x3), some (sj_i x4), some (sj_i x5), some (sj_i x6), some (sj_i x7), some (sj_i x8), some (sj_i x9), some (sj_i x10), some (sj_i v6)]) (pc := 101) dX9_scan_101 (Nat.le_of_ble_eq_true rfl) rfl ?_
    refine r_iload (pc := 103) dX9_scan_103 rfl ?_
    refine r_iload (pc := 105) dX9_scan_105 rfl ?_
    refine r_iconst (pc := 107) dX9_scan_107 ?_
    refine r_icmp_ne (pc := 108) (tgt := 115) h dX9_scan_108 (by decide) (fun h => ?_) (fun h => ?_)
    · refine r_iconst (pc := 111) dX9_scan_111 ?_
      refine r_goto (pc := 112) (tgt := 116) dX9_scan_112 (by decide) ?_
      exact sj_weak (l2 := [some (sj_r (some a0)), some (sj_i x1), some (sj_i x2), some (sj_i x3), some (sj_i x4), some (sj_i x5), some (sj_i x6), some (sj_i x7), none, some (sj_i x9), some (sj_i x10), some (sj_i v6)]) (⟨rfl, ⟨rfl, ⟨rfl, ⟨rfl, ⟨rfl, ⟨rfl, ⟨rfl, ⟨rfl, ⟨rfl, ⟨rfl, ⟨rfl, trivial⟩⟩⟩⟩⟩⟩⟩⟩⟩⟩⟩) (st_X9_scan_116 hk52 a0 x1 x2 x3 x4 x5 x6 x7 x9 x10 v6 0 x8 V5 ha0 h)
    · refine r_iconst (pc := 115) dX9_scan_115 ?_
      exact sj_weak (l2 := [some (sj_r (some a0)), some (sj_i x1), some (sj_i x2), some (sj_i x3), some (sj_i x4), some (sj_i x5), some (sj_i x6), some (sj_i x7), none, some (sj_i x9), some (sj_i x10), some (sj_i v6)]) (⟨rfl, ⟨rfl, ⟨rfl, ⟨rfl, ⟨rfl, ⟨rfl, ⟨rfl, ⟨rfl, ⟨rfl, ⟨rfl, ⟨rfl, trivial⟩⟩⟩⟩⟩⟩⟩⟩⟩⟩⟩) (st_X9_scan_116 hk52 a0 x1 x2 x3 x4 x5 x6 x7 x9 x10 v6 1 x8 V5 ha0 h)
set_option maxHeartbeats 4000000 in
theorem st_X9_scan_52 {X : sj_X} {g : sj_G} {s0 : sj_Mem} {N : Nat} {q : Int × sj_VV} :
    ∀ (n : Nat) (a0 : Nat) (x1 : Int) (x2 : Int) (x3 : Int) (x4 : Int) (x5 : Int) (x6 : Int) (x7 : Int) (x8 : Int) (x9 : Int) (x10 : Int) (V : sj_VV), OK9 g a0 → g_X9_scan_52 N n a0 x1 x2 x3 x4 x5 x6 x7 x8 x9 x10 V = some q → sj_T X m_X9_scan s0 (some (sj_i q.1), (g, q.2)) 52 [some (sj_r (some a0)), some (sj_i x1), some (sj_i x2), some (sj_i x3), some (sj_i x4), some (sj_i x5), some (sj_i x6), some (sj_i x7), some (sj_i x8), some (sj_i x9), some (sj_i x10), none] [] (g, V) := by
  intro n
  induction n with
  | zero => intro a0 x1 x2 x3 x4 x5 x6 x7 x8 x9 x10 V ha0 h; exact nomatch h
  | succ n ih => intro a0 x1 x2 x3 x4 x5 x6 x7 x8 x9 x10 V ha0 h; exact st_X9_scan_52_b (N := N) ih a0 x1 x2 x3 x4 x5 x6 x7 x8 x9 x10 V ha0 h
set_option maxHeartbeats 4000000 in
theorem st_X9_scan_0 {X : sj_X} {g : sj_G} {s0 : sj_Mem} {N : Nat} {q : Int × sj_VV} :
    ∀ (a0 : Nat) (x1 : Int) (x2 : Int) (x3 : Int) (x4 : Int) (x5 : Int) (x6 : Int) (x7 : Int) (V : sj_VV), OK9 g a0 → g_X9_scan N a0 x1 x2 x3 x4 x5 x6 x7 V = some q → sj_T X m_X9_scan s0 (some (sj_i q.1), (g, q.2)) 0 [some (sj_r (some a0)), some (sj_i x1), some (sj_i x2), some (sj_i x3), some (sj_i x4), some (sj_i x5), some (sj_i x6), some (sj_i x7), none, none, none, none] [] (g, V) := by
  intro a0 x1 x2 x3 x4 x5 x6 x7 V ha0 h
  unfold g_X9_scan at h
  refine r_iload_n (pc := 0) dX9_scan_0 rfl rfl ?_
  refine r_iload_n (pc := 1) dX9_scan_1 rfl rfl ?_
  refine r_iload_n (pc := 2) dX9_scan_2 rfl rfl ?_
  refine r_callSs (pc := 3) (fun v => some (sj_i v)) (As := [sj_i x1, sj_i x2, sj_i x3]) (rest := []) h dX9_scan_3 mw_X9_197 kw_1284 (fun _ _ hc => cg_X9_isCircle  hc) rfl ⟨(Nat.le_of_ble_eq_true rfl), (Nat.le_of_ble_eq_true rfl)⟩ (Nat.le_of_ble_eq_true rfl) rfl (fun v2 V1 h => ?_)
  refine r_if_eq (pc := 6) (tgt := 41) h dX9_scan_6 (by decide) (fun h => ?_) (fun h => ?_)
  · refine r_iconst (pc := 41) dX9_scan_41 ?_
    exact r_irets (pc := 42) h rfl dX9_scan_42
  · refine r_iload (pc := 9) dX9_scan_9 rfl ?_
    refine r_i2l (pc := 11) h dX9_scan_11 (fun v3 h => ?_)
    refine r_lconst1 (pc := 12) dX9_scan_12 ?_
    refine r_ldc2 (n := 64) (pc := 13) dX9_scan_13 kc_X9_241 ?_
    refine r_callSs (pc := 16) (fun v => some (sj_i v)) (As := [sj_j v3, sj_j 1, sj_j 64]) (rest := []) h dX9_scan_16 mw_X9_57 kw_1225 (fun _ _ hc => cg_X9_isIn  hc) rfl ⟨(Nat.le_of_ble_eq_true rfl), (Nat.le_of_ble_eq_true rfl)⟩ (Nat.le_of_ble_eq_true rfl) rfl (fun v5 V4 h => ?_)
    refine r_if_eq (pc := 19) (tgt := 41) h dX9_scan_19 (by decide) (fun h => ?_) (fun h => ?_)
    · refine r_iconst (pc := 41) dX9_scan_41 ?_
      exact r_irets (pc := 42) h rfl dX9_scan_42
    · refine r_iload (pc := 22) dX9_scan_22 rfl ?_
      refine r_callSs (pc := 24) (fun v => some (sj_i v)) (As := [sj_i x6]) (rest := []) h dX9_scan_24 mw_X9_287 kw_1446 (fun _ _ hc => cg_X9_isK  hc) rfl ⟨(Nat.le_of_ble_eq_true rfl), (Nat.le_of_ble_eq_true rfl)⟩ (Nat.le_of_ble_eq_true rfl) rfl (fun v7 V6 h => ?_)
      refine r_if_eq (pc := 27) (tgt := 41) h dX9_scan_27 (by decide) (fun h => ?_) (fun h => ?_)
      · refine r_iconst (pc := 41) dX9_scan_41 ?_
        exact r_irets (pc := 42) h rfl dX9_scan_42
      · refine r_iload (pc := 30) dX9_scan_30 rfl ?_
        refine r_i2l (pc := 32) h dX9_scan_32 (fun v8 h => ?_)
        refine r_lconst0 (pc := 33) dX9_scan_33 ?_
        refine r_lconst1 (pc := 34) dX9_scan_34 ?_
        refine r_callSs (pc := 35) (fun v => some (sj_i v)) (As := [sj_j v8, sj_j 0, sj_j 1]) (rest := []) h dX9_scan_35 mw_X9_57 kw_1225 (fun _ _ hc => cg_X9_isIn  hc) rfl ⟨(Nat.le_of_ble_eq_true rfl), (Nat.le_of_ble_eq_true rfl)⟩ (Nat.le_of_ble_eq_true rfl) rfl (fun v10 V9 h => ?_)
        refine r_if_ne (pc := 38) (tgt := 43) h dX9_scan_38 (by decide) (fun h => ?_) (fun h => ?_)
        · refine r_iconst (pc := 41) dX9_scan_41 ?_
          exact r_irets (pc := 42) h rfl dX9_scan_42
        · refine r_iconst (pc := 43) dX9_scan_43 ?_
          refine r_istore (ln := [some (sj_r (some a0)), some (sj_i x1), some (sj_i x2), some (sj_i x3), some (sj_i x4), some (sj_i x5), some (sj_i x6), some (sj_i x7), some (sj_i 0), none, none, none]) (pc := 44) dX9_scan_44 (Nat.le_of_ble_eq_true rfl) rfl ?_
          refine r_iconst (pc := 46) dX9_scan_46 ?_
          refine r_istore (ln := [some (sj_r (some a0)), some (sj_i x1), some (sj_i x2), some (sj_i x3), some (sj_i x4), some (sj_i x5), some (sj_i x6), some (sj_i x7), some (sj_i 0), some (sj_i 0), none, none]) (pc := 47) dX9_scan_47 (Nat.le_of_ble_eq_true rfl) rfl ?_
          refine r_iconst (pc := 49) dX9_scan_49 ?_
          refine r_istore (ln := [some (sj_r (some a0)), some (sj_i x1), some (sj_i x2), some (sj_i x3), some (sj_i x4), some (sj_i x5), some (sj_i x6), some (sj_i x7), some (sj_i 0), some (sj_i 0), some (sj_i 0), none]) (pc := 50) dX9_scan_50 (Nat.le_of_ble_eq_true rfl) rfl ?_
          exact sj_weak (l2 := [some (sj_r (some a0)), some (sj_i x1), some (sj_i x2), some (sj_i x3), some (sj_i x4), some (sj_i x5), some (sj_i x6), some (sj_i x7), some (sj_i 0), some (sj_i 0), some (sj_i 0), none]) (⟨rfl, ⟨rfl, ⟨rfl, ⟨rfl, ⟨rfl, ⟨rfl, ⟨rfl, ⟨rfl, ⟨rfl, ⟨rfl, ⟨rfl, trivial⟩⟩⟩⟩⟩⟩⟩⟩⟩⟩⟩) (st_X9_scan_52 N a0 x1 x2 x3 x4 x5 x6 x7 0 0 0 V9 ha0 h)
set_option maxHeartbeats 4000000 in
theorem cg_X9_scan {X : sj_X} {g : sj_G} {N : Nat} {a0 : Nat} {x1 : Int} {x2 : Int} {x3 : Int} {x4 : Int} {x5 : Int} {x6 : Int} {x7 : Int} {V : sj_VV} {q : Int × sj_VV} (ha0 : OK9 g a0) (h : g_X9_scan N a0 x1 x2 x3 x4 x5 x6 x7 V = some q) : sj_C X m_X9_scan [sj_r (some a0), sj_i x1, sj_i x2, sj_i x3, sj_i x4, sj_i x5, sj_i x6, sj_i x7] (g, V) (some (sj_i q.1), (g, q.2)) :=
  sj_C_of (by decide +kernel) (Nat.le_of_ble_eq_true rfl) (lo := [some (sj_r (some a0)), some (sj_i x1), some (sj_i x2), some (sj_i x3), some (sj_i x4), some (sj_i x5), some (sj_i x6), some (sj_i x7), none, none, none, none]) rfl (sj_weak (l2 := [some (sj_r (some a0)), some (sj_i x1), some (sj_i x2), some (sj_i x3), some (sj_i x4), some (sj_i x5), some (sj_i x6), some (sj_i x7), none, none, none, none]) (⟨rfl, ⟨rfl, ⟨rfl, ⟨rfl, ⟨rfl, ⟨rfl, ⟨rfl, ⟨rfl, trivial⟩⟩⟩⟩⟩⟩⟩⟩) (st_X9_scan_0 a0 x1 x2 x3 x4 x5 x6 x7 V ha0 h))
set_option maxHeartbeats 4000000 in
theorem c_X9_scan {X : sj_X} {N : Nat} {a0 : Nat} {x1 : Int} {x2 : Int} {x3 : Int} {x4 : Int} {x5 : Int} {x6 : Int} {x7 : Int} {s : sj_Mem} {q : Int × sj_Mem} (h : f_X9_scan N a0 x1 x2 x3 x4 x5 x6 x7 s = some q) : sj_C X m_X9_scan [sj_r (some a0), sj_i x1, sj_i x2, sj_i x3, sj_i x4, sj_i x5, sj_i x6, sj_i x7] s (some (sj_i q.1), q.2) := by
  obtain ⟨g, V⟩ := s
  unfold f_X9_scan at h
  obtain ⟨ho, h1⟩ := e_ok_some h
  obtain ⟨q2, h2, rfl⟩ := sj_map_some h1
  exact cg_X9_scan ho h2
theorem dX9_isColumn_0 : decode cX9_isColumn 0 = .ok (.iload_n 1, 1) := by decide +kernel
theorem dX9_isColumn_1 : decode cX9_isColumn 1 = .ok (.i2l, 1) := by decide +kernel
theorem dX9_isColumn_2 : decode cX9_isColumn 2 = .ok (.lconst 0, 1) := by decide +kernel
theorem dX9_isColumn_3 : decode cX9_isColumn 3 = .ok (.aload_n 0, 1) := by decide +kernel
theorem dX9_isColumn_4 : decode cX9_isColumn 4 = .ok (.getfield 9, 3) := by decide +kernel
theorem dX9_isColumn_7 : decode cX9_isColumn 7 = .ok (.iconst 0, 1) := by decide +kernel
theorem dX9_isColumn_8 : decode cX9_isColumn 8 = .ok (.iaload, 1) := by decide +kernel
theorem dX9_isColumn_9 : decode cX9_isColumn 9 = .ok (.i2l, 1) := by decide +kernel
theorem dX9_isColumn_10 : decode cX9_isColumn 10 = .ok (.invokestatic 57, 3) := by decide +kernel
theorem dX9_isColumn_13 : decode cX9_isColumn 13 = .ok (.ireturn, 1) := by decide +kernel
set_option maxHeartbeats 4000000 in
theorem st_X9_isColumn_0 {X : sj_X} {g : sj_G} {s0 : sj_Mem} {N : Nat} {q : Int × sj_VV} :
    ∀ (a0 : Nat) (x1 : Int) (V : sj_VV), OK9 g a0 → g_X9_isColumn N a0 x1 V = some q → sj_T X m_X9_isColumn s0 (some (sj_i q.1), (g, q.2)) 0 [some (sj_r (some a0)), some (sj_i x1)] [] (g, V) := by
  intro a0 x1 V ha0 h
  unfold g_X9_isColumn at h
  refine r_iload_n (pc := 0) dX9_isColumn_0 rfl rfl ?_
  refine r_i2l (pc := 1) h dX9_isColumn_1 (fun v1 h => ?_)
  refine r_lconst0 (pc := 2) dX9_isColumn_2 ?_
  refine r_aload_n (pc := 3) dX9_isColumn_3 rfl rfl ?_
  refine r_gRs (b := a0 + 1) (pc := 4) dX9_isColumn_4 fw_X9_9 rfl (ok9 ha0) (ok9_0 ha0).1 ?_
  refine r_iconst (pc := 7) dX9_isColumn_7 ?_
  refine r_ialoads (pc := 8) h dX9_isColumn_8 (ok9_0 ha0).2 (fun h => ?_)
  refine r_i2l (pc := 9) h dX9_isColumn_9 (fun v2 h => ?_)
  refine r_callSs (pc := 10) (fun v => some (sj_i v)) (As := [sj_j v1, sj_j 0, sj_j v2]) (rest := []) h dX9_isColumn_10 mw_X9_57 kw_1225 (fun _ _ hc => cg_X9_isIn  hc) rfl ⟨(Nat.le_of_ble_eq_true rfl), (Nat.le_of_ble_eq_true rfl)⟩ (Nat.le_of_ble_eq_true rfl) rfl (fun v4 V3 h => ?_)
  exact r_zrets (pc := 13) h rfl dX9_isColumn_13
set_option maxHeartbeats 4000000 in
theorem cg_X9_isColumn {X : sj_X} {g : sj_G} {N : Nat} {a0 : Nat} {x1 : Int} {V : sj_VV} {q : Int × sj_VV} (ha0 : OK9 g a0) (h : g_X9_isColumn N a0 x1 V = some q) : sj_C X m_X9_isColumn [sj_r (some a0), sj_i x1] (g, V) (some (sj_i q.1), (g, q.2)) :=
  sj_C_of (by decide +kernel) (Nat.le_of_ble_eq_true rfl) (lo := [some (sj_r (some a0)), some (sj_i x1)]) rfl (sj_weak (l2 := [some (sj_r (some a0)), some (sj_i x1)]) (⟨rfl, ⟨rfl, trivial⟩⟩) (st_X9_isColumn_0 a0 x1 V ha0 h))
set_option maxHeartbeats 4000000 in
theorem c_X9_isColumn {X : sj_X} {N : Nat} {a0 : Nat} {x1 : Int} {s : sj_Mem} {q : Int × sj_Mem} (h : f_X9_isColumn N a0 x1 s = some q) : sj_C X m_X9_isColumn [sj_r (some a0), sj_i x1] s (some (sj_i q.1), q.2) := by
  obtain ⟨g, V⟩ := s
  unfold f_X9_isColumn at h
  obtain ⟨ho, h1⟩ := e_ok_some h
  obtain ⟨q2, h2, rfl⟩ := sj_map_some h1
  exact cg_X9_isColumn ho h2
theorem dX9_isBetter_0 : decode cX9_isBetter 0 = .ok (.iconst (-1), 1) := by decide +kernel
theorem dX9_isBetter_1 : decode cX9_isBetter 1 = .ok (.istore_n 3, 1) := by decide +kernel
theorem dX9_isBetter_2 : decode cX9_isBetter 2 = .ok (.iconst 0, 1) := by decide +kernel
theorem dX9_isBetter_3 : decode cX9_isBetter 3 = .ok (.istore 4, 2) := by decide +kernel
theorem dX9_isBetter_5 : decode cX9_isBetter 5 = .ok (.iconst 0, 1) := by decide +kernel
theorem dX9_isBetter_6 : decode cX9_isBetter 6 = .ok (.istore 5, 2) := by decide +kernel
theorem dX9_isBetter_8 : decode cX9_isBetter 8 = .ok (.iconst 0, 1) := by decide +kernel
theorem dX9_isBetter_9 : decode cX9_isBetter 9 = .ok (.istore 6, 2) := by decide +kernel
theorem dX9_isBetter_11 : decode cX9_isBetter 11 = .ok (.iconst 0, 1) := by decide +kernel
theorem dX9_isBetter_12 : decode cX9_isBetter 12 = .ok (.istore 7, 2) := by decide +kernel
theorem dX9_isBetter_14 : decode cX9_isBetter 14 = .ok (.iload 7, 2) := by decide +kernel
theorem dX9_isBetter_16 : decode cX9_isBetter 16 = .ok (.bipush 27, 2) := by decide +kernel
theorem dX9_isBetter_18 : decode cX9_isBetter 18 = .ok (.if_icmp .ge 105, 3) := by decide +kernel
theorem dX9_isBetter_21 : decode cX9_isBetter 21 = .ok (.aload_n 0, 1) := by decide +kernel
theorem dX9_isBetter_22 : decode cX9_isBetter 22 = .ok (.getfield 222, 3) := by decide +kernel
theorem dX9_isBetter_25 : decode cX9_isBetter 25 = .ok (.iload_n 1, 1) := by decide +kernel
theorem dX9_isBetter_26 : decode cX9_isBetter 26 = .ok (.iload 7, 2) := by decide +kernel
theorem dX9_isBetter_28 : decode cX9_isBetter 28 = .ok (.bipush 9, 2) := by decide +kernel
theorem dX9_isBetter_30 : decode cX9_isBetter 30 = .ok (.idiv, 1) := by decide +kernel
theorem dX9_isBetter_31 : decode cX9_isBetter 31 = .ok (.iconst 1, 1) := by decide +kernel
theorem dX9_isBetter_32 : decode cX9_isBetter 32 = .ok (.isub, 1) := by decide +kernel
theorem dX9_isBetter_33 : decode cX9_isBetter 33 = .ok (.imul, 1) := by decide +kernel
theorem dX9_isBetter_34 : decode cX9_isBetter 34 = .ok (.iadd, 1) := by decide +kernel
theorem dX9_isBetter_35 : decode cX9_isBetter 35 = .ok (.istore 8, 2) := by decide +kernel
theorem dX9_isBetter_37 : decode cX9_isBetter 37 = .ok (.aload_n 0, 1) := by decide +kernel
theorem dX9_isBetter_38 : decode cX9_isBetter 38 = .ok (.getfield 225, 3) := by decide +kernel
theorem dX9_isBetter_41 : decode cX9_isBetter 41 = .ok (.iload_n 1, 1) := by decide +kernel
theorem dX9_isBetter_42 : decode cX9_isBetter 42 = .ok (.iload 7, 2) := by decide +kernel
theorem dX9_isBetter_44 : decode cX9_isBetter 44 = .ok (.iconst 3, 1) := by decide +kernel
theorem dX9_isBetter_45 : decode cX9_isBetter 45 = .ok (.idiv, 1) := by decide +kernel
theorem dX9_isBetter_46 : decode cX9_isBetter 46 = .ok (.iconst 3, 1) := by decide +kernel
theorem dX9_isBetter_47 : decode cX9_isBetter 47 = .ok (.irem, 1) := by decide +kernel
theorem dX9_isBetter_48 : decode cX9_isBetter 48 = .ok (.iconst 1, 1) := by decide +kernel
theorem dX9_isBetter_49 : decode cX9_isBetter 49 = .ok (.isub, 1) := by decide +kernel
theorem dX9_isBetter_50 : decode cX9_isBetter 50 = .ok (.imul, 1) := by decide +kernel
theorem dX9_isBetter_51 : decode cX9_isBetter 51 = .ok (.iadd, 1) := by decide +kernel
theorem dX9_isBetter_52 : decode cX9_isBetter 52 = .ok (.istore 9, 2) := by decide +kernel
theorem dX9_isBetter_54 : decode cX9_isBetter 54 = .ok (.aload_n 0, 1) := by decide +kernel
theorem dX9_isBetter_55 : decode cX9_isBetter 55 = .ok (.getfield 228, 3) := by decide +kernel
theorem dX9_isBetter_58 : decode cX9_isBetter 58 = .ok (.iload_n 1, 1) := by decide +kernel
theorem dX9_isBetter_59 : decode cX9_isBetter 59 = .ok (.iload 7, 2) := by decide +kernel
theorem dX9_isBetter_61 : decode cX9_isBetter 61 = .ok (.iconst 3, 1) := by decide +kernel
theorem dX9_isBetter_62 : decode cX9_isBetter 62 = .ok (.irem, 1) := by decide +kernel
theorem dX9_isBetter_63 : decode cX9_isBetter 63 = .ok (.iconst 1, 1) := by decide +kernel
theorem dX9_isBetter_64 : decode cX9_isBetter 64 = .ok (.isub, 1) := by decide +kernel
theorem dX9_isBetter_65 : decode cX9_isBetter 65 = .ok (.imul, 1) := by decide +kernel
theorem dX9_isBetter_66 : decode cX9_isBetter 66 = .ok (.iadd, 1) := by decide +kernel
theorem dX9_isBetter_67 : decode cX9_isBetter 67 = .ok (.istore 10, 2) := by decide +kernel
theorem dX9_isBetter_69 : decode cX9_isBetter 69 = .ok (.aload_n 0, 1) := by decide +kernel
theorem dX9_isBetter_70 : decode cX9_isBetter 70 = .ok (.iload 8, 2) := by decide +kernel
theorem dX9_isBetter_72 : decode cX9_isBetter 72 = .ok (.iload 9, 2) := by decide +kernel
theorem dX9_isBetter_74 : decode cX9_isBetter 74 = .ok (.iload 10, 2) := by decide +kernel
theorem dX9_isBetter_76 : decode cX9_isBetter 76 = .ok (.iload_n 2, 1) := by decide +kernel
theorem dX9_isBetter_77 : decode cX9_isBetter 77 = .ok (.invokevirtual 212, 3) := by decide +kernel
theorem dX9_isBetter_80 : decode cX9_isBetter 80 = .ok (.istore 11, 2) := by decide +kernel
theorem dX9_isBetter_82 : decode cX9_isBetter 82 = .ok (.iload 11, 2) := by decide +kernel
theorem dX9_isBetter_84 : decode cX9_isBetter 84 = .ok (.iconst (-1), 1) := by decide +kernel
theorem dX9_isBetter_85 : decode cX9_isBetter 85 = .ok (.if_icmp .eq 32, 3) := by decide +kernel
theorem dX9_isBetter_88 : decode cX9_isBetter 88 = .ok (.iload_n 3, 1) := by decide +kernel
theorem dX9_isBetter_89 : decode cX9_isBetter 89 = .ok (.iconst (-1), 1) := by decide +kernel
theorem dX9_isBetter_90 : decode cX9_isBetter 90 = .ok (.if_icmp .eq 12, 3) := by decide +kernel
theorem dX9_isBetter_93 : decode cX9_isBetter 93 = .ok (.iload 11, 2) := by decide +kernel
theorem dX9_isBetter_95 : decode cX9_isBetter 95 = .ok (.iload_n 3, 1) := by decide +kernel
theorem dX9_isBetter_96 : decode cX9_isBetter 96 = .ok (.if_icmp .lt 6, 3) := by decide +kernel
theorem dX9_isBetter_99 : decode cX9_isBetter 99 = .ok (.goto 18, 3) := by decide +kernel
theorem dX9_isBetter_102 : decode cX9_isBetter 102 = .ok (.iload 11, 2) := by decide +kernel
theorem dX9_isBetter_104 : decode cX9_isBetter 104 = .ok (.istore_n 3, 1) := by decide +kernel
theorem dX9_isBetter_105 : decode cX9_isBetter 105 = .ok (.iload 8, 2) := by decide +kernel
theorem dX9_isBetter_107 : decode cX9_isBetter 107 = .ok (.istore 4, 2) := by decide +kernel
theorem dX9_isBetter_109 : decode cX9_isBetter 109 = .ok (.iload 9, 2) := by decide +kernel
theorem dX9_isBetter_111 : decode cX9_isBetter 111 = .ok (.istore 5, 2) := by decide +kernel
theorem dX9_isBetter_113 : decode cX9_isBetter 113 = .ok (.iload 10, 2) := by decide +kernel
theorem dX9_isBetter_115 : decode cX9_isBetter 115 = .ok (.istore 6, 2) := by decide +kernel
theorem dX9_isBetter_117 : decode cX9_isBetter 117 = .ok (.iinc 7 1, 3) := by decide +kernel
theorem dX9_isBetter_120 : decode cX9_isBetter 120 = .ok (.goto (-106), 3) := by decide +kernel
theorem dX9_isBetter_123 : decode cX9_isBetter 123 = .ok (.iload_n 3, 1) := by decide +kernel
theorem dX9_isBetter_124 : decode cX9_isBetter 124 = .ok (.iconst (-1), 1) := by decide +kernel
theorem dX9_isBetter_125 : decode cX9_isBetter 125 = .ok (.if_icmp .eq 19, 3) := by decide +kernel
theorem dX9_isBetter_128 : decode cX9_isBetter 128 = .ok (.aload_n 0, 1) := by decide +kernel
theorem dX9_isBetter_129 : decode cX9_isBetter 129 = .ok (.getfield 231, 3) := by decide +kernel
theorem dX9_isBetter_132 : decode cX9_isBetter 132 = .ok (.iconst (-1), 1) := by decide +kernel
theorem dX9_isBetter_133 : decode cX9_isBetter 133 = .ok (.if_icmp .eq 13, 3) := by decide +kernel
theorem dX9_isBetter_136 : decode cX9_isBetter 136 = .ok (.iload_n 3, 1) := by decide +kernel
theorem dX9_isBetter_137 : decode cX9_isBetter 137 = .ok (.aload_n 0, 1) := by decide +kernel
theorem dX9_isBetter_138 : decode cX9_isBetter 138 = .ok (.getfield 231, 3) := by decide +kernel
theorem dX9_isBetter_141 : decode cX9_isBetter 141 = .ok (.if_icmp .lt 5, 3) := by decide +kernel
theorem dX9_isBetter_144 : decode cX9_isBetter 144 = .ok (.iconst 0, 1) := by decide +kernel
theorem dX9_isBetter_145 : decode cX9_isBetter 145 = .ok (.ireturn, 1) := by decide +kernel
theorem dX9_isBetter_146 : decode cX9_isBetter 146 = .ok (.aload_n 0, 1) := by decide +kernel
theorem dX9_isBetter_147 : decode cX9_isBetter 147 = .ok (.iload_n 3, 1) := by decide +kernel
theorem dX9_isBetter_148 : decode cX9_isBetter 148 = .ok (.putfield 231, 3) := by decide +kernel
theorem dX9_isBetter_151 : decode cX9_isBetter 151 = .ok (.aload_n 0, 1) := by decide +kernel
theorem dX9_isBetter_152 : decode cX9_isBetter 152 = .ok (.iload 4, 2) := by decide +kernel
theorem dX9_isBetter_154 : decode cX9_isBetter 154 = .ok (.putfield 222, 3) := by decide +kernel
theorem dX9_isBetter_157 : decode cX9_isBetter 157 = .ok (.aload_n 0, 1) := by decide +kernel
theorem dX9_isBetter_158 : decode cX9_isBetter 158 = .ok (.iload 5, 2) := by decide +kernel
theorem dX9_isBetter_160 : decode cX9_isBetter 160 = .ok (.putfield 225, 3) := by decide +kernel
theorem dX9_isBetter_163 : decode cX9_isBetter 163 = .ok (.aload_n 0, 1) := by decide +kernel
theorem dX9_isBetter_164 : decode cX9_isBetter 164 = .ok (.iload 6, 2) := by decide +kernel
theorem dX9_isBetter_166 : decode cX9_isBetter 166 = .ok (.putfield 228, 3) := by decide +kernel
theorem dX9_isBetter_169 : decode cX9_isBetter 169 = .ok (.iconst 1, 1) := by decide +kernel
theorem dX9_isBetter_170 : decode cX9_isBetter 170 = .ok (.ireturn, 1) := by decide +kernel
set_option maxHeartbeats 4000000 in
theorem st_X9_isBetter_117 {X : sj_X} {g : sj_G} {s0 : sj_Mem} {N : Nat} {q : Int × sj_VV} {k14 : Nat → Int → Int → Int → Int → Int → Int → Int → sj_VV → Option (Int × sj_VV)} (hk14 : ∀ (a0 : Nat) (x1 : Int) (x2 : Int) (x3 : Int) (x4 : Int) (x5 : Int) (x6 : Int) (x7 : Int) (V : sj_VV), OK9 g a0 → k14 a0 x1 x2 x3 x4 x5 x6 x7 V = some q → sj_T X m_X9_isBetter s0 (some (sj_i q.1), (g, q.2)) 14 [some (sj_r (some a0)), some (sj_i x1), some (sj_i x2), some (sj_i x3), some (sj_i x4), some (sj_i x5), some (sj_i x6), some (sj_i x7), none, none, none, none] [] (g, V)) :
    ∀ (a0 : Nat) (x1 : Int) (x2 : Int) (x3 : Int) (x4 : Int) (x5 : Int) (x6 : Int) (x7 : Int) (V : sj_VV), OK9 g a0 → g_X9_isBetter_117 N k14 a0 x1 x2 x3 x4 x5 x6 x7 V = some q → sj_T X m_X9_isBetter s0 (some (sj_i q.1), (g, q.2)) 117 [some (sj_r (some a0)), some (sj_i x1), some (sj_i x2), some (sj_i x3), some (sj_i x4), some (sj_i x5), some (sj_i x6), some (sj_i x7), none, none, none, none] [] (g, V) := by
  intro a0 x1 x2 x3 x4 x5 x6 x7 V ha0 h
  unfold g_X9_isBetter_117 at h
  refine r_iinc (ln := fun w => [some (sj_r (some a0)), some (sj_i x1), some (sj_i x2), some (sj_i x3), some (sj_i x4), some (sj_i x5), some (sj_i x6), some (sj_i w), none, none, none, none]) (pc := 117) h dX9_isBetter_117 rfl (Nat.le_of_ble_eq_true rfl) (fun _ => rfl) (fun v1 h => ?_)
  refine r_goto (pc := 120) (tgt := 14) dX9_isBetter_120 (by decide) ?_
  exact sj_weak (l2 := [some (sj_r (some a0)), some (sj_i x1), some (sj_i x2), some (sj_i x3), some (sj_i x4), some (sj_i x5), some (sj_i x6), some (sj_i v1), none, none, none, none]) (⟨rfl, ⟨rfl, ⟨rfl, ⟨rfl, ⟨rfl, ⟨rfl, ⟨rfl, ⟨rfl, trivial⟩⟩⟩⟩⟩⟩⟩⟩) (hk14 a0 x1 x2 x3 x4 x5 x6 v1 V ha0 h)
set_option maxHeartbeats 4000000 in
theorem st_X9_isBetter_102 {X : sj_X} {g : sj_G} {s0 : sj_Mem} {N : Nat} {q : Int × sj_VV} {k14 : Nat → Int → Int → Int → Int → Int → Int → Int → sj_VV → Option (Int × sj_VV)} (hk14 : ∀ (a0 : Nat) (x1 : Int) (x2 : Int) (x3 : Int) (x4 : Int) (x5 : Int) (x6 : Int) (x7 : Int) (V : sj_VV), OK9 g a0 → k14 a0 x1 x2 x3 x4 x5 x6 x7 V = some q → sj_T X m_X9_isBetter s0 (some (sj_i q.1), (g, q.2)) 14 [some (sj_r (some a0)), some (sj_i x1), some (sj_i x2), some (sj_i x3), some (sj_i x4), some (sj_i x5), some (sj_i x6), some (sj_i x7), none, none, none, none] [] (g, V)) :
    ∀ (a0 : Nat) (x1 : Int) (x2 : Int) (x7 : Int) (x8 : Int) (x9 : Int) (x10 : Int) (x11 : Int) (V : sj_VV), OK9 g a0 → g_X9_isBetter_102 N k14 a0 x1 x2 x7 x8 x9 x10 x11 V = some q → sj_T X m_X9_isBetter s0 (some (sj_i q.1), (g, q.2)) 102 [some (sj_r (some a0)), some (sj_i x1), some (sj_i x2), none, none, none, none, some (sj_i x7), some (sj_i x8), some (sj_i x9), some (sj_i x10), some (sj_i x11)] [] (g, V) := by
  intro a0 x1 x2 x7 x8 x9 x10 x11 V ha0 h
  unfold g_X9_isBetter_102 at h
  refine r_iload (pc := 102) dX9_isBetter_102 rfl ?_
  refine r_istore_n (ln := [some (sj_r (some a0)), some (sj_i x1), some (sj_i x2), some (sj_i x11), none, none, none, some (sj_i x7), some (sj_i x8), some (sj_i x9), some (sj_i x10), some (sj_i x11)]) (pc := 104) dX9_isBetter_104 rfl (Nat.le_of_ble_eq_true rfl) rfl ?_
  refine r_iload (pc := 105) dX9_isBetter_105 rfl ?_
  refine r_istore (ln := [some (sj_r (some a0)), some (sj_i x1), some (sj_i x2), some (sj_i x11), some (sj_i x8), none, none, some (sj_i x7), some (sj_i x8), some (sj_i x9), some (sj_i x10), some (sj_i x11)]) (pc := 107) dX9_isBetter_107 (Nat.le_of_ble_eq_true rfl) rfl ?_
  refine r_iload (pc := 109) dX9_isBetter_109 rfl ?_
  refine r_istore (ln := [some (sj_r (some a0)), some (sj_i x1), some (sj_i x2), some (sj_i x11), some (sj_i x8), some (sj_i x9), none, some (sj_i x7), some (sj_i x8), some (sj_i x9), some (sj_i x10), some (sj_i x11)]) (pc := 111) dX9_isBetter_111 (Nat.le_of_ble_eq_true rfl) rfl ?_
  refine r_iload (pc := 113) dX9_isBetter_113 rfl ?_
  refine r_istore (ln := [some (sj_r (some a0)), some (sj_i x1), some (sj_i x2), some (sj_i x11), some (sj_i x8), some (sj_i x9), some (sj_i x10), some (sj_i x7), some (sj_i x8), some (sj_i x9), some (sj_i x10), some (sj_i x11)]) (pc := 115) dX9_isBetter_115 (Nat.le_of_ble_eq_true rfl) rfl ?_
  exact sj_weak (l2 := [some (sj_r (some a0)), some (sj_i x1), some (sj_i x2), some (sj_i x11), some (sj_i x8), some (sj_i x9), some (sj_i x10), some (sj_i x7), none, none, none, none]) (⟨rfl, ⟨rfl, ⟨rfl, ⟨rfl, ⟨rfl, ⟨rfl, ⟨rfl, ⟨rfl, trivial⟩⟩⟩⟩⟩⟩⟩⟩) (st_X9_isBetter_117 hk14 a0 x1 x2 x11 x8 x9 x10 x7 V ha0 h)
set_option maxHeartbeats 4000000 in
theorem st_X9_isBetter_146 {X : sj_X} {g : sj_G} {s0 : sj_Mem} {N : Nat} {q : Int × sj_VV} :
    ∀ (a0 : Nat) (x3 : Int) (x4 : Int) (x5 : Int) (x6 : Int) (V : sj_VV), OK9 g a0 → g_X9_isBetter_146 N a0 x3 x4 x5 x6 V = some q → sj_T X m_X9_isBetter s0 (some (sj_i q.1), (g, q.2)) 146 [some (sj_r (some a0)), none, none, some (sj_i x3), some (sj_i x4), some (sj_i x5), some (sj_i x6), none, none, none, none, none] [] (g, V) := by
  intro a0 x3 x4 x5 x6 V ha0 h
  unfold g_X9_isBetter_146 at h
  refine r_aload_n (pc := 146) dX9_isBetter_146 rfl rfl ?_
  refine r_iload_n (pc := 147) dX9_isBetter_147 rfl rfl ?_
  refine r_pIs (pc := 148) h dX9_isBetter_148 fw_X9_231 rfl rfl (nf9_20) (ok9 ha0) (fun V1 h => ?_)
  refine r_aload_n (pc := 151) dX9_isBetter_151 rfl rfl ?_
  refine r_iload (pc := 152) dX9_isBetter_152 rfl ?_
  refine r_pIs (pc := 154) h dX9_isBetter_154 fw_X9_222 rfl rfl (nf9_17) (ok9 ha0) (fun V2 h => ?_)
  refine r_aload_n (pc := 157) dX9_isBetter_157 rfl rfl ?_
  refine r_iload (pc := 158) dX9_isBetter_158 rfl ?_
  refine r_pIs (pc := 160) h dX9_isBetter_160 fw_X9_225 rfl rfl (nf9_18) (ok9 ha0) (fun V3 h => ?_)
  refine r_aload_n (pc := 163) dX9_isBetter_163 rfl rfl ?_
  refine r_iload (pc := 164) dX9_isBetter_164 rfl ?_
  refine r_pIs (pc := 166) h dX9_isBetter_166 fw_X9_228 rfl rfl (nf9_19) (ok9 ha0) (fun V4 h => ?_)
  refine r_iconst (pc := 169) dX9_isBetter_169 ?_
  exact r_zrets (pc := 170) h rfl dX9_isBetter_170
set_option maxHeartbeats 4000000 in
theorem st_X9_isBetter_14_b {X : sj_X} {g : sj_G} {s0 : sj_Mem} {N : Nat} {q : Int × sj_VV} {k14 : Nat → Int → Int → Int → Int → Int → Int → Int → sj_VV → Option (Int × sj_VV)} (hk14 : ∀ (a0 : Nat) (x1 : Int) (x2 : Int) (x3 : Int) (x4 : Int) (x5 : Int) (x6 : Int) (x7 : Int) (V : sj_VV), OK9 g a0 → k14 a0 x1 x2 x3 x4 x5 x6 x7 V = some q → sj_T X m_X9_isBetter s0 (some (sj_i q.1), (g, q.2)) 14 [some (sj_r (some a0)), some (sj_i x1), some (sj_i x2), some (sj_i x3), some (sj_i x4), some (sj_i x5), some (sj_i x6), some (sj_i x7), none, none, none, none] [] (g, V)) :
    ∀ (a0 : Nat) (x1 : Int) (x2 : Int) (x3 : Int) (x4 : Int) (x5 : Int) (x6 : Int) (x7 : Int) (V : sj_VV), OK9 g a0 → g_X9_isBetter_14_b N k14 a0 x1 x2 x3 x4 x5 x6 x7 V = some q → sj_T X m_X9_isBetter s0 (some (sj_i q.1), (g, q.2)) 14 [some (sj_r (some a0)), some (sj_i x1), some (sj_i x2), some (sj_i x3), some (sj_i x4), some (sj_i x5), some (sj_i x6), some (sj_i x7), none, none, none, none] [] (g, V) := by
  intro a0 x1 x2 x3 x4 x5 x6 x7 V ha0 h
  unfold g_X9_isBetter_14_b at h
  refine r_iload (pc := 14) dX9_isBetter_14 rfl ?_
  refine r_bipush (pc := 16) dX9_isBetter_16 ⟨by decide, by decide⟩ ?_
  refine r_icmp_ge (pc := 18) (tgt := 123) h dX9_isBetter_18 (by decide) (fun h => ?_) (fun h => ?_)
  · refine r_iload_n (pc := 123) dX9_isBetter_123 rfl rfl ?_
    refine r_iconst (pc := 124) dX9_isBetter_124 ?_
    refine r_icmp_eq (pc := 125) (tgt := 144) h dX9_isBetter_125 (by decide) (fun h => ?_) (fun h => ?_)
    · refine r_iconst (pc := 144) dX9_isBetter_144 ?_
      exact r_zrets (pc := 145) h rfl dX9_isBetter_145
    · refine r_aload_n (pc := 128) dX9_isBetter_128 rfl rfl ?_
      refine r_gIs (pc := 129) dX9_isBetter_129 fw_X9_231 rfl (ok9 ha0) ?_
      refine r_iconst (pc := 132) dX9_isBetter_132 ?_
      refine r_icmp_eq (pc := 133) (tgt := 146) h dX9_isBetter_133 (by decide) (fun h => ?_) (fun h => ?_)
      · exact sj_weak (l2 := [some (sj_r (some a0)), none, none, some (sj_i x3), some (sj_i x4), some (sj_i x5), some (sj_i x6), none, none, none, none, none]) (⟨rfl, ⟨rfl, ⟨rfl, ⟨rfl, ⟨rfl, trivial⟩⟩⟩⟩⟩) (st_X9_isBetter_146 a0 x3 x4 x5 x6 V ha0 h)
      · refine r_iload_n (pc := 136) dX9_isBetter_136 rfl rfl ?_
        refine r_aload_n (pc := 137) dX9_isBetter_137 rfl rfl ?_
        refine r_gIs (pc := 138) dX9_isBetter_138 fw_X9_231 rfl (ok9 ha0) ?_
        refine r_icmp_lt (pc := 141) (tgt := 146) h dX9_isBetter_141 (by decide) (fun h => ?_) (fun h => ?_)
        · exact sj_weak (l2 := [some (sj_r (some a0)), none, none, some (sj_i x3), some (sj_i x4), some (sj_i x5), some (sj_i x6), none, none, none, none, none]) (⟨rfl, ⟨rfl, ⟨rfl, ⟨rfl, ⟨rfl, trivial⟩⟩⟩⟩⟩) (st_X9_isBetter_146 a0 x3 x4 x5 x6 V ha0 h)
        · refine r_iconst (pc := 144) dX9_isBetter_144 ?_
          exact r_zrets (pc := 145) h rfl dX9_isBetter_145
  · refine r_aload_n (pc := 21) dX9_isBetter_21 rfl rfl ?_
    refine r_gIs (pc := 22) dX9_isBetter_22 fw_X9_222 rfl (ok9 ha0) ?_
    refine r_iload_n (pc := 25) dX9_isBetter_25 rfl rfl ?_
    refine r_iload (pc := 26) dX9_isBetter_26 rfl ?_
    refine r_bipush (pc := 28) dX9_isBetter_28 ⟨by decide, by decide⟩ ?_
    refine r_idiv (pc := 30) h dX9_isBetter_30 (fun v1 h => ?_)
    refine r_iconst (pc := 31) dX9_isBetter_31 ?_
    refine r_isub (pc := 32) dX9_isBetter_32 ?_
    refine r_imul (pc := 33) dX9_isBetter_33 ?_
    refine r_iadd (pc := 34) dX9_isBetter_34 ?_
    refine r_istoreL (ln := fun w => [some (sj_r (some a0)), some (sj_i x1), some (sj_i x2), some (sj_i x3), some (sj_i x4), some (sj_i x5), some (sj_i x6), some (sj_i x7), some (sj_i w), none, none, none]) (pc := 35) h dX9_isBetter_35 (Nat.le_of_ble_eq_true rfl) (fun _ => rfl) (fun v2 h => ?_)
    refine r_aload_n (pc := 37) dX9_isBetter_37 rfl rfl ?_
    refine r_gIs (pc := 38) dX9_isBetter_38 fw_X9_225 rfl (ok9 ha0) ?_
    refine r_iload_n (pc := 41) dX9_isBetter_41 rfl rfl ?_
    refine r_iload (pc := 42) dX9_isBetter_42 rfl ?_
    refine r_iconst (pc := 44) dX9_isBetter_44 ?_
    refine r_idiv (pc := 45) h dX9_isBetter_45 (fun v3 h => ?_)
    refine r_iconst (pc := 46) dX9_isBetter_46 ?_
    refine r_irem (pc := 47) h dX9_isBetter_47 (fun v4 h => ?_)
    refine r_iconst (pc := 48) dX9_isBetter_48 ?_
    refine r_isub (pc := 49) dX9_isBetter_49 ?_
    refine r_imul (pc := 50) dX9_isBetter_50 ?_
    refine r_iadd (pc := 51) dX9_isBetter_51 ?_
    refine r_istoreL (ln := fun w => [some (sj_r (some a0)), some (sj_i x1), some (sj_i x2), some (sj_i x3), some (sj_i x4), some (sj_i x5), some (sj_i x6), some (sj_i x7), some (sj_i v2), some (sj_i w), none, none]) (pc := 52) h dX9_isBetter_52 (Nat.le_of_ble_eq_true rfl) (fun _ => rfl) (fun v5 h => ?_)
    refine r_aload_n (pc := 54) dX9_isBetter_54 rfl rfl ?_
    refine r_gIs (pc := 55) dX9_isBetter_55 fw_X9_228 rfl (ok9 ha0) ?_
    refine r_iload_n (pc := 58) dX9_isBetter_58 rfl rfl ?_
    refine r_iload (pc := 59) dX9_isBetter_59 rfl ?_
    refine r_iconst (pc := 61) dX9_isBetter_61 ?_
    refine r_irem (pc := 62) h dX9_isBetter_62 (fun v6 h => ?_)
    refine r_iconst (pc := 63) dX9_isBetter_63 ?_
    refine r_isub (pc := 64) dX9_isBetter_64 ?_
    refine r_imul (pc := 65) dX9_isBetter_65 ?_
    refine r_iadd (pc := 66) dX9_isBetter_66 ?_
    refine r_istoreL (ln := fun w => [some (sj_r (some a0)), some (sj_i x1), some (sj_i x2), some (sj_i x3), some (sj_i x4), some (sj_i x5), some (sj_i x6), some (sj_i x7), some (sj_i v2), some (sj_i v5), some (sj_i w), none]) (pc := 67) h dX9_isBetter_67 (Nat.le_of_ble_eq_true rfl) (fun _ => rfl) (fun v7 h => ?_)
    refine r_aload_n (pc := 69) dX9_isBetter_69 rfl rfl ?_
    refine r_iload (pc := 70) dX9_isBetter_70 rfl ?_
    refine r_iload (pc := 72) dX9_isBetter_72 rfl ?_
    refine r_iload (pc := 74) dX9_isBetter_74 rfl ?_
    refine r_iload_n (pc := 76) dX9_isBetter_76 rfl rfl ?_
    refine r_callVs (pc := 77) (fun v => some (sj_i v)) (As := [sj_i v2, sj_i v5, sj_i v7, sj_i x2]) (rest := []) (b := a0) (ok9 ha0) h dX9_isBetter_77 mw_X9_212 vw_X9_factorBy (fun _ _ hc => cg_X9_factorBy ha0 hc) rfl ⟨(Nat.le_of_ble_eq_true rfl), (Nat.le_of_ble_eq_true rfl)⟩ (Nat.le_of_ble_eq_true rfl) rfl (fun v9 V8 h => ?_)
    refine r_istore (ln := [some (sj_r (some a0)), some (sj_i x1), some (sj_i x2), some (sj_i x3), some (sj_i x4), some (sj_i x5), some (sj_i x6), some (sj_i x7), some (sj_i v2), some (sj_i v5), some (sj_i v7), some (sj_i v9)]) (pc := 80) dX9_isBetter_80 (Nat.le_of_ble_eq_true rfl) rfl ?_
    refine r_iload (pc := 82) dX9_isBetter_82 rfl ?_
    refine r_iconst (pc := 84) dX9_isBetter_84 ?_
    refine r_icmp_eq (pc := 85) (tgt := 117) h dX9_isBetter_85 (by decide) (fun h => ?_) (fun h => ?_)
    · exact sj_weak (l2 := [some (sj_r (some a0)), some (sj_i x1), some (sj_i x2), some (sj_i x3), some (sj_i x4), some (sj_i x5), some (sj_i x6), some (sj_i x7), none, none, none, none]) (⟨rfl, ⟨rfl, ⟨rfl, ⟨rfl, ⟨rfl, ⟨rfl, ⟨rfl, ⟨rfl, trivial⟩⟩⟩⟩⟩⟩⟩⟩) (st_X9_isBetter_117 hk14 a0 x1 x2 x3 x4 x5 x6 x7 V8 ha0 h)
    · refine r_iload_n (pc := 88) dX9_isBetter_88 rfl rfl ?_
      refine r_iconst (pc := 89) dX9_isBetter_89 ?_
      refine r_icmp_eq (pc := 90) (tgt := 102) h dX9_isBetter_90 (by decide) (fun h => ?_) (fun h => ?_)
      · exact sj_weak (l2 := [some (sj_r (some a0)), some (sj_i x1), some (sj_i x2), none, none, none, none, some (sj_i x7), some (sj_i v2), some (sj_i v5), some (sj_i v7), some (sj_i v9)]) (⟨rfl, ⟨rfl, ⟨rfl, ⟨rfl, ⟨rfl, ⟨rfl, ⟨rfl, ⟨rfl, trivial⟩⟩⟩⟩⟩⟩⟩⟩) (st_X9_isBetter_102 hk14 a0 x1 x2 x7 v2 v5 v7 v9 V8 ha0 h)
      · refine r_iload (pc := 93) dX9_isBetter_93 rfl ?_
        refine r_iload_n (pc := 95) dX9_isBetter_95 rfl rfl ?_
        refine r_icmp_lt (pc := 96) (tgt := 102) h dX9_isBetter_96 (by decide) (fun h => ?_) (fun h => ?_)
        · exact sj_weak (l2 := [some (sj_r (some a0)), some (sj_i x1), some (sj_i x2), none, none, none, none, some (sj_i x7), some (sj_i v2), some (sj_i v5), some (sj_i v7), some (sj_i v9)]) (⟨rfl, ⟨rfl, ⟨rfl, ⟨rfl, ⟨rfl, ⟨rfl, ⟨rfl, ⟨rfl, trivial⟩⟩⟩⟩⟩⟩⟩⟩) (st_X9_isBetter_102 hk14 a0 x1 x2 x7 v2 v5 v7 v9 V8 ha0 h)
        · refine r_goto (pc := 99) (tgt := 117) dX9_isBetter_99 (by decide) ?_
          exact sj_weak (l2 := [some (sj_r (some a0)), some (sj_i x1), some (sj_i x2), some (sj_i x3), some (sj_i x4), some (sj_i x5), some (sj_i x6), some (sj_i x7), none, none, none, none]) (⟨rfl, ⟨rfl, ⟨rfl, ⟨rfl, ⟨rfl, ⟨rfl, ⟨rfl, ⟨rfl, trivial⟩⟩⟩⟩⟩⟩⟩⟩) (st_X9_isBetter_117 hk14 a0 x1 x2 x3 x4 x5 x6 x7 V8 ha0 h)
set_option maxHeartbeats 4000000 in
theorem st_X9_isBetter_14 {X : sj_X} {g : sj_G} {s0 : sj_Mem} {N : Nat} {q : Int × sj_VV} :
    ∀ (n : Nat) (a0 : Nat) (x1 : Int) (x2 : Int) (x3 : Int) (x4 : Int) (x5 : Int) (x6 : Int) (x7 : Int) (V : sj_VV), OK9 g a0 → g_X9_isBetter_14 N n a0 x1 x2 x3 x4 x5 x6 x7 V = some q → sj_T X m_X9_isBetter s0 (some (sj_i q.1), (g, q.2)) 14 [some (sj_r (some a0)), some (sj_i x1), some (sj_i x2), some (sj_i x3), some (sj_i x4), some (sj_i x5), some (sj_i x6), some (sj_i x7), none, none, none, none] [] (g, V) := by
  intro n
  induction n with
  | zero => intro a0 x1 x2 x3 x4 x5 x6 x7 V ha0 h; exact nomatch h
  | succ n ih => intro a0 x1 x2 x3 x4 x5 x6 x7 V ha0 h; exact st_X9_isBetter_14_b (N := N) ih a0 x1 x2 x3 x4 x5 x6 x7 V ha0 h
set_option maxHeartbeats 4000000 in
theorem st_X9_isBetter_0 {X : sj_X} {g : sj_G} {s0 : sj_Mem} {N : Nat} {q : Int × sj_VV} :
    ∀ (a0 : Nat) (x1 : Int) (x2 : Int) (V : sj_VV), OK9 g a0 → g_X9_isBetter N a0 x1 x2 V = some q → sj_T X m_X9_isBetter s0 (some (sj_i q.1), (g, q.2)) 0 [some (sj_r (some a0)), some (sj_i x1), some (sj_i x2), none, none, none, none, none, none, none, none, none] [] (g, V) := by
  intro a0 x1 x2 V ha0 h
  unfold g_X9_isBetter at h
  refine r_iconst (pc := 0) dX9_isBetter_0 ?_
  refine r_istore_n (ln := [some (sj_r (some a0)), some (sj_i x1), some (sj_i x2), some (sj_i ((-1))), none, none, none, none, none, none, none, none]) (pc := 1) dX9_isBetter_1 rfl (Nat.le_of_ble_eq_true rfl) rfl ?_
  refine r_iconst (pc := 2) dX9_isBetter_2 ?_
  refine r_istore (ln := [some (sj_r (some a0)), some (sj_i x1), some (sj_i x2), some (sj_i ((-1))), some (sj_i 0), none, none, none, none, none, none, none]) (pc := 3) dX9_isBetter_3 (Nat.le_of_ble_eq_true rfl) rfl ?_
  refine r_iconst (pc := 5) dX9_isBetter_5 ?_
  refine r_istore (ln := [some (sj_r (some a0)), some (sj_i x1), some (sj_i x2), some (sj_i ((-1))), some (sj_i 0), some (sj_i 0), none, none, none, none, none, none]) (pc := 6) dX9_isBetter_6 (Nat.le_of_ble_eq_true rfl) rfl ?_
  refine r_iconst (pc := 8) dX9_isBetter_8 ?_
  refine r_istore (ln := [some (sj_r (some a0)), some (sj_i x1), some (sj_i x2), some (sj_i ((-1))), some (sj_i 0), some (sj_i 0), some (sj_i 0), none, none, none, none, none]) (pc := 9) dX9_isBetter_9 (Nat.le_of_ble_eq_true rfl) rfl ?_
  refine r_iconst (pc := 11) dX9_isBetter_11 ?_
  refine r_istore (ln := [some (sj_r (some a0)), some (sj_i x1), some (sj_i x2), some (sj_i ((-1))), some (sj_i 0), some (sj_i 0), some (sj_i 0), some (sj_i 0), none, none, none, none]) (pc := 12) dX9_isBetter_12 (Nat.le_of_ble_eq_true rfl) rfl ?_
  exact sj_weak (l2 := [some (sj_r (some a0)), some (sj_i x1), some (sj_i x2), some (sj_i ((-1))), some (sj_i 0), some (sj_i 0), some (sj_i 0), some (sj_i 0), none, none, none, none]) (⟨rfl, ⟨rfl, ⟨rfl, ⟨rfl, ⟨rfl, ⟨rfl, ⟨rfl, ⟨rfl, trivial⟩⟩⟩⟩⟩⟩⟩⟩) (st_X9_isBetter_14 N a0 x1 x2 ((-1)) 0 0 0 0 V ha0 h)
set_option maxHeartbeats 4000000 in
theorem cg_X9_isBetter {X : sj_X} {g : sj_G} {N : Nat} {a0 : Nat} {x1 : Int} {x2 : Int} {V : sj_VV} {q : Int × sj_VV} (ha0 : OK9 g a0) (h : g_X9_isBetter N a0 x1 x2 V = some q) : sj_C X m_X9_isBetter [sj_r (some a0), sj_i x1, sj_i x2] (g, V) (some (sj_i q.1), (g, q.2)) :=
  sj_C_of (by decide +kernel) (Nat.le_of_ble_eq_true rfl) (lo := [some (sj_r (some a0)), some (sj_i x1), some (sj_i x2), none, none, none, none, none, none, none, none, none]) rfl (sj_weak (l2 := [some (sj_r (some a0)), some (sj_i x1), some (sj_i x2), none, none, none, none, none, none, none, none, none]) (⟨rfl, ⟨rfl, ⟨rfl, trivial⟩⟩⟩) (st_X9_isBetter_0 a0 x1 x2 V ha0 h))
set_option maxHeartbeats 4000000 in
theorem c_X9_isBetter {X : sj_X} {N : Nat} {a0 : Nat} {x1 : Int} {x2 : Int} {s : sj_Mem} {q : Int × sj_Mem} (h : f_X9_isBetter N a0 x1 x2 s = some q) : sj_C X m_X9_isBetter [sj_r (some a0), sj_i x1, sj_i x2] s (some (sj_i q.1), q.2) := by
  obtain ⟨g, V⟩ := s
  unfold f_X9_isBetter at h
  obtain ⟨ho, h1⟩ := e_ok_some h
  obtain ⟨q2, h2, rfl⟩ := sj_map_some h1
  exact cg_X9_isBetter ho h2
theorem dX9_searches_0 : decode cX9_searches 0 = .ok (.aload_n 0, 1) := by decide +kernel
theorem dX9_searches_1 : decode cX9_searches 1 = .ok (.iload_n 1, 1) := by decide +kernel
theorem dX9_searches_2 : decode cX9_searches 2 = .ok (.putfield 222, 3) := by decide +kernel
theorem dX9_searches_5 : decode cX9_searches 5 = .ok (.aload_n 0, 1) := by decide +kernel
theorem dX9_searches_6 : decode cX9_searches 6 = .ok (.iload_n 2, 1) := by decide +kernel
theorem dX9_searches_7 : decode cX9_searches 7 = .ok (.putfield 225, 3) := by decide +kernel
theorem dX9_searches_10 : decode cX9_searches 10 = .ok (.aload_n 0, 1) := by decide +kernel
theorem dX9_searches_11 : decode cX9_searches 11 = .ok (.iload_n 3, 1) := by decide +kernel
theorem dX9_searches_12 : decode cX9_searches 12 = .ok (.putfield 228, 3) := by decide +kernel
theorem dX9_searches_15 : decode cX9_searches 15 = .ok (.aload_n 0, 1) := by decide +kernel
theorem dX9_searches_16 : decode cX9_searches 16 = .ok (.aload_n 0, 1) := by decide +kernel
theorem dX9_searches_17 : decode cX9_searches 17 = .ok (.iload_n 1, 1) := by decide +kernel
theorem dX9_searches_18 : decode cX9_searches 18 = .ok (.iload_n 2, 1) := by decide +kernel
theorem dX9_searches_19 : decode cX9_searches 19 = .ok (.iload_n 3, 1) := by decide +kernel
theorem dX9_searches_20 : decode cX9_searches 20 = .ok (.iload 5, 2) := by decide +kernel
theorem dX9_searches_22 : decode cX9_searches 22 = .ok (.invokevirtual 212, 3) := by decide +kernel
theorem dX9_searches_25 : decode cX9_searches 25 = .ok (.putfield 231, 3) := by decide +kernel
theorem dX9_searches_28 : decode cX9_searches 28 = .ok (.aload_n 0, 1) := by decide +kernel
theorem dX9_searches_29 : decode cX9_searches 29 = .ok (.iconst 0, 1) := by decide +kernel
theorem dX9_searches_30 : decode cX9_searches 30 = .ok (.putfield 234, 3) := by decide +kernel
theorem dX9_searches_33 : decode cX9_searches 33 = .ok (.iload 4, 2) := by decide +kernel
theorem dX9_searches_35 : decode cX9_searches 35 = .ok (.istore 6, 2) := by decide +kernel
theorem dX9_searches_37 : decode cX9_searches 37 = .ok (.iload 6, 2) := by decide +kernel
theorem dX9_searches_39 : decode cX9_searches 39 = .ok (.ifCond .le 42, 3) := by decide +kernel
theorem dX9_searches_42 : decode cX9_searches 42 = .ok (.aload_n 0, 1) := by decide +kernel
theorem dX9_searches_43 : decode cX9_searches 43 = .ok (.getfield 234, 3) := by decide +kernel
theorem dX9_searches_46 : decode cX9_searches 46 = .ok (.bipush 60, 2) := by decide +kernel
theorem dX9_searches_48 : decode cX9_searches 48 = .ok (.if_icmp .ge 33, 3) := by decide +kernel
theorem dX9_searches_51 : decode cX9_searches 51 = .ok (.aload_n 0, 1) := by decide +kernel
theorem dX9_searches_52 : decode cX9_searches 52 = .ok (.iload 6, 2) := by decide +kernel
theorem dX9_searches_54 : decode cX9_searches 54 = .ok (.iload 5, 2) := by decide +kernel
theorem dX9_searches_56 : decode cX9_searches 56 = .ok (.invokevirtual 237, 3) := by decide +kernel
theorem dX9_searches_59 : decode cX9_searches 59 = .ok (.ifCond .ne 9, 3) := by decide +kernel
theorem dX9_searches_62 : decode cX9_searches 62 = .ok (.iload 6, 2) := by decide +kernel
theorem dX9_searches_64 : decode cX9_searches 64 = .ok (.iconst 2, 1) := by decide +kernel
theorem dX9_searches_65 : decode cX9_searches 65 = .ok (.idiv, 1) := by decide +kernel
theorem dX9_searches_66 : decode cX9_searches 66 = .ok (.istore 6, 2) := by decide +kernel
theorem dX9_searches_68 : decode cX9_searches 68 = .ok (.aload_n 0, 1) := by decide +kernel
theorem dX9_searches_69 : decode cX9_searches 69 = .ok (.dup, 1) := by decide +kernel
theorem dX9_searches_70 : decode cX9_searches 70 = .ok (.getfield 234, 3) := by decide +kernel
theorem dX9_searches_73 : decode cX9_searches 73 = .ok (.iconst 1, 1) := by decide +kernel
theorem dX9_searches_74 : decode cX9_searches 74 = .ok (.iadd, 1) := by decide +kernel
theorem dX9_searches_75 : decode cX9_searches 75 = .ok (.putfield 234, 3) := by decide +kernel
theorem dX9_searches_78 : decode cX9_searches 78 = .ok (.goto (-41), 3) := by decide +kernel
theorem dX9_searches_81 : decode cX9_searches 81 = .ok (.aload_n 0, 1) := by decide +kernel
theorem dX9_searches_82 : decode cX9_searches 82 = .ok (.getfield 231, 3) := by decide +kernel
theorem dX9_searches_85 : decode cX9_searches 85 = .ok (.ireturn, 1) := by decide +kernel
set_option maxHeartbeats 4000000 in
theorem st_X9_searches_68 {X : sj_X} {g : sj_G} {s0 : sj_Mem} {N : Nat} {q : Int × sj_VV} {k37 : Nat → Int → Int → sj_VV → Option (Int × sj_VV)} (hk37 : ∀ (a0 : Nat) (x5 : Int) (x6 : Int) (V : sj_VV), OK9 g a0 → k37 a0 x5 x6 V = some q → sj_T X m_X9_searches s0 (some (sj_i q.1), (g, q.2)) 37 [some (sj_r (some a0)), none, none, none, none, some (sj_i x5), some (sj_i x6)] [] (g, V)) :
    ∀ (a0 : Nat) (x5 : Int) (x6 : Int) (V : sj_VV), OK9 g a0 → g_X9_searches_68 N k37 a0 x5 x6 V = some q → sj_T X m_X9_searches s0 (some (sj_i q.1), (g, q.2)) 68 [some (sj_r (some a0)), none, none, none, none, some (sj_i x5), some (sj_i x6)] [] (g, V) := by
  intro a0 x5 x6 V ha0 h
  unfold g_X9_searches_68 at h
  refine r_aload_n (pc := 68) dX9_searches_68 rfl rfl ?_
  refine r_dup (pc := 69) dX9_searches_69 rfl ?_
  refine r_gIs (pc := 70) dX9_searches_70 fw_X9_234 rfl (ok9 ha0) ?_
  refine r_iconst (pc := 73) dX9_searches_73 ?_
  refine r_iadd (pc := 74) dX9_searches_74 ?_
  refine r_pIs (pc := 75) h dX9_searches_75 fw_X9_234 rfl rfl (nf9_21) (ok9 ha0) (fun V1 h => ?_)
  refine r_goto (pc := 78) (tgt := 37) dX9_searches_78 (by decide) ?_
  exact sj_weak (l2 := [some (sj_r (some a0)), none, none, none, none, some (sj_i x5), some (sj_i x6)]) (⟨rfl, ⟨rfl, ⟨rfl, trivial⟩⟩⟩) (hk37 a0 x5 x6 V1 ha0 h)
set_option maxHeartbeats 4000000 in
theorem st_X9_searches_37_b {X : sj_X} {g : sj_G} {s0 : sj_Mem} {N : Nat} {q : Int × sj_VV} {k37 : Nat → Int → Int → sj_VV → Option (Int × sj_VV)} (hk37 : ∀ (a0 : Nat) (x5 : Int) (x6 : Int) (V : sj_VV), OK9 g a0 → k37 a0 x5 x6 V = some q → sj_T X m_X9_searches s0 (some (sj_i q.1), (g, q.2)) 37 [some (sj_r (some a0)), none, none, none, none, some (sj_i x5), some (sj_i x6)] [] (g, V)) :
    ∀ (a0 : Nat) (x5 : Int) (x6 : Int) (V : sj_VV), OK9 g a0 → g_X9_searches_37_b N k37 a0 x5 x6 V = some q → sj_T X m_X9_searches s0 (some (sj_i q.1), (g, q.2)) 37 [some (sj_r (some a0)), none, none, none, none, some (sj_i x5), some (sj_i x6)] [] (g, V) := by
  intro a0 x5 x6 V ha0 h
  unfold g_X9_searches_37_b at h
  refine r_iload (pc := 37) dX9_searches_37 rfl ?_
  refine r_if_le (pc := 39) (tgt := 81) h dX9_searches_39 (by decide) (fun h => ?_) (fun h => ?_)
  · refine r_aload_n (pc := 81) dX9_searches_81 rfl rfl ?_
    refine r_gIs (pc := 82) dX9_searches_82 fw_X9_231 rfl (ok9 ha0) ?_
    exact r_irets (pc := 85) h rfl dX9_searches_85
  · refine r_aload_n (pc := 42) dX9_searches_42 rfl rfl ?_
    refine r_gIs (pc := 43) dX9_searches_43 fw_X9_234 rfl (ok9 ha0) ?_
    refine r_bipush (pc := 46) dX9_searches_46 ⟨by decide, by decide⟩ ?_
    refine r_icmp_ge (pc := 48) (tgt := 81) h dX9_searches_48 (by decide) (fun h => ?_) (fun h => ?_)
    · refine r_aload_n (pc := 81) dX9_searches_81 rfl rfl ?_
      refine r_gIs (pc := 82) dX9_searches_82 fw_X9_231 rfl (ok9 ha0) ?_
      exact r_irets (pc := 85) h rfl dX9_searches_85
    · refine r_aload_n (pc := 51) dX9_searches_51 rfl rfl ?_
      refine r_iload (pc := 52) dX9_searches_52 rfl ?_
      refine r_iload (pc := 54) dX9_searches_54 rfl ?_
      refine r_callVs (pc := 56) (fun v => some (sj_i v)) (As := [sj_i x6, sj_i x5]) (rest := []) (b := a0) (ok9 ha0) h dX9_searches_56 mw_X9_237 vw_X9_isBetter (fun _ _ hc => cg_X9_isBetter ha0 hc) rfl ⟨(Nat.le_of_ble_eq_true rfl), (Nat.le_of_ble_eq_true rfl)⟩ (Nat.le_of_ble_eq_true rfl) rfl (fun v2 V1 h => ?_)
      refine r_if_ne (pc := 59) (tgt := 68) h dX9_searches_59 (by decide) (fun h => ?_) (fun h => ?_)
      · refine r_iload (pc := 62) dX9_searches_62 rfl ?_
        refine r_iconst (pc := 64) dX9_searches_64 ?_
        refine r_idiv (pc := 65) h dX9_searches_65 (fun v3 h => ?_)
        refine r_istore (ln := [some (sj_r (some a0)), none, none, none, none, some (sj_i x5), some (sj_i v3)]) (pc := 66) dX9_searches_66 (Nat.le_of_ble_eq_true rfl) rfl ?_
        exact sj_weak (l2 := [some (sj_r (some a0)), none, none, none, none, some (sj_i x5), some (sj_i v3)]) (⟨rfl, ⟨rfl, ⟨rfl, trivial⟩⟩⟩) (st_X9_searches_68 hk37 a0 x5 v3 V1 ha0 h)
      · exact sj_weak (l2 := [some (sj_r (some a0)), none, none, none, none, some (sj_i x5), some (sj_i x6)]) (⟨rfl, ⟨rfl, ⟨rfl, trivial⟩⟩⟩) (st_X9_searches_68 hk37 a0 x5 x6 V1 ha0 h)
set_option maxHeartbeats 4000000 in
theorem st_X9_searches_37 {X : sj_X} {g : sj_G} {s0 : sj_Mem} {N : Nat} {q : Int × sj_VV} :
    ∀ (n : Nat) (a0 : Nat) (x5 : Int) (x6 : Int) (V : sj_VV), OK9 g a0 → g_X9_searches_37 N n a0 x5 x6 V = some q → sj_T X m_X9_searches s0 (some (sj_i q.1), (g, q.2)) 37 [some (sj_r (some a0)), none, none, none, none, some (sj_i x5), some (sj_i x6)] [] (g, V) := by
  intro n
  induction n with
  | zero => intro a0 x5 x6 V ha0 h; exact nomatch h
  | succ n ih => intro a0 x5 x6 V ha0 h; exact st_X9_searches_37_b (N := N) ih a0 x5 x6 V ha0 h
set_option maxHeartbeats 4000000 in
theorem st_X9_searches_0 {X : sj_X} {g : sj_G} {s0 : sj_Mem} {N : Nat} {q : Int × sj_VV} :
    ∀ (a0 : Nat) (x1 : Int) (x2 : Int) (x3 : Int) (x4 : Int) (x5 : Int) (V : sj_VV), OK9 g a0 → g_X9_searches N a0 x1 x2 x3 x4 x5 V = some q → sj_T X m_X9_searches s0 (some (sj_i q.1), (g, q.2)) 0 [some (sj_r (some a0)), some (sj_i x1), some (sj_i x2), some (sj_i x3), some (sj_i x4), some (sj_i x5), none] [] (g, V) := by
  intro a0 x1 x2 x3 x4 x5 V ha0 h
  unfold g_X9_searches at h
  refine r_aload_n (pc := 0) dX9_searches_0 rfl rfl ?_
  refine r_iload_n (pc := 1) dX9_searches_1 rfl rfl ?_
  refine r_pIs (pc := 2) h dX9_searches_2 fw_X9_222 rfl rfl (nf9_17) (ok9 ha0) (fun V1 h => ?_)
  refine r_aload_n (pc := 5) dX9_searches_5 rfl rfl ?_
  refine r_iload_n (pc := 6) dX9_searches_6 rfl rfl ?_
  refine r_pIs (pc := 7) h dX9_searches_7 fw_X9_225 rfl rfl (nf9_18) (ok9 ha0) (fun V2 h => ?_)
  refine r_aload_n (pc := 10) dX9_searches_10 rfl rfl ?_
  refine r_iload_n (pc := 11) dX9_searches_11 rfl rfl ?_
  refine r_pIs (pc := 12) h dX9_searches_12 fw_X9_228 rfl rfl (nf9_19) (ok9 ha0) (fun V3 h => ?_)
  refine r_aload_n (pc := 15) dX9_searches_15 rfl rfl ?_
  refine r_aload_n (pc := 16) dX9_searches_16 rfl rfl ?_
  refine r_iload_n (pc := 17) dX9_searches_17 rfl rfl ?_
  refine r_iload_n (pc := 18) dX9_searches_18 rfl rfl ?_
  refine r_iload_n (pc := 19) dX9_searches_19 rfl rfl ?_
  refine r_iload (pc := 20) dX9_searches_20 rfl ?_
  refine r_callVs (pc := 22) (fun v => some (sj_i v)) (As := [sj_i x1, sj_i x2, sj_i x3, sj_i x5]) (rest := [(sj_r (some a0))]) (b := a0) (ok9 ha0) h dX9_searches_22 mw_X9_212 vw_X9_factorBy (fun _ _ hc => cg_X9_factorBy ha0 hc) rfl ⟨(Nat.le_of_ble_eq_true rfl), (Nat.le_of_ble_eq_true rfl)⟩ (Nat.le_of_ble_eq_true rfl) rfl (fun v5 V4 h => ?_)
  refine r_pIs (pc := 25) h dX9_searches_25 fw_X9_231 rfl rfl (nf9_20) (ok9 ha0) (fun V6 h => ?_)
  refine r_aload_n (pc := 28) dX9_searches_28 rfl rfl ?_
  refine r_iconst (pc := 29) dX9_searches_29 ?_
  refine r_pIs (pc := 30) h dX9_searches_30 fw_X9_234 rfl rfl (nf9_21) (ok9 ha0) (fun V7 h => ?_)
  refine r_iload (pc := 33) dX9_searches_33 rfl ?_
  refine r_istore (ln := [some (sj_r (some a0)), some (sj_i x1), some (sj_i x2), some (sj_i x3), some (sj_i x4), some (sj_i x5), some (sj_i x4)]) (pc := 35) dX9_searches_35 (Nat.le_of_ble_eq_true rfl) rfl ?_
  exact sj_weak (l2 := [some (sj_r (some a0)), none, none, none, none, some (sj_i x5), some (sj_i x4)]) (⟨rfl, ⟨rfl, ⟨rfl, trivial⟩⟩⟩) (st_X9_searches_37 N a0 x5 x4 V7 ha0 h)
set_option maxHeartbeats 4000000 in
theorem cg_X9_searches {X : sj_X} {g : sj_G} {N : Nat} {a0 : Nat} {x1 : Int} {x2 : Int} {x3 : Int} {x4 : Int} {x5 : Int} {V : sj_VV} {q : Int × sj_VV} (ha0 : OK9 g a0) (h : g_X9_searches N a0 x1 x2 x3 x4 x5 V = some q) : sj_C X m_X9_searches [sj_r (some a0), sj_i x1, sj_i x2, sj_i x3, sj_i x4, sj_i x5] (g, V) (some (sj_i q.1), (g, q.2)) :=
  sj_C_of (by decide +kernel) (Nat.le_of_ble_eq_true rfl) (lo := [some (sj_r (some a0)), some (sj_i x1), some (sj_i x2), some (sj_i x3), some (sj_i x4), some (sj_i x5), none]) rfl (sj_weak (l2 := [some (sj_r (some a0)), some (sj_i x1), some (sj_i x2), some (sj_i x3), some (sj_i x4), some (sj_i x5), none]) (⟨rfl, ⟨rfl, ⟨rfl, ⟨rfl, ⟨rfl, ⟨rfl, trivial⟩⟩⟩⟩⟩⟩) (st_X9_searches_0 a0 x1 x2 x3 x4 x5 V ha0 h))
set_option maxHeartbeats 4000000 in
theorem c_X9_searches {X : sj_X} {N : Nat} {a0 : Nat} {x1 : Int} {x2 : Int} {x3 : Int} {x4 : Int} {x5 : Int} {s : sj_Mem} {q : Int × sj_Mem} (h : f_X9_searches N a0 x1 x2 x3 x4 x5 s = some q) : sj_C X m_X9_searches [sj_r (some a0), sj_i x1, sj_i x2, sj_i x3, sj_i x4, sj_i x5] s (some (sj_i q.1), q.2) := by
  obtain ⟨g, V⟩ := s
  unfold f_X9_searches at h
  obtain ⟨ho, h1⟩ := e_ok_some h
  obtain ⟨q2, h2, rfl⟩ := sj_map_some h1
  exact cg_X9_searches ho h2
theorem dX9_deep_0 : decode cX9_deep 0 = .ok (.aload_n 0, 1) := by decide +kernel
theorem dX9_deep_1 : decode cX9_deep 1 = .ok (.iload_n 1, 1) := by decide +kernel
theorem dX9_deep_2 : decode cX9_deep 2 = .ok (.invokevirtual 74, 3) := by decide +kernel
theorem dX9_deep_5 : decode cX9_deep 5 = .ok (.ifCond .eq 21, 3) := by decide +kernel
theorem dX9_deep_8 : decode cX9_deep 8 = .ok (.iload_n 3, 1) := by decide +kernel
theorem dX9_deep_9 : decode cX9_deep 9 = .ok (.iload 4, 2) := by decide +kernel
theorem dX9_deep_11 : decode cX9_deep 11 = .ok (.iload 5, 2) := by decide +kernel
theorem dX9_deep_13 : decode cX9_deep 13 = .ok (.invokestatic 197, 3) := by decide +kernel
theorem dX9_deep_16 : decode cX9_deep 16 = .ok (.ifCond .eq 10, 3) := by decide +kernel
theorem dX9_deep_19 : decode cX9_deep 19 = .ok (.iload_n 2, 1) := by decide +kernel
theorem dX9_deep_20 : decode cX9_deep 20 = .ok (.invokestatic 287, 3) := by decide +kernel
theorem dX9_deep_23 : decode cX9_deep 23 = .ok (.ifCond .ne 5, 3) := by decide +kernel
theorem dX9_deep_26 : decode cX9_deep 26 = .ok (.iconst (-1), 1) := by decide +kernel
theorem dX9_deep_27 : decode cX9_deep 27 = .ok (.ireturn, 1) := by decide +kernel
theorem dX9_deep_28 : decode cX9_deep 28 = .ok (.aload_n 0, 1) := by decide +kernel
theorem dX9_deep_29 : decode cX9_deep 29 = .ok (.getfield 9, 3) := by decide +kernel
theorem dX9_deep_32 : decode cX9_deep 32 = .ok (.iconst 3, 1) := by decide +kernel
theorem dX9_deep_33 : decode cX9_deep 33 = .ok (.iload_n 1, 1) := by decide +kernel
theorem dX9_deep_34 : decode cX9_deep 34 = .ok (.iadd, 1) := by decide +kernel
theorem dX9_deep_35 : decode cX9_deep 35 = .ok (.iaload, 1) := by decide +kernel
theorem dX9_deep_36 : decode cX9_deep 36 = .ok (.istore 7, 2) := by decide +kernel
theorem dX9_deep_38 : decode cX9_deep 38 = .ok (.iconst 5, 1) := by decide +kernel
theorem dX9_deep_39 : decode cX9_deep 39 = .ok (.iload 7, 2) := by decide +kernel
theorem dX9_deep_41 : decode cX9_deep 41 = .ok (.aload_n 0, 1) := by decide +kernel
theorem dX9_deep_42 : decode cX9_deep 42 = .ok (.getfield 9, 3) := by decide +kernel
theorem dX9_deep_45 : decode cX9_deep 45 = .ok (.bipush 44, 2) := by decide +kernel
theorem dX9_deep_47 : decode cX9_deep 47 = .ok (.iload_n 1, 1) := by decide +kernel
theorem dX9_deep_48 : decode cX9_deep 48 = .ok (.iadd, 1) := by decide +kernel
theorem dX9_deep_49 : decode cX9_deep 49 = .ok (.iaload, 1) := by decide +kernel
theorem dX9_deep_50 : decode cX9_deep 50 = .ok (.isub, 1) := by decide +kernel
theorem dX9_deep_51 : decode cX9_deep 51 = .ok (.invokestatic 104, 3) := by decide +kernel
theorem dX9_deep_54 : decode cX9_deep 54 = .ok (.istore 8, 2) := by decide +kernel
theorem dX9_deep_56 : decode cX9_deep 56 = .ok (.iconst 0, 1) := by decide +kernel
theorem dX9_deep_57 : decode cX9_deep 57 = .ok (.istore 9, 2) := by decide +kernel
theorem dX9_deep_59 : decode cX9_deep 59 = .ok (.iconst 1, 1) := by decide +kernel
theorem dX9_deep_60 : decode cX9_deep 60 = .ok (.istore 10, 2) := by decide +kernel
theorem dX9_deep_62 : decode cX9_deep 62 = .ok (.iload 10, 2) := by decide +kernel
theorem dX9_deep_64 : decode cX9_deep 64 = .ok (.ifCond .eq 75, 3) := by decide +kernel
theorem dX9_deep_67 : decode cX9_deep 67 = .ok (.iload 9, 2) := by decide +kernel
theorem dX9_deep_69 : decode cX9_deep 69 = .ok (.iload 8, 2) := by decide +kernel
theorem dX9_deep_71 : decode cX9_deep 71 = .ok (.if_icmp .gt 68, 3) := by decide +kernel
theorem dX9_deep_74 : decode cX9_deep 74 = .ok (.aload_n 0, 1) := by decide +kernel
theorem dX9_deep_75 : decode cX9_deep 75 = .ok (.getfield 9, 3) := by decide +kernel
theorem dX9_deep_78 : decode cX9_deep 78 = .ok (.iconst 3, 1) := by decide +kernel
theorem dX9_deep_79 : decode cX9_deep 79 = .ok (.iload_n 1, 1) := by decide +kernel
theorem dX9_deep_80 : decode cX9_deep 80 = .ok (.iadd, 1) := by decide +kernel
theorem dX9_deep_81 : decode cX9_deep 81 = .ok (.iload 7, 2) := by decide +kernel
theorem dX9_deep_83 : decode cX9_deep 83 = .ok (.iload 9, 2) := by decide +kernel
theorem dX9_deep_85 : decode cX9_deep 85 = .ok (.isub, 1) := by decide +kernel
theorem dX9_deep_86 : decode cX9_deep 86 = .ok (.iastore, 1) := by decide +kernel
theorem dX9_deep_87 : decode cX9_deep 87 = .ok (.aload_n 0, 1) := by decide +kernel
theorem dX9_deep_88 : decode cX9_deep 88 = .ok (.iload_n 3, 1) := by decide +kernel
theorem dX9_deep_89 : decode cX9_deep 89 = .ok (.iload 4, 2) := by decide +kernel
theorem dX9_deep_91 : decode cX9_deep 91 = .ok (.iload 5, 2) := by decide +kernel
theorem dX9_deep_93 : decode cX9_deep 93 = .ok (.bipush 8, 2) := by decide +kernel
theorem dX9_deep_95 : decode cX9_deep 95 = .ok (.iload 6, 2) := by decide +kernel
theorem dX9_deep_97 : decode cX9_deep 97 = .ok (.invokevirtual 243, 3) := by decide +kernel
theorem dX9_deep_100 : decode cX9_deep 100 = .ok (.istore 11, 2) := by decide +kernel
theorem dX9_deep_102 : decode cX9_deep 102 = .ok (.iload 11, 2) := by decide +kernel
theorem dX9_deep_104 : decode cX9_deep 104 = .ok (.iconst (-1), 1) := by decide +kernel
theorem dX9_deep_105 : decode cX9_deep 105 = .ok (.if_icmp .eq 9, 3) := by decide +kernel
theorem dX9_deep_108 : decode cX9_deep 108 = .ok (.iload 11, 2) := by decide +kernel
theorem dX9_deep_110 : decode cX9_deep 110 = .ok (.iload_n 2, 1) := by decide +kernel
theorem dX9_deep_111 : decode cX9_deep 111 = .ok (.if_icmp .lt 7, 3) := by decide +kernel
theorem dX9_deep_114 : decode cX9_deep 114 = .ok (.iconst 1, 1) := by decide +kernel
theorem dX9_deep_115 : decode cX9_deep 115 = .ok (.goto 4, 3) := by decide +kernel
theorem dX9_deep_118 : decode cX9_deep 118 = .ok (.iconst 0, 1) := by decide +kernel
theorem dX9_deep_119 : decode cX9_deep 119 = .ok (.istore 10, 2) := by decide +kernel
theorem dX9_deep_121 : decode cX9_deep 121 = .ok (.iload 9, 2) := by decide +kernel
theorem dX9_deep_123 : decode cX9_deep 123 = .ok (.iload 10, 2) := by decide +kernel
theorem dX9_deep_125 : decode cX9_deep 125 = .ok (.ifCond .eq 7, 3) := by decide +kernel
theorem dX9_deep_128 : decode cX9_deep 128 = .ok (.iconst 1, 1) := by decide +kernel
theorem dX9_deep_129 : decode cX9_deep 129 = .ok (.goto 4, 3) := by decide +kernel
theorem dX9_deep_132 : decode cX9_deep 132 = .ok (.iconst 0, 1) := by decide +kernel
theorem dX9_deep_133 : decode cX9_deep 133 = .ok (.iadd, 1) := by decide +kernel
theorem dX9_deep_134 : decode cX9_deep 134 = .ok (.istore 9, 2) := by decide +kernel
theorem dX9_deep_136 : decode cX9_deep 136 = .ok (.goto (-74), 3) := by decide +kernel
theorem dX9_deep_139 : decode cX9_deep 139 = .ok (.aload_n 0, 1) := by decide +kernel
theorem dX9_deep_140 : decode cX9_deep 140 = .ok (.getfield 9, 3) := by decide +kernel
theorem dX9_deep_143 : decode cX9_deep 143 = .ok (.iconst 3, 1) := by decide +kernel
theorem dX9_deep_144 : decode cX9_deep 144 = .ok (.iload_n 1, 1) := by decide +kernel
theorem dX9_deep_145 : decode cX9_deep 145 = .ok (.iadd, 1) := by decide +kernel
theorem dX9_deep_146 : decode cX9_deep 146 = .ok (.iload 7, 2) := by decide +kernel
theorem dX9_deep_148 : decode cX9_deep 148 = .ok (.iastore, 1) := by decide +kernel
theorem dX9_deep_149 : decode cX9_deep 149 = .ok (.iload 9, 2) := by decide +kernel
theorem dX9_deep_151 : decode cX9_deep 151 = .ok (.iconst 1, 1) := by decide +kernel
theorem dX9_deep_152 : decode cX9_deep 152 = .ok (.isub, 1) := by decide +kernel
theorem dX9_deep_153 : decode cX9_deep 153 = .ok (.ireturn, 1) := by decide +kernel
set_option maxHeartbeats 4000000 in
theorem st_X9_deep_133 {X : sj_X} {g : sj_G} {s0 : sj_Mem} {N : Nat} {q : Int × sj_VV} {k62 : Nat → Int → Int → Int → Int → Int → Int → Int → Int → Int → Int → sj_VV → Option (Int × sj_VV)} (hk62 : ∀ (a0 : Nat) (x1 : Int) (x2 : Int) (x3 : Int) (x4 : Int) (x5 : Int) (x6 : Int) (x7 : Int) (x8 : Int) (x9 : Int) (x10 : Int) (V : sj_VV), OK9 g a0 → k62 a0 x1 x2 x3 x4 x5 x6 x7 x8 x9 x10 V = some q → sj_T X m_X9_deep s0 (some (sj_i q.1), (g, q.2)) 62 [some (sj_r (some a0)), some (sj_i x1), some (sj_i x2), some (sj_i x3), some (sj_i x4), some (sj_i x5), some (sj_i x6), some (sj_i x7), some (sj_i x8), some (sj_i x9), some (sj_i x10), none] [] (g, V)) :
    ∀ (a0 : Nat) (x1 : Int) (x2 : Int) (x3 : Int) (x4 : Int) (x5 : Int) (x6 : Int) (x7 : Int) (x8 : Int) (x10 : Int) (y0 : Int) (y1 : Int) (V : sj_VV), OK9 g a0 → g_X9_deep_133 N k62 a0 x1 x2 x3 x4 x5 x6 x7 x8 x10 y0 y1 V = some q → sj_T X m_X9_deep s0 (some (sj_i q.1), (g, q.2)) 133 [some (sj_r (some a0)), some (sj_i x1), some (sj_i x2), some (sj_i x3), some (sj_i x4), some (sj_i x5), some (sj_i x6), some (sj_i x7), some (sj_i x8), none, some (sj_i x10), none] [(sj_i y0), (sj_i y1)] (g, V) := by
  intro a0 x1 x2 x3 x4 x5 x6 x7 x8 x10 y0 y1 V ha0 h
  unfold g_X9_deep_133 at h
  refine r_iadd (pc := 133) dX9_deep_133 ?_
  refine r_istoreL (ln := fun w => [some (sj_r (some a0)), some (sj_i x1), some (sj_i x2), some (sj_i x3), some (sj_i x4), some (sj_i x5), some (sj_i x6), some (sj_i x7), some (sj_i x8), some (sj_i w), some (sj_i x10), none]) (pc := 134) h dX9_deep_134 (Nat.le_of_ble_eq_true rfl) (fun _ => rfl) (fun v1 h => ?_)
  refine r_goto (pc := 136) (tgt := 62) dX9_deep_136 (by decide) ?_
  exact sj_weak (l2 := [some (sj_r (some a0)), some (sj_i x1), some (sj_i x2), some (sj_i x3), some (sj_i x4), some (sj_i x5), some (sj_i x6), some (sj_i x7), some (sj_i x8), some (sj_i v1), some (sj_i x10), none]) (⟨rfl, ⟨rfl, ⟨rfl, ⟨rfl, ⟨rfl, ⟨rfl, ⟨rfl, ⟨rfl, ⟨rfl, ⟨rfl, ⟨rfl, trivial⟩⟩⟩⟩⟩⟩⟩⟩⟩⟩⟩) (hk62 a0 x1 x2 x3 x4 x5 x6 x7 x8 v1 x10 V ha0 h)
set_option maxHeartbeats 4000000 in
theorem st_X9_deep_119 {X : sj_X} {g : sj_G} {s0 : sj_Mem} {N : Nat} {q : Int × sj_VV} {k62 : Nat → Int → Int → Int → Int → Int → Int → Int → Int → Int → Int → sj_VV → Option (Int × sj_VV)} (hk62 : ∀ (a0 : Nat) (x1 : Int) (x2 : Int) (x3 : Int) (x4 : Int) (x5 : Int) (x6 : Int) (x7 : Int) (x8 : Int) (x9 : Int) (x10 : Int) (V : sj_VV), OK9 g a0 → k62 a0 x1 x2 x3 x4 x5 x6 x7 x8 x9 x10 V = some q → sj_T X m_X9_deep s0 (some (sj_i q.1), (g, q.2)) 62 [some (sj_r (some a0)), some (sj_i x1), some (sj_i x2), some (sj_i x3), some (sj_i x4), some (sj_i x5), some (sj_i x6), some (sj_i x7), some (sj_i x8), some (sj_i x9), some (sj_i x10), none] [] (g, V)) :
    ∀ (a0 : Nat) (x1 : Int) (x2 : Int) (x3 : Int) (x4 : Int) (x5 : Int) (x6 : Int) (x7 : Int) (x8 : Int) (x9 : Int) (y0 : Int) (V : sj_VV), OK9 g a0 → g_X9_deep_119 N k62 a0 x1 x2 x3 x4 x5 x6 x7 x8 x9 y0 V = some q → sj_T X m_X9_deep s0 (some (sj_i q.1), (g, q.2)) 119 [some (sj_r (some a0)), some (sj_i x1), some (sj_i x2), some (sj_i x3), some (sj_i x4), some (sj_i x5), some (sj_i x6), some (sj_i x7), some (sj_i x8), some (sj_i x9), none, none] [(sj_i y0)] (g, V) := by
  intro a0 x1 x2 x3 x4 x5 x6 x7 x8 x9 y0 V ha0 h
  unfold g_X9_deep_119 at h
  refine r_istore (ln := [some (sj_r (some a0)), some (sj_i x1), some (sj_i x2), some (sj_i x3), some (sj_i x4), some (sj_i x5), some (sj_i x6), some (sj_i x7), some (sj_i x8), some (sj_i x9), some (sj_i y0), none]) (pc := 119) dX9_deep_119 (Nat.le_of_ble_eq_true rfl) rfl ?_
  refine r_iload (pc := 121) dX9_deep_121 rfl ?_
  refine r_iload (pc := 123) dX9_deep_123 rfl ?_
  refine r_if_eq (pc := 125) (tgt := 132) h dX9_deep_125 (by decide) (fun h => ?_) (fun h => ?_)
  · refine r_iconst (pc := 132) dX9_deep_132 ?_
    exact sj_weak (l2 := [some (sj_r (some a0)), some (sj_i x1), some (sj_i x2), some (sj_i x3), some (sj_i x4), some (sj_i x5), some (sj_i x6), some (sj_i x7), some (sj_i x8), none, some (sj_i y0), none]) (⟨rfl, ⟨rfl, ⟨rfl, ⟨rfl, ⟨rfl, ⟨rfl, ⟨rfl, ⟨rfl, ⟨rfl, ⟨rfl, trivial⟩⟩⟩⟩⟩⟩⟩⟩⟩⟩) (st_X9_deep_133 hk62 a0 x1 x2 x3 x4 x5 x6 x7 x8 y0 0 x9 V ha0 h)
  · refine r_iconst (pc := 128) dX9_deep_128 ?_
    refine r_goto (pc := 129) (tgt := 133) dX9_deep_129 (by decide) ?_
    exact sj_weak (l2 := [some (sj_r (some a0)), some (sj_i x1), some (sj_i x2), some (sj_i x3), some (sj_i x4), some (sj_i x5), some (sj_i x6), some (sj_i x7), some (sj_i x8), none, some (sj_i y0), none]) (⟨rfl, ⟨rfl, ⟨rfl, ⟨rfl, ⟨rfl, ⟨rfl, ⟨rfl, ⟨rfl, ⟨rfl, ⟨rfl, trivial⟩⟩⟩⟩⟩⟩⟩⟩⟩⟩) (st_X9_deep_133 hk62 a0 x1 x2 x3 x4 x5 x6 x7 x8 y0 1 x9 V ha0 h)
set_option maxHeartbeats 4000000 in
theorem st_X9_deep_114 {X : sj_X} {g : sj_G} {s0 : sj_Mem} {N : Nat} {q : Int × sj_VV} {k62 : Nat → Int → Int → Int → Int → Int → Int → Int → Int → Int → Int → sj_VV → Option (Int × sj_VV)} (hk62 : ∀ (a0 : Nat) (x1 : Int) (x2 : Int) (x3 : Int) (x4 : Int) (x5 : Int) (x6 : Int) (x7 : Int) (x8 : Int) (x9 : Int) (x10 : Int) (V : sj_VV), OK9 g a0 → k62 a0 x1 x2 x3 x4 x5 x6 x7 x8 x9 x10 V = some q → sj_T X m_X9_deep s0 (some (sj_i q.1), (g, q.2)) 62 [some (sj_r (some a0)), some (sj_i x1), some (sj_i x2), some (sj_i x3), some (sj_i x4), some (sj_i x5), some (sj_i x6), some (sj_i x7), some (sj_i x8), some (sj_i x9), some (sj_i x10), none] [] (g, V)) :
    ∀ (a0 : Nat) (x1 : Int) (x2 : Int) (x3 : Int) (x4 : Int) (x5 : Int) (x6 : Int) (x7 : Int) (x8 : Int) (x9 : Int) (V : sj_VV), OK9 g a0 → g_X9_deep_114 N k62 a0 x1 x2 x3 x4 x5 x6 x7 x8 x9 V = some q → sj_T X m_X9_deep s0 (some (sj_i q.1), (g, q.2)) 114 [some (sj_r (some a0)), some (sj_i x1), some (sj_i x2), some (sj_i x3), some (sj_i x4), some (sj_i x5), some (sj_i x6), some (sj_i x7), some (sj_i x8), some (sj_i x9), none, none] [] (g, V) := by
  intro a0 x1 x2 x3 x4 x5 x6 x7 x8 x9 V ha0 h
  unfold g_X9_deep_114 at h
  refine r_iconst (pc := 114) dX9_deep_114 ?_
  refine r_goto (pc := 115) (tgt := 119) dX9_deep_115 (by decide) ?_
  exact sj_weak (l2 := [some (sj_r (some a0)), some (sj_i x1), some (sj_i x2), some (sj_i x3), some (sj_i x4), some (sj_i x5), some (sj_i x6), some (sj_i x7), some (sj_i x8), some (sj_i x9), none, none]) (⟨rfl, ⟨rfl, ⟨rfl, ⟨rfl, ⟨rfl, ⟨rfl, ⟨rfl, ⟨rfl, ⟨rfl, ⟨rfl, trivial⟩⟩⟩⟩⟩⟩⟩⟩⟩⟩) (st_X9_deep_119 hk62 a0 x1 x2 x3 x4 x5 x6 x7 x8 x9 1 V ha0 h)
set_option maxHeartbeats 4000000 in
theorem st_X9_deep_139 {X : sj_X} {g : sj_G} {s0 : sj_Mem} {N : Nat} {q : Int × sj_VV} :
    ∀ (a0 : Nat) (x1 : Int) (x7 : Int) (x9 : Int) (V : sj_VV), OK9 g a0 → g_X9_deep_139 N a0 x1 x7 x9 V = some q → sj_T X m_X9_deep s0 (some (sj_i q.1), (g, q.2)) 139 [some (sj_r (some a0)), some (sj_i x1), none, none, none, none, none, some (sj_i x7), none, some (sj_i x9), none, none] [] (g, V) := by
  intro a0 x1 x7 x9 V ha0 h
  unfold g_X9_deep_139 at h
  refine r_aload_n (pc := 139) dX9_deep_139 rfl rfl ?_
  refine r_gRs (b := a0 + 1) (pc := 140) dX9_deep_140 fw_X9_9 rfl (ok9 ha0) (ok9_0 ha0).1 ?_
  refine r_iconst (pc := 143) dX9_deep_143 ?_
  refine r_iload_n (pc := 144) dX9_deep_144 rfl rfl ?_
  refine r_iadd (pc := 145) dX9_deep_145 ?_
  refine r_iload (pc := 146) dX9_deep_146 rfl ?_
  refine r_iastores (pc := 148) h dX9_deep_148 (ok9_0 ha0).2 (fun V1 h => ?_)
  refine r_iload (pc := 149) dX9_deep_149 rfl ?_
  refine r_iconst (pc := 151) dX9_deep_151 ?_
  refine r_isub (pc := 152) dX9_deep_152 ?_
  exact r_irets (pc := 153) h rfl dX9_deep_153
set_option maxHeartbeats 4000000 in
theorem st_X9_deep_62_b {X : sj_X} {g : sj_G} {s0 : sj_Mem} {N : Nat} {q : Int × sj_VV} {k62 : Nat → Int → Int → Int → Int → Int → Int → Int → Int → Int → Int → sj_VV → Option (Int × sj_VV)} (hk62 : ∀ (a0 : Nat) (x1 : Int) (x2 : Int) (x3 : Int) (x4 : Int) (x5 : Int) (x6 : Int) (x7 : Int) (x8 : Int) (x9 : Int) (x10 : Int) (V : sj_VV), OK9 g a0 → k62 a0 x1 x2 x3 x4 x5 x6 x7 x8 x9 x10 V = some q → sj_T X m_X9_deep s0 (some (sj_i q.1), (g, q.2)) 62 [some (sj_r (some a0)), some (sj_i x1), some (sj_i x2), some (sj_i x3), some (sj_i x4), some (sj_i x5), some (sj_i x6), some (sj_i x7), some (sj_i x8), some (sj_i x9), some (sj_i x10), none] [] (g, V)) :
    ∀ (a0 : Nat) (x1 : Int) (x2 : Int) (x3 : Int) (x4 : Int) (x5 : Int) (x6 : Int) (x7 : Int) (x8 : Int) (x9 : Int) (x10 : Int) (V : sj_VV), OK9 g a0 → g_X9_deep_62_b N k62 a0 x1 x2 x3 x4 x5 x6 x7 x8 x9 x10 V = some q → sj_T X m_X9_deep s0 (some (sj_i q.1), (g, q.2)) 62 [some (sj_r (some a0)), some (sj_i x1), some (sj_i x2), some (sj_i x3), some (sj_i x4), some (sj_i x5), some (sj_i x6), some (sj_i x7), some (sj_i x8), some (sj_i x9), some (sj_i x10), none] [] (g, V) := by
  intro a0 x1 x2 x3 x4 x5 x6 x7 x8 x9 x10 V ha0 h
  unfold g_X9_deep_62_b at h
  refine r_iload (pc := 62) dX9_deep_62 rfl ?_
  refine r_if_eq (pc := 64) (tgt := 139) h dX9_deep_64 (by decide) (fun h => ?_) (fun h => ?_)
  · exact sj_weak (l2 := [some (sj_r (some a0)), some (sj_i x1), none, none, none, none, none, some (sj_i x7), none, some (sj_i x9), none, none]) (⟨rfl, ⟨rfl, ⟨rfl, ⟨rfl, trivial⟩⟩⟩⟩) (st_X9_deep_139 a0 x1 x7 x9 V ha0 h)
  · refine r_iload (pc := 67) dX9_deep_67 rfl ?_
    refine r_iload (pc := 69) dX9_deep_69 rfl ?_
    refine r_icmp_gt (pc := 71) (tgt := 139) h dX9_deep_71 (by decide) (fun h => ?_) (fun h => ?_)
    · exact sj_weak (l2 := [some (sj_r (some a0)), some (sj_i x1), none, none, none, none, none, some (sj_i x7), none, some (sj_i x9), none, none]) (⟨rfl, ⟨rfl, ⟨rfl, ⟨rfl, trivial⟩⟩⟩⟩) (st_X9_deep_139 a0 x1 x7 x9 V ha0 h)
    · refine r_aload_n (pc := 74) dX9_deep_74 rfl rfl ?_
      refine r_gRs (b := a0 + 1) (pc := 75) dX9_deep_75 fw_X9_9 rfl (ok9 ha0) (ok9_0 ha0).1 ?_
      refine r_iconst (pc := 78) dX9_deep_78 ?_
      refine r_iload_n (pc := 79) dX9_deep_79 rfl rfl ?_
      refine r_iadd (pc := 80) dX9_deep_80 ?_
      refine r_iload (pc := 81) dX9_deep_81 rfl ?_
      refine r_iload (pc := 83) dX9_deep_83 rfl ?_
      refine r_isub (pc := 85) dX9_deep_85 ?_
      refine r_iastores (pc := 86) h dX9_deep_86 (ok9_0 ha0).2 (fun V1 h => ?_)
      refine r_aload_n (pc := 87) dX9_deep_87 rfl rfl ?_
      refine r_iload_n (pc := 88) dX9_deep_88 rfl rfl ?_
      refine r_iload (pc := 89) dX9_deep_89 rfl ?_
      refine r_iload (pc := 91) dX9_deep_91 rfl ?_
      refine r_bipush (pc := 93) dX9_deep_93 ⟨by decide, by decide⟩ ?_
      refine r_iload (pc := 95) dX9_deep_95 rfl ?_
      refine r_callVs (pc := 97) (fun v => some (sj_i v)) (As := [sj_i x3, sj_i x4, sj_i x5, sj_i 8, sj_i x6]) (rest := []) (b := a0) (ok9 ha0) h dX9_deep_97 mw_X9_243 vw_X9_searches (fun _ _ hc => cg_X9_searches ha0 hc) rfl ⟨(Nat.le_of_ble_eq_true rfl), (Nat.le_of_ble_eq_true rfl)⟩ (Nat.le_of_ble_eq_true rfl) rfl (fun v3 V2 h => ?_)
      refine r_istore (ln := [some (sj_r (some a0)), some (sj_i x1), some (sj_i x2), some (sj_i x3), some (sj_i x4), some (sj_i x5), some (sj_i x6), some (sj_i x7), some (sj_i x8), some (sj_i x9), some (sj_i x10), some (sj_i v3)]) (pc := 100) dX9_deep_100 (Nat.le_of_ble_eq_true rfl) rfl ?_
      refine r_iload (pc := 102) dX9_deep_102 rfl ?_
      refine r_iconst (pc := 104) dX9_deep_104 ?_
      refine r_icmp_eq (pc := 105) (tgt := 114) h dX9_deep_105 (by decide) (fun h => ?_) (fun h => ?_)
      · exact sj_weak (l2 := [some (sj_r (some a0)), some (sj_i x1), some (sj_i x2), some (sj_i x3), some (sj_i x4), some (sj_i x5), some (sj_i x6), some (sj_i x7), some (sj_i x8), some (sj_i x9), none, none]) (⟨rfl, ⟨rfl, ⟨rfl, ⟨rfl, ⟨rfl, ⟨rfl, ⟨rfl, ⟨rfl, ⟨rfl, ⟨rfl, trivial⟩⟩⟩⟩⟩⟩⟩⟩⟩⟩) (st_X9_deep_114 hk62 a0 x1 x2 x3 x4 x5 x6 x7 x8 x9 V2 ha0 h)
      · refine r_iload (pc := 108) dX9_deep_108 rfl ?_
        refine r_iload_n (pc := 110) dX9_deep_110 rfl rfl ?_
        refine r_icmp_lt (pc := 111) (tgt := 118) h dX9_deep_111 (by decide) (fun h => ?_) (fun h => ?_)
        · refine r_iconst (pc := 118) dX9_deep_118 ?_
          exact sj_weak (l2 := [some (sj_r (some a0)), some (sj_i x1), some (sj_i x2), some (sj_i x3), some (sj_i x4), some (sj_i x5), some (sj_i x6), some (sj_i x7), some (sj_i x8), some (sj_i x9), none, none]) (⟨rfl, ⟨rfl, ⟨rfl, ⟨rfl, ⟨rfl, ⟨rfl, ⟨rfl, ⟨rfl, ⟨rfl, ⟨rfl, trivial⟩⟩⟩⟩⟩⟩⟩⟩⟩⟩) (st_X9_deep_119 hk62 a0 x1 x2 x3 x4 x5 x6 x7 x8 x9 0 V2 ha0 h)
        · exact sj_weak (l2 := [some (sj_r (some a0)), some (sj_i x1), some (sj_i x2), some (sj_i x3), some (sj_i x4), some (sj_i x5), some (sj_i x6), some (sj_i x7), some (sj_i x8), some (sj_i x9), none, none]) (⟨rfl, ⟨rfl, ⟨rfl, ⟨rfl, ⟨rfl, ⟨rfl, ⟨rfl, ⟨rfl, ⟨rfl, ⟨rfl, trivial⟩⟩⟩⟩⟩⟩⟩⟩⟩⟩) (st_X9_deep_114 hk62 a0 x1 x2 x3 x4 x5 x6 x7 x8 x9 V2 ha0 h)
set_option maxHeartbeats 4000000 in
theorem st_X9_deep_62 {X : sj_X} {g : sj_G} {s0 : sj_Mem} {N : Nat} {q : Int × sj_VV} :
    ∀ (n : Nat) (a0 : Nat) (x1 : Int) (x2 : Int) (x3 : Int) (x4 : Int) (x5 : Int) (x6 : Int) (x7 : Int) (x8 : Int) (x9 : Int) (x10 : Int) (V : sj_VV), OK9 g a0 → g_X9_deep_62 N n a0 x1 x2 x3 x4 x5 x6 x7 x8 x9 x10 V = some q → sj_T X m_X9_deep s0 (some (sj_i q.1), (g, q.2)) 62 [some (sj_r (some a0)), some (sj_i x1), some (sj_i x2), some (sj_i x3), some (sj_i x4), some (sj_i x5), some (sj_i x6), some (sj_i x7), some (sj_i x8), some (sj_i x9), some (sj_i x10), none] [] (g, V) := by
  intro n
  induction n with
  | zero => intro a0 x1 x2 x3 x4 x5 x6 x7 x8 x9 x10 V ha0 h; exact nomatch h
  | succ n ih => intro a0 x1 x2 x3 x4 x5 x6 x7 x8 x9 x10 V ha0 h; exact st_X9_deep_62_b (N := N) ih a0 x1 x2 x3 x4 x5 x6 x7 x8 x9 x10 V ha0 h
set_option maxHeartbeats 4000000 in
theorem st_X9_deep_0 {X : sj_X} {g : sj_G} {s0 : sj_Mem} {N : Nat} {q : Int × sj_VV} :
    ∀ (a0 : Nat) (x1 : Int) (x2 : Int) (x3 : Int) (x4 : Int) (x5 : Int) (x6 : Int) (V : sj_VV), OK9 g a0 → g_X9_deep N a0 x1 x2 x3 x4 x5 x6 V = some q → sj_T X m_X9_deep s0 (some (sj_i q.1), (g, q.2)) 0 [some (sj_r (some a0)), some (sj_i x1), some (sj_i x2), some (sj_i x3), some (sj_i x4), some (sj_i x5), some (sj_i x6), none, none, none, none, none] [] (g, V) := by
  intro a0 x1 x2 x3 x4 x5 x6 V ha0 h
  unfold g_X9_deep at h
  refine r_aload_n (pc := 0) dX9_deep_0 rfl rfl ?_
  refine r_iload_n (pc := 1) dX9_deep_1 rfl rfl ?_
  refine r_callVs (pc := 2) (fun v => some (sj_i v)) (As := [sj_i x1]) (rest := []) (b := a0) (ok9 ha0) h dX9_deep_2 mw_X9_74 vw_X9_isColumn (fun _ _ hc => cg_X9_isColumn ha0 hc) rfl ⟨(Nat.le_of_ble_eq_true rfl), (Nat.le_of_ble_eq_true rfl)⟩ (Nat.le_of_ble_eq_true rfl) rfl (fun v2 V1 h => ?_)
  refine r_if_eq (pc := 5) (tgt := 26) h dX9_deep_5 (by decide) (fun h => ?_) (fun h => ?_)
  · refine r_iconst (pc := 26) dX9_deep_26 ?_
    exact r_irets (pc := 27) h rfl dX9_deep_27
  · refine r_iload_n (pc := 8) dX9_deep_8 rfl rfl ?_
    refine r_iload (pc := 9) dX9_deep_9 rfl ?_
    refine r_iload (pc := 11) dX9_deep_11 rfl ?_
    refine r_callSs (pc := 13) (fun v => some (sj_i v)) (As := [sj_i x3, sj_i x4, sj_i x5]) (rest := []) h dX9_deep_13 mw_X9_197 kw_1284 (fun _ _ hc => cg_X9_isCircle  hc) rfl ⟨(Nat.le_of_ble_eq_true rfl), (Nat.le_of_ble_eq_true rfl)⟩ (Nat.le_of_ble_eq_true rfl) rfl (fun v4 V3 h => ?_)
    refine r_if_eq (pc := 16) (tgt := 26) h dX9_deep_16 (by decide) (fun h => ?_) (fun h => ?_)
    · refine r_iconst (pc := 26) dX9_deep_26 ?_
      exact r_irets (pc := 27) h rfl dX9_deep_27
    · refine r_iload_n (pc := 19) dX9_deep_19 rfl rfl ?_
      refine r_callSs (pc := 20) (fun v => some (sj_i v)) (As := [sj_i x2]) (rest := []) h dX9_deep_20 mw_X9_287 kw_1446 (fun _ _ hc => cg_X9_isK  hc) rfl ⟨(Nat.le_of_ble_eq_true rfl), (Nat.le_of_ble_eq_true rfl)⟩ (Nat.le_of_ble_eq_true rfl) rfl (fun v6 V5 h => ?_)
      refine r_if_ne (pc := 23) (tgt := 28) h dX9_deep_23 (by decide) (fun h => ?_) (fun h => ?_)
      · refine r_iconst (pc := 26) dX9_deep_26 ?_
        exact r_irets (pc := 27) h rfl dX9_deep_27
      · refine r_aload_n (pc := 28) dX9_deep_28 rfl rfl ?_
        refine r_gRs (b := a0 + 1) (pc := 29) dX9_deep_29 fw_X9_9 rfl (ok9 ha0) (ok9_0 ha0).1 ?_
        refine r_iconst (pc := 32) dX9_deep_32 ?_
        refine r_iload_n (pc := 33) dX9_deep_33 rfl rfl ?_
        refine r_iadd (pc := 34) dX9_deep_34 ?_
        refine r_ialoads (pc := 35) h dX9_deep_35 (ok9_0 ha0).2 (fun h => ?_)
        refine r_istoreL (ln := fun w => [some (sj_r (some a0)), some (sj_i x1), some (sj_i x2), some (sj_i x3), some (sj_i x4), some (sj_i x5), some (sj_i x6), some (sj_i w), none, none, none, none]) (pc := 36) h dX9_deep_36 (Nat.le_of_ble_eq_true rfl) (fun _ => rfl) (fun v7 h => ?_)
        refine r_iconst (pc := 38) dX9_deep_38 ?_
        refine r_iload (pc := 39) dX9_deep_39 rfl ?_
        refine r_aload_n (pc := 41) dX9_deep_41 rfl rfl ?_
        refine r_gRs (b := a0 + 1) (pc := 42) dX9_deep_42 fw_X9_9 rfl (ok9 ha0) (ok9_0 ha0).1 ?_
        refine r_bipush (pc := 45) dX9_deep_45 ⟨by decide, by decide⟩ ?_
        refine r_iload_n (pc := 47) dX9_deep_47 rfl rfl ?_
        refine r_iadd (pc := 48) dX9_deep_48 ?_
        refine r_ialoads (pc := 49) h dX9_deep_49 (ok9_0 ha0).2 (fun h => ?_)
        refine r_isub (pc := 50) dX9_deep_50 ?_
        refine r_callSs (pc := 51) (fun v => some (sj_i v)) (As := [sj_i 5, sj_i (v7 - (V5 (a0 + 1) (44 + x1).toNat))]) (rest := []) h dX9_deep_51 mw_X9_104 kw_1352 (fun _ _ hc => cg_X9_least  hc) rfl ⟨(Nat.le_of_ble_eq_true rfl), (Nat.le_of_ble_eq_true rfl)⟩ (Nat.le_of_ble_eq_true rfl) rfl (fun v9 V8 h => ?_)
        refine r_istore (ln := [some (sj_r (some a0)), some (sj_i x1), some (sj_i x2), some (sj_i x3), some (sj_i x4), some (sj_i x5), some (sj_i x6), some (sj_i v7), some (sj_i v9), none, none, none]) (pc := 54) dX9_deep_54 (Nat.le_of_ble_eq_true rfl) rfl ?_
        refine r_iconst (pc := 56) dX9_deep_56 ?_
        refine r_istore (ln := [some (sj_r (some a0)), some (sj_i x1), some (sj_i x2), some (sj_i x3), some (sj_i x4), some (sj_i x5), some (sj_i x6), some (sj_i v7), some (sj_i v9), some (sj_i 0), none, none]) (pc := 57) dX9_deep_57 (Nat.le_of_ble_eq_true rfl) rfl ?_
        refine r_iconst (pc := 59) dX9_deep_59 ?_
        refine r_istore (ln := [some (sj_r (some a0)), some (sj_i x1), some (sj_i x2), some (sj_i x3), some (sj_i x4), some (sj_i x5), some (sj_i x6), some (sj_i v7), some (sj_i v9), some (sj_i 0), some (sj_i 1), none]) (pc := 60) dX9_deep_60 (Nat.le_of_ble_eq_true rfl) rfl ?_
        exact sj_weak (l2 := [some (sj_r (some a0)), some (sj_i x1), some (sj_i x2), some (sj_i x3), some (sj_i x4), some (sj_i x5), some (sj_i x6), some (sj_i v7), some (sj_i v9), some (sj_i 0), some (sj_i 1), none]) (⟨rfl, ⟨rfl, ⟨rfl, ⟨rfl, ⟨rfl, ⟨rfl, ⟨rfl, ⟨rfl, ⟨rfl, ⟨rfl, ⟨rfl, trivial⟩⟩⟩⟩⟩⟩⟩⟩⟩⟩⟩) (st_X9_deep_62 N a0 x1 x2 x3 x4 x5 x6 v7 v9 0 1 V8 ha0 h)
set_option maxHeartbeats 4000000 in
theorem cg_X9_deep {X : sj_X} {g : sj_G} {N : Nat} {a0 : Nat} {x1 : Int} {x2 : Int} {x3 : Int} {x4 : Int} {x5 : Int} {x6 : Int} {V : sj_VV} {q : Int × sj_VV} (ha0 : OK9 g a0) (h : g_X9_deep N a0 x1 x2 x3 x4 x5 x6 V = some q) : sj_C X m_X9_deep [sj_r (some a0), sj_i x1, sj_i x2, sj_i x3, sj_i x4, sj_i x5, sj_i x6] (g, V) (some (sj_i q.1), (g, q.2)) :=
  sj_C_of (by decide +kernel) (Nat.le_of_ble_eq_true rfl) (lo := [some (sj_r (some a0)), some (sj_i x1), some (sj_i x2), some (sj_i x3), some (sj_i x4), some (sj_i x5), some (sj_i x6), none, none, none, none, none]) rfl (sj_weak (l2 := [some (sj_r (some a0)), some (sj_i x1), some (sj_i x2), some (sj_i x3), some (sj_i x4), some (sj_i x5), some (sj_i x6), none, none, none, none, none]) (⟨rfl, ⟨rfl, ⟨rfl, ⟨rfl, ⟨rfl, ⟨rfl, ⟨rfl, trivial⟩⟩⟩⟩⟩⟩⟩) (st_X9_deep_0 a0 x1 x2 x3 x4 x5 x6 V ha0 h))
set_option maxHeartbeats 4000000 in
theorem c_X9_deep {X : sj_X} {N : Nat} {a0 : Nat} {x1 : Int} {x2 : Int} {x3 : Int} {x4 : Int} {x5 : Int} {x6 : Int} {s : sj_Mem} {q : Int × sj_Mem} (h : f_X9_deep N a0 x1 x2 x3 x4 x5 x6 s = some q) : sj_C X m_X9_deep [sj_r (some a0), sj_i x1, sj_i x2, sj_i x3, sj_i x4, sj_i x5, sj_i x6] s (some (sj_i q.1), q.2) := by
  obtain ⟨g, V⟩ := s
  unfold f_X9_deep at h
  obtain ⟨ho, h1⟩ := e_ok_some h
  obtain ⟨q2, h2, rfl⟩ := sj_map_some h1
  exact cg_X9_deep ho h2
theorem dX9_hasFast_0 : decode cX9_hasFast 0 = .ok (.aload_n 0, 1) := by decide +kernel
theorem dX9_hasFast_1 : decode cX9_hasFast 1 = .ok (.getfield 22, 3) := by decide +kernel
theorem dX9_hasFast_4 : decode cX9_hasFast 4 = .ok (.istore_n 3, 1) := by decide +kernel
theorem dX9_hasFast_5 : decode cX9_hasFast 5 = .ok (.iload_n 3, 1) := by decide +kernel
theorem dX9_hasFast_6 : decode cX9_hasFast 6 = .ok (.iload_n 1, 1) := by decide +kernel
theorem dX9_hasFast_7 : decode cX9_hasFast 7 = .ok (.if_icmp .gt 28, 3) := by decide +kernel
theorem dX9_hasFast_10 : decode cX9_hasFast 10 = .ok (.aload_n 0, 1) := by decide +kernel
theorem dX9_hasFast_11 : decode cX9_hasFast 11 = .ok (.iload_n 3, 1) := by decide +kernel
theorem dX9_hasFast_12 : decode cX9_hasFast 12 = .ok (.invokevirtual 168, 3) := by decide +kernel
theorem dX9_hasFast_15 : decode cX9_hasFast 15 = .ok (.aload_n 0, 1) := by decide +kernel
theorem dX9_hasFast_16 : decode cX9_hasFast 16 = .ok (.iload_n 2, 1) := by decide +kernel
theorem dX9_hasFast_17 : decode cX9_hasFast 17 = .ok (.invokevirtual 171, 3) := by decide +kernel
theorem dX9_hasFast_20 : decode cX9_hasFast 20 = .ok (.ldc2_w 148, 3) := by decide +kernel
theorem dX9_hasFast_23 : decode cX9_hasFast 23 = .ok (.lcmp, 1) := by decide +kernel
theorem dX9_hasFast_24 : decode cX9_hasFast 24 = .ok (.ifCond .ne 5, 3) := by decide +kernel
theorem dX9_hasFast_27 : decode cX9_hasFast 27 = .ok (.iconst 1, 1) := by decide +kernel
theorem dX9_hasFast_28 : decode cX9_hasFast 28 = .ok (.ireturn, 1) := by decide +kernel
theorem dX9_hasFast_29 : decode cX9_hasFast 29 = .ok (.iinc 3 1, 3) := by decide +kernel
theorem dX9_hasFast_32 : decode cX9_hasFast 32 = .ok (.goto (-27), 3) := by decide +kernel
theorem dX9_hasFast_35 : decode cX9_hasFast 35 = .ok (.iconst 0, 1) := by decide +kernel
theorem dX9_hasFast_36 : decode cX9_hasFast 36 = .ok (.ireturn, 1) := by decide +kernel
set_option maxHeartbeats 4000000 in
theorem st_X9_hasFast_5_b {X : sj_X} {g : sj_G} {s0 : sj_Mem} {N : Nat} {q : Int × sj_VV} {k5 : Nat → Int → Int → Int → sj_VV → Option (Int × sj_VV)} (hk5 : ∀ (a0 : Nat) (x1 : Int) (x2 : Int) (x3 : Int) (V : sj_VV), OK9 g a0 → k5 a0 x1 x2 x3 V = some q → sj_T X m_X9_hasFast s0 (some (sj_i q.1), (g, q.2)) 5 [some (sj_r (some a0)), some (sj_i x1), some (sj_i x2), some (sj_i x3)] [] (g, V)) :
    ∀ (a0 : Nat) (x1 : Int) (x2 : Int) (x3 : Int) (V : sj_VV), OK9 g a0 → g_X9_hasFast_5_b N k5 a0 x1 x2 x3 V = some q → sj_T X m_X9_hasFast s0 (some (sj_i q.1), (g, q.2)) 5 [some (sj_r (some a0)), some (sj_i x1), some (sj_i x2), some (sj_i x3)] [] (g, V) := by
  intro a0 x1 x2 x3 V ha0 h
  unfold g_X9_hasFast_5_b at h
  refine r_iload_n (pc := 5) dX9_hasFast_5 rfl rfl ?_
  refine r_iload_n (pc := 6) dX9_hasFast_6 rfl rfl ?_
  refine r_icmp_gt (pc := 7) (tgt := 35) h dX9_hasFast_7 (by decide) (fun h => ?_) (fun h => ?_)
  · refine r_iconst (pc := 35) dX9_hasFast_35 ?_
    exact r_zrets (pc := 36) h rfl dX9_hasFast_36
  · refine r_aload_n (pc := 10) dX9_hasFast_10 rfl rfl ?_
    refine r_iload_n (pc := 11) dX9_hasFast_11 rfl rfl ?_
    refine r_callVs (pc := 12) (fun _ => none) (As := [sj_i x3]) (rest := []) (b := a0) (ok9 ha0) h dX9_hasFast_12 mw_X9_168 vw_X9_laysAt (fun _ _ hc => cg_X9_laysAt ha0 hc) rfl ⟨(Nat.le_of_ble_eq_true rfl), (Nat.le_of_ble_eq_true rfl)⟩ (Nat.le_of_ble_eq_true rfl) rfl (fun _u V1 h => ?_)
    refine r_aload_n (pc := 15) dX9_hasFast_15 rfl rfl ?_
    refine r_iload_n (pc := 16) dX9_hasFast_16 rfl rfl ?_
    refine r_callVs (pc := 17) (fun v => some (sj_j v)) (As := [sj_i x2]) (rest := []) (b := a0) (ok9 ha0) h dX9_hasFast_17 mw_X9_171 vw_X9_rubsOf (fun _ _ hc => cg_X9_rubsOf ha0 hc) rfl ⟨(Nat.le_of_ble_eq_true rfl), (Nat.le_of_ble_eq_true rfl)⟩ (Nat.le_of_ble_eq_true rfl) rfl (fun v3 V2 h => ?_)
    refine r_ldc2 (n := -1) (pc := 20) dX9_hasFast_20 kc_X9_148 ?_
    refine r_lne (pc := 23) (tgt := 29) h dX9_hasFast_23 rfl dX9_hasFast_24 (by decide) (fun h => ?_) (fun h => ?_)
    · refine r_iconst (pc := 27) dX9_hasFast_27 ?_
      exact r_zrets (pc := 28) h rfl dX9_hasFast_28
    · refine r_iinc (ln := fun w => [some (sj_r (some a0)), some (sj_i x1), some (sj_i x2), some (sj_i w)]) (pc := 29) h dX9_hasFast_29 rfl (Nat.le_of_ble_eq_true rfl) (fun _ => rfl) (fun v4 h => ?_)
      refine r_goto (pc := 32) (tgt := 5) dX9_hasFast_32 (by decide) ?_
      exact sj_weak (l2 := [some (sj_r (some a0)), some (sj_i x1), some (sj_i x2), some (sj_i v4)]) (⟨rfl, ⟨rfl, ⟨rfl, ⟨rfl, trivial⟩⟩⟩⟩) (hk5 a0 x1 x2 v4 V2 ha0 h)
set_option maxHeartbeats 4000000 in
theorem st_X9_hasFast_5 {X : sj_X} {g : sj_G} {s0 : sj_Mem} {N : Nat} {q : Int × sj_VV} :
    ∀ (n : Nat) (a0 : Nat) (x1 : Int) (x2 : Int) (x3 : Int) (V : sj_VV), OK9 g a0 → g_X9_hasFast_5 N n a0 x1 x2 x3 V = some q → sj_T X m_X9_hasFast s0 (some (sj_i q.1), (g, q.2)) 5 [some (sj_r (some a0)), some (sj_i x1), some (sj_i x2), some (sj_i x3)] [] (g, V) := by
  intro n
  induction n with
  | zero => intro a0 x1 x2 x3 V ha0 h; exact nomatch h
  | succ n ih => intro a0 x1 x2 x3 V ha0 h; exact st_X9_hasFast_5_b (N := N) ih a0 x1 x2 x3 V ha0 h
set_option maxHeartbeats 4000000 in
theorem st_X9_hasFast_0 {X : sj_X} {g : sj_G} {s0 : sj_Mem} {N : Nat} {q : Int × sj_VV} :
    ∀ (a0 : Nat) (x1 : Int) (x2 : Int) (V : sj_VV), OK9 g a0 → g_X9_hasFast N a0 x1 x2 V = some q → sj_T X m_X9_hasFast s0 (some (sj_i q.1), (g, q.2)) 0 [some (sj_r (some a0)), some (sj_i x1), some (sj_i x2), none] [] (g, V) := by
  intro a0 x1 x2 V ha0 h
  unfold g_X9_hasFast at h
  refine r_aload_n (pc := 0) dX9_hasFast_0 rfl rfl ?_
  refine r_gIs (pc := 1) dX9_hasFast_1 fw_X9_22 rfl (ok9 ha0) ?_
  refine r_istore_nL (ln := fun w => [some (sj_r (some a0)), some (sj_i x1), some (sj_i x2), some (sj_i w)]) (pc := 4) h dX9_hasFast_4 rfl (Nat.le_of_ble_eq_true rfl) (fun _ => rfl) (fun v1 h => ?_)
  exact sj_weak (l2 := [some (sj_r (some a0)), some (sj_i x1), some (sj_i x2), some (sj_i v1)]) (⟨rfl, ⟨rfl, ⟨rfl, ⟨rfl, trivial⟩⟩⟩⟩) (st_X9_hasFast_5 N a0 x1 x2 v1 V ha0 h)
set_option maxHeartbeats 4000000 in
theorem cg_X9_hasFast {X : sj_X} {g : sj_G} {N : Nat} {a0 : Nat} {x1 : Int} {x2 : Int} {V : sj_VV} {q : Int × sj_VV} (ha0 : OK9 g a0) (h : g_X9_hasFast N a0 x1 x2 V = some q) : sj_C X m_X9_hasFast [sj_r (some a0), sj_i x1, sj_i x2] (g, V) (some (sj_i q.1), (g, q.2)) :=
  sj_C_of (by decide +kernel) (Nat.le_of_ble_eq_true rfl) (lo := [some (sj_r (some a0)), some (sj_i x1), some (sj_i x2), none]) rfl (sj_weak (l2 := [some (sj_r (some a0)), some (sj_i x1), some (sj_i x2), none]) (⟨rfl, ⟨rfl, ⟨rfl, trivial⟩⟩⟩) (st_X9_hasFast_0 a0 x1 x2 V ha0 h))
set_option maxHeartbeats 4000000 in
theorem c_X9_hasFast {X : sj_X} {N : Nat} {a0 : Nat} {x1 : Int} {x2 : Int} {s : sj_Mem} {q : Int × sj_Mem} (h : f_X9_hasFast N a0 x1 x2 s = some q) : sj_C X m_X9_hasFast [sj_r (some a0), sj_i x1, sj_i x2] s (some (sj_i q.1), q.2) := by
  obtain ⟨g, V⟩ := s
  unfold f_X9_hasFast at h
  obtain ⟨ho, h1⟩ := e_ok_some h
  obtain ⟨q2, h2, rfl⟩ := sj_map_some h1
  exact cg_X9_hasFast ho h2
theorem dX9_downwards_0 : decode cX9_downwards 0 = .ok (.lload_n 0, 1) := by decide +kernel
theorem dX9_downwards_1 : decode cX9_downwards 1 = .ok (.lconst 0, 1) := by decide +kernel
theorem dX9_downwards_2 : decode cX9_downwards 2 = .ok (.lcmp, 1) := by decide +kernel
theorem dX9_downwards_3 : decode cX9_downwards 3 = .ok (.ifCond .lt 9, 3) := by decide +kernel
theorem dX9_downwards_6 : decode cX9_downwards 6 = .ok (.lload_n 0, 1) := by decide +kernel
theorem dX9_downwards_7 : decode cX9_downwards 7 = .ok (.lload_n 2, 1) := by decide +kernel
theorem dX9_downwards_8 : decode cX9_downwards 8 = .ok (.ldiv, 1) := by decide +kernel
theorem dX9_downwards_9 : decode cX9_downwards 9 = .ok (.goto 11, 3) := by decide +kernel
theorem dX9_downwards_12 : decode cX9_downwards 12 = .ok (.lload_n 2, 1) := by decide +kernel
theorem dX9_downwards_13 : decode cX9_downwards 13 = .ok (.lconst 1, 1) := by decide +kernel
theorem dX9_downwards_14 : decode cX9_downwards 14 = .ok (.lsub, 1) := by decide +kernel
theorem dX9_downwards_15 : decode cX9_downwards 15 = .ok (.lload_n 0, 1) := by decide +kernel
theorem dX9_downwards_16 : decode cX9_downwards 16 = .ok (.lsub, 1) := by decide +kernel
theorem dX9_downwards_17 : decode cX9_downwards 17 = .ok (.lload_n 2, 1) := by decide +kernel
theorem dX9_downwards_18 : decode cX9_downwards 18 = .ok (.ldiv, 1) := by decide +kernel
theorem dX9_downwards_19 : decode cX9_downwards 19 = .ok (.lneg, 1) := by decide +kernel
theorem dX9_downwards_20 : decode cX9_downwards 20 = .ok (.lreturn, 1) := by decide +kernel
set_option maxHeartbeats 4000000 in
theorem st_X9_downwards_0 {X : sj_X} {g : sj_G} {s0 : sj_Mem} {N : Nat} {q : Int × sj_VV} :
    ∀ (x0 : Int) (x2 : Int) (V : sj_VV), g_X9_downwards N x0 x2 V = some q → sj_T X m_X9_downwards s0 (some (sj_j q.1), (g, q.2)) 0 [some (sj_j x0), none, some (sj_j x2), none] [] (g, V) := by
  intro x0 x2 V  h
  unfold g_X9_downwards at h
  refine r_lload_n (pc := 0) dX9_downwards_0 rfl rfl ?_
  refine r_lconst0 (pc := 1) dX9_downwards_1 ?_
  refine r_llt (pc := 2) (tgt := 12) h dX9_downwards_2 rfl dX9_downwards_3 (by decide) (fun h => ?_) (fun h => ?_)
  · refine r_lload_n (pc := 12) dX9_downwards_12 rfl rfl ?_
    refine r_lconst1 (pc := 13) dX9_downwards_13 ?_
    refine r_lsub (pc := 14) dX9_downwards_14 ?_
    refine r_lload_n (pc := 15) dX9_downwards_15 rfl rfl ?_
    refine r_lsub (pc := 16) dX9_downwards_16 ?_
    refine r_lload_n (pc := 17) dX9_downwards_17 rfl rfl ?_
    refine r_ldiv (pc := 18) h dX9_downwards_18 (fun v1 h => ?_)
    refine r_lneg (pc := 19) dX9_downwards_19 ?_
    exact r_lrets (pc := 20) h rfl dX9_downwards_20
  · refine r_lload_n (pc := 6) dX9_downwards_6 rfl rfl ?_
    refine r_lload_n (pc := 7) dX9_downwards_7 rfl rfl ?_
    refine r_ldiv (pc := 8) h dX9_downwards_8 (fun v2 h => ?_)
    refine r_goto (pc := 9) (tgt := 20) dX9_downwards_9 (by decide) ?_
    exact r_lrets (pc := 20) h rfl dX9_downwards_20
set_option maxHeartbeats 4000000 in
theorem cg_X9_downwards {X : sj_X} {g : sj_G} {N : Nat} {x0 : Int} {x2 : Int} {V : sj_VV} {q : Int × sj_VV} (h : g_X9_downwards N x0 x2 V = some q) : sj_C X m_X9_downwards [sj_j x0, sj_j x2] (g, V) (some (sj_j q.1), (g, q.2)) :=
  sj_C_of (by decide +kernel) (Nat.le_of_ble_eq_true rfl) (lo := [some (sj_j x0), none, some (sj_j x2), none]) rfl (sj_weak (l2 := [some (sj_j x0), none, some (sj_j x2), none]) (⟨rfl, ⟨rfl, trivial⟩⟩) (st_X9_downwards_0 x0 x2 V h))
set_option maxHeartbeats 4000000 in
theorem c_X9_downwards {X : sj_X} {N : Nat} {x0 : Int} {x2 : Int} {s : sj_Mem} {q : Int × sj_Mem} (h : f_X9_downwards N x0 x2 s = some q) : sj_C X m_X9_downwards [sj_j x0, sj_j x2] s (some (sj_j q.1), q.2) := by
  obtain ⟨g, V⟩ := s
  unfold f_X9_downwards at h
  obtain ⟨ho, h1⟩ := e_ok_some h
  obtain ⟨q2, h2, rfl⟩ := sj_map_some h1
  exact cg_X9_downwards  h2
theorem dX9_thrustOf_0 : decode cX9_thrustOf 0 = .ok (.lconst 0, 1) := by decide +kernel
theorem dX9_thrustOf_1 : decode cX9_thrustOf 1 = .ok (.lstore_n 3, 1) := by decide +kernel
theorem dX9_thrustOf_2 : decode cX9_thrustOf 2 = .ok (.aload_n 0, 1) := by decide +kernel
theorem dX9_thrustOf_3 : decode cX9_thrustOf 3 = .ok (.getfield 22, 3) := by decide +kernel
theorem dX9_thrustOf_6 : decode cX9_thrustOf 6 = .ok (.istore 5, 2) := by decide +kernel
theorem dX9_thrustOf_8 : decode cX9_thrustOf 8 = .ok (.iload 5, 2) := by decide +kernel
theorem dX9_thrustOf_10 : decode cX9_thrustOf 10 = .ok (.iload_n 1, 1) := by decide +kernel
theorem dX9_thrustOf_11 : decode cX9_thrustOf 11 = .ok (.if_icmp .gt 37, 3) := by decide +kernel
theorem dX9_thrustOf_14 : decode cX9_thrustOf 14 = .ok (.aload_n 0, 1) := by decide +kernel
theorem dX9_thrustOf_15 : decode cX9_thrustOf 15 = .ok (.iload 5, 2) := by decide +kernel
theorem dX9_thrustOf_17 : decode cX9_thrustOf 17 = .ok (.invokevirtual 168, 3) := by decide +kernel
theorem dX9_thrustOf_20 : decode cX9_thrustOf 20 = .ok (.lload_n 3, 1) := by decide +kernel
theorem dX9_thrustOf_21 : decode cX9_thrustOf 21 = .ok (.iload_n 2, 1) := by decide +kernel
theorem dX9_thrustOf_22 : decode cX9_thrustOf 22 = .ok (.i2l, 1) := by decide +kernel
theorem dX9_thrustOf_23 : decode cX9_thrustOf 23 = .ok (.aload_n 0, 1) := by decide +kernel
theorem dX9_thrustOf_24 : decode cX9_thrustOf 24 = .ok (.getfield 145, 3) := by decide +kernel
theorem dX9_thrustOf_27 : decode cX9_thrustOf 27 = .ok (.lmul, 1) := by decide +kernel
theorem dX9_thrustOf_28 : decode cX9_thrustOf 28 = .ok (.ldc2_w 143, 3) := by decide +kernel
theorem dX9_thrustOf_31 : decode cX9_thrustOf 31 = .ok (.invokestatic 216, 3) := by decide +kernel
theorem dX9_thrustOf_34 : decode cX9_thrustOf 34 = .ok (.aload_n 0, 1) := by decide +kernel
theorem dX9_thrustOf_35 : decode cX9_thrustOf 35 = .ok (.iload_n 2, 1) := by decide +kernel
theorem dX9_thrustOf_36 : decode cX9_thrustOf 36 = .ok (.invokevirtual 171, 3) := by decide +kernel
theorem dX9_thrustOf_39 : decode cX9_thrustOf 39 = .ok (.lsub, 1) := by decide +kernel
theorem dX9_thrustOf_40 : decode cX9_thrustOf 40 = .ok (.ladd, 1) := by decide +kernel
theorem dX9_thrustOf_41 : decode cX9_thrustOf 41 = .ok (.lstore_n 3, 1) := by decide +kernel
theorem dX9_thrustOf_42 : decode cX9_thrustOf 42 = .ok (.iinc 5 1, 3) := by decide +kernel
theorem dX9_thrustOf_45 : decode cX9_thrustOf 45 = .ok (.goto (-37), 3) := by decide +kernel
theorem dX9_thrustOf_48 : decode cX9_thrustOf 48 = .ok (.lload_n 3, 1) := by decide +kernel
theorem dX9_thrustOf_49 : decode cX9_thrustOf 49 = .ok (.lreturn, 1) := by decide +kernel
set_option maxHeartbeats 4000000 in
theorem st_X9_thrustOf_8_b {X : sj_X} {g : sj_G} {s0 : sj_Mem} {N : Nat} {q : Int × sj_VV} {k8 : Nat → Int → Int → Int → Int → sj_VV → Option (Int × sj_VV)} (hk8 : ∀ (a0 : Nat) (x1 : Int) (x2 : Int) (x3 : Int) (x5 : Int) (V : sj_VV), OK9 g a0 → k8 a0 x1 x2 x3 x5 V = some q → sj_T X m_X9_thrustOf s0 (some (sj_j q.1), (g, q.2)) 8 [some (sj_r (some a0)), some (sj_i x1), some (sj_i x2), some (sj_j x3), none, some (sj_i x5)] [] (g, V)) :
    ∀ (a0 : Nat) (x1 : Int) (x2 : Int) (x3 : Int) (x5 : Int) (V : sj_VV), OK9 g a0 → g_X9_thrustOf_8_b N k8 a0 x1 x2 x3 x5 V = some q → sj_T X m_X9_thrustOf s0 (some (sj_j q.1), (g, q.2)) 8 [some (sj_r (some a0)), some (sj_i x1), some (sj_i x2), some (sj_j x3), none, some (sj_i x5)] [] (g, V) := by
  intro a0 x1 x2 x3 x5 V ha0 h
  unfold g_X9_thrustOf_8_b at h
  refine r_iload (pc := 8) dX9_thrustOf_8 rfl ?_
  refine r_iload_n (pc := 10) dX9_thrustOf_10 rfl rfl ?_
  refine r_icmp_gt (pc := 11) (tgt := 48) h dX9_thrustOf_11 (by decide) (fun h => ?_) (fun h => ?_)
  · refine r_lload_n (pc := 48) dX9_thrustOf_48 rfl rfl ?_
    exact r_lrets (pc := 49) h rfl dX9_thrustOf_49
  · refine r_aload_n (pc := 14) dX9_thrustOf_14 rfl rfl ?_
    refine r_iload (pc := 15) dX9_thrustOf_15 rfl ?_
    refine r_callVs (pc := 17) (fun _ => none) (As := [sj_i x5]) (rest := []) (b := a0) (ok9 ha0) h dX9_thrustOf_17 mw_X9_168 vw_X9_laysAt (fun _ _ hc => cg_X9_laysAt ha0 hc) rfl ⟨(Nat.le_of_ble_eq_true rfl), (Nat.le_of_ble_eq_true rfl)⟩ (Nat.le_of_ble_eq_true rfl) rfl (fun _u V1 h => ?_)
    refine r_lload_n (pc := 20) dX9_thrustOf_20 rfl rfl ?_
    refine r_iload_n (pc := 21) dX9_thrustOf_21 rfl rfl ?_
    refine r_i2l (pc := 22) h dX9_thrustOf_22 (fun v2 h => ?_)
    refine r_aload_n (pc := 23) dX9_thrustOf_23 rfl rfl ?_
    refine r_gJs (pc := 24) dX9_thrustOf_24 fw_X9_145 rfl (ok9 ha0) ?_
    refine r_lmul (pc := 27) dX9_thrustOf_27 ?_
    refine r_ldc2 (n := 1000) (pc := 28) dX9_thrustOf_28 kc_X9_143 ?_
    refine r_callSs (pc := 31) (fun v => some (sj_j v)) (As := [sj_j (v2 * (V1 a0 12)), sj_j 1000]) (rest := [(sj_j x3)]) h dX9_thrustOf_31 mw_X9_216 kw_1380 (fun _ _ hc => cg_X9_downwards  hc) rfl ⟨(Nat.le_of_ble_eq_true rfl), (Nat.le_of_ble_eq_true rfl)⟩ (Nat.le_of_ble_eq_true rfl) rfl (fun v4 V3 h => ?_)
    refine r_aload_n (pc := 34) dX9_thrustOf_34 rfl rfl ?_
    refine r_iload_n (pc := 35) dX9_thrustOf_35 rfl rfl ?_
    refine r_callVs (pc := 36) (fun v => some (sj_j v)) (As := [sj_i x2]) (rest := [(sj_j v4), (sj_j x3)]) (b := a0) (ok9 ha0) h dX9_thrustOf_36 mw_X9_171 vw_X9_rubsOf (fun _ _ hc => cg_X9_rubsOf ha0 hc) rfl ⟨(Nat.le_of_ble_eq_true rfl), (Nat.le_of_ble_eq_true rfl)⟩ (Nat.le_of_ble_eq_true rfl) rfl (fun v6 V5 h => ?_)
    refine r_lsub (pc := 39) dX9_thrustOf_39 ?_
    refine r_ladd (pc := 40) dX9_thrustOf_40 ?_
    refine r_lstore_nL (ln := fun w => [some (sj_r (some a0)), some (sj_i x1), some (sj_i x2), some (sj_j w), none, some (sj_i x5)]) (pc := 41) h dX9_thrustOf_41 rfl (Nat.le_of_ble_eq_true rfl) (fun _ => rfl) (fun v7 h => ?_)
    refine r_iinc (ln := fun w => [some (sj_r (some a0)), some (sj_i x1), some (sj_i x2), some (sj_j v7), none, some (sj_i w)]) (pc := 42) h dX9_thrustOf_42 rfl (Nat.le_of_ble_eq_true rfl) (fun _ => rfl) (fun v8 h => ?_)
    refine r_goto (pc := 45) (tgt := 8) dX9_thrustOf_45 (by decide) ?_
    exact sj_weak (l2 := [some (sj_r (some a0)), some (sj_i x1), some (sj_i x2), some (sj_j v7), none, some (sj_i v8)]) (⟨rfl, ⟨rfl, ⟨rfl, ⟨rfl, ⟨rfl, trivial⟩⟩⟩⟩⟩) (hk8 a0 x1 x2 v7 v8 V5 ha0 h)
set_option maxHeartbeats 4000000 in
theorem st_X9_thrustOf_8 {X : sj_X} {g : sj_G} {s0 : sj_Mem} {N : Nat} {q : Int × sj_VV} :
    ∀ (n : Nat) (a0 : Nat) (x1 : Int) (x2 : Int) (x3 : Int) (x5 : Int) (V : sj_VV), OK9 g a0 → g_X9_thrustOf_8 N n a0 x1 x2 x3 x5 V = some q → sj_T X m_X9_thrustOf s0 (some (sj_j q.1), (g, q.2)) 8 [some (sj_r (some a0)), some (sj_i x1), some (sj_i x2), some (sj_j x3), none, some (sj_i x5)] [] (g, V) := by
  intro n
  induction n with
  | zero => intro a0 x1 x2 x3 x5 V ha0 h; exact nomatch h
  | succ n ih => intro a0 x1 x2 x3 x5 V ha0 h; exact st_X9_thrustOf_8_b (N := N) ih a0 x1 x2 x3 x5 V ha0 h
set_option maxHeartbeats 4000000 in
theorem st_X9_thrustOf_0 {X : sj_X} {g : sj_G} {s0 : sj_Mem} {N : Nat} {q : Int × sj_VV} :
    ∀ (a0 : Nat) (x1 : Int) (x2 : Int) (V : sj_VV), OK9 g a0 → g_X9_thrustOf N a0 x1 x2 V = some q → sj_T X m_X9_thrustOf s0 (some (sj_j q.1), (g, q.2)) 0 [some (sj_r (some a0)), some (sj_i x1), some (sj_i x2), none, none, none] [] (g, V) := by
  intro a0 x1 x2 V ha0 h
  unfold g_X9_thrustOf at h
  refine r_lconst0 (pc := 0) dX9_thrustOf_0 ?_
  refine r_lstore_n (ln := [some (sj_r (some a0)), some (sj_i x1), some (sj_i x2), some (sj_j 0), none, none]) (pc := 1) dX9_thrustOf_1 rfl (Nat.le_of_ble_eq_true rfl) rfl ?_
  refine r_aload_n (pc := 2) dX9_thrustOf_2 rfl rfl ?_
  refine r_gIs (pc := 3) dX9_thrustOf_3 fw_X9_22 rfl (ok9 ha0) ?_
  refine r_istoreL (ln := fun w => [some (sj_r (some a0)), some (sj_i x1), some (sj_i x2), some (sj_j 0), none, some (sj_i w)]) (pc := 6) h dX9_thrustOf_6 (Nat.le_of_ble_eq_true rfl) (fun _ => rfl) (fun v1 h => ?_)
  exact sj_weak (l2 := [some (sj_r (some a0)), some (sj_i x1), some (sj_i x2), some (sj_j 0), none, some (sj_i v1)]) (⟨rfl, ⟨rfl, ⟨rfl, ⟨rfl, ⟨rfl, trivial⟩⟩⟩⟩⟩) (st_X9_thrustOf_8 N a0 x1 x2 0 v1 V ha0 h)
set_option maxHeartbeats 4000000 in
theorem cg_X9_thrustOf {X : sj_X} {g : sj_G} {N : Nat} {a0 : Nat} {x1 : Int} {x2 : Int} {V : sj_VV} {q : Int × sj_VV} (ha0 : OK9 g a0) (h : g_X9_thrustOf N a0 x1 x2 V = some q) : sj_C X m_X9_thrustOf [sj_r (some a0), sj_i x1, sj_i x2] (g, V) (some (sj_j q.1), (g, q.2)) :=
  sj_C_of (by decide +kernel) (Nat.le_of_ble_eq_true rfl) (lo := [some (sj_r (some a0)), some (sj_i x1), some (sj_i x2), none, none, none]) rfl (sj_weak (l2 := [some (sj_r (some a0)), some (sj_i x1), some (sj_i x2), none, none, none]) (⟨rfl, ⟨rfl, ⟨rfl, trivial⟩⟩⟩) (st_X9_thrustOf_0 a0 x1 x2 V ha0 h))
set_option maxHeartbeats 4000000 in
theorem c_X9_thrustOf {X : sj_X} {N : Nat} {a0 : Nat} {x1 : Int} {x2 : Int} {s : sj_Mem} {q : Int × sj_Mem} (h : f_X9_thrustOf N a0 x1 x2 s = some q) : sj_C X m_X9_thrustOf [sj_r (some a0), sj_i x1, sj_i x2] s (some (sj_j q.1), q.2) := by
  obtain ⟨g, V⟩ := s
  unfold f_X9_thrustOf at h
  obtain ⟨ho, h1⟩ := e_ok_some h
  obtain ⟨q2, h2, rfl⟩ := sj_map_some h1
  exact cg_X9_thrustOf ho h2
theorem dX9_crest_0 : decode cX9_crest 0 = .ok (.iload_n 1, 1) := by decide +kernel
theorem dX9_crest_1 : decode cX9_crest 1 = .ok (.invokestatic 287, 3) := by decide +kernel
theorem dX9_crest_4 : decode cX9_crest 4 = .ok (.ifCond .eq 24, 3) := by decide +kernel
theorem dX9_crest_7 : decode cX9_crest 7 = .ok (.aload_n 0, 1) := by decide +kernel
theorem dX9_crest_8 : decode cX9_crest 8 = .ok (.invokevirtual 277, 3) := by decide +kernel
theorem dX9_crest_11 : decode cX9_crest 11 = .ok (.ifCond .eq 17, 3) := by decide +kernel
theorem dX9_crest_14 : decode cX9_crest 14 = .ok (.aload_n 0, 1) := by decide +kernel
theorem dX9_crest_15 : decode cX9_crest 15 = .ok (.aload_n 0, 1) := by decide +kernel
theorem dX9_crest_16 : decode cX9_crest 16 = .ok (.getfield 150, 3) := by decide +kernel
theorem dX9_crest_19 : decode cX9_crest 19 = .ok (.iconst 1, 1) := by decide +kernel
theorem dX9_crest_20 : decode cX9_crest 20 = .ok (.isub, 1) := by decide +kernel
theorem dX9_crest_21 : decode cX9_crest 21 = .ok (.iload_n 1, 1) := by decide +kernel
theorem dX9_crest_22 : decode cX9_crest 22 = .ok (.invokevirtual 292, 3) := by decide +kernel
theorem dX9_crest_25 : decode cX9_crest 25 = .ok (.ifCond .eq 5, 3) := by decide +kernel
theorem dX9_crest_28 : decode cX9_crest 28 = .ok (.iconst (-1), 1) := by decide +kernel
theorem dX9_crest_29 : decode cX9_crest 29 = .ok (.ireturn, 1) := by decide +kernel
theorem dX9_crest_30 : decode cX9_crest 30 = .ok (.aload_n 0, 1) := by decide +kernel
theorem dX9_crest_31 : decode cX9_crest 31 = .ok (.getfield 22, 3) := by decide +kernel
theorem dX9_crest_34 : decode cX9_crest 34 = .ok (.istore_n 2, 1) := by decide +kernel
theorem dX9_crest_35 : decode cX9_crest 35 = .ok (.aload_n 0, 1) := by decide +kernel
theorem dX9_crest_36 : decode cX9_crest 36 = .ok (.getfield 22, 3) := by decide +kernel
theorem dX9_crest_39 : decode cX9_crest 39 = .ok (.iconst 1, 1) := by decide +kernel
theorem dX9_crest_40 : decode cX9_crest 40 = .ok (.iadd, 1) := by decide +kernel
theorem dX9_crest_41 : decode cX9_crest 41 = .ok (.istore_n 3, 1) := by decide +kernel
theorem dX9_crest_42 : decode cX9_crest 42 = .ok (.iload_n 3, 1) := by decide +kernel
theorem dX9_crest_43 : decode cX9_crest 43 = .ok (.aload_n 0, 1) := by decide +kernel
theorem dX9_crest_44 : decode cX9_crest 44 = .ok (.getfield 150, 3) := by decide +kernel
theorem dX9_crest_47 : decode cX9_crest 47 = .ok (.if_icmp .ge 27, 3) := by decide +kernel
theorem dX9_crest_50 : decode cX9_crest 50 = .ok (.aload_n 0, 1) := by decide +kernel
theorem dX9_crest_51 : decode cX9_crest 51 = .ok (.iload_n 3, 1) := by decide +kernel
theorem dX9_crest_52 : decode cX9_crest 52 = .ok (.iload_n 1, 1) := by decide +kernel
theorem dX9_crest_53 : decode cX9_crest 53 = .ok (.invokevirtual 295, 3) := by decide +kernel
theorem dX9_crest_56 : decode cX9_crest 56 = .ok (.aload_n 0, 1) := by decide +kernel
theorem dX9_crest_57 : decode cX9_crest 57 = .ok (.iload_n 2, 1) := by decide +kernel
theorem dX9_crest_58 : decode cX9_crest 58 = .ok (.iload_n 1, 1) := by decide +kernel
theorem dX9_crest_59 : decode cX9_crest 59 = .ok (.invokevirtual 295, 3) := by decide +kernel
theorem dX9_crest_62 : decode cX9_crest 62 = .ok (.lcmp, 1) := by decide +kernel
theorem dX9_crest_63 : decode cX9_crest 63 = .ok (.ifCond .le 5, 3) := by decide +kernel
theorem dX9_crest_66 : decode cX9_crest 66 = .ok (.iload_n 3, 1) := by decide +kernel
theorem dX9_crest_67 : decode cX9_crest 67 = .ok (.istore_n 2, 1) := by decide +kernel
theorem dX9_crest_68 : decode cX9_crest 68 = .ok (.iinc 3 1, 3) := by decide +kernel
theorem dX9_crest_71 : decode cX9_crest 71 = .ok (.goto (-29), 3) := by decide +kernel
theorem dX9_crest_74 : decode cX9_crest 74 = .ok (.iload_n 2, 1) := by decide +kernel
theorem dX9_crest_75 : decode cX9_crest 75 = .ok (.aload_n 0, 1) := by decide +kernel
theorem dX9_crest_76 : decode cX9_crest 76 = .ok (.getfield 22, 3) := by decide +kernel
theorem dX9_crest_79 : decode cX9_crest 79 = .ok (.isub, 1) := by decide +kernel
theorem dX9_crest_80 : decode cX9_crest 80 = .ok (.ireturn, 1) := by decide +kernel
set_option maxHeartbeats 4000000 in
theorem st_X9_crest_68 {X : sj_X} {g : sj_G} {s0 : sj_Mem} {N : Nat} {q : Int × sj_VV} {k42 : Nat → Int → Int → Int → sj_VV → Option (Int × sj_VV)} (hk42 : ∀ (a0 : Nat) (x1 : Int) (x2 : Int) (x3 : Int) (V : sj_VV), OK9 g a0 → k42 a0 x1 x2 x3 V = some q → sj_T X m_X9_crest s0 (some (sj_i q.1), (g, q.2)) 42 [some (sj_r (some a0)), some (sj_i x1), some (sj_i x2), some (sj_i x3)] [] (g, V)) :
    ∀ (a0 : Nat) (x1 : Int) (x2 : Int) (x3 : Int) (V : sj_VV), OK9 g a0 → g_X9_crest_68 N k42 a0 x1 x2 x3 V = some q → sj_T X m_X9_crest s0 (some (sj_i q.1), (g, q.2)) 68 [some (sj_r (some a0)), some (sj_i x1), some (sj_i x2), some (sj_i x3)] [] (g, V) := by
  intro a0 x1 x2 x3 V ha0 h
  unfold g_X9_crest_68 at h
  refine r_iinc (ln := fun w => [some (sj_r (some a0)), some (sj_i x1), some (sj_i x2), some (sj_i w)]) (pc := 68) h dX9_crest_68 rfl (Nat.le_of_ble_eq_true rfl) (fun _ => rfl) (fun v1 h => ?_)
  refine r_goto (pc := 71) (tgt := 42) dX9_crest_71 (by decide) ?_
  exact sj_weak (l2 := [some (sj_r (some a0)), some (sj_i x1), some (sj_i x2), some (sj_i v1)]) (⟨rfl, ⟨rfl, ⟨rfl, ⟨rfl, trivial⟩⟩⟩⟩) (hk42 a0 x1 x2 v1 V ha0 h)
set_option maxHeartbeats 4000000 in
theorem st_X9_crest_42_b {X : sj_X} {g : sj_G} {s0 : sj_Mem} {N : Nat} {q : Int × sj_VV} {k42 : Nat → Int → Int → Int → sj_VV → Option (Int × sj_VV)} (hk42 : ∀ (a0 : Nat) (x1 : Int) (x2 : Int) (x3 : Int) (V : sj_VV), OK9 g a0 → k42 a0 x1 x2 x3 V = some q → sj_T X m_X9_crest s0 (some (sj_i q.1), (g, q.2)) 42 [some (sj_r (some a0)), some (sj_i x1), some (sj_i x2), some (sj_i x3)] [] (g, V)) :
    ∀ (a0 : Nat) (x1 : Int) (x2 : Int) (x3 : Int) (V : sj_VV), OK9 g a0 → g_X9_crest_42_b N k42 a0 x1 x2 x3 V = some q → sj_T X m_X9_crest s0 (some (sj_i q.1), (g, q.2)) 42 [some (sj_r (some a0)), some (sj_i x1), some (sj_i x2), some (sj_i x3)] [] (g, V) := by
  intro a0 x1 x2 x3 V ha0 h
  unfold g_X9_crest_42_b at h
  refine r_iload_n (pc := 42) dX9_crest_42 rfl rfl ?_
  refine r_aload_n (pc := 43) dX9_crest_43 rfl rfl ?_
  refine r_gIs (pc := 44) dX9_crest_44 fw_X9_150 rfl (ok9 ha0) ?_
  refine r_icmp_ge (pc := 47) (tgt := 74) h dX9_crest_47 (by decide) (fun h => ?_) (fun h => ?_)
  · refine r_iload_n (pc := 74) dX9_crest_74 rfl rfl ?_
    refine r_aload_n (pc := 75) dX9_crest_75 rfl rfl ?_
    refine r_gIs (pc := 76) dX9_crest_76 fw_X9_22 rfl (ok9 ha0) ?_
    refine r_isub (pc := 79) dX9_crest_79 ?_
    exact r_irets (pc := 80) h rfl dX9_crest_80
  · refine r_aload_n (pc := 50) dX9_crest_50 rfl rfl ?_
    refine r_iload_n (pc := 51) dX9_crest_51 rfl rfl ?_
    refine r_iload_n (pc := 52) dX9_crest_52 rfl rfl ?_
    refine r_callVs (pc := 53) (fun v => some (sj_j v)) (As := [sj_i x3, sj_i x1]) (rest := []) (b := a0) (ok9 ha0) h dX9_crest_53 mw_X9_295 vw_X9_thrustOf (fun _ _ hc => cg_X9_thrustOf ha0 hc) rfl ⟨(Nat.le_of_ble_eq_true rfl), (Nat.le_of_ble_eq_true rfl)⟩ (Nat.le_of_ble_eq_true rfl) rfl (fun v2 V1 h => ?_)
    refine r_aload_n (pc := 56) dX9_crest_56 rfl rfl ?_
    refine r_iload_n (pc := 57) dX9_crest_57 rfl rfl ?_
    refine r_iload_n (pc := 58) dX9_crest_58 rfl rfl ?_
    refine r_callVs (pc := 59) (fun v => some (sj_j v)) (As := [sj_i x2, sj_i x1]) (rest := [(sj_j v2)]) (b := a0) (ok9 ha0) h dX9_crest_59 mw_X9_295 vw_X9_thrustOf (fun _ _ hc => cg_X9_thrustOf ha0 hc) rfl ⟨(Nat.le_of_ble_eq_true rfl), (Nat.le_of_ble_eq_true rfl)⟩ (Nat.le_of_ble_eq_true rfl) rfl (fun v4 V3 h => ?_)
    refine r_lle (pc := 62) (tgt := 68) h dX9_crest_62 rfl dX9_crest_63 (by decide) (fun h => ?_) (fun h => ?_)
    · exact sj_weak (l2 := [some (sj_r (some a0)), some (sj_i x1), some (sj_i x2), some (sj_i x3)]) (⟨rfl, ⟨rfl, ⟨rfl, ⟨rfl, trivial⟩⟩⟩⟩) (st_X9_crest_68 hk42 a0 x1 x2 x3 V3 ha0 h)
    · refine r_iload_n (pc := 66) dX9_crest_66 rfl rfl ?_
      refine r_istore_n (ln := [some (sj_r (some a0)), some (sj_i x1), some (sj_i x3), some (sj_i x3)]) (pc := 67) dX9_crest_67 rfl (Nat.le_of_ble_eq_true rfl) rfl ?_
      exact sj_weak (l2 := [some (sj_r (some a0)), some (sj_i x1), some (sj_i x3), some (sj_i x3)]) (⟨rfl, ⟨rfl, ⟨rfl, ⟨rfl, trivial⟩⟩⟩⟩) (st_X9_crest_68 hk42 a0 x1 x3 x3 V3 ha0 h)
set_option maxHeartbeats 4000000 in
theorem st_X9_crest_42 {X : sj_X} {g : sj_G} {s0 : sj_Mem} {N : Nat} {q : Int × sj_VV} :
    ∀ (n : Nat) (a0 : Nat) (x1 : Int) (x2 : Int) (x3 : Int) (V : sj_VV), OK9 g a0 → g_X9_crest_42 N n a0 x1 x2 x3 V = some q → sj_T X m_X9_crest s0 (some (sj_i q.1), (g, q.2)) 42 [some (sj_r (some a0)), some (sj_i x1), some (sj_i x2), some (sj_i x3)] [] (g, V) := by
  intro n
  induction n with
  | zero => intro a0 x1 x2 x3 V ha0 h; exact nomatch h
  | succ n ih => intro a0 x1 x2 x3 V ha0 h; exact st_X9_crest_42_b (N := N) ih a0 x1 x2 x3 V ha0 h
set_option maxHeartbeats 4000000 in
theorem st_X9_crest_0 {X : sj_X} {g : sj_G} {s0 : sj_Mem} {N : Nat} {q : Int × sj_VV} :
    ∀ (a0 : Nat) (x1 : Int) (V : sj_VV), OK9 g a0 → g_X9_crest N a0 x1 V = some q → sj_T X m_X9_crest s0 (some (sj_i q.1), (g, q.2)) 0 [some (sj_r (some a0)), some (sj_i x1), none, none] [] (g, V) := by
  intro a0 x1 V ha0 h
  unfold g_X9_crest at h
  refine r_iload_n (pc := 0) dX9_crest_0 rfl rfl ?_
  refine r_callSs (pc := 1) (fun v => some (sj_i v)) (As := [sj_i x1]) (rest := []) h dX9_crest_1 mw_X9_287 kw_1446 (fun _ _ hc => cg_X9_isK  hc) rfl ⟨(Nat.le_of_ble_eq_true rfl), (Nat.le_of_ble_eq_true rfl)⟩ (Nat.le_of_ble_eq_true rfl) rfl (fun v2 V1 h => ?_)
  refine r_if_eq (pc := 4) (tgt := 28) h dX9_crest_4 (by decide) (fun h => ?_) (fun h => ?_)
  · refine r_iconst (pc := 28) dX9_crest_28 ?_
    exact r_irets (pc := 29) h rfl dX9_crest_29
  · refine r_aload_n (pc := 7) dX9_crest_7 rfl rfl ?_
    refine r_callVs (pc := 8) (fun v => some (sj_i v)) (As := []) (rest := []) (b := a0) (ok9 ha0) h dX9_crest_8 mw_X9_277 vw_X9_takesSlip (fun _ _ hc => cg_X9_takesSlip ha0 hc) rfl ⟨(Nat.le_of_ble_eq_true rfl), (Nat.le_of_ble_eq_true rfl)⟩ (Nat.le_of_ble_eq_true rfl) rfl (fun v4 V3 h => ?_)
    refine r_if_eq (pc := 11) (tgt := 28) h dX9_crest_11 (by decide) (fun h => ?_) (fun h => ?_)
    · refine r_iconst (pc := 28) dX9_crest_28 ?_
      exact r_irets (pc := 29) h rfl dX9_crest_29
    · refine r_aload_n (pc := 14) dX9_crest_14 rfl rfl ?_
      refine r_aload_n (pc := 15) dX9_crest_15 rfl rfl ?_
      refine r_gIs (pc := 16) dX9_crest_16 fw_X9_150 rfl (ok9 ha0) ?_
      refine r_iconst (pc := 19) dX9_crest_19 ?_
      refine r_isub (pc := 20) dX9_crest_20 ?_
      refine r_iload_n (pc := 21) dX9_crest_21 rfl rfl ?_
      refine r_callVs (pc := 22) (fun v => some (sj_i v)) (As := [sj_i ((V3 a0 14) - 1), sj_i x1]) (rest := []) (b := a0) (ok9 ha0) h dX9_crest_22 mw_X9_292 vw_X9_hasFast (fun _ _ hc => cg_X9_hasFast ha0 hc) rfl ⟨(Nat.le_of_ble_eq_true rfl), (Nat.le_of_ble_eq_true rfl)⟩ (Nat.le_of_ble_eq_true rfl) rfl (fun v6 V5 h => ?_)
      refine r_if_eq (pc := 25) (tgt := 30) h dX9_crest_25 (by decide) (fun h => ?_) (fun h => ?_)
      · refine r_aload_n (pc := 30) dX9_crest_30 rfl rfl ?_
        refine r_gIs (pc := 31) dX9_crest_31 fw_X9_22 rfl (ok9 ha0) ?_
        refine r_istore_nL (ln := fun w => [some (sj_r (some a0)), some (sj_i x1), some (sj_i w), none]) (pc := 34) h dX9_crest_34 rfl (Nat.le_of_ble_eq_true rfl) (fun _ => rfl) (fun v7 h => ?_)
        refine r_aload_n (pc := 35) dX9_crest_35 rfl rfl ?_
        refine r_gIs (pc := 36) dX9_crest_36 fw_X9_22 rfl (ok9 ha0) ?_
        refine r_iconst (pc := 39) dX9_crest_39 ?_
        refine r_iadd (pc := 40) dX9_crest_40 ?_
        refine r_istore_nL (ln := fun w => [some (sj_r (some a0)), some (sj_i x1), some (sj_i v7), some (sj_i w)]) (pc := 41) h dX9_crest_41 rfl (Nat.le_of_ble_eq_true rfl) (fun _ => rfl) (fun v8 h => ?_)
        exact sj_weak (l2 := [some (sj_r (some a0)), some (sj_i x1), some (sj_i v7), some (sj_i v8)]) (⟨rfl, ⟨rfl, ⟨rfl, ⟨rfl, trivial⟩⟩⟩⟩) (st_X9_crest_42 N a0 x1 v7 v8 V5 ha0 h)
      · refine r_iconst (pc := 28) dX9_crest_28 ?_
        exact r_irets (pc := 29) h rfl dX9_crest_29
set_option maxHeartbeats 4000000 in
theorem cg_X9_crest {X : sj_X} {g : sj_G} {N : Nat} {a0 : Nat} {x1 : Int} {V : sj_VV} {q : Int × sj_VV} (ha0 : OK9 g a0) (h : g_X9_crest N a0 x1 V = some q) : sj_C X m_X9_crest [sj_r (some a0), sj_i x1] (g, V) (some (sj_i q.1), (g, q.2)) :=
  sj_C_of (by decide +kernel) (Nat.le_of_ble_eq_true rfl) (lo := [some (sj_r (some a0)), some (sj_i x1), none, none]) rfl (sj_weak (l2 := [some (sj_r (some a0)), some (sj_i x1), none, none]) (⟨rfl, ⟨rfl, trivial⟩⟩) (st_X9_crest_0 a0 x1 V ha0 h))
set_option maxHeartbeats 4000000 in
theorem c_X9_crest {X : sj_X} {N : Nat} {a0 : Nat} {x1 : Int} {s : sj_Mem} {q : Int × sj_Mem} (h : f_X9_crest N a0 x1 s = some q) : sj_C X m_X9_crest [sj_r (some a0), sj_i x1] s (some (sj_i q.1), q.2) := by
  obtain ⟨g, V⟩ := s
  unfold f_X9_crest at h
  obtain ⟨ho, h1⟩ := e_ok_some h
  obtain ⟨q2, h2, rfl⟩ := sj_map_some h1
  exact cg_X9_crest ho h2
theorem dX9_isSlice_0 : decode cX9_isSlice 0 = .ok (.aload_n 0, 1) := by decide +kernel
theorem dX9_isSlice_1 : decode cX9_isSlice 1 = .ok (.invokevirtual 277, 3) := by decide +kernel
theorem dX9_isSlice_4 : decode cX9_isSlice 4 = .ok (.ifCond .eq 28, 3) := by decide +kernel
theorem dX9_isSlice_7 : decode cX9_isSlice 7 = .ok (.iload_n 1, 1) := by decide +kernel
theorem dX9_isSlice_8 : decode cX9_isSlice 8 = .ok (.i2l, 1) := by decide +kernel
theorem dX9_isSlice_9 : decode cX9_isSlice 9 = .ok (.lconst 0, 1) := by decide +kernel
theorem dX9_isSlice_10 : decode cX9_isSlice 10 = .ok (.aload_n 0, 1) := by decide +kernel
theorem dX9_isSlice_11 : decode cX9_isSlice 11 = .ok (.getfield 150, 3) := by decide +kernel
theorem dX9_isSlice_14 : decode cX9_isSlice 14 = .ok (.aload_n 0, 1) := by decide +kernel
theorem dX9_isSlice_15 : decode cX9_isSlice 15 = .ok (.getfield 22, 3) := by decide +kernel
theorem dX9_isSlice_18 : decode cX9_isSlice 18 = .ok (.isub, 1) := by decide +kernel
theorem dX9_isSlice_19 : decode cX9_isSlice 19 = .ok (.iconst 1, 1) := by decide +kernel
theorem dX9_isSlice_20 : decode cX9_isSlice 20 = .ok (.isub, 1) := by decide +kernel
theorem dX9_isSlice_21 : decode cX9_isSlice 21 = .ok (.i2l, 1) := by decide +kernel
theorem dX9_isSlice_22 : decode cX9_isSlice 22 = .ok (.invokestatic 57, 3) := by decide +kernel
theorem dX9_isSlice_25 : decode cX9_isSlice 25 = .ok (.ifCond .eq 7, 3) := by decide +kernel
theorem dX9_isSlice_28 : decode cX9_isSlice 28 = .ok (.iconst 1, 1) := by decide +kernel
theorem dX9_isSlice_29 : decode cX9_isSlice 29 = .ok (.goto 4, 3) := by decide +kernel
theorem dX9_isSlice_32 : decode cX9_isSlice 32 = .ok (.iconst 0, 1) := by decide +kernel
theorem dX9_isSlice_33 : decode cX9_isSlice 33 = .ok (.ireturn, 1) := by decide +kernel
set_option maxHeartbeats 4000000 in
theorem st_X9_isSlice_0 {X : sj_X} {g : sj_G} {s0 : sj_Mem} {N : Nat} {q : Int × sj_VV} :
    ∀ (a0 : Nat) (x1 : Int) (V : sj_VV), OK9 g a0 → g_X9_isSlice N a0 x1 V = some q → sj_T X m_X9_isSlice s0 (some (sj_i q.1), (g, q.2)) 0 [some (sj_r (some a0)), some (sj_i x1)] [] (g, V) := by
  intro a0 x1 V ha0 h
  unfold g_X9_isSlice at h
  refine r_aload_n (pc := 0) dX9_isSlice_0 rfl rfl ?_
  refine r_callVs (pc := 1) (fun v => some (sj_i v)) (As := []) (rest := []) (b := a0) (ok9 ha0) h dX9_isSlice_1 mw_X9_277 vw_X9_takesSlip (fun _ _ hc => cg_X9_takesSlip ha0 hc) rfl ⟨(Nat.le_of_ble_eq_true rfl), (Nat.le_of_ble_eq_true rfl)⟩ (Nat.le_of_ble_eq_true rfl) rfl (fun v2 V1 h => ?_)
  refine r_if_eq (pc := 4) (tgt := 32) h dX9_isSlice_4 (by decide) (fun h => ?_) (fun h => ?_)
  · refine r_iconst (pc := 32) dX9_isSlice_32 ?_
    exact r_zrets (pc := 33) h rfl dX9_isSlice_33
  · refine r_iload_n (pc := 7) dX9_isSlice_7 rfl rfl ?_
    refine r_i2l (pc := 8) h dX9_isSlice_8 (fun v3 h => ?_)
    refine r_lconst0 (pc := 9) dX9_isSlice_9 ?_
    refine r_aload_n (pc := 10) dX9_isSlice_10 rfl rfl ?_
    refine r_gIs (pc := 11) dX9_isSlice_11 fw_X9_150 rfl (ok9 ha0) ?_
    refine r_aload_n (pc := 14) dX9_isSlice_14 rfl rfl ?_
    refine r_gIs (pc := 15) dX9_isSlice_15 fw_X9_22 rfl (ok9 ha0) ?_
    refine r_isub (pc := 18) dX9_isSlice_18 ?_
    refine r_iconst (pc := 19) dX9_isSlice_19 ?_
    refine r_isub (pc := 20) dX9_isSlice_20 ?_
    refine r_i2l (pc := 21) h dX9_isSlice_21 (fun v4 h => ?_)
    refine r_callSs (pc := 22) (fun v => some (sj_i v)) (As := [sj_j v3, sj_j 0, sj_j v4]) (rest := []) h dX9_isSlice_22 mw_X9_57 kw_1225 (fun _ _ hc => cg_X9_isIn  hc) rfl ⟨(Nat.le_of_ble_eq_true rfl), (Nat.le_of_ble_eq_true rfl)⟩ (Nat.le_of_ble_eq_true rfl) rfl (fun v6 V5 h => ?_)
    refine r_if_eq (pc := 25) (tgt := 32) h dX9_isSlice_25 (by decide) (fun h => ?_) (fun h => ?_)
    · refine r_iconst (pc := 32) dX9_isSlice_32 ?_
      exact r_zrets (pc := 33) h rfl dX9_isSlice_33
    · refine r_iconst (pc := 28) dX9_isSlice_28 ?_
      refine r_goto (pc := 29) (tgt := 33) dX9_isSlice_29 (by decide) ?_
      exact r_zrets (pc := 33) h rfl dX9_isSlice_33
set_option maxHeartbeats 4000000 in
theorem cg_X9_isSlice {X : sj_X} {g : sj_G} {N : Nat} {a0 : Nat} {x1 : Int} {V : sj_VV} {q : Int × sj_VV} (ha0 : OK9 g a0) (h : g_X9_isSlice N a0 x1 V = some q) : sj_C X m_X9_isSlice [sj_r (some a0), sj_i x1] (g, V) (some (sj_i q.1), (g, q.2)) :=
  sj_C_of (by decide +kernel) (Nat.le_of_ble_eq_true rfl) (lo := [some (sj_r (some a0)), some (sj_i x1)]) rfl (sj_weak (l2 := [some (sj_r (some a0)), some (sj_i x1)]) (⟨rfl, ⟨rfl, trivial⟩⟩) (st_X9_isSlice_0 a0 x1 V ha0 h))
set_option maxHeartbeats 4000000 in
theorem c_X9_isSlice {X : sj_X} {N : Nat} {a0 : Nat} {x1 : Int} {s : sj_Mem} {q : Int × sj_Mem} (h : f_X9_isSlice N a0 x1 s = some q) : sj_C X m_X9_isSlice [sj_r (some a0), sj_i x1] s (some (sj_i q.1), q.2) := by
  obtain ⟨g, V⟩ := s
  unfold f_X9_isSlice at h
  obtain ⟨ho, h1⟩ := e_ok_some h
  obtain ⟨q2, h2, rfl⟩ := sj_map_some h1
  exact cg_X9_isSlice ho h2
theorem dX9_thrust_0 : decode cX9_thrust 0 = .ok (.aload_n 0, 1) := by decide +kernel
theorem dX9_thrust_1 : decode cX9_thrust 1 = .ok (.iload_n 1, 1) := by decide +kernel
theorem dX9_thrust_2 : decode cX9_thrust 2 = .ok (.invokevirtual 280, 3) := by decide +kernel
theorem dX9_thrust_5 : decode cX9_thrust 5 = .ok (.ifCond .eq 38, 3) := by decide +kernel
theorem dX9_thrust_8 : decode cX9_thrust 8 = .ok (.iload_n 2, 1) := by decide +kernel
theorem dX9_thrust_9 : decode cX9_thrust 9 = .ok (.invokestatic 287, 3) := by decide +kernel
theorem dX9_thrust_12 : decode cX9_thrust 12 = .ok (.ifCond .eq 31, 3) := by decide +kernel
theorem dX9_thrust_15 : decode cX9_thrust 15 = .ok (.aload_n 0, 1) := by decide +kernel
theorem dX9_thrust_16 : decode cX9_thrust 16 = .ok (.aload_n 0, 1) := by decide +kernel
theorem dX9_thrust_17 : decode cX9_thrust 17 = .ok (.getfield 22, 3) := by decide +kernel
theorem dX9_thrust_20 : decode cX9_thrust 20 = .ok (.iload_n 1, 1) := by decide +kernel
theorem dX9_thrust_21 : decode cX9_thrust 21 = .ok (.iadd, 1) := by decide +kernel
theorem dX9_thrust_22 : decode cX9_thrust 22 = .ok (.iload_n 2, 1) := by decide +kernel
theorem dX9_thrust_23 : decode cX9_thrust 23 = .ok (.invokevirtual 292, 3) := by decide +kernel
theorem dX9_thrust_26 : decode cX9_thrust 26 = .ok (.ifCond .ne 17, 3) := by decide +kernel
theorem dX9_thrust_29 : decode cX9_thrust 29 = .ok (.aload_n 0, 1) := by decide +kernel
theorem dX9_thrust_30 : decode cX9_thrust 30 = .ok (.aload_n 0, 1) := by decide +kernel
theorem dX9_thrust_31 : decode cX9_thrust 31 = .ok (.getfield 22, 3) := by decide +kernel
theorem dX9_thrust_34 : decode cX9_thrust 34 = .ok (.iload_n 1, 1) := by decide +kernel
theorem dX9_thrust_35 : decode cX9_thrust 35 = .ok (.iadd, 1) := by decide +kernel
theorem dX9_thrust_36 : decode cX9_thrust 36 = .ok (.iload_n 2, 1) := by decide +kernel
theorem dX9_thrust_37 : decode cX9_thrust 37 = .ok (.invokevirtual 295, 3) := by decide +kernel
theorem dX9_thrust_40 : decode cX9_thrust 40 = .ok (.goto 6, 3) := by decide +kernel
theorem dX9_thrust_43 : decode cX9_thrust 43 = .ok (.ldc2_w 299, 3) := by decide +kernel
theorem dX9_thrust_46 : decode cX9_thrust 46 = .ok (.lreturn, 1) := by decide +kernel
set_option maxHeartbeats 4000000 in
theorem st_X9_thrust_0 {X : sj_X} {g : sj_G} {s0 : sj_Mem} {N : Nat} {q : Int × sj_VV} :
    ∀ (a0 : Nat) (x1 : Int) (x2 : Int) (V : sj_VV), OK9 g a0 → g_X9_thrust N a0 x1 x2 V = some q → sj_T X m_X9_thrust s0 (some (sj_j q.1), (g, q.2)) 0 [some (sj_r (some a0)), some (sj_i x1), some (sj_i x2)] [] (g, V) := by
  intro a0 x1 x2 V ha0 h
  unfold g_X9_thrust at h
  refine r_aload_n (pc := 0) dX9_thrust_0 rfl rfl ?_
  refine r_iload_n (pc := 1) dX9_thrust_1 rfl rfl ?_
  refine r_callVs (pc := 2) (fun v => some (sj_i v)) (As := [sj_i x1]) (rest := []) (b := a0) (ok9 ha0) h dX9_thrust_2 mw_X9_280 vw_X9_isSlice (fun _ _ hc => cg_X9_isSlice ha0 hc) rfl ⟨(Nat.le_of_ble_eq_true rfl), (Nat.le_of_ble_eq_true rfl)⟩ (Nat.le_of_ble_eq_true rfl) rfl (fun v2 V1 h => ?_)
  refine r_if_eq (pc := 5) (tgt := 43) h dX9_thrust_5 (by decide) (fun h => ?_) (fun h => ?_)
  · refine r_ldc2 (n := -10000000000000000) (pc := 43) dX9_thrust_43 kc_X9_299 ?_
    exact r_lrets (pc := 46) h rfl dX9_thrust_46
  · refine r_iload_n (pc := 8) dX9_thrust_8 rfl rfl ?_
    refine r_callSs (pc := 9) (fun v => some (sj_i v)) (As := [sj_i x2]) (rest := []) h dX9_thrust_9 mw_X9_287 kw_1446 (fun _ _ hc => cg_X9_isK  hc) rfl ⟨(Nat.le_of_ble_eq_true rfl), (Nat.le_of_ble_eq_true rfl)⟩ (Nat.le_of_ble_eq_true rfl) rfl (fun v4 V3 h => ?_)
    refine r_if_eq (pc := 12) (tgt := 43) h dX9_thrust_12 (by decide) (fun h => ?_) (fun h => ?_)
    · refine r_ldc2 (n := -10000000000000000) (pc := 43) dX9_thrust_43 kc_X9_299 ?_
      exact r_lrets (pc := 46) h rfl dX9_thrust_46
    · refine r_aload_n (pc := 15) dX9_thrust_15 rfl rfl ?_
      refine r_aload_n (pc := 16) dX9_thrust_16 rfl rfl ?_
      refine r_gIs (pc := 17) dX9_thrust_17 fw_X9_22 rfl (ok9 ha0) ?_
      refine r_iload_n (pc := 20) dX9_thrust_20 rfl rfl ?_
      refine r_iadd (pc := 21) dX9_thrust_21 ?_
      refine r_iload_n (pc := 22) dX9_thrust_22 rfl rfl ?_
      refine r_callVs (pc := 23) (fun v => some (sj_i v)) (As := [sj_i ((V3 a0 13) + x1), sj_i x2]) (rest := []) (b := a0) (ok9 ha0) h dX9_thrust_23 mw_X9_292 vw_X9_hasFast (fun _ _ hc => cg_X9_hasFast ha0 hc) rfl ⟨(Nat.le_of_ble_eq_true rfl), (Nat.le_of_ble_eq_true rfl)⟩ (Nat.le_of_ble_eq_true rfl) rfl (fun v6 V5 h => ?_)
      refine r_if_ne (pc := 26) (tgt := 43) h dX9_thrust_26 (by decide) (fun h => ?_) (fun h => ?_)
      · refine r_aload_n (pc := 29) dX9_thrust_29 rfl rfl ?_
        refine r_aload_n (pc := 30) dX9_thrust_30 rfl rfl ?_
        refine r_gIs (pc := 31) dX9_thrust_31 fw_X9_22 rfl (ok9 ha0) ?_
        refine r_iload_n (pc := 34) dX9_thrust_34 rfl rfl ?_
        refine r_iadd (pc := 35) dX9_thrust_35 ?_
        refine r_iload_n (pc := 36) dX9_thrust_36 rfl rfl ?_
        refine r_callVs (pc := 37) (fun v => some (sj_j v)) (As := [sj_i ((V5 a0 13) + x1), sj_i x2]) (rest := []) (b := a0) (ok9 ha0) h dX9_thrust_37 mw_X9_295 vw_X9_thrustOf (fun _ _ hc => cg_X9_thrustOf ha0 hc) rfl ⟨(Nat.le_of_ble_eq_true rfl), (Nat.le_of_ble_eq_true rfl)⟩ (Nat.le_of_ble_eq_true rfl) rfl (fun v8 V7 h => ?_)
        refine r_goto (pc := 40) (tgt := 46) dX9_thrust_40 (by decide) ?_
        exact r_lrets (pc := 46) h rfl dX9_thrust_46
      · refine r_ldc2 (n := -10000000000000000) (pc := 43) dX9_thrust_43 kc_X9_299 ?_
        exact r_lrets (pc := 46) h rfl dX9_thrust_46
set_option maxHeartbeats 4000000 in
theorem cg_X9_thrust {X : sj_X} {g : sj_G} {N : Nat} {a0 : Nat} {x1 : Int} {x2 : Int} {V : sj_VV} {q : Int × sj_VV} (ha0 : OK9 g a0) (h : g_X9_thrust N a0 x1 x2 V = some q) : sj_C X m_X9_thrust [sj_r (some a0), sj_i x1, sj_i x2] (g, V) (some (sj_j q.1), (g, q.2)) :=
  sj_C_of (by decide +kernel) (Nat.le_of_ble_eq_true rfl) (lo := [some (sj_r (some a0)), some (sj_i x1), some (sj_i x2)]) rfl (sj_weak (l2 := [some (sj_r (some a0)), some (sj_i x1), some (sj_i x2)]) (⟨rfl, ⟨rfl, ⟨rfl, trivial⟩⟩⟩) (st_X9_thrust_0 a0 x1 x2 V ha0 h))
set_option maxHeartbeats 4000000 in
theorem c_X9_thrust {X : sj_X} {N : Nat} {a0 : Nat} {x1 : Int} {x2 : Int} {s : sj_Mem} {q : Int × sj_Mem} (h : f_X9_thrust N a0 x1 x2 s = some q) : sj_C X m_X9_thrust [sj_r (some a0), sj_i x1, sj_i x2] s (some (sj_j q.1), q.2) := by
  obtain ⟨g, V⟩ := s
  unfold f_X9_thrust at h
  obtain ⟨ho, h1⟩ := e_ok_some h
  obtain ⟨q2, h2, rfl⟩ := sj_map_some h1
  exact cg_X9_thrust ho h2
theorem dX9_slicesOf_0 : decode cX9_slicesOf 0 = .ok (.iconst 0, 1) := by decide +kernel
theorem dX9_slicesOf_1 : decode cX9_slicesOf 1 = .ok (.istore_n 2, 1) := by decide +kernel
theorem dX9_slicesOf_2 : decode cX9_slicesOf 2 = .ok (.aload_n 0, 1) := by decide +kernel
theorem dX9_slicesOf_3 : decode cX9_slicesOf 3 = .ok (.getfield 22, 3) := by decide +kernel
theorem dX9_slicesOf_6 : decode cX9_slicesOf 6 = .ok (.istore_n 3, 1) := by decide +kernel
theorem dX9_slicesOf_7 : decode cX9_slicesOf 7 = .ok (.iload_n 3, 1) := by decide +kernel
theorem dX9_slicesOf_8 : decode cX9_slicesOf 8 = .ok (.aload_n 0, 1) := by decide +kernel
theorem dX9_slicesOf_9 : decode cX9_slicesOf 9 = .ok (.getfield 150, 3) := by decide +kernel
theorem dX9_slicesOf_12 : decode cX9_slicesOf 12 = .ok (.if_icmp .ge 48, 3) := by decide +kernel
theorem dX9_slicesOf_15 : decode cX9_slicesOf 15 = .ok (.aload_n 0, 1) := by decide +kernel
theorem dX9_slicesOf_16 : decode cX9_slicesOf 16 = .ok (.iload_n 3, 1) := by decide +kernel
theorem dX9_slicesOf_17 : decode cX9_slicesOf 17 = .ok (.invokevirtual 168, 3) := by decide +kernel
theorem dX9_slicesOf_20 : decode cX9_slicesOf 20 = .ok (.iload_n 2, 1) := by decide +kernel
theorem dX9_slicesOf_21 : decode cX9_slicesOf 21 = .ok (.iload_n 1, 1) := by decide +kernel
theorem dX9_slicesOf_22 : decode cX9_slicesOf 22 = .ok (.ifCond .eq 18, 3) := by decide +kernel
theorem dX9_slicesOf_25 : decode cX9_slicesOf 25 = .ok (.aload_n 0, 1) := by decide +kernel
theorem dX9_slicesOf_26 : decode cX9_slicesOf 26 = .ok (.getfield 132, 3) := by decide +kernel
theorem dX9_slicesOf_29 : decode cX9_slicesOf 29 = .ok (.aload_n 0, 1) := by decide +kernel
theorem dX9_slicesOf_30 : decode cX9_slicesOf 30 = .ok (.getfield 124, 3) := by decide +kernel
theorem dX9_slicesOf_33 : decode cX9_slicesOf 33 = .ok (.lcmp, 1) := by decide +kernel
theorem dX9_slicesOf_34 : decode cX9_slicesOf 34 = .ok (.ifCond .le 17, 3) := by decide +kernel
theorem dX9_slicesOf_37 : decode cX9_slicesOf 37 = .ok (.goto 10, 3) := by decide +kernel
theorem dX9_slicesOf_40 : decode cX9_slicesOf 40 = .ok (.aload_n 0, 1) := by decide +kernel
theorem dX9_slicesOf_41 : decode cX9_slicesOf 41 = .ok (.getfield 114, 3) := by decide +kernel
theorem dX9_slicesOf_44 : decode cX9_slicesOf 44 = .ok (.ifCond .ge 7, 3) := by decide +kernel
theorem dX9_slicesOf_47 : decode cX9_slicesOf 47 = .ok (.iconst 1, 1) := by decide +kernel
theorem dX9_slicesOf_48 : decode cX9_slicesOf 48 = .ok (.goto 4, 3) := by decide +kernel
theorem dX9_slicesOf_51 : decode cX9_slicesOf 51 = .ok (.iconst 0, 1) := by decide +kernel
theorem dX9_slicesOf_52 : decode cX9_slicesOf 52 = .ok (.iadd, 1) := by decide +kernel
theorem dX9_slicesOf_53 : decode cX9_slicesOf 53 = .ok (.istore_n 2, 1) := by decide +kernel
theorem dX9_slicesOf_54 : decode cX9_slicesOf 54 = .ok (.iinc 3 1, 3) := by decide +kernel
theorem dX9_slicesOf_57 : decode cX9_slicesOf 57 = .ok (.goto (-50), 3) := by decide +kernel
theorem dX9_slicesOf_60 : decode cX9_slicesOf 60 = .ok (.iload_n 2, 1) := by decide +kernel
theorem dX9_slicesOf_61 : decode cX9_slicesOf 61 = .ok (.ireturn, 1) := by decide +kernel
set_option maxHeartbeats 4000000 in
theorem st_X9_slicesOf_52 {X : sj_X} {g : sj_G} {s0 : sj_Mem} {N : Nat} {q : Int × sj_VV} {k7 : Nat → Int → Int → Int → sj_VV → Option (Int × sj_VV)} (hk7 : ∀ (a0 : Nat) (x1 : Int) (x2 : Int) (x3 : Int) (V : sj_VV), OK9 g a0 → k7 a0 x1 x2 x3 V = some q → sj_T X m_X9_slicesOf s0 (some (sj_i q.1), (g, q.2)) 7 [some (sj_r (some a0)), some (sj_i x1), some (sj_i x2), some (sj_i x3)] [] (g, V)) :
    ∀ (a0 : Nat) (x1 : Int) (x3 : Int) (y0 : Int) (y1 : Int) (V : sj_VV), OK9 g a0 → g_X9_slicesOf_52 N k7 a0 x1 x3 y0 y1 V = some q → sj_T X m_X9_slicesOf s0 (some (sj_i q.1), (g, q.2)) 52 [some (sj_r (some a0)), some (sj_i x1), none, some (sj_i x3)] [(sj_i y0), (sj_i y1)] (g, V) := by
  intro a0 x1 x3 y0 y1 V ha0 h
  unfold g_X9_slicesOf_52 at h
  refine r_iadd (pc := 52) dX9_slicesOf_52 ?_
  refine r_istore_nL (ln := fun w => [some (sj_r (some a0)), some (sj_i x1), some (sj_i w), some (sj_i x3)]) (pc := 53) h dX9_slicesOf_53 rfl (Nat.le_of_ble_eq_true rfl) (fun _ => rfl) (fun v1 h => ?_)
  refine r_iinc (ln := fun w => [some (sj_r (some a0)), some (sj_i x1), some (sj_i v1), some (sj_i w)]) (pc := 54) h dX9_slicesOf_54 rfl (Nat.le_of_ble_eq_true rfl) (fun _ => rfl) (fun v2 h => ?_)
  refine r_goto (pc := 57) (tgt := 7) dX9_slicesOf_57 (by decide) ?_
  exact sj_weak (l2 := [some (sj_r (some a0)), some (sj_i x1), some (sj_i v1), some (sj_i v2)]) (⟨rfl, ⟨rfl, ⟨rfl, ⟨rfl, trivial⟩⟩⟩⟩) (hk7 a0 x1 v1 v2 V ha0 h)
set_option maxHeartbeats 4000000 in
theorem st_X9_slicesOf_47 {X : sj_X} {g : sj_G} {s0 : sj_Mem} {N : Nat} {q : Int × sj_VV} {k7 : Nat → Int → Int → Int → sj_VV → Option (Int × sj_VV)} (hk7 : ∀ (a0 : Nat) (x1 : Int) (x2 : Int) (x3 : Int) (V : sj_VV), OK9 g a0 → k7 a0 x1 x2 x3 V = some q → sj_T X m_X9_slicesOf s0 (some (sj_i q.1), (g, q.2)) 7 [some (sj_r (some a0)), some (sj_i x1), some (sj_i x2), some (sj_i x3)] [] (g, V)) :
    ∀ (a0 : Nat) (x1 : Int) (x3 : Int) (y0 : Int) (V : sj_VV), OK9 g a0 → g_X9_slicesOf_47 N k7 a0 x1 x3 y0 V = some q → sj_T X m_X9_slicesOf s0 (some (sj_i q.1), (g, q.2)) 47 [some (sj_r (some a0)), some (sj_i x1), none, some (sj_i x3)] [(sj_i y0)] (g, V) := by
  intro a0 x1 x3 y0 V ha0 h
  unfold g_X9_slicesOf_47 at h
  refine r_iconst (pc := 47) dX9_slicesOf_47 ?_
  refine r_goto (pc := 48) (tgt := 52) dX9_slicesOf_48 (by decide) ?_
  exact sj_weak (l2 := [some (sj_r (some a0)), some (sj_i x1), none, some (sj_i x3)]) (⟨rfl, ⟨rfl, ⟨rfl, trivial⟩⟩⟩) (st_X9_slicesOf_52 hk7 a0 x1 x3 1 y0 V ha0 h)
set_option maxHeartbeats 4000000 in
theorem st_X9_slicesOf_51 {X : sj_X} {g : sj_G} {s0 : sj_Mem} {N : Nat} {q : Int × sj_VV} {k7 : Nat → Int → Int → Int → sj_VV → Option (Int × sj_VV)} (hk7 : ∀ (a0 : Nat) (x1 : Int) (x2 : Int) (x3 : Int) (V : sj_VV), OK9 g a0 → k7 a0 x1 x2 x3 V = some q → sj_T X m_X9_slicesOf s0 (some (sj_i q.1), (g, q.2)) 7 [some (sj_r (some a0)), some (sj_i x1), some (sj_i x2), some (sj_i x3)] [] (g, V)) :
    ∀ (a0 : Nat) (x1 : Int) (x3 : Int) (y0 : Int) (V : sj_VV), OK9 g a0 → g_X9_slicesOf_51 N k7 a0 x1 x3 y0 V = some q → sj_T X m_X9_slicesOf s0 (some (sj_i q.1), (g, q.2)) 51 [some (sj_r (some a0)), some (sj_i x1), none, some (sj_i x3)] [(sj_i y0)] (g, V) := by
  intro a0 x1 x3 y0 V ha0 h
  unfold g_X9_slicesOf_51 at h
  refine r_iconst (pc := 51) dX9_slicesOf_51 ?_
  exact sj_weak (l2 := [some (sj_r (some a0)), some (sj_i x1), none, some (sj_i x3)]) (⟨rfl, ⟨rfl, ⟨rfl, trivial⟩⟩⟩) (st_X9_slicesOf_52 hk7 a0 x1 x3 0 y0 V ha0 h)
set_option maxHeartbeats 4000000 in
theorem st_X9_slicesOf_7_b {X : sj_X} {g : sj_G} {s0 : sj_Mem} {N : Nat} {q : Int × sj_VV} {k7 : Nat → Int → Int → Int → sj_VV → Option (Int × sj_VV)} (hk7 : ∀ (a0 : Nat) (x1 : Int) (x2 : Int) (x3 : Int) (V : sj_VV), OK9 g a0 → k7 a0 x1 x2 x3 V = some q → sj_T X m_X9_slicesOf s0 (some (sj_i q.1), (g, q.2)) 7 [some (sj_r (some a0)), some (sj_i x1), some (sj_i x2), some (sj_i x3)] [] (g, V)) :
    ∀ (a0 : Nat) (x1 : Int) (x2 : Int) (x3 : Int) (V : sj_VV), OK9 g a0 → g_X9_slicesOf_7_b N k7 a0 x1 x2 x3 V = some q → sj_T X m_X9_slicesOf s0 (some (sj_i q.1), (g, q.2)) 7 [some (sj_r (some a0)), some (sj_i x1), some (sj_i x2), some (sj_i x3)] [] (g, V) := by
  intro a0 x1 x2 x3 V ha0 h
  unfold g_X9_slicesOf_7_b at h
  refine r_iload_n (pc := 7) dX9_slicesOf_7 rfl rfl ?_
  refine r_aload_n (pc := 8) dX9_slicesOf_8 rfl rfl ?_
  refine r_gIs (pc := 9) dX9_slicesOf_9 fw_X9_150 rfl (ok9 ha0) ?_
  refine r_icmp_ge (pc := 12) (tgt := 60) h dX9_slicesOf_12 (by decide) (fun h => ?_) (fun h => ?_)
  · refine r_iload_n (pc := 60) dX9_slicesOf_60 rfl rfl ?_
    exact r_irets (pc := 61) h rfl dX9_slicesOf_61
  · refine r_aload_n (pc := 15) dX9_slicesOf_15 rfl rfl ?_
    refine r_iload_n (pc := 16) dX9_slicesOf_16 rfl rfl ?_
    refine r_callVs (pc := 17) (fun _ => none) (As := [sj_i x3]) (rest := []) (b := a0) (ok9 ha0) h dX9_slicesOf_17 mw_X9_168 vw_X9_laysAt (fun _ _ hc => cg_X9_laysAt ha0 hc) rfl ⟨(Nat.le_of_ble_eq_true rfl), (Nat.le_of_ble_eq_true rfl)⟩ (Nat.le_of_ble_eq_true rfl) rfl (fun _u V1 h => ?_)
    refine r_iload_n (pc := 20) dX9_slicesOf_20 rfl rfl ?_
    refine r_iload_n (pc := 21) dX9_slicesOf_21 rfl rfl ?_
    refine r_if_eq (pc := 22) (tgt := 40) h dX9_slicesOf_22 (by decide) (fun h => ?_) (fun h => ?_)
    · refine r_aload_n (pc := 40) dX9_slicesOf_40 rfl rfl ?_
      refine r_gIs (pc := 41) dX9_slicesOf_41 fw_X9_114 rfl (ok9 ha0) ?_
      refine r_if_ge (pc := 44) (tgt := 51) h dX9_slicesOf_44 (by decide) (fun h => ?_) (fun h => ?_)
      · exact sj_weak (l2 := [some (sj_r (some a0)), some (sj_i x1), none, some (sj_i x3)]) (⟨rfl, ⟨rfl, ⟨rfl, trivial⟩⟩⟩) (st_X9_slicesOf_51 hk7 a0 x1 x3 x2 V1 ha0 h)
      · exact sj_weak (l2 := [some (sj_r (some a0)), some (sj_i x1), none, some (sj_i x3)]) (⟨rfl, ⟨rfl, ⟨rfl, trivial⟩⟩⟩) (st_X9_slicesOf_47 hk7 a0 x1 x3 x2 V1 ha0 h)
    · refine r_aload_n (pc := 25) dX9_slicesOf_25 rfl rfl ?_
      refine r_gJs (pc := 26) dX9_slicesOf_26 fw_X9_132 rfl (ok9 ha0) ?_
      refine r_aload_n (pc := 29) dX9_slicesOf_29 rfl rfl ?_
      refine r_gJs (pc := 30) dX9_slicesOf_30 fw_X9_124 rfl (ok9 ha0) ?_
      refine r_lle (pc := 33) (tgt := 51) h dX9_slicesOf_33 rfl dX9_slicesOf_34 (by decide) (fun h => ?_) (fun h => ?_)
      · exact sj_weak (l2 := [some (sj_r (some a0)), some (sj_i x1), none, some (sj_i x3)]) (⟨rfl, ⟨rfl, ⟨rfl, trivial⟩⟩⟩) (st_X9_slicesOf_51 hk7 a0 x1 x3 x2 V1 ha0 h)
      · refine r_goto (pc := 37) (tgt := 47) dX9_slicesOf_37 (by decide) ?_
        exact sj_weak (l2 := [some (sj_r (some a0)), some (sj_i x1), none, some (sj_i x3)]) (⟨rfl, ⟨rfl, ⟨rfl, trivial⟩⟩⟩) (st_X9_slicesOf_47 hk7 a0 x1 x3 x2 V1 ha0 h)
set_option maxHeartbeats 4000000 in
theorem st_X9_slicesOf_7 {X : sj_X} {g : sj_G} {s0 : sj_Mem} {N : Nat} {q : Int × sj_VV} :
    ∀ (n : Nat) (a0 : Nat) (x1 : Int) (x2 : Int) (x3 : Int) (V : sj_VV), OK9 g a0 → g_X9_slicesOf_7 N n a0 x1 x2 x3 V = some q → sj_T X m_X9_slicesOf s0 (some (sj_i q.1), (g, q.2)) 7 [some (sj_r (some a0)), some (sj_i x1), some (sj_i x2), some (sj_i x3)] [] (g, V) := by
  intro n
  induction n with
  | zero => intro a0 x1 x2 x3 V ha0 h; exact nomatch h
  | succ n ih => intro a0 x1 x2 x3 V ha0 h; exact st_X9_slicesOf_7_b (N := N) ih a0 x1 x2 x3 V ha0 h
set_option maxHeartbeats 4000000 in
theorem st_X9_slicesOf_0 {X : sj_X} {g : sj_G} {s0 : sj_Mem} {N : Nat} {q : Int × sj_VV} :
    ∀ (a0 : Nat) (x1 : Int) (V : sj_VV), OK9 g a0 → g_X9_slicesOf N a0 x1 V = some q → sj_T X m_X9_slicesOf s0 (some (sj_i q.1), (g, q.2)) 0 [some (sj_r (some a0)), some (sj_i x1), none, none] [] (g, V) := by
  intro a0 x1 V ha0 h
  unfold g_X9_slicesOf at h
  refine r_iconst (pc := 0) dX9_slicesOf_0 ?_
  refine r_istore_n (ln := [some (sj_r (some a0)), some (sj_i x1), some (sj_i 0), none]) (pc := 1) dX9_slicesOf_1 rfl (Nat.le_of_ble_eq_true rfl) rfl ?_
  refine r_aload_n (pc := 2) dX9_slicesOf_2 rfl rfl ?_
  refine r_gIs (pc := 3) dX9_slicesOf_3 fw_X9_22 rfl (ok9 ha0) ?_
  refine r_istore_nL (ln := fun w => [some (sj_r (some a0)), some (sj_i x1), some (sj_i 0), some (sj_i w)]) (pc := 6) h dX9_slicesOf_6 rfl (Nat.le_of_ble_eq_true rfl) (fun _ => rfl) (fun v1 h => ?_)
  exact sj_weak (l2 := [some (sj_r (some a0)), some (sj_i x1), some (sj_i 0), some (sj_i v1)]) (⟨rfl, ⟨rfl, ⟨rfl, ⟨rfl, trivial⟩⟩⟩⟩) (st_X9_slicesOf_7 N a0 x1 0 v1 V ha0 h)
set_option maxHeartbeats 4000000 in
theorem cg_X9_slicesOf {X : sj_X} {g : sj_G} {N : Nat} {a0 : Nat} {x1 : Int} {V : sj_VV} {q : Int × sj_VV} (ha0 : OK9 g a0) (h : g_X9_slicesOf N a0 x1 V = some q) : sj_C X m_X9_slicesOf [sj_r (some a0), sj_i x1] (g, V) (some (sj_i q.1), (g, q.2)) :=
  sj_C_of (by decide +kernel) (Nat.le_of_ble_eq_true rfl) (lo := [some (sj_r (some a0)), some (sj_i x1), none, none]) rfl (sj_weak (l2 := [some (sj_r (some a0)), some (sj_i x1), none, none]) (⟨rfl, ⟨rfl, trivial⟩⟩) (st_X9_slicesOf_0 a0 x1 V ha0 h))
set_option maxHeartbeats 4000000 in
theorem c_X9_slicesOf {X : sj_X} {N : Nat} {a0 : Nat} {x1 : Int} {s : sj_Mem} {q : Int × sj_Mem} (h : f_X9_slicesOf N a0 x1 s = some q) : sj_C X m_X9_slicesOf [sj_r (some a0), sj_i x1] s (some (sj_i q.1), q.2) := by
  obtain ⟨g, V⟩ := s
  unfold f_X9_slicesOf at h
  obtain ⟨ho, h1⟩ := e_ok_some h
  obtain ⟨q2, h2, rfl⟩ := sj_map_some h1
  exact cg_X9_slicesOf ho h2
theorem dX9_leastBase_0 : decode cX9_leastBase 0 = .ok (.aload_n 0, 1) := by decide +kernel
theorem dX9_leastBase_1 : decode cX9_leastBase 1 = .ok (.getfield 26, 3) := by decide +kernel
theorem dX9_leastBase_4 : decode cX9_leastBase 4 = .ok (.aload_n 0, 1) := by decide +kernel
theorem dX9_leastBase_5 : decode cX9_leastBase 5 = .ok (.getfield 22, 3) := by decide +kernel
theorem dX9_leastBase_8 : decode cX9_leastBase 8 = .ok (.iaload, 1) := by decide +kernel
theorem dX9_leastBase_9 : decode cX9_leastBase 9 = .ok (.istore_n 1, 1) := by decide +kernel
theorem dX9_leastBase_10 : decode cX9_leastBase 10 = .ok (.aload_n 0, 1) := by decide +kernel
theorem dX9_leastBase_11 : decode cX9_leastBase 11 = .ok (.getfield 22, 3) := by decide +kernel
theorem dX9_leastBase_14 : decode cX9_leastBase 14 = .ok (.istore_n 2, 1) := by decide +kernel
theorem dX9_leastBase_15 : decode cX9_leastBase 15 = .ok (.iload_n 2, 1) := by decide +kernel
theorem dX9_leastBase_16 : decode cX9_leastBase 16 = .ok (.aload_n 0, 1) := by decide +kernel
theorem dX9_leastBase_17 : decode cX9_leastBase 17 = .ok (.getfield 150, 3) := by decide +kernel
theorem dX9_leastBase_20 : decode cX9_leastBase 20 = .ok (.if_icmp .gt 20, 3) := by decide +kernel
theorem dX9_leastBase_23 : decode cX9_leastBase 23 = .ok (.iload_n 1, 1) := by decide +kernel
theorem dX9_leastBase_24 : decode cX9_leastBase 24 = .ok (.aload_n 0, 1) := by decide +kernel
theorem dX9_leastBase_25 : decode cX9_leastBase 25 = .ok (.getfield 26, 3) := by decide +kernel
theorem dX9_leastBase_28 : decode cX9_leastBase 28 = .ok (.iload_n 2, 1) := by decide +kernel
theorem dX9_leastBase_29 : decode cX9_leastBase 29 = .ok (.iaload, 1) := by decide +kernel
theorem dX9_leastBase_30 : decode cX9_leastBase 30 = .ok (.invokestatic 104, 3) := by decide +kernel
theorem dX9_leastBase_33 : decode cX9_leastBase 33 = .ok (.istore_n 1, 1) := by decide +kernel
theorem dX9_leastBase_34 : decode cX9_leastBase 34 = .ok (.iinc 2 1, 3) := by decide +kernel
theorem dX9_leastBase_37 : decode cX9_leastBase 37 = .ok (.goto (-22), 3) := by decide +kernel
theorem dX9_leastBase_40 : decode cX9_leastBase 40 = .ok (.iload_n 1, 1) := by decide +kernel
theorem dX9_leastBase_41 : decode cX9_leastBase 41 = .ok (.ireturn, 1) := by decide +kernel
set_option maxHeartbeats 4000000 in
theorem st_X9_leastBase_15_b {X : sj_X} {g : sj_G} {s0 : sj_Mem} {N : Nat} {q : Int × sj_VV} {k15 : Nat → Int → Int → sj_VV → Option (Int × sj_VV)} (hk15 : ∀ (a0 : Nat) (x1 : Int) (x2 : Int) (V : sj_VV), OK9 g a0 → k15 a0 x1 x2 V = some q → sj_T X m_X9_leastBase s0 (some (sj_i q.1), (g, q.2)) 15 [some (sj_r (some a0)), some (sj_i x1), some (sj_i x2)] [] (g, V)) :
    ∀ (a0 : Nat) (x1 : Int) (x2 : Int) (V : sj_VV), OK9 g a0 → g_X9_leastBase_15_b N k15 a0 x1 x2 V = some q → sj_T X m_X9_leastBase s0 (some (sj_i q.1), (g, q.2)) 15 [some (sj_r (some a0)), some (sj_i x1), some (sj_i x2)] [] (g, V) := by
  intro a0 x1 x2 V ha0 h
  unfold g_X9_leastBase_15_b at h
  refine r_iload_n (pc := 15) dX9_leastBase_15 rfl rfl ?_
  refine r_aload_n (pc := 16) dX9_leastBase_16 rfl rfl ?_
  refine r_gIs (pc := 17) dX9_leastBase_17 fw_X9_150 rfl (ok9 ha0) ?_
  refine r_icmp_gt (pc := 20) (tgt := 40) h dX9_leastBase_20 (by decide) (fun h => ?_) (fun h => ?_)
  · refine r_iload_n (pc := 40) dX9_leastBase_40 rfl rfl ?_
    exact r_irets (pc := 41) h rfl dX9_leastBase_41
  · refine r_iload_n (pc := 23) dX9_leastBase_23 rfl rfl ?_
    refine r_aload_n (pc := 24) dX9_leastBase_24 rfl rfl ?_
    refine r_gRs (b := a0 + 5) (pc := 25) dX9_leastBase_25 fw_X9_26 rfl (ok9 ha0) (ok9_16 ha0).1 ?_
    refine r_iload_n (pc := 28) dX9_leastBase_28 rfl rfl ?_
    refine r_ialoads (pc := 29) h dX9_leastBase_29 (ok9_16 ha0).2 (fun h => ?_)
    refine r_callSs (pc := 30) (fun v => some (sj_i v)) (As := [sj_i x1, sj_i (V (a0 + 5) x2.toNat)]) (rest := []) h dX9_leastBase_30 mw_X9_104 kw_1352 (fun _ _ hc => cg_X9_least  hc) rfl ⟨(Nat.le_of_ble_eq_true rfl), (Nat.le_of_ble_eq_true rfl)⟩ (Nat.le_of_ble_eq_true rfl) rfl (fun v2 V1 h => ?_)
    refine r_istore_n (ln := [some (sj_r (some a0)), some (sj_i v2), some (sj_i x2)]) (pc := 33) dX9_leastBase_33 rfl (Nat.le_of_ble_eq_true rfl) rfl ?_
    refine r_iinc (ln := fun w => [some (sj_r (some a0)), some (sj_i v2), some (sj_i w)]) (pc := 34) h dX9_leastBase_34 rfl (Nat.le_of_ble_eq_true rfl) (fun _ => rfl) (fun v3 h => ?_)
    refine r_goto (pc := 37) (tgt := 15) dX9_leastBase_37 (by decide) ?_
    exact sj_weak (l2 := [some (sj_r (some a0)), some (sj_i v2), some (sj_i v3)]) (⟨rfl, ⟨rfl, ⟨rfl, trivial⟩⟩⟩) (hk15 a0 v2 v3 V1 ha0 h)
set_option maxHeartbeats 4000000 in
theorem st_X9_leastBase_15 {X : sj_X} {g : sj_G} {s0 : sj_Mem} {N : Nat} {q : Int × sj_VV} :
    ∀ (n : Nat) (a0 : Nat) (x1 : Int) (x2 : Int) (V : sj_VV), OK9 g a0 → g_X9_leastBase_15 N n a0 x1 x2 V = some q → sj_T X m_X9_leastBase s0 (some (sj_i q.1), (g, q.2)) 15 [some (sj_r (some a0)), some (sj_i x1), some (sj_i x2)] [] (g, V) := by
  intro n
  induction n with
  | zero => intro a0 x1 x2 V ha0 h; exact nomatch h
  | succ n ih => intro a0 x1 x2 V ha0 h; exact st_X9_leastBase_15_b (N := N) ih a0 x1 x2 V ha0 h
set_option maxHeartbeats 4000000 in
theorem st_X9_leastBase_0 {X : sj_X} {g : sj_G} {s0 : sj_Mem} {N : Nat} {q : Int × sj_VV} :
    ∀ (a0 : Nat) (V : sj_VV), OK9 g a0 → g_X9_leastBase N a0 V = some q → sj_T X m_X9_leastBase s0 (some (sj_i q.1), (g, q.2)) 0 [some (sj_r (some a0)), none, none] [] (g, V) := by
  intro a0 V ha0 h
  unfold g_X9_leastBase at h
  refine r_aload_n (pc := 0) dX9_leastBase_0 rfl rfl ?_
  refine r_gRs (b := a0 + 5) (pc := 1) dX9_leastBase_1 fw_X9_26 rfl (ok9 ha0) (ok9_16 ha0).1 ?_
  refine r_aload_n (pc := 4) dX9_leastBase_4 rfl rfl ?_
  refine r_gIs (pc := 5) dX9_leastBase_5 fw_X9_22 rfl (ok9 ha0) ?_
  refine r_ialoads (pc := 8) h dX9_leastBase_8 (ok9_16 ha0).2 (fun h => ?_)
  refine r_istore_nL (ln := fun w => [some (sj_r (some a0)), some (sj_i w), none]) (pc := 9) h dX9_leastBase_9 rfl (Nat.le_of_ble_eq_true rfl) (fun _ => rfl) (fun v1 h => ?_)
  refine r_aload_n (pc := 10) dX9_leastBase_10 rfl rfl ?_
  refine r_gIs (pc := 11) dX9_leastBase_11 fw_X9_22 rfl (ok9 ha0) ?_
  refine r_istore_nL (ln := fun w => [some (sj_r (some a0)), some (sj_i v1), some (sj_i w)]) (pc := 14) h dX9_leastBase_14 rfl (Nat.le_of_ble_eq_true rfl) (fun _ => rfl) (fun v2 h => ?_)
  exact sj_weak (l2 := [some (sj_r (some a0)), some (sj_i v1), some (sj_i v2)]) (⟨rfl, ⟨rfl, ⟨rfl, trivial⟩⟩⟩) (st_X9_leastBase_15 N a0 v1 v2 V ha0 h)
set_option maxHeartbeats 4000000 in
theorem cg_X9_leastBase {X : sj_X} {g : sj_G} {N : Nat} {a0 : Nat} {V : sj_VV} {q : Int × sj_VV} (ha0 : OK9 g a0) (h : g_X9_leastBase N a0 V = some q) : sj_C X m_X9_leastBase [sj_r (some a0)] (g, V) (some (sj_i q.1), (g, q.2)) :=
  sj_C_of (by decide +kernel) (Nat.le_of_ble_eq_true rfl) (lo := [some (sj_r (some a0)), none, none]) rfl (sj_weak (l2 := [some (sj_r (some a0)), none, none]) (⟨rfl, trivial⟩) (st_X9_leastBase_0 a0 V ha0 h))
set_option maxHeartbeats 4000000 in
theorem c_X9_leastBase {X : sj_X} {N : Nat} {a0 : Nat} {s : sj_Mem} {q : Int × sj_Mem} (h : f_X9_leastBase N a0 s = some q) : sj_C X m_X9_leastBase [sj_r (some a0)] s (some (sj_i q.1), q.2) := by
  obtain ⟨g, V⟩ := s
  unfold f_X9_leastBase at h
  obtain ⟨ho, h1⟩ := e_ok_some h
  obtain ⟨q2, h2, rfl⟩ := sj_map_some h1
  exact cg_X9_leastBase ho h2
theorem dX9_deepest_0 : decode cX9_deepest 0 = .ok (.aload_n 0, 1) := by decide +kernel
theorem dX9_deepest_1 : decode cX9_deepest 1 = .ok (.getfield 22, 3) := by decide +kernel
theorem dX9_deepest_4 : decode cX9_deepest 4 = .ok (.istore_n 1, 1) := by decide +kernel
theorem dX9_deepest_5 : decode cX9_deepest 5 = .ok (.aload_n 0, 1) := by decide +kernel
theorem dX9_deepest_6 : decode cX9_deepest 6 = .ok (.getfield 22, 3) := by decide +kernel
theorem dX9_deepest_9 : decode cX9_deepest 9 = .ok (.istore_n 2, 1) := by decide +kernel
theorem dX9_deepest_10 : decode cX9_deepest 10 = .ok (.iload_n 2, 1) := by decide +kernel
theorem dX9_deepest_11 : decode cX9_deepest 11 = .ok (.aload_n 0, 1) := by decide +kernel
theorem dX9_deepest_12 : decode cX9_deepest 12 = .ok (.getfield 150, 3) := by decide +kernel
theorem dX9_deepest_15 : decode cX9_deepest 15 = .ok (.if_icmp .gt 44, 3) := by decide +kernel
theorem dX9_deepest_18 : decode cX9_deepest 18 = .ok (.aload_n 0, 1) := by decide +kernel
theorem dX9_deepest_19 : decode cX9_deepest 19 = .ok (.getfield 9, 3) := by decide +kernel
theorem dX9_deepest_22 : decode cX9_deepest 22 = .ok (.iconst 3, 1) := by decide +kernel
theorem dX9_deepest_23 : decode cX9_deepest 23 = .ok (.iload_n 2, 1) := by decide +kernel
theorem dX9_deepest_24 : decode cX9_deepest 24 = .ok (.iadd, 1) := by decide +kernel
theorem dX9_deepest_25 : decode cX9_deepest 25 = .ok (.iaload, 1) := by decide +kernel
theorem dX9_deepest_26 : decode cX9_deepest 26 = .ok (.aload_n 0, 1) := by decide +kernel
theorem dX9_deepest_27 : decode cX9_deepest 27 = .ok (.getfield 26, 3) := by decide +kernel
theorem dX9_deepest_30 : decode cX9_deepest 30 = .ok (.iload_n 2, 1) := by decide +kernel
theorem dX9_deepest_31 : decode cX9_deepest 31 = .ok (.iaload, 1) := by decide +kernel
theorem dX9_deepest_32 : decode cX9_deepest 32 = .ok (.isub, 1) := by decide +kernel
theorem dX9_deepest_33 : decode cX9_deepest 33 = .ok (.aload_n 0, 1) := by decide +kernel
theorem dX9_deepest_34 : decode cX9_deepest 34 = .ok (.getfield 9, 3) := by decide +kernel
theorem dX9_deepest_37 : decode cX9_deepest 37 = .ok (.iconst 3, 1) := by decide +kernel
theorem dX9_deepest_38 : decode cX9_deepest 38 = .ok (.iload_n 1, 1) := by decide +kernel
theorem dX9_deepest_39 : decode cX9_deepest 39 = .ok (.iadd, 1) := by decide +kernel
theorem dX9_deepest_40 : decode cX9_deepest 40 = .ok (.iaload, 1) := by decide +kernel
theorem dX9_deepest_41 : decode cX9_deepest 41 = .ok (.aload_n 0, 1) := by decide +kernel
theorem dX9_deepest_42 : decode cX9_deepest 42 = .ok (.getfield 26, 3) := by decide +kernel
theorem dX9_deepest_45 : decode cX9_deepest 45 = .ok (.iload_n 1, 1) := by decide +kernel
theorem dX9_deepest_46 : decode cX9_deepest 46 = .ok (.iaload, 1) := by decide +kernel
theorem dX9_deepest_47 : decode cX9_deepest 47 = .ok (.isub, 1) := by decide +kernel
theorem dX9_deepest_48 : decode cX9_deepest 48 = .ok (.if_icmp .le 5, 3) := by decide +kernel
theorem dX9_deepest_51 : decode cX9_deepest 51 = .ok (.iload_n 2, 1) := by decide +kernel
theorem dX9_deepest_52 : decode cX9_deepest 52 = .ok (.istore_n 1, 1) := by decide +kernel
theorem dX9_deepest_53 : decode cX9_deepest 53 = .ok (.iinc 2 1, 3) := by decide +kernel
theorem dX9_deepest_56 : decode cX9_deepest 56 = .ok (.goto (-46), 3) := by decide +kernel
theorem dX9_deepest_59 : decode cX9_deepest 59 = .ok (.iload_n 1, 1) := by decide +kernel
theorem dX9_deepest_60 : decode cX9_deepest 60 = .ok (.ireturn, 1) := by decide +kernel
set_option maxHeartbeats 4000000 in
theorem st_X9_deepest_53 {X : sj_X} {g : sj_G} {s0 : sj_Mem} {N : Nat} {q : Int × sj_VV} {k10 : Nat → Int → Int → sj_VV → Option (Int × sj_VV)} (hk10 : ∀ (a0 : Nat) (x1 : Int) (x2 : Int) (V : sj_VV), OK9 g a0 → k10 a0 x1 x2 V = some q → sj_T X m_X9_deepest s0 (some (sj_i q.1), (g, q.2)) 10 [some (sj_r (some a0)), some (sj_i x1), some (sj_i x2)] [] (g, V)) :
    ∀ (a0 : Nat) (x1 : Int) (x2 : Int) (V : sj_VV), OK9 g a0 → g_X9_deepest_53 N k10 a0 x1 x2 V = some q → sj_T X m_X9_deepest s0 (some (sj_i q.1), (g, q.2)) 53 [some (sj_r (some a0)), some (sj_i x1), some (sj_i x2)] [] (g, V) := by
  intro a0 x1 x2 V ha0 h
  unfold g_X9_deepest_53 at h
  refine r_iinc (ln := fun w => [some (sj_r (some a0)), some (sj_i x1), some (sj_i w)]) (pc := 53) h dX9_deepest_53 rfl (Nat.le_of_ble_eq_true rfl) (fun _ => rfl) (fun v1 h => ?_)
  refine r_goto (pc := 56) (tgt := 10) dX9_deepest_56 (by decide) ?_
  exact sj_weak (l2 := [some (sj_r (some a0)), some (sj_i x1), some (sj_i v1)]) (⟨rfl, ⟨rfl, ⟨rfl, trivial⟩⟩⟩) (hk10 a0 x1 v1 V ha0 h)
set_option maxHeartbeats 4000000 in
theorem st_X9_deepest_10_b {X : sj_X} {g : sj_G} {s0 : sj_Mem} {N : Nat} {q : Int × sj_VV} {k10 : Nat → Int → Int → sj_VV → Option (Int × sj_VV)} (hk10 : ∀ (a0 : Nat) (x1 : Int) (x2 : Int) (V : sj_VV), OK9 g a0 → k10 a0 x1 x2 V = some q → sj_T X m_X9_deepest s0 (some (sj_i q.1), (g, q.2)) 10 [some (sj_r (some a0)), some (sj_i x1), some (sj_i x2)] [] (g, V)) :
    ∀ (a0 : Nat) (x1 : Int) (x2 : Int) (V : sj_VV), OK9 g a0 → g_X9_deepest_10_b N k10 a0 x1 x2 V = some q → sj_T X m_X9_deepest s0 (some (sj_i q.1), (g, q.2)) 10 [some (sj_r (some a0)), some (sj_i x1), some (sj_i x2)] [] (g, V) := by
  intro a0 x1 x2 V ha0 h
  unfold g_X9_deepest_10_b at h
  refine r_iload_n (pc := 10) dX9_deepest_10 rfl rfl ?_
  refine r_aload_n (pc := 11) dX9_deepest_11 rfl rfl ?_
  refine r_gIs (pc := 12) dX9_deepest_12 fw_X9_150 rfl (ok9 ha0) ?_
  refine r_icmp_gt (pc := 15) (tgt := 59) h dX9_deepest_15 (by decide) (fun h => ?_) (fun h => ?_)
  · refine r_iload_n (pc := 59) dX9_deepest_59 rfl rfl ?_
    exact r_irets (pc := 60) h rfl dX9_deepest_60
  · refine r_aload_n (pc := 18) dX9_deepest_18 rfl rfl ?_
    refine r_gRs (b := a0 + 1) (pc := 19) dX9_deepest_19 fw_X9_9 rfl (ok9 ha0) (ok9_0 ha0).1 ?_
    refine r_iconst (pc := 22) dX9_deepest_22 ?_
    refine r_iload_n (pc := 23) dX9_deepest_23 rfl rfl ?_
    refine r_iadd (pc := 24) dX9_deepest_24 ?_
    refine r_ialoads (pc := 25) h dX9_deepest_25 (ok9_0 ha0).2 (fun h => ?_)
    refine r_aload_n (pc := 26) dX9_deepest_26 rfl rfl ?_
    refine r_gRs (b := a0 + 5) (pc := 27) dX9_deepest_27 fw_X9_26 rfl (ok9 ha0) (ok9_16 ha0).1 ?_
    refine r_iload_n (pc := 30) dX9_deepest_30 rfl rfl ?_
    refine r_ialoads (pc := 31) h dX9_deepest_31 (ok9_16 ha0).2 (fun h => ?_)
    refine r_isub (pc := 32) dX9_deepest_32 ?_
    refine r_aload_n (pc := 33) dX9_deepest_33 rfl rfl ?_
    refine r_gRs (b := a0 + 1) (pc := 34) dX9_deepest_34 fw_X9_9 rfl (ok9 ha0) (ok9_0 ha0).1 ?_
    refine r_iconst (pc := 37) dX9_deepest_37 ?_
    refine r_iload_n (pc := 38) dX9_deepest_38 rfl rfl ?_
    refine r_iadd (pc := 39) dX9_deepest_39 ?_
    refine r_ialoads (pc := 40) h dX9_deepest_40 (ok9_0 ha0).2 (fun h => ?_)
    refine r_aload_n (pc := 41) dX9_deepest_41 rfl rfl ?_
    refine r_gRs (b := a0 + 5) (pc := 42) dX9_deepest_42 fw_X9_26 rfl (ok9 ha0) (ok9_16 ha0).1 ?_
    refine r_iload_n (pc := 45) dX9_deepest_45 rfl rfl ?_
    refine r_ialoads (pc := 46) h dX9_deepest_46 (ok9_16 ha0).2 (fun h => ?_)
    refine r_isub (pc := 47) dX9_deepest_47 ?_
    refine r_icmp_le (pc := 48) (tgt := 53) h dX9_deepest_48 (by decide) (fun h => ?_) (fun h => ?_)
    · exact sj_weak (l2 := [some (sj_r (some a0)), some (sj_i x1), some (sj_i x2)]) (⟨rfl, ⟨rfl, ⟨rfl, trivial⟩⟩⟩) (st_X9_deepest_53 hk10 a0 x1 x2 V ha0 h)
    · refine r_iload_n (pc := 51) dX9_deepest_51 rfl rfl ?_
      refine r_istore_n (ln := [some (sj_r (some a0)), some (sj_i x2), some (sj_i x2)]) (pc := 52) dX9_deepest_52 rfl (Nat.le_of_ble_eq_true rfl) rfl ?_
      exact sj_weak (l2 := [some (sj_r (some a0)), some (sj_i x2), some (sj_i x2)]) (⟨rfl, ⟨rfl, ⟨rfl, trivial⟩⟩⟩) (st_X9_deepest_53 hk10 a0 x2 x2 V ha0 h)
set_option maxHeartbeats 4000000 in
theorem st_X9_deepest_10 {X : sj_X} {g : sj_G} {s0 : sj_Mem} {N : Nat} {q : Int × sj_VV} :
    ∀ (n : Nat) (a0 : Nat) (x1 : Int) (x2 : Int) (V : sj_VV), OK9 g a0 → g_X9_deepest_10 N n a0 x1 x2 V = some q → sj_T X m_X9_deepest s0 (some (sj_i q.1), (g, q.2)) 10 [some (sj_r (some a0)), some (sj_i x1), some (sj_i x2)] [] (g, V) := by
  intro n
  induction n with
  | zero => intro a0 x1 x2 V ha0 h; exact nomatch h
  | succ n ih => intro a0 x1 x2 V ha0 h; exact st_X9_deepest_10_b (N := N) ih a0 x1 x2 V ha0 h
set_option maxHeartbeats 4000000 in
theorem st_X9_deepest_0 {X : sj_X} {g : sj_G} {s0 : sj_Mem} {N : Nat} {q : Int × sj_VV} :
    ∀ (a0 : Nat) (V : sj_VV), OK9 g a0 → g_X9_deepest N a0 V = some q → sj_T X m_X9_deepest s0 (some (sj_i q.1), (g, q.2)) 0 [some (sj_r (some a0)), none, none] [] (g, V) := by
  intro a0 V ha0 h
  unfold g_X9_deepest at h
  refine r_aload_n (pc := 0) dX9_deepest_0 rfl rfl ?_
  refine r_gIs (pc := 1) dX9_deepest_1 fw_X9_22 rfl (ok9 ha0) ?_
  refine r_istore_nL (ln := fun w => [some (sj_r (some a0)), some (sj_i w), none]) (pc := 4) h dX9_deepest_4 rfl (Nat.le_of_ble_eq_true rfl) (fun _ => rfl) (fun v1 h => ?_)
  refine r_aload_n (pc := 5) dX9_deepest_5 rfl rfl ?_
  refine r_gIs (pc := 6) dX9_deepest_6 fw_X9_22 rfl (ok9 ha0) ?_
  refine r_istore_nL (ln := fun w => [some (sj_r (some a0)), some (sj_i v1), some (sj_i w)]) (pc := 9) h dX9_deepest_9 rfl (Nat.le_of_ble_eq_true rfl) (fun _ => rfl) (fun v2 h => ?_)
  exact sj_weak (l2 := [some (sj_r (some a0)), some (sj_i v1), some (sj_i v2)]) (⟨rfl, ⟨rfl, ⟨rfl, trivial⟩⟩⟩) (st_X9_deepest_10 N a0 v1 v2 V ha0 h)
set_option maxHeartbeats 4000000 in
theorem cg_X9_deepest {X : sj_X} {g : sj_G} {N : Nat} {a0 : Nat} {V : sj_VV} {q : Int × sj_VV} (ha0 : OK9 g a0) (h : g_X9_deepest N a0 V = some q) : sj_C X m_X9_deepest [sj_r (some a0)] (g, V) (some (sj_i q.1), (g, q.2)) :=
  sj_C_of (by decide +kernel) (Nat.le_of_ble_eq_true rfl) (lo := [some (sj_r (some a0)), none, none]) rfl (sj_weak (l2 := [some (sj_r (some a0)), none, none]) (⟨rfl, trivial⟩) (st_X9_deepest_0 a0 V ha0 h))
set_option maxHeartbeats 4000000 in
theorem c_X9_deepest {X : sj_X} {N : Nat} {a0 : Nat} {s : sj_Mem} {q : Int × sj_Mem} (h : f_X9_deepest N a0 s = some q) : sj_C X m_X9_deepest [sj_r (some a0)] s (some (sj_i q.1), q.2) := by
  obtain ⟨g, V⟩ := s
  unfold f_X9_deepest at h
  obtain ⟨ho, h1⟩ := e_ok_some h
  obtain ⟨q2, h2, rfl⟩ := sj_map_some h1
  exact cg_X9_deepest ho h2
theorem dX9_bodyOf_0 : decode cX9_bodyOf 0 = .ok (.iconst 0, 1) := by decide +kernel
theorem dX9_bodyOf_1 : decode cX9_bodyOf 1 = .ok (.istore_n 1, 1) := by decide +kernel
theorem dX9_bodyOf_2 : decode cX9_bodyOf 2 = .ok (.aload_n 0, 1) := by decide +kernel
theorem dX9_bodyOf_3 : decode cX9_bodyOf 3 = .ok (.getfield 22, 3) := by decide +kernel
theorem dX9_bodyOf_6 : decode cX9_bodyOf 6 = .ok (.istore_n 2, 1) := by decide +kernel
theorem dX9_bodyOf_7 : decode cX9_bodyOf 7 = .ok (.iload_n 2, 1) := by decide +kernel
theorem dX9_bodyOf_8 : decode cX9_bodyOf 8 = .ok (.aload_n 0, 1) := by decide +kernel
theorem dX9_bodyOf_9 : decode cX9_bodyOf 9 = .ok (.getfield 150, 3) := by decide +kernel
theorem dX9_bodyOf_12 : decode cX9_bodyOf 12 = .ok (.if_icmp .ge 47, 3) := by decide +kernel
theorem dX9_bodyOf_15 : decode cX9_bodyOf 15 = .ok (.iload_n 1, 1) := by decide +kernel
theorem dX9_bodyOf_16 : decode cX9_bodyOf 16 = .ok (.aload_n 0, 1) := by decide +kernel
theorem dX9_bodyOf_17 : decode cX9_bodyOf 17 = .ok (.getfield 9, 3) := by decide +kernel
theorem dX9_bodyOf_20 : decode cX9_bodyOf 20 = .ok (.iconst 3, 1) := by decide +kernel
theorem dX9_bodyOf_21 : decode cX9_bodyOf 21 = .ok (.iload_n 2, 1) := by decide +kernel
theorem dX9_bodyOf_22 : decode cX9_bodyOf 22 = .ok (.iadd, 1) := by decide +kernel
theorem dX9_bodyOf_23 : decode cX9_bodyOf 23 = .ok (.iaload, 1) := by decide +kernel
theorem dX9_bodyOf_24 : decode cX9_bodyOf 24 = .ok (.aload_n 0, 1) := by decide +kernel
theorem dX9_bodyOf_25 : decode cX9_bodyOf 25 = .ok (.getfield 26, 3) := by decide +kernel
theorem dX9_bodyOf_28 : decode cX9_bodyOf 28 = .ok (.iload_n 2, 1) := by decide +kernel
theorem dX9_bodyOf_29 : decode cX9_bodyOf 29 = .ok (.iaload, 1) := by decide +kernel
theorem dX9_bodyOf_30 : decode cX9_bodyOf 30 = .ok (.isub, 1) := by decide +kernel
theorem dX9_bodyOf_31 : decode cX9_bodyOf 31 = .ok (.aload_n 0, 1) := by decide +kernel
theorem dX9_bodyOf_32 : decode cX9_bodyOf 32 = .ok (.getfield 9, 3) := by decide +kernel
theorem dX9_bodyOf_35 : decode cX9_bodyOf 35 = .ok (.iconst 3, 1) := by decide +kernel
theorem dX9_bodyOf_36 : decode cX9_bodyOf 36 = .ok (.iload_n 2, 1) := by decide +kernel
theorem dX9_bodyOf_37 : decode cX9_bodyOf 37 = .ok (.iadd, 1) := by decide +kernel
theorem dX9_bodyOf_38 : decode cX9_bodyOf 38 = .ok (.iconst 1, 1) := by decide +kernel
theorem dX9_bodyOf_39 : decode cX9_bodyOf 39 = .ok (.iadd, 1) := by decide +kernel
theorem dX9_bodyOf_40 : decode cX9_bodyOf 40 = .ok (.iaload, 1) := by decide +kernel
theorem dX9_bodyOf_41 : decode cX9_bodyOf 41 = .ok (.iadd, 1) := by decide +kernel
theorem dX9_bodyOf_42 : decode cX9_bodyOf 42 = .ok (.aload_n 0, 1) := by decide +kernel
theorem dX9_bodyOf_43 : decode cX9_bodyOf 43 = .ok (.getfield 26, 3) := by decide +kernel
theorem dX9_bodyOf_46 : decode cX9_bodyOf 46 = .ok (.iload_n 2, 1) := by decide +kernel
theorem dX9_bodyOf_47 : decode cX9_bodyOf 47 = .ok (.iconst 1, 1) := by decide +kernel
theorem dX9_bodyOf_48 : decode cX9_bodyOf 48 = .ok (.iadd, 1) := by decide +kernel
theorem dX9_bodyOf_49 : decode cX9_bodyOf 49 = .ok (.iaload, 1) := by decide +kernel
theorem dX9_bodyOf_50 : decode cX9_bodyOf 50 = .ok (.isub, 1) := by decide +kernel
theorem dX9_bodyOf_51 : decode cX9_bodyOf 51 = .ok (.iadd, 1) := by decide +kernel
theorem dX9_bodyOf_52 : decode cX9_bodyOf 52 = .ok (.istore_n 1, 1) := by decide +kernel
theorem dX9_bodyOf_53 : decode cX9_bodyOf 53 = .ok (.iinc 2 1, 3) := by decide +kernel
theorem dX9_bodyOf_56 : decode cX9_bodyOf 56 = .ok (.goto (-49), 3) := by decide +kernel
theorem dX9_bodyOf_59 : decode cX9_bodyOf 59 = .ok (.aload_n 0, 1) := by decide +kernel
theorem dX9_bodyOf_60 : decode cX9_bodyOf 60 = .ok (.getfield 9, 3) := by decide +kernel
theorem dX9_bodyOf_63 : decode cX9_bodyOf 63 = .ok (.iconst 1, 1) := by decide +kernel
theorem dX9_bodyOf_64 : decode cX9_bodyOf 64 = .ok (.iaload, 1) := by decide +kernel
theorem dX9_bodyOf_65 : decode cX9_bodyOf 65 = .ok (.iload_n 1, 1) := by decide +kernel
theorem dX9_bodyOf_66 : decode cX9_bodyOf 66 = .ok (.imul, 1) := by decide +kernel
theorem dX9_bodyOf_67 : decode cX9_bodyOf 67 = .ok (.ireturn, 1) := by decide +kernel
set_option maxHeartbeats 4000000 in
theorem st_X9_bodyOf_7_b {X : sj_X} {g : sj_G} {s0 : sj_Mem} {N : Nat} {q : Int × sj_VV} {k7 : Nat → Int → Int → sj_VV → Option (Int × sj_VV)} (hk7 : ∀ (a0 : Nat) (x1 : Int) (x2 : Int) (V : sj_VV), OK9 g a0 → k7 a0 x1 x2 V = some q → sj_T X m_X9_bodyOf s0 (some (sj_i q.1), (g, q.2)) 7 [some (sj_r (some a0)), some (sj_i x1), some (sj_i x2)] [] (g, V)) :
    ∀ (a0 : Nat) (x1 : Int) (x2 : Int) (V : sj_VV), OK9 g a0 → g_X9_bodyOf_7_b N k7 a0 x1 x2 V = some q → sj_T X m_X9_bodyOf s0 (some (sj_i q.1), (g, q.2)) 7 [some (sj_r (some a0)), some (sj_i x1), some (sj_i x2)] [] (g, V) := by
  intro a0 x1 x2 V ha0 h
  unfold g_X9_bodyOf_7_b at h
  refine r_iload_n (pc := 7) dX9_bodyOf_7 rfl rfl ?_
  refine r_aload_n (pc := 8) dX9_bodyOf_8 rfl rfl ?_
  refine r_gIs (pc := 9) dX9_bodyOf_9 fw_X9_150 rfl (ok9 ha0) ?_
  refine r_icmp_ge (pc := 12) (tgt := 59) h dX9_bodyOf_12 (by decide) (fun h => ?_) (fun h => ?_)
  · refine r_aload_n (pc := 59) dX9_bodyOf_59 rfl rfl ?_
    refine r_gRs (b := a0 + 1) (pc := 60) dX9_bodyOf_60 fw_X9_9 rfl (ok9 ha0) (ok9_0 ha0).1 ?_
    refine r_iconst (pc := 63) dX9_bodyOf_63 ?_
    refine r_ialoads (pc := 64) h dX9_bodyOf_64 (ok9_0 ha0).2 (fun h => ?_)
    refine r_iload_n (pc := 65) dX9_bodyOf_65 rfl rfl ?_
    refine r_imul (pc := 66) dX9_bodyOf_66 ?_
    exact r_irets (pc := 67) h rfl dX9_bodyOf_67
  · refine r_iload_n (pc := 15) dX9_bodyOf_15 rfl rfl ?_
    refine r_aload_n (pc := 16) dX9_bodyOf_16 rfl rfl ?_
    refine r_gRs (b := a0 + 1) (pc := 17) dX9_bodyOf_17 fw_X9_9 rfl (ok9 ha0) (ok9_0 ha0).1 ?_
    refine r_iconst (pc := 20) dX9_bodyOf_20 ?_
    refine r_iload_n (pc := 21) dX9_bodyOf_21 rfl rfl ?_
    refine r_iadd (pc := 22) dX9_bodyOf_22 ?_
    refine r_ialoads (pc := 23) h dX9_bodyOf_23 (ok9_0 ha0).2 (fun h => ?_)
    refine r_aload_n (pc := 24) dX9_bodyOf_24 rfl rfl ?_
    refine r_gRs (b := a0 + 5) (pc := 25) dX9_bodyOf_25 fw_X9_26 rfl (ok9 ha0) (ok9_16 ha0).1 ?_
    refine r_iload_n (pc := 28) dX9_bodyOf_28 rfl rfl ?_
    refine r_ialoads (pc := 29) h dX9_bodyOf_29 (ok9_16 ha0).2 (fun h => ?_)
    refine r_isub (pc := 30) dX9_bodyOf_30 ?_
    refine r_aload_n (pc := 31) dX9_bodyOf_31 rfl rfl ?_
    refine r_gRs (b := a0 + 1) (pc := 32) dX9_bodyOf_32 fw_X9_9 rfl (ok9 ha0) (ok9_0 ha0).1 ?_
    refine r_iconst (pc := 35) dX9_bodyOf_35 ?_
    refine r_iload_n (pc := 36) dX9_bodyOf_36 rfl rfl ?_
    refine r_iadd (pc := 37) dX9_bodyOf_37 ?_
    refine r_iconst (pc := 38) dX9_bodyOf_38 ?_
    refine r_iadd (pc := 39) dX9_bodyOf_39 ?_
    refine r_ialoads (pc := 40) h dX9_bodyOf_40 (ok9_0 ha0).2 (fun h => ?_)
    refine r_iadd (pc := 41) dX9_bodyOf_41 ?_
    refine r_aload_n (pc := 42) dX9_bodyOf_42 rfl rfl ?_
    refine r_gRs (b := a0 + 5) (pc := 43) dX9_bodyOf_43 fw_X9_26 rfl (ok9 ha0) (ok9_16 ha0).1 ?_
    refine r_iload_n (pc := 46) dX9_bodyOf_46 rfl rfl ?_
    refine r_iconst (pc := 47) dX9_bodyOf_47 ?_
    refine r_iadd (pc := 48) dX9_bodyOf_48 ?_
    refine r_ialoads (pc := 49) h dX9_bodyOf_49 (ok9_16 ha0).2 (fun h => ?_)
    refine r_isub (pc := 50) dX9_bodyOf_50 ?_
    refine r_iadd (pc := 51) dX9_bodyOf_51 ?_
    refine r_istore_nL (ln := fun w => [some (sj_r (some a0)), some (sj_i w), some (sj_i x2)]) (pc := 52) h dX9_bodyOf_52 rfl (Nat.le_of_ble_eq_true rfl) (fun _ => rfl) (fun v1 h => ?_)
    refine r_iinc (ln := fun w => [some (sj_r (some a0)), some (sj_i v1), some (sj_i w)]) (pc := 53) h dX9_bodyOf_53 rfl (Nat.le_of_ble_eq_true rfl) (fun _ => rfl) (fun v2 h => ?_)
    refine r_goto (pc := 56) (tgt := 7) dX9_bodyOf_56 (by decide) ?_
    exact sj_weak (l2 := [some (sj_r (some a0)), some (sj_i v1), some (sj_i v2)]) (⟨rfl, ⟨rfl, ⟨rfl, trivial⟩⟩⟩) (hk7 a0 v1 v2 V ha0 h)
set_option maxHeartbeats 4000000 in
theorem st_X9_bodyOf_7 {X : sj_X} {g : sj_G} {s0 : sj_Mem} {N : Nat} {q : Int × sj_VV} :
    ∀ (n : Nat) (a0 : Nat) (x1 : Int) (x2 : Int) (V : sj_VV), OK9 g a0 → g_X9_bodyOf_7 N n a0 x1 x2 V = some q → sj_T X m_X9_bodyOf s0 (some (sj_i q.1), (g, q.2)) 7 [some (sj_r (some a0)), some (sj_i x1), some (sj_i x2)] [] (g, V) := by
  intro n
  induction n with
  | zero => intro a0 x1 x2 V ha0 h; exact nomatch h
  | succ n ih => intro a0 x1 x2 V ha0 h; exact st_X9_bodyOf_7_b (N := N) ih a0 x1 x2 V ha0 h
set_option maxHeartbeats 4000000 in
theorem st_X9_bodyOf_0 {X : sj_X} {g : sj_G} {s0 : sj_Mem} {N : Nat} {q : Int × sj_VV} :
    ∀ (a0 : Nat) (V : sj_VV), OK9 g a0 → g_X9_bodyOf N a0 V = some q → sj_T X m_X9_bodyOf s0 (some (sj_i q.1), (g, q.2)) 0 [some (sj_r (some a0)), none, none] [] (g, V) := by
  intro a0 V ha0 h
  unfold g_X9_bodyOf at h
  refine r_iconst (pc := 0) dX9_bodyOf_0 ?_
  refine r_istore_n (ln := [some (sj_r (some a0)), some (sj_i 0), none]) (pc := 1) dX9_bodyOf_1 rfl (Nat.le_of_ble_eq_true rfl) rfl ?_
  refine r_aload_n (pc := 2) dX9_bodyOf_2 rfl rfl ?_
  refine r_gIs (pc := 3) dX9_bodyOf_3 fw_X9_22 rfl (ok9 ha0) ?_
  refine r_istore_nL (ln := fun w => [some (sj_r (some a0)), some (sj_i 0), some (sj_i w)]) (pc := 6) h dX9_bodyOf_6 rfl (Nat.le_of_ble_eq_true rfl) (fun _ => rfl) (fun v1 h => ?_)
  exact sj_weak (l2 := [some (sj_r (some a0)), some (sj_i 0), some (sj_i v1)]) (⟨rfl, ⟨rfl, ⟨rfl, trivial⟩⟩⟩) (st_X9_bodyOf_7 N a0 0 v1 V ha0 h)
set_option maxHeartbeats 4000000 in
theorem cg_X9_bodyOf {X : sj_X} {g : sj_G} {N : Nat} {a0 : Nat} {V : sj_VV} {q : Int × sj_VV} (ha0 : OK9 g a0) (h : g_X9_bodyOf N a0 V = some q) : sj_C X m_X9_bodyOf [sj_r (some a0)] (g, V) (some (sj_i q.1), (g, q.2)) :=
  sj_C_of (by decide +kernel) (Nat.le_of_ble_eq_true rfl) (lo := [some (sj_r (some a0)), none, none]) rfl (sj_weak (l2 := [some (sj_r (some a0)), none, none]) (⟨rfl, trivial⟩) (st_X9_bodyOf_0 a0 V ha0 h))
set_option maxHeartbeats 4000000 in
theorem c_X9_bodyOf {X : sj_X} {N : Nat} {a0 : Nat} {s : sj_Mem} {q : Int × sj_Mem} (h : f_X9_bodyOf N a0 s = some q) : sj_C X m_X9_bodyOf [sj_r (some a0)] s (some (sj_i q.1), q.2) := by
  obtain ⟨g, V⟩ := s
  unfold f_X9_bodyOf at h
  obtain ⟨ho, h1⟩ := e_ok_some h
  obtain ⟨q2, h2, rfl⟩ := sj_map_some h1
  exact cg_X9_bodyOf ho h2
theorem dX9_shape_0 : decode cX9_shape 0 = .ok (.aload_n 0, 1) := by decide +kernel
theorem dX9_shape_1 : decode cX9_shape 1 = .ok (.invokevirtual 277, 3) := by decide +kernel
theorem dX9_shape_4 : decode cX9_shape 4 = .ok (.ifCond .ne 5, 3) := by decide +kernel
theorem dX9_shape_7 : decode cX9_shape 7 = .ok (.iconst (-1), 1) := by decide +kernel
theorem dX9_shape_8 : decode cX9_shape 8 = .ok (.ireturn, 1) := by decide +kernel
theorem dX9_shape_9 : decode cX9_shape 9 = .ok (.iload_n 1, 1) := by decide +kernel
theorem dX9_shape_10 : decode cX9_shape 10 = .ok (.tableswitch 87 0 5 #[38, 43, 65, 70, 75, 81], 38) := by decide +kernel
theorem dX9_shape_48 : decode cX9_shape 48 = .ok (.aload_n 0, 1) := by decide +kernel
theorem dX9_shape_49 : decode cX9_shape 49 = .ok (.invokevirtual 307, 3) := by decide +kernel
theorem dX9_shape_52 : decode cX9_shape 52 = .ok (.ireturn, 1) := by decide +kernel
theorem dX9_shape_53 : decode cX9_shape 53 = .ok (.aload_n 0, 1) := by decide +kernel
theorem dX9_shape_54 : decode cX9_shape 54 = .ok (.getfield 9, 3) := by decide +kernel
theorem dX9_shape_57 : decode cX9_shape 57 = .ok (.iconst 3, 1) := by decide +kernel
theorem dX9_shape_58 : decode cX9_shape 58 = .ok (.aload_n 0, 1) := by decide +kernel
theorem dX9_shape_59 : decode cX9_shape 59 = .ok (.invokevirtual 310, 3) := by decide +kernel
theorem dX9_shape_62 : decode cX9_shape 62 = .ok (.iadd, 1) := by decide +kernel
theorem dX9_shape_63 : decode cX9_shape 63 = .ok (.iaload, 1) := by decide +kernel
theorem dX9_shape_64 : decode cX9_shape 64 = .ok (.aload_n 0, 1) := by decide +kernel
theorem dX9_shape_65 : decode cX9_shape 65 = .ok (.getfield 26, 3) := by decide +kernel
theorem dX9_shape_68 : decode cX9_shape 68 = .ok (.aload_n 0, 1) := by decide +kernel
theorem dX9_shape_69 : decode cX9_shape 69 = .ok (.invokevirtual 310, 3) := by decide +kernel
theorem dX9_shape_72 : decode cX9_shape 72 = .ok (.iaload, 1) := by decide +kernel
theorem dX9_shape_73 : decode cX9_shape 73 = .ok (.isub, 1) := by decide +kernel
theorem dX9_shape_74 : decode cX9_shape 74 = .ok (.ireturn, 1) := by decide +kernel
theorem dX9_shape_75 : decode cX9_shape 75 = .ok (.aload_n 0, 1) := by decide +kernel
theorem dX9_shape_76 : decode cX9_shape 76 = .ok (.invokevirtual 310, 3) := by decide +kernel
theorem dX9_shape_79 : decode cX9_shape 79 = .ok (.ireturn, 1) := by decide +kernel
theorem dX9_shape_80 : decode cX9_shape 80 = .ok (.aload_n 0, 1) := by decide +kernel
theorem dX9_shape_81 : decode cX9_shape 81 = .ok (.invokevirtual 313, 3) := by decide +kernel
theorem dX9_shape_84 : decode cX9_shape 84 = .ok (.ireturn, 1) := by decide +kernel
theorem dX9_shape_85 : decode cX9_shape 85 = .ok (.aload_n 0, 1) := by decide +kernel
theorem dX9_shape_86 : decode cX9_shape 86 = .ok (.iconst 0, 1) := by decide +kernel
theorem dX9_shape_87 : decode cX9_shape 87 = .ok (.invokevirtual 316, 3) := by decide +kernel
theorem dX9_shape_90 : decode cX9_shape 90 = .ok (.ireturn, 1) := by decide +kernel
theorem dX9_shape_91 : decode cX9_shape 91 = .ok (.aload_n 0, 1) := by decide +kernel
theorem dX9_shape_92 : decode cX9_shape 92 = .ok (.iconst 1, 1) := by decide +kernel
theorem dX9_shape_93 : decode cX9_shape 93 = .ok (.invokevirtual 316, 3) := by decide +kernel
theorem dX9_shape_96 : decode cX9_shape 96 = .ok (.ireturn, 1) := by decide +kernel
theorem dX9_shape_97 : decode cX9_shape 97 = .ok (.iconst (-1), 1) := by decide +kernel
theorem dX9_shape_98 : decode cX9_shape 98 = .ok (.ireturn, 1) := by decide +kernel
set_option maxHeartbeats 4000000 in
theorem st_X9_shape_0 {X : sj_X} {g : sj_G} {s0 : sj_Mem} {N : Nat} {q : Int × sj_VV} :
    ∀ (a0 : Nat) (x1 : Int) (V : sj_VV), OK9 g a0 → g_X9_shape N a0 x1 V = some q → sj_T X m_X9_shape s0 (some (sj_i q.1), (g, q.2)) 0 [some (sj_r (some a0)), some (sj_i x1)] [] (g, V) := by
  intro a0 x1 V ha0 h
  unfold g_X9_shape at h
  refine r_aload_n (pc := 0) dX9_shape_0 rfl rfl ?_
  refine r_callVs (pc := 1) (fun v => some (sj_i v)) (As := []) (rest := []) (b := a0) (ok9 ha0) h dX9_shape_1 mw_X9_277 vw_X9_takesSlip (fun _ _ hc => cg_X9_takesSlip ha0 hc) rfl ⟨(Nat.le_of_ble_eq_true rfl), (Nat.le_of_ble_eq_true rfl)⟩ (Nat.le_of_ble_eq_true rfl) rfl (fun v2 V1 h => ?_)
  refine r_if_ne (pc := 4) (tgt := 9) h dX9_shape_4 (by decide) (fun h => ?_) (fun h => ?_)
  · refine r_iconst (pc := 7) dX9_shape_7 ?_
    exact r_irets (pc := 8) h rfl dX9_shape_8
  · refine r_iload_n (pc := 9) dX9_shape_9 rfl rfl ?_
    obtain ⟨hr, h⟩ := e_sw_some h
    refine sj_if h (fun c0 h => ?_) (fun c0 h => ?_)
    · refine r_tcase (pc := 10) (tgt := 48) (j := 0) hr c0 dX9_shape_10 (by decide) (by decide) rfl (by decide) ?_
      refine r_aload_n (pc := 48) dX9_shape_48 rfl rfl ?_
      refine r_callVs (pc := 49) (fun v => some (sj_i v)) (As := []) (rest := []) (b := a0) (ok9 ha0) h dX9_shape_49 mw_X9_307 vw_X9_bodyOf (fun _ _ hc => cg_X9_bodyOf ha0 hc) rfl ⟨(Nat.le_of_ble_eq_true rfl), (Nat.le_of_ble_eq_true rfl)⟩ (Nat.le_of_ble_eq_true rfl) rfl (fun v4 V3 h => ?_)
      exact r_irets (pc := 52) h rfl dX9_shape_52
    refine sj_if h (fun c1 h => ?_) (fun c1 h => ?_)
    · refine r_tcase (pc := 10) (tgt := 53) (j := 1) hr c1 dX9_shape_10 (by decide) (by decide) rfl (by decide) ?_
      refine r_aload_n (pc := 53) dX9_shape_53 rfl rfl ?_
      refine r_gRs (b := a0 + 1) (pc := 54) dX9_shape_54 fw_X9_9 rfl (ok9 ha0) (ok9_0 ha0).1 ?_
      refine r_iconst (pc := 57) dX9_shape_57 ?_
      refine r_aload_n (pc := 58) dX9_shape_58 rfl rfl ?_
      refine r_callVs (pc := 59) (fun v => some (sj_i v)) (As := []) (rest := [(sj_i 3), (sj_r (some (a0 + 1)))]) (b := a0) (ok9 ha0) h dX9_shape_59 mw_X9_310 vw_X9_deepest (fun _ _ hc => cg_X9_deepest ha0 hc) rfl ⟨(Nat.le_of_ble_eq_true rfl), (Nat.le_of_ble_eq_true rfl)⟩ (Nat.le_of_ble_eq_true rfl) rfl (fun v6 V5 h => ?_)
      refine r_iadd (pc := 62) dX9_shape_62 ?_
      refine r_ialoads (pc := 63) h dX9_shape_63 (ok9_0 ha0).2 (fun h => ?_)
      refine r_aload_n (pc := 64) dX9_shape_64 rfl rfl ?_
      refine r_gRs (b := a0 + 5) (pc := 65) dX9_shape_65 fw_X9_26 rfl (ok9 ha0) (ok9_16 ha0).1 ?_
      refine r_aload_n (pc := 68) dX9_shape_68 rfl rfl ?_
      refine r_callVs (pc := 69) (fun v => some (sj_i v)) (As := []) (rest := [(sj_r (some (a0 + 5))), (sj_i (V5 (a0 + 1) (3 + v6).toNat))]) (b := a0) (ok9 ha0) h dX9_shape_69 mw_X9_310 vw_X9_deepest (fun _ _ hc => cg_X9_deepest ha0 hc) rfl ⟨(Nat.le_of_ble_eq_true rfl), (Nat.le_of_ble_eq_true rfl)⟩ (Nat.le_of_ble_eq_true rfl) rfl (fun v8 V7 h => ?_)
      refine r_ialoads (pc := 72) h dX9_shape_72 (ok9_16 ha0).2 (fun h => ?_)
      refine r_isub (pc := 73) dX9_shape_73 ?_
      exact r_irets (pc := 74) h rfl dX9_shape_74
    refine sj_if h (fun c2 h => ?_) (fun c2 h => ?_)
    · refine r_tcase (pc := 10) (tgt := 75) (j := 2) hr c2 dX9_shape_10 (by decide) (by decide) rfl (by decide) ?_
      refine r_aload_n (pc := 75) dX9_shape_75 rfl rfl ?_
      refine r_callVs (pc := 76) (fun v => some (sj_i v)) (As := []) (rest := []) (b := a0) (ok9 ha0) h dX9_shape_76 mw_X9_310 vw_X9_deepest (fun _ _ hc => cg_X9_deepest ha0 hc) rfl ⟨(Nat.le_of_ble_eq_true rfl), (Nat.le_of_ble_eq_true rfl)⟩ (Nat.le_of_ble_eq_true rfl) rfl (fun v10 V9 h => ?_)
      exact r_irets (pc := 79) h rfl dX9_shape_79
    refine sj_if h (fun c3 h => ?_) (fun c3 h => ?_)
    · refine r_tcase (pc := 10) (tgt := 80) (j := 3) hr c3 dX9_shape_10 (by decide) (by decide) rfl (by decide) ?_
      refine r_aload_n (pc := 80) dX9_shape_80 rfl rfl ?_
      refine r_callVs (pc := 81) (fun v => some (sj_i v)) (As := []) (rest := []) (b := a0) (ok9 ha0) h dX9_shape_81 mw_X9_313 vw_X9_leastBase (fun _ _ hc => cg_X9_leastBase ha0 hc) rfl ⟨(Nat.le_of_ble_eq_true rfl), (Nat.le_of_ble_eq_true rfl)⟩ (Nat.le_of_ble_eq_true rfl) rfl (fun v12 V11 h => ?_)
      exact r_irets (pc := 84) h rfl dX9_shape_84
    refine sj_if h (fun c4 h => ?_) (fun c4 h => ?_)
    · refine r_tcase (pc := 10) (tgt := 85) (j := 4) hr c4 dX9_shape_10 (by decide) (by decide) rfl (by decide) ?_
      refine r_aload_n (pc := 85) dX9_shape_85 rfl rfl ?_
      refine r_iconst (pc := 86) dX9_shape_86 ?_
      refine r_callVs (pc := 87) (fun v => some (sj_i v)) (As := [sj_i 0]) (rest := []) (b := a0) (ok9 ha0) h dX9_shape_87 mw_X9_316 vw_X9_slicesOf (fun _ _ hc => cg_X9_slicesOf ha0 hc) rfl ⟨(Nat.le_of_ble_eq_true rfl), (Nat.le_of_ble_eq_true rfl)⟩ (Nat.le_of_ble_eq_true rfl) rfl (fun v14 V13 h => ?_)
      exact r_irets (pc := 90) h rfl dX9_shape_90
    refine sj_if h (fun c5 h => ?_) (fun c5 h => ?_)
    · refine r_tcase (pc := 10) (tgt := 91) (j := 5) hr c5 dX9_shape_10 (by decide) (by decide) rfl (by decide) ?_
      refine r_aload_n (pc := 91) dX9_shape_91 rfl rfl ?_
      refine r_iconst (pc := 92) dX9_shape_92 ?_
      refine r_callVs (pc := 93) (fun v => some (sj_i v)) (As := [sj_i 1]) (rest := []) (b := a0) (ok9 ha0) h dX9_shape_93 mw_X9_316 vw_X9_slicesOf (fun _ _ hc => cg_X9_slicesOf ha0 hc) rfl ⟨(Nat.le_of_ble_eq_true rfl), (Nat.le_of_ble_eq_true rfl)⟩ (Nat.le_of_ble_eq_true rfl) rfl (fun v16 V15 h => ?_)
      exact r_irets (pc := 96) h rfl dX9_shape_96
    refine r_tdflt (pc := 10) (tgt := 97) hr dX9_shape_10 (by omega) (by decide) ?_
    refine r_iconst (pc := 97) dX9_shape_97 ?_
    exact r_irets (pc := 98) h rfl dX9_shape_98
set_option maxHeartbeats 4000000 in
theorem cg_X9_shape {X : sj_X} {g : sj_G} {N : Nat} {a0 : Nat} {x1 : Int} {V : sj_VV} {q : Int × sj_VV} (ha0 : OK9 g a0) (h : g_X9_shape N a0 x1 V = some q) : sj_C X m_X9_shape [sj_r (some a0), sj_i x1] (g, V) (some (sj_i q.1), (g, q.2)) :=
  sj_C_of (by decide +kernel) (Nat.le_of_ble_eq_true rfl) (lo := [some (sj_r (some a0)), some (sj_i x1)]) rfl (sj_weak (l2 := [some (sj_r (some a0)), some (sj_i x1)]) (⟨rfl, ⟨rfl, trivial⟩⟩) (st_X9_shape_0 a0 x1 V ha0 h))
set_option maxHeartbeats 4000000 in
theorem c_X9_shape {X : sj_X} {N : Nat} {a0 : Nat} {x1 : Int} {s : sj_Mem} {q : Int × sj_Mem} (h : f_X9_shape N a0 x1 s = some q) : sj_C X m_X9_shape [sj_r (some a0), sj_i x1] s (some (sj_i q.1), q.2) := by
  obtain ⟨g, V⟩ := s
  unfold f_X9_shape at h
  obtain ⟨ho, h1⟩ := e_ok_some h
  obtain ⟨q2, h2, rfl⟩ := sj_map_some h1
  exact cg_X9_shape ho h2
theorem dX9_berm_0 : decode cX9_berm 0 = .ok (.aload_n 0, 1) := by decide +kernel
theorem dX9_berm_1 : decode cX9_berm 1 = .ok (.iload_n 1, 1) := by decide +kernel
theorem dX9_berm_2 : decode cX9_berm 2 = .ok (.invokevirtual 74, 3) := by decide +kernel
theorem dX9_berm_5 : decode cX9_berm 5 = .ok (.ifCond .eq 30, 3) := by decide +kernel
theorem dX9_berm_8 : decode cX9_berm 8 = .ok (.aload_n 0, 1) := by decide +kernel
theorem dX9_berm_9 : decode cX9_berm 9 = .ok (.iload_n 2, 1) := by decide +kernel
theorem dX9_berm_10 : decode cX9_berm 10 = .ok (.invokevirtual 74, 3) := by decide +kernel
theorem dX9_berm_13 : decode cX9_berm 13 = .ok (.ifCond .eq 22, 3) := by decide +kernel
theorem dX9_berm_16 : decode cX9_berm 16 = .ok (.iload_n 1, 1) := by decide +kernel
theorem dX9_berm_17 : decode cX9_berm 17 = .ok (.iload_n 2, 1) := by decide +kernel
theorem dX9_berm_18 : decode cX9_berm 18 = .ok (.if_icmp .gt 17, 3) := by decide +kernel
theorem dX9_berm_21 : decode cX9_berm 21 = .ok (.iload_n 3, 1) := by decide +kernel
theorem dX9_berm_22 : decode cX9_berm 22 = .ok (.invokestatic 287, 3) := by decide +kernel
theorem dX9_berm_25 : decode cX9_berm 25 = .ok (.ifCond .eq 10, 3) := by decide +kernel
theorem dX9_berm_28 : decode cX9_berm 28 = .ok (.aload_n 0, 1) := by decide +kernel
theorem dX9_berm_29 : decode cX9_berm 29 = .ok (.invokevirtual 277, 3) := by decide +kernel
theorem dX9_berm_32 : decode cX9_berm 32 = .ok (.ifCond .ne 5, 3) := by decide +kernel
theorem dX9_berm_35 : decode cX9_berm 35 = .ok (.iconst (-1), 1) := by decide +kernel
theorem dX9_berm_36 : decode cX9_berm 36 = .ok (.ireturn, 1) := by decide +kernel
theorem dX9_berm_37 : decode cX9_berm 37 = .ok (.aload_n 0, 1) := by decide +kernel
theorem dX9_berm_38 : decode cX9_berm 38 = .ok (.invokevirtual 301, 3) := by decide +kernel
theorem dX9_berm_41 : decode cX9_berm 41 = .ok (.iconst 0, 1) := by decide +kernel
theorem dX9_berm_42 : decode cX9_berm 42 = .ok (.istore 4, 2) := by decide +kernel
theorem dX9_berm_44 : decode cX9_berm 44 = .ok (.iload 4, 2) := by decide +kernel
theorem dX9_berm_46 : decode cX9_berm 46 = .ok (.sipush 500, 3) := by decide +kernel
theorem dX9_berm_49 : decode cX9_berm 49 = .ok (.if_icmp .gt 55, 3) := by decide +kernel
theorem dX9_berm_52 : decode cX9_berm 52 = .ok (.aload_n 0, 1) := by decide +kernel
theorem dX9_berm_53 : decode cX9_berm 53 = .ok (.iload_n 3, 1) := by decide +kernel
theorem dX9_berm_54 : decode cX9_berm 54 = .ok (.invokevirtual 183, 3) := by decide +kernel
theorem dX9_berm_57 : decode cX9_berm 57 = .ok (.ifCond .ne 47, 3) := by decide +kernel
theorem dX9_berm_60 : decode cX9_berm 60 = .ok (.iinc 4 1, 3) := by decide +kernel
theorem dX9_berm_63 : decode cX9_berm 63 = .ok (.iload_n 1, 1) := by decide +kernel
theorem dX9_berm_64 : decode cX9_berm 64 = .ok (.istore 5, 2) := by decide +kernel
theorem dX9_berm_66 : decode cX9_berm 66 = .ok (.iload 5, 2) := by decide +kernel
theorem dX9_berm_68 : decode cX9_berm 68 = .ok (.iload_n 2, 1) := by decide +kernel
theorem dX9_berm_69 : decode cX9_berm 69 = .ok (.if_icmp .gt 32, 3) := by decide +kernel
theorem dX9_berm_72 : decode cX9_berm 72 = .ok (.aload_n 0, 1) := by decide +kernel
theorem dX9_berm_73 : decode cX9_berm 73 = .ok (.getfield 9, 3) := by decide +kernel
theorem dX9_berm_76 : decode cX9_berm 76 = .ok (.bipush 126, 2) := by decide +kernel
theorem dX9_berm_78 : decode cX9_berm 78 = .ok (.iload 5, 2) := by decide +kernel
theorem dX9_berm_80 : decode cX9_berm 80 = .ok (.iadd, 1) := by decide +kernel
theorem dX9_berm_81 : decode cX9_berm 81 = .ok (.aload_n 0, 1) := by decide +kernel
theorem dX9_berm_82 : decode cX9_berm 82 = .ok (.getfield 13, 3) := by decide +kernel
theorem dX9_berm_85 : decode cX9_berm 85 = .ok (.bipush 126, 2) := by decide +kernel
theorem dX9_berm_87 : decode cX9_berm 87 = .ok (.iload 5, 2) := by decide +kernel
theorem dX9_berm_89 : decode cX9_berm 89 = .ok (.iadd, 1) := by decide +kernel
theorem dX9_berm_90 : decode cX9_berm 90 = .ok (.iaload, 1) := by decide +kernel
theorem dX9_berm_91 : decode cX9_berm 91 = .ok (.iload 4, 2) := by decide +kernel
theorem dX9_berm_93 : decode cX9_berm 93 = .ok (.iadd, 1) := by decide +kernel
theorem dX9_berm_94 : decode cX9_berm 94 = .ok (.iastore, 1) := by decide +kernel
theorem dX9_berm_95 : decode cX9_berm 95 = .ok (.iinc 5 1, 3) := by decide +kernel
theorem dX9_berm_98 : decode cX9_berm 98 = .ok (.goto (-32), 3) := by decide +kernel
theorem dX9_berm_101 : decode cX9_berm 101 = .ok (.goto (-57), 3) := by decide +kernel
theorem dX9_berm_104 : decode cX9_berm 104 = .ok (.aload_n 0, 1) := by decide +kernel
theorem dX9_berm_105 : decode cX9_berm 105 = .ok (.invokevirtual 304, 3) := by decide +kernel
theorem dX9_berm_108 : decode cX9_berm 108 = .ok (.iload 4, 2) := by decide +kernel
theorem dX9_berm_110 : decode cX9_berm 110 = .ok (.sipush 500, 3) := by decide +kernel
theorem dX9_berm_113 : decode cX9_berm 113 = .ok (.if_icmp .le 7, 3) := by decide +kernel
theorem dX9_berm_116 : decode cX9_berm 116 = .ok (.iconst (-1), 1) := by decide +kernel
theorem dX9_berm_117 : decode cX9_berm 117 = .ok (.goto 5, 3) := by decide +kernel
theorem dX9_berm_120 : decode cX9_berm 120 = .ok (.iload 4, 2) := by decide +kernel
theorem dX9_berm_122 : decode cX9_berm 122 = .ok (.ireturn, 1) := by decide +kernel
set_option maxHeartbeats 4000000 in
theorem st_X9_berm_66_b {X : sj_X} {g : sj_G} {s0 : sj_Mem} {N : Nat} {q : Int × sj_VV} {k44 : Nat → Int → Int → Int → Int → sj_VV → Option (Int × sj_VV)} {k66 : Nat → Int → Int → Int → Int → Int → sj_VV → Option (Int × sj_VV)} (hk44 : ∀ (a0 : Nat) (x1 : Int) (x2 : Int) (x3 : Int) (x4 : Int) (V : sj_VV), OK9 g a0 → k44 a0 x1 x2 x3 x4 V = some q → sj_T X m_X9_berm s0 (some (sj_i q.1), (g, q.2)) 44 [some (sj_r (some a0)), some (sj_i x1), some (sj_i x2), some (sj_i x3), some (sj_i x4), none] [] (g, V)) (hk66 : ∀ (a0 : Nat) (x1 : Int) (x2 : Int) (x3 : Int) (x4 : Int) (x5 : Int) (V : sj_VV), OK9 g a0 → k66 a0 x1 x2 x3 x4 x5 V = some q → sj_T X m_X9_berm s0 (some (sj_i q.1), (g, q.2)) 66 [some (sj_r (some a0)), some (sj_i x1), some (sj_i x2), some (sj_i x3), some (sj_i x4), some (sj_i x5)] [] (g, V)) :
    ∀ (a0 : Nat) (x1 : Int) (x2 : Int) (x3 : Int) (x4 : Int) (x5 : Int) (V : sj_VV), OK9 g a0 → g_X9_berm_66_b N k44 k66 a0 x1 x2 x3 x4 x5 V = some q → sj_T X m_X9_berm s0 (some (sj_i q.1), (g, q.2)) 66 [some (sj_r (some a0)), some (sj_i x1), some (sj_i x2), some (sj_i x3), some (sj_i x4), some (sj_i x5)] [] (g, V) := by
  intro a0 x1 x2 x3 x4 x5 V ha0 h
  unfold g_X9_berm_66_b at h
  refine r_iload (pc := 66) dX9_berm_66 rfl ?_
  refine r_iload_n (pc := 68) dX9_berm_68 rfl rfl ?_
  refine r_icmp_gt (pc := 69) (tgt := 101) h dX9_berm_69 (by decide) (fun h => ?_) (fun h => ?_)
  · refine r_goto (pc := 101) (tgt := 44) dX9_berm_101 (by decide) ?_
    exact sj_weak (l2 := [some (sj_r (some a0)), some (sj_i x1), some (sj_i x2), some (sj_i x3), some (sj_i x4), none]) (⟨rfl, ⟨rfl, ⟨rfl, ⟨rfl, ⟨rfl, trivial⟩⟩⟩⟩⟩) (hk44 a0 x1 x2 x3 x4 V ha0 h)
  · refine r_aload_n (pc := 72) dX9_berm_72 rfl rfl ?_
    refine r_gRs (b := a0 + 1) (pc := 73) dX9_berm_73 fw_X9_9 rfl (ok9 ha0) (ok9_0 ha0).1 ?_
    refine r_bipush (pc := 76) dX9_berm_76 ⟨by decide, by decide⟩ ?_
    refine r_iload (pc := 78) dX9_berm_78 rfl ?_
    refine r_iadd (pc := 80) dX9_berm_80 ?_
    refine r_aload_n (pc := 81) dX9_berm_81 rfl rfl ?_
    refine r_gRs (b := a0 + 2) (pc := 82) dX9_berm_82 fw_X9_13 rfl (ok9 ha0) (ok9_1 ha0).1 ?_
    refine r_bipush (pc := 85) dX9_berm_85 ⟨by decide, by decide⟩ ?_
    refine r_iload (pc := 87) dX9_berm_87 rfl ?_
    refine r_iadd (pc := 89) dX9_berm_89 ?_
    refine r_ialoads (pc := 90) h dX9_berm_90 (ok9_1 ha0).2 (fun h => ?_)
    refine r_iload (pc := 91) dX9_berm_91 rfl ?_
    refine r_iadd (pc := 93) dX9_berm_93 ?_
    refine r_iastores (pc := 94) h dX9_berm_94 (ok9_0 ha0).2 (fun V1 h => ?_)
    refine r_iinc (ln := fun w => [some (sj_r (some a0)), some (sj_i x1), some (sj_i x2), some (sj_i x3), some (sj_i x4), some (sj_i w)]) (pc := 95) h dX9_berm_95 rfl (Nat.le_of_ble_eq_true rfl) (fun _ => rfl) (fun v2 h => ?_)
    refine r_goto (pc := 98) (tgt := 66) dX9_berm_98 (by decide) ?_
    exact sj_weak (l2 := [some (sj_r (some a0)), some (sj_i x1), some (sj_i x2), some (sj_i x3), some (sj_i x4), some (sj_i v2)]) (⟨rfl, ⟨rfl, ⟨rfl, ⟨rfl, ⟨rfl, ⟨rfl, trivial⟩⟩⟩⟩⟩⟩) (hk66 a0 x1 x2 x3 x4 v2 V1 ha0 h)
set_option maxHeartbeats 4000000 in
theorem st_X9_berm_66 {X : sj_X} {g : sj_G} {s0 : sj_Mem} {N : Nat} {q : Int × sj_VV} {k44 : Nat → Int → Int → Int → Int → sj_VV → Option (Int × sj_VV)} (hk44 : ∀ (a0 : Nat) (x1 : Int) (x2 : Int) (x3 : Int) (x4 : Int) (V : sj_VV), OK9 g a0 → k44 a0 x1 x2 x3 x4 V = some q → sj_T X m_X9_berm s0 (some (sj_i q.1), (g, q.2)) 44 [some (sj_r (some a0)), some (sj_i x1), some (sj_i x2), some (sj_i x3), some (sj_i x4), none] [] (g, V)) :
    ∀ (n : Nat) (a0 : Nat) (x1 : Int) (x2 : Int) (x3 : Int) (x4 : Int) (x5 : Int) (V : sj_VV), OK9 g a0 → g_X9_berm_66 N k44 n a0 x1 x2 x3 x4 x5 V = some q → sj_T X m_X9_berm s0 (some (sj_i q.1), (g, q.2)) 66 [some (sj_r (some a0)), some (sj_i x1), some (sj_i x2), some (sj_i x3), some (sj_i x4), some (sj_i x5)] [] (g, V) := by
  intro n
  induction n with
  | zero => intro a0 x1 x2 x3 x4 x5 V ha0 h; exact nomatch h
  | succ n ih => intro a0 x1 x2 x3 x4 x5 V ha0 h; exact st_X9_berm_66_b (N := N) hk44 ih a0 x1 x2 x3 x4 x5 V ha0 h
set_option maxHeartbeats 4000000 in
theorem st_X9_berm_104 {X : sj_X} {g : sj_G} {s0 : sj_Mem} {N : Nat} {q : Int × sj_VV} :
    ∀ (a0 : Nat) (x4 : Int) (V : sj_VV), OK9 g a0 → g_X9_berm_104 N a0 x4 V = some q → sj_T X m_X9_berm s0 (some (sj_i q.1), (g, q.2)) 104 [some (sj_r (some a0)), none, none, none, some (sj_i x4), none] [] (g, V) := by
  intro a0 x4 V ha0 h
  unfold g_X9_berm_104 at h
  refine r_aload_n (pc := 104) dX9_berm_104 rfl rfl ?_
  refine r_callVs (pc := 105) (fun _ => none) (As := []) (rest := []) (b := a0) (ok9 ha0) h dX9_berm_105 mw_X9_304 vw_X9_comesBack (fun _ _ hc => cg_X9_comesBack ha0 hc) rfl ⟨(Nat.le_of_ble_eq_true rfl), (Nat.le_of_ble_eq_true rfl)⟩ (Nat.le_of_ble_eq_true rfl) rfl (fun _u V1 h => ?_)
  refine r_iload (pc := 108) dX9_berm_108 rfl ?_
  refine r_sipush (pc := 110) dX9_berm_110 ⟨by decide, by decide⟩ ?_
  refine r_icmp_le (pc := 113) (tgt := 120) h dX9_berm_113 (by decide) (fun h => ?_) (fun h => ?_)
  · refine r_iload (pc := 120) dX9_berm_120 rfl ?_
    exact r_irets (pc := 122) h rfl dX9_berm_122
  · refine r_iconst (pc := 116) dX9_berm_116 ?_
    refine r_goto (pc := 117) (tgt := 122) dX9_berm_117 (by decide) ?_
    exact r_irets (pc := 122) h rfl dX9_berm_122
set_option maxHeartbeats 4000000 in
theorem st_X9_berm_44_b {X : sj_X} {g : sj_G} {s0 : sj_Mem} {N : Nat} {q : Int × sj_VV} {k44 : Nat → Int → Int → Int → Int → sj_VV → Option (Int × sj_VV)} (hk44 : ∀ (a0 : Nat) (x1 : Int) (x2 : Int) (x3 : Int) (x4 : Int) (V : sj_VV), OK9 g a0 → k44 a0 x1 x2 x3 x4 V = some q → sj_T X m_X9_berm s0 (some (sj_i q.1), (g, q.2)) 44 [some (sj_r (some a0)), some (sj_i x1), some (sj_i x2), some (sj_i x3), some (sj_i x4), none] [] (g, V)) :
    ∀ (a0 : Nat) (x1 : Int) (x2 : Int) (x3 : Int) (x4 : Int) (V : sj_VV), OK9 g a0 → g_X9_berm_44_b N k44 a0 x1 x2 x3 x4 V = some q → sj_T X m_X9_berm s0 (some (sj_i q.1), (g, q.2)) 44 [some (sj_r (some a0)), some (sj_i x1), some (sj_i x2), some (sj_i x3), some (sj_i x4), none] [] (g, V) := by
  intro a0 x1 x2 x3 x4 V ha0 h
  unfold g_X9_berm_44_b at h
  refine r_iload (pc := 44) dX9_berm_44 rfl ?_
  refine r_sipush (pc := 46) dX9_berm_46 ⟨by decide, by decide⟩ ?_
  refine r_icmp_gt (pc := 49) (tgt := 104) h dX9_berm_49 (by decide) (fun h => ?_) (fun h => ?_)
  · exact sj_weak (l2 := [some (sj_r (some a0)), none, none, none, some (sj_i x4), none]) (⟨rfl, ⟨rfl, trivial⟩⟩) (st_X9_berm_104 a0 x4 V ha0 h)
  · refine r_aload_n (pc := 52) dX9_berm_52 rfl rfl ?_
    refine r_iload_n (pc := 53) dX9_berm_53 rfl rfl ?_
    refine r_callVs (pc := 54) (fun v => some (sj_i v)) (As := [sj_i x3]) (rest := []) (b := a0) (ok9 ha0) h dX9_berm_54 mw_X9_183 vw_X9_isStanding (fun _ _ hc => cg_X9_isStanding ha0 hc) rfl ⟨(Nat.le_of_ble_eq_true rfl), (Nat.le_of_ble_eq_true rfl)⟩ (Nat.le_of_ble_eq_true rfl) rfl (fun v2 V1 h => ?_)
    refine r_if_ne (pc := 57) (tgt := 104) h dX9_berm_57 (by decide) (fun h => ?_) (fun h => ?_)
    · refine r_iinc (ln := fun w => [some (sj_r (some a0)), some (sj_i x1), some (sj_i x2), some (sj_i x3), some (sj_i w), none]) (pc := 60) h dX9_berm_60 rfl (Nat.le_of_ble_eq_true rfl) (fun _ => rfl) (fun v3 h => ?_)
      refine r_iload_n (pc := 63) dX9_berm_63 rfl rfl ?_
      refine r_istore (ln := [some (sj_r (some a0)), some (sj_i x1), some (sj_i x2), some (sj_i x3), some (sj_i v3), some (sj_i x1)]) (pc := 64) dX9_berm_64 (Nat.le_of_ble_eq_true rfl) rfl ?_
      exact sj_weak (l2 := [some (sj_r (some a0)), some (sj_i x1), some (sj_i x2), some (sj_i x3), some (sj_i v3), some (sj_i x1)]) (⟨rfl, ⟨rfl, ⟨rfl, ⟨rfl, ⟨rfl, ⟨rfl, trivial⟩⟩⟩⟩⟩⟩) (st_X9_berm_66 hk44 N a0 x1 x2 x3 v3 x1 V1 ha0 h)
    · exact sj_weak (l2 := [some (sj_r (some a0)), none, none, none, some (sj_i x4), none]) (⟨rfl, ⟨rfl, trivial⟩⟩) (st_X9_berm_104 a0 x4 V1 ha0 h)
set_option maxHeartbeats 4000000 in
theorem st_X9_berm_44 {X : sj_X} {g : sj_G} {s0 : sj_Mem} {N : Nat} {q : Int × sj_VV} :
    ∀ (n : Nat) (a0 : Nat) (x1 : Int) (x2 : Int) (x3 : Int) (x4 : Int) (V : sj_VV), OK9 g a0 → g_X9_berm_44 N n a0 x1 x2 x3 x4 V = some q → sj_T X m_X9_berm s0 (some (sj_i q.1), (g, q.2)) 44 [some (sj_r (some a0)), some (sj_i x1), some (sj_i x2), some (sj_i x3), some (sj_i x4), none] [] (g, V) := by
  intro n
  induction n with
  | zero => intro a0 x1 x2 x3 x4 V ha0 h; exact nomatch h
  | succ n ih => intro a0 x1 x2 x3 x4 V ha0 h; exact st_X9_berm_44_b (N := N) ih a0 x1 x2 x3 x4 V ha0 h
set_option maxHeartbeats 4000000 in
theorem st_X9_berm_0 {X : sj_X} {g : sj_G} {s0 : sj_Mem} {N : Nat} {q : Int × sj_VV} :
    ∀ (a0 : Nat) (x1 : Int) (x2 : Int) (x3 : Int) (V : sj_VV), OK9 g a0 → g_X9_berm N a0 x1 x2 x3 V = some q → sj_T X m_X9_berm s0 (some (sj_i q.1), (g, q.2)) 0 [some (sj_r (some a0)), some (sj_i x1), some (sj_i x2), some (sj_i x3), none, none] [] (g, V) := by
  intro a0 x1 x2 x3 V ha0 h
  unfold g_X9_berm at h
  refine r_aload_n (pc := 0) dX9_berm_0 rfl rfl ?_
  refine r_iload_n (pc := 1) dX9_berm_1 rfl rfl ?_
  refine r_callVs (pc := 2) (fun v => some (sj_i v)) (As := [sj_i x1]) (rest := []) (b := a0) (ok9 ha0) h dX9_berm_2 mw_X9_74 vw_X9_isColumn (fun _ _ hc => cg_X9_isColumn ha0 hc) rfl ⟨(Nat.le_of_ble_eq_true rfl), (Nat.le_of_ble_eq_true rfl)⟩ (Nat.le_of_ble_eq_true rfl) rfl (fun v2 V1 h => ?_)
  refine r_if_eq (pc := 5) (tgt := 35) h dX9_berm_5 (by decide) (fun h => ?_) (fun h => ?_)
  · refine r_iconst (pc := 35) dX9_berm_35 ?_
    exact r_irets (pc := 36) h rfl dX9_berm_36
  · refine r_aload_n (pc := 8) dX9_berm_8 rfl rfl ?_
    refine r_iload_n (pc := 9) dX9_berm_9 rfl rfl ?_
    refine r_callVs (pc := 10) (fun v => some (sj_i v)) (As := [sj_i x2]) (rest := []) (b := a0) (ok9 ha0) h dX9_berm_10 mw_X9_74 vw_X9_isColumn (fun _ _ hc => cg_X9_isColumn ha0 hc) rfl ⟨(Nat.le_of_ble_eq_true rfl), (Nat.le_of_ble_eq_true rfl)⟩ (Nat.le_of_ble_eq_true rfl) rfl (fun v4 V3 h => ?_)
    refine r_if_eq (pc := 13) (tgt := 35) h dX9_berm_13 (by decide) (fun h => ?_) (fun h => ?_)
    · refine r_iconst (pc := 35) dX9_berm_35 ?_
      exact r_irets (pc := 36) h rfl dX9_berm_36
    · refine r_iload_n (pc := 16) dX9_berm_16 rfl rfl ?_
      refine r_iload_n (pc := 17) dX9_berm_17 rfl rfl ?_
      refine r_icmp_gt (pc := 18) (tgt := 35) h dX9_berm_18 (by decide) (fun h => ?_) (fun h => ?_)
      · refine r_iconst (pc := 35) dX9_berm_35 ?_
        exact r_irets (pc := 36) h rfl dX9_berm_36
      · refine r_iload_n (pc := 21) dX9_berm_21 rfl rfl ?_
        refine r_callSs (pc := 22) (fun v => some (sj_i v)) (As := [sj_i x3]) (rest := []) h dX9_berm_22 mw_X9_287 kw_1446 (fun _ _ hc => cg_X9_isK  hc) rfl ⟨(Nat.le_of_ble_eq_true rfl), (Nat.le_of_ble_eq_true rfl)⟩ (Nat.le_of_ble_eq_true rfl) rfl (fun v6 V5 h => ?_)
        refine r_if_eq (pc := 25) (tgt := 35) h dX9_berm_25 (by decide) (fun h => ?_) (fun h => ?_)
        · refine r_iconst (pc := 35) dX9_berm_35 ?_
          exact r_irets (pc := 36) h rfl dX9_berm_36
        · refine r_aload_n (pc := 28) dX9_berm_28 rfl rfl ?_
          refine r_callVs (pc := 29) (fun v => some (sj_i v)) (As := []) (rest := []) (b := a0) (ok9 ha0) h dX9_berm_29 mw_X9_277 vw_X9_takesSlip (fun _ _ hc => cg_X9_takesSlip ha0 hc) rfl ⟨(Nat.le_of_ble_eq_true rfl), (Nat.le_of_ble_eq_true rfl)⟩ (Nat.le_of_ble_eq_true rfl) rfl (fun v8 V7 h => ?_)
          refine r_if_ne (pc := 32) (tgt := 37) h dX9_berm_32 (by decide) (fun h => ?_) (fun h => ?_)
          · refine r_iconst (pc := 35) dX9_berm_35 ?_
            exact r_irets (pc := 36) h rfl dX9_berm_36
          · refine r_aload_n (pc := 37) dX9_berm_37 rfl rfl ?_
            refine r_callVs (pc := 38) (fun _ => none) (As := []) (rest := []) (b := a0) (ok9 ha0) h dX9_berm_38 mw_X9_301 vw_X9_laysAside (fun _ _ hc => cg_X9_laysAside ha0 hc) rfl ⟨(Nat.le_of_ble_eq_true rfl), (Nat.le_of_ble_eq_true rfl)⟩ (Nat.le_of_ble_eq_true rfl) rfl (fun _u V9 h => ?_)
            refine r_iconst (pc := 41) dX9_berm_41 ?_
            refine r_istore (ln := [some (sj_r (some a0)), some (sj_i x1), some (sj_i x2), some (sj_i x3), some (sj_i 0), none]) (pc := 42) dX9_berm_42 (Nat.le_of_ble_eq_true rfl) rfl ?_
            exact sj_weak (l2 := [some (sj_r (some a0)), some (sj_i x1), some (sj_i x2), some (sj_i x3), some (sj_i 0), none]) (⟨rfl, ⟨rfl, ⟨rfl, ⟨rfl, ⟨rfl, trivial⟩⟩⟩⟩⟩) (st_X9_berm_44 N a0 x1 x2 x3 0 V9 ha0 h)
set_option maxHeartbeats 4000000 in
theorem cg_X9_berm {X : sj_X} {g : sj_G} {N : Nat} {a0 : Nat} {x1 : Int} {x2 : Int} {x3 : Int} {V : sj_VV} {q : Int × sj_VV} (ha0 : OK9 g a0) (h : g_X9_berm N a0 x1 x2 x3 V = some q) : sj_C X m_X9_berm [sj_r (some a0), sj_i x1, sj_i x2, sj_i x3] (g, V) (some (sj_i q.1), (g, q.2)) :=
  sj_C_of (by decide +kernel) (Nat.le_of_ble_eq_true rfl) (lo := [some (sj_r (some a0)), some (sj_i x1), some (sj_i x2), some (sj_i x3), none, none]) rfl (sj_weak (l2 := [some (sj_r (some a0)), some (sj_i x1), some (sj_i x2), some (sj_i x3), none, none]) (⟨rfl, ⟨rfl, ⟨rfl, ⟨rfl, trivial⟩⟩⟩⟩) (st_X9_berm_0 a0 x1 x2 x3 V ha0 h))
set_option maxHeartbeats 4000000 in
theorem c_X9_berm {X : sj_X} {N : Nat} {a0 : Nat} {x1 : Int} {x2 : Int} {x3 : Int} {s : sj_Mem} {q : Int × sj_Mem} (h : f_X9_berm N a0 x1 x2 x3 s = some q) : sj_C X m_X9_berm [sj_r (some a0), sj_i x1, sj_i x2, sj_i x3] s (some (sj_i q.1), q.2) := by
  obtain ⟨g, V⟩ := s
  unfold f_X9_berm at h
  obtain ⟨ho, h1⟩ := e_ok_some h
  obtain ⟨q2, h2, rfl⟩ := sj_map_some h1
  exact cg_X9_berm ho h2
theorem dX9_remembers_0 : decode cX9_remembers 0 = .ok (.aload_n 0, 1) := by decide +kernel
theorem dX9_remembers_1 : decode cX9_remembers 1 = .ok (.getfield 61, 3) := by decide +kernel
theorem dX9_remembers_4 : decode cX9_remembers 4 = .ok (.bipush 8, 2) := by decide +kernel
theorem dX9_remembers_6 : decode cX9_remembers 6 = .ok (.if_icmp .ne 46, 3) := by decide +kernel
theorem dX9_remembers_9 : decode cX9_remembers 9 = .ok (.sipush 364, 3) := by decide +kernel
theorem dX9_remembers_12 : decode cX9_remembers 12 = .ok (.istore_n 2, 1) := by decide +kernel
theorem dX9_remembers_13 : decode cX9_remembers 13 = .ok (.iload_n 2, 1) := by decide +kernel
theorem dX9_remembers_14 : decode cX9_remembers 14 = .ok (.sipush 2912, 3) := by decide +kernel
theorem dX9_remembers_17 : decode cX9_remembers 17 = .ok (.if_icmp .ge 25, 3) := by decide +kernel
theorem dX9_remembers_20 : decode cX9_remembers 20 = .ok (.aload_n 0, 1) := by decide +kernel
theorem dX9_remembers_21 : decode cX9_remembers 21 = .ok (.getfield 19, 3) := by decide +kernel
theorem dX9_remembers_24 : decode cX9_remembers 24 = .ok (.iload_n 2, 1) := by decide +kernel
theorem dX9_remembers_25 : decode cX9_remembers 25 = .ok (.sipush 364, 3) := by decide +kernel
theorem dX9_remembers_28 : decode cX9_remembers 28 = .ok (.isub, 1) := by decide +kernel
theorem dX9_remembers_29 : decode cX9_remembers 29 = .ok (.aload_n 0, 1) := by decide +kernel
theorem dX9_remembers_30 : decode cX9_remembers 30 = .ok (.getfield 19, 3) := by decide +kernel
theorem dX9_remembers_33 : decode cX9_remembers 33 = .ok (.iload_n 2, 1) := by decide +kernel
theorem dX9_remembers_34 : decode cX9_remembers 34 = .ok (.iaload, 1) := by decide +kernel
theorem dX9_remembers_35 : decode cX9_remembers 35 = .ok (.iastore, 1) := by decide +kernel
theorem dX9_remembers_36 : decode cX9_remembers 36 = .ok (.iinc 2 1, 3) := by decide +kernel
theorem dX9_remembers_39 : decode cX9_remembers 39 = .ok (.goto (-26), 3) := by decide +kernel
theorem dX9_remembers_42 : decode cX9_remembers 42 = .ok (.aload_n 0, 1) := by decide +kernel
theorem dX9_remembers_43 : decode cX9_remembers 43 = .ok (.dup, 1) := by decide +kernel
theorem dX9_remembers_44 : decode cX9_remembers 44 = .ok (.getfield 61, 3) := by decide +kernel
theorem dX9_remembers_47 : decode cX9_remembers 47 = .ok (.iconst 1, 1) := by decide +kernel
theorem dX9_remembers_48 : decode cX9_remembers 48 = .ok (.isub, 1) := by decide +kernel
theorem dX9_remembers_49 : decode cX9_remembers 49 = .ok (.putfield 61, 3) := by decide +kernel
theorem dX9_remembers_52 : decode cX9_remembers 52 = .ok (.iconst 0, 1) := by decide +kernel
theorem dX9_remembers_53 : decode cX9_remembers 53 = .ok (.istore_n 2, 1) := by decide +kernel
theorem dX9_remembers_54 : decode cX9_remembers 54 = .ok (.iload_n 2, 1) := by decide +kernel
theorem dX9_remembers_55 : decode cX9_remembers 55 = .ok (.sipush 364, 3) := by decide +kernel
theorem dX9_remembers_58 : decode cX9_remembers 58 = .ok (.if_icmp .ge 27, 3) := by decide +kernel
theorem dX9_remembers_61 : decode cX9_remembers 61 = .ok (.aload_n 0, 1) := by decide +kernel
theorem dX9_remembers_62 : decode cX9_remembers 62 = .ok (.getfield 19, 3) := by decide +kernel
theorem dX9_remembers_65 : decode cX9_remembers 65 = .ok (.sipush 364, 3) := by decide +kernel
theorem dX9_remembers_68 : decode cX9_remembers 68 = .ok (.aload_n 0, 1) := by decide +kernel
theorem dX9_remembers_69 : decode cX9_remembers 69 = .ok (.getfield 61, 3) := by decide +kernel
theorem dX9_remembers_72 : decode cX9_remembers 72 = .ok (.imul, 1) := by decide +kernel
theorem dX9_remembers_73 : decode cX9_remembers 73 = .ok (.iload_n 2, 1) := by decide +kernel
theorem dX9_remembers_74 : decode cX9_remembers 74 = .ok (.iadd, 1) := by decide +kernel
theorem dX9_remembers_75 : decode cX9_remembers 75 = .ok (.aload_n 1, 1) := by decide +kernel
theorem dX9_remembers_76 : decode cX9_remembers 76 = .ok (.iload_n 2, 1) := by decide +kernel
theorem dX9_remembers_77 : decode cX9_remembers 77 = .ok (.iaload, 1) := by decide +kernel
theorem dX9_remembers_78 : decode cX9_remembers 78 = .ok (.iastore, 1) := by decide +kernel
theorem dX9_remembers_79 : decode cX9_remembers 79 = .ok (.iinc 2 1, 3) := by decide +kernel
theorem dX9_remembers_82 : decode cX9_remembers 82 = .ok (.goto (-28), 3) := by decide +kernel
theorem dX9_remembers_85 : decode cX9_remembers 85 = .ok (.aload_n 0, 1) := by decide +kernel
theorem dX9_remembers_86 : decode cX9_remembers 86 = .ok (.dup, 1) := by decide +kernel
theorem dX9_remembers_87 : decode cX9_remembers 87 = .ok (.getfield 61, 3) := by decide +kernel
theorem dX9_remembers_90 : decode cX9_remembers 90 = .ok (.iconst 1, 1) := by decide +kernel
theorem dX9_remembers_91 : decode cX9_remembers 91 = .ok (.iadd, 1) := by decide +kernel
theorem dX9_remembers_92 : decode cX9_remembers 92 = .ok (.putfield 61, 3) := by decide +kernel
theorem dX9_remembers_95 : decode cX9_remembers 95 = .ok (.return_, 1) := by decide +kernel
set_option maxHeartbeats 4000000 in
theorem st_X9_remembers_54_b {X : sj_X} {g : sj_G} {s0 : sj_Mem} {N : Nat} {q : Unit × sj_VV} {k54 : Nat → Nat → Nat → Int → sj_VV → Option (Unit × sj_VV)} (hk54 : ∀ (a0 : Nat) (x1 : Nat) (n1 : Nat) (x2 : Int) (V : sj_VV), OK9 g a0 → OKA g 100 x1 n1 → k54 a0 x1 n1 x2 V = some q → sj_T X m_X9_remembers s0 (none, (g, q.2)) 54 [some (sj_r (some a0)), some (sj_r (some x1)), some (sj_i x2)] [] (g, V)) :
    ∀ (a0 : Nat) (x1 : Nat) (n1 : Nat) (x2 : Int) (V : sj_VV), OK9 g a0 → OKA g 100 x1 n1 → g_X9_remembers_54_b N k54 a0 x1 n1 x2 V = some q → sj_T X m_X9_remembers s0 (none, (g, q.2)) 54 [some (sj_r (some a0)), some (sj_r (some x1)), some (sj_i x2)] [] (g, V) := by
  intro a0 x1 n1 x2 V ha0 hx1 h
  unfold g_X9_remembers_54_b at h
  refine r_iload_n (pc := 54) dX9_remembers_54 rfl rfl ?_
  refine r_sipush (pc := 55) dX9_remembers_55 ⟨by decide, by decide⟩ ?_
  refine r_icmp_ge (pc := 58) (tgt := 85) h dX9_remembers_58 (by decide) (fun h => ?_) (fun h => ?_)
  · refine r_aload_n (pc := 85) dX9_remembers_85 rfl rfl ?_
    refine r_dup (pc := 86) dX9_remembers_86 rfl ?_
    refine r_gIs (pc := 87) dX9_remembers_87 fw_X9_61 rfl (ok9 ha0) ?_
    refine r_iconst (pc := 90) dX9_remembers_90 ?_
    refine r_iadd (pc := 91) dX9_remembers_91 ?_
    refine r_pIs (pc := 92) h dX9_remembers_92 fw_X9_61 rfl rfl (nf9_4) (ok9 ha0) (fun V1 h => ?_)
    exact r_vrets (pc := 95) h rfl dX9_remembers_95
  · refine r_aload_n (pc := 61) dX9_remembers_61 rfl rfl ?_
    refine r_gRs (b := a0 + 4) (pc := 62) dX9_remembers_62 fw_X9_19 rfl (ok9 ha0) (ok9_3 ha0).1 ?_
    refine r_sipush (pc := 65) dX9_remembers_65 ⟨by decide, by decide⟩ ?_
    refine r_aload_n (pc := 68) dX9_remembers_68 rfl rfl ?_
    refine r_gIs (pc := 69) dX9_remembers_69 fw_X9_61 rfl (ok9 ha0) ?_
    refine r_imul (pc := 72) dX9_remembers_72 ?_
    refine r_iload_n (pc := 73) dX9_remembers_73 rfl rfl ?_
    refine r_iadd (pc := 74) dX9_remembers_74 ?_
    refine r_aload_n (pc := 75) dX9_remembers_75 rfl rfl ?_
    refine r_iload_n (pc := 76) dX9_remembers_76 rfl rfl ?_
    refine r_ialoads (pc := 77) h dX9_remembers_77 hx1 (fun h => ?_)
    refine r_iastores (pc := 78) h dX9_remembers_78 (ok9_3 ha0).2 (fun V2 h => ?_)
    refine r_iinc (ln := fun w => [some (sj_r (some a0)), some (sj_r (some x1)), some (sj_i w)]) (pc := 79) h dX9_remembers_79 rfl (Nat.le_of_ble_eq_true rfl) (fun _ => rfl) (fun v3 h => ?_)
    refine r_goto (pc := 82) (tgt := 54) dX9_remembers_82 (by decide) ?_
    exact sj_weak (l2 := [some (sj_r (some a0)), some (sj_r (some x1)), some (sj_i v3)]) (⟨rfl, ⟨rfl, ⟨rfl, trivial⟩⟩⟩) (hk54 a0 x1 n1 v3 V2 ha0 hx1 h)
set_option maxHeartbeats 4000000 in
theorem st_X9_remembers_54 {X : sj_X} {g : sj_G} {s0 : sj_Mem} {N : Nat} {q : Unit × sj_VV} :
    ∀ (n : Nat) (a0 : Nat) (x1 : Nat) (n1 : Nat) (x2 : Int) (V : sj_VV), OK9 g a0 → OKA g 100 x1 n1 → g_X9_remembers_54 N n a0 x1 n1 x2 V = some q → sj_T X m_X9_remembers s0 (none, (g, q.2)) 54 [some (sj_r (some a0)), some (sj_r (some x1)), some (sj_i x2)] [] (g, V) := by
  intro n
  induction n with
  | zero => intro a0 x1 n1 x2 V ha0 hx1 h; exact nomatch h
  | succ n ih => intro a0 x1 n1 x2 V ha0 hx1 h; exact st_X9_remembers_54_b (N := N) ih a0 x1 n1 x2 V ha0 hx1 h
set_option maxHeartbeats 4000000 in
theorem st_X9_remembers_52 {X : sj_X} {g : sj_G} {s0 : sj_Mem} {N : Nat} {q : Unit × sj_VV} :
    ∀ (a0 : Nat) (x1 : Nat) (n1 : Nat) (V : sj_VV), OK9 g a0 → OKA g 100 x1 n1 → g_X9_remembers_52 N a0 x1 n1 V = some q → sj_T X m_X9_remembers s0 (none, (g, q.2)) 52 [some (sj_r (some a0)), some (sj_r (some x1)), none] [] (g, V) := by
  intro a0 x1 n1 V ha0 hx1 h
  unfold g_X9_remembers_52 at h
  refine r_iconst (pc := 52) dX9_remembers_52 ?_
  refine r_istore_n (ln := [some (sj_r (some a0)), some (sj_r (some x1)), some (sj_i 0)]) (pc := 53) dX9_remembers_53 rfl (Nat.le_of_ble_eq_true rfl) rfl ?_
  exact sj_weak (l2 := [some (sj_r (some a0)), some (sj_r (some x1)), some (sj_i 0)]) (⟨rfl, ⟨rfl, ⟨rfl, trivial⟩⟩⟩) (st_X9_remembers_54 N a0 x1 n1 0 V ha0 hx1 h)
set_option maxHeartbeats 4000000 in
theorem st_X9_remembers_13_b {X : sj_X} {g : sj_G} {s0 : sj_Mem} {N : Nat} {q : Unit × sj_VV} {k13 : Nat → Nat → Nat → Int → sj_VV → Option (Unit × sj_VV)} (hk13 : ∀ (a0 : Nat) (x1 : Nat) (n1 : Nat) (x2 : Int) (V : sj_VV), OK9 g a0 → OKA g 100 x1 n1 → k13 a0 x1 n1 x2 V = some q → sj_T X m_X9_remembers s0 (none, (g, q.2)) 13 [some (sj_r (some a0)), some (sj_r (some x1)), some (sj_i x2)] [] (g, V)) :
    ∀ (a0 : Nat) (x1 : Nat) (n1 : Nat) (x2 : Int) (V : sj_VV), OK9 g a0 → OKA g 100 x1 n1 → g_X9_remembers_13_b N k13 a0 x1 n1 x2 V = some q → sj_T X m_X9_remembers s0 (none, (g, q.2)) 13 [some (sj_r (some a0)), some (sj_r (some x1)), some (sj_i x2)] [] (g, V) := by
  intro a0 x1 n1 x2 V ha0 hx1 h
  unfold g_X9_remembers_13_b at h
  refine r_iload_n (pc := 13) dX9_remembers_13 rfl rfl ?_
  refine r_sipush (pc := 14) dX9_remembers_14 ⟨by decide, by decide⟩ ?_
  refine r_icmp_ge (pc := 17) (tgt := 42) h dX9_remembers_17 (by decide) (fun h => ?_) (fun h => ?_)
  · refine r_aload_n (pc := 42) dX9_remembers_42 rfl rfl ?_
    refine r_dup (pc := 43) dX9_remembers_43 rfl ?_
    refine r_gIs (pc := 44) dX9_remembers_44 fw_X9_61 rfl (ok9 ha0) ?_
    refine r_iconst (pc := 47) dX9_remembers_47 ?_
    refine r_isub (pc := 48) dX9_remembers_48 ?_
    refine r_pIs (pc := 49) h dX9_remembers_49 fw_X9_61 rfl rfl (nf9_4) (ok9 ha0) (fun V1 h => ?_)
    exact sj_weak (l2 := [some (sj_r (some a0)), some (sj_r (some x1)), none]) (⟨rfl, ⟨rfl, trivial⟩⟩) (st_X9_remembers_52 a0 x1 n1 V1 ha0 hx1 h)
  · refine r_aload_n (pc := 20) dX9_remembers_20 rfl rfl ?_
    refine r_gRs (b := a0 + 4) (pc := 21) dX9_remembers_21 fw_X9_19 rfl (ok9 ha0) (ok9_3 ha0).1 ?_
    refine r_iload_n (pc := 24) dX9_remembers_24 rfl rfl ?_
    refine r_sipush (pc := 25) dX9_remembers_25 ⟨by decide, by decide⟩ ?_
    refine r_isub (pc := 28) dX9_remembers_28 ?_
    refine r_aload_n (pc := 29) dX9_remembers_29 rfl rfl ?_
    refine r_gRs (b := a0 + 4) (pc := 30) dX9_remembers_30 fw_X9_19 rfl (ok9 ha0) (ok9_3 ha0).1 ?_
    refine r_iload_n (pc := 33) dX9_remembers_33 rfl rfl ?_
    refine r_ialoads (pc := 34) h dX9_remembers_34 (ok9_3 ha0).2 (fun h => ?_)
    refine r_iastores (pc := 35) h dX9_remembers_35 (ok9_3 ha0).2 (fun V2 h => ?_)
    refine r_iinc (ln := fun w => [some (sj_r (some a0)), some (sj_r (some x1)), some (sj_i w)]) (pc := 36) h dX9_remembers_36 rfl (Nat.le_of_ble_eq_true rfl) (fun _ => rfl) (fun v3 h => ?_)
    refine r_goto (pc := 39) (tgt := 13) dX9_remembers_39 (by decide) ?_
    exact sj_weak (l2 := [some (sj_r (some a0)), some (sj_r (some x1)), some (sj_i v3)]) (⟨rfl, ⟨rfl, ⟨rfl, trivial⟩⟩⟩) (hk13 a0 x1 n1 v3 V2 ha0 hx1 h)
set_option maxHeartbeats 4000000 in
theorem st_X9_remembers_13 {X : sj_X} {g : sj_G} {s0 : sj_Mem} {N : Nat} {q : Unit × sj_VV} :
    ∀ (n : Nat) (a0 : Nat) (x1 : Nat) (n1 : Nat) (x2 : Int) (V : sj_VV), OK9 g a0 → OKA g 100 x1 n1 → g_X9_remembers_13 N n a0 x1 n1 x2 V = some q → sj_T X m_X9_remembers s0 (none, (g, q.2)) 13 [some (sj_r (some a0)), some (sj_r (some x1)), some (sj_i x2)] [] (g, V) := by
  intro n
  induction n with
  | zero => intro a0 x1 n1 x2 V ha0 hx1 h; exact nomatch h
  | succ n ih => intro a0 x1 n1 x2 V ha0 hx1 h; exact st_X9_remembers_13_b (N := N) ih a0 x1 n1 x2 V ha0 hx1 h
set_option maxHeartbeats 4000000 in
theorem st_X9_remembers_0 {X : sj_X} {g : sj_G} {s0 : sj_Mem} {N : Nat} {q : Unit × sj_VV} :
    ∀ (a0 : Nat) (x1 : Nat) (n1 : Nat) (V : sj_VV), OK9 g a0 → OKA g 100 x1 n1 → g_X9_remembers N a0 x1 n1 V = some q → sj_T X m_X9_remembers s0 (none, (g, q.2)) 0 [some (sj_r (some a0)), some (sj_r (some x1)), none] [] (g, V) := by
  intro a0 x1 n1 V ha0 hx1 h
  unfold g_X9_remembers at h
  refine r_aload_n (pc := 0) dX9_remembers_0 rfl rfl ?_
  refine r_gIs (pc := 1) dX9_remembers_1 fw_X9_61 rfl (ok9 ha0) ?_
  refine r_bipush (pc := 4) dX9_remembers_4 ⟨by decide, by decide⟩ ?_
  refine r_icmp_ne (pc := 6) (tgt := 52) h dX9_remembers_6 (by decide) (fun h => ?_) (fun h => ?_)
  · refine r_sipush (pc := 9) dX9_remembers_9 ⟨by decide, by decide⟩ ?_
    refine r_istore_n (ln := [some (sj_r (some a0)), some (sj_r (some x1)), some (sj_i 364)]) (pc := 12) dX9_remembers_12 rfl (Nat.le_of_ble_eq_true rfl) rfl ?_
    exact sj_weak (l2 := [some (sj_r (some a0)), some (sj_r (some x1)), some (sj_i 364)]) (⟨rfl, ⟨rfl, ⟨rfl, trivial⟩⟩⟩) (st_X9_remembers_13 N a0 x1 n1 364 V ha0 hx1 h)
  · exact sj_weak (l2 := [some (sj_r (some a0)), some (sj_r (some x1)), none]) (⟨rfl, ⟨rfl, trivial⟩⟩) (st_X9_remembers_52 a0 x1 n1 V ha0 hx1 h)
set_option maxHeartbeats 4000000 in
theorem cg_X9_remembers {X : sj_X} {g : sj_G} {N : Nat} {a0 : Nat} {x1 : Nat} {n1 : Nat} {V : sj_VV} {q : Unit × sj_VV} (ha0 : OK9 g a0) (hx1 : OKA g 100 x1 n1) (h : g_X9_remembers N a0 x1 n1 V = some q) : sj_C X m_X9_remembers [sj_r (some a0), sj_r (some x1)] (g, V) (none, (g, q.2)) :=
  sj_C_of (by decide +kernel) (Nat.le_of_ble_eq_true rfl) (lo := [some (sj_r (some a0)), some (sj_r (some x1)), none]) rfl (sj_weak (l2 := [some (sj_r (some a0)), some (sj_r (some x1)), none]) (⟨rfl, ⟨rfl, trivial⟩⟩) (st_X9_remembers_0 a0 x1 n1 V ha0 hx1 h))
theorem dX9_turnsRound_0 : decode cX9_turnsRound 0 = .ok (.aload_n 0, 1) := by decide +kernel
theorem dX9_turnsRound_1 : decode cX9_turnsRound 1 = .ok (.getfield 9, 3) := by decide +kernel
theorem dX9_turnsRound_4 : decode cX9_turnsRound 4 = .ok (.iconst 0, 1) := by decide +kernel
theorem dX9_turnsRound_5 : decode cX9_turnsRound 5 = .ok (.iaload, 1) := by decide +kernel
theorem dX9_turnsRound_6 : decode cX9_turnsRound 6 = .ok (.istore_n 2, 1) := by decide +kernel
theorem dX9_turnsRound_7 : decode cX9_turnsRound 7 = .ok (.iconst 0, 1) := by decide +kernel
theorem dX9_turnsRound_8 : decode cX9_turnsRound 8 = .ok (.istore_n 3, 1) := by decide +kernel
theorem dX9_turnsRound_9 : decode cX9_turnsRound 9 = .ok (.iconst 2, 1) := by decide +kernel
theorem dX9_turnsRound_10 : decode cX9_turnsRound 10 = .ok (.iload_n 3, 1) := by decide +kernel
theorem dX9_turnsRound_11 : decode cX9_turnsRound 11 = .ok (.imul, 1) := by decide +kernel
theorem dX9_turnsRound_12 : decode cX9_turnsRound 12 = .ok (.iload_n 2, 1) := by decide +kernel
theorem dX9_turnsRound_13 : decode cX9_turnsRound 13 = .ok (.if_icmp .ge 49, 3) := by decide +kernel
theorem dX9_turnsRound_16 : decode cX9_turnsRound 16 = .ok (.aload_n 0, 1) := by decide +kernel
theorem dX9_turnsRound_17 : decode cX9_turnsRound 17 = .ok (.getfield 9, 3) := by decide +kernel
theorem dX9_turnsRound_20 : decode cX9_turnsRound 20 = .ok (.iload_n 1, 1) := by decide +kernel
theorem dX9_turnsRound_21 : decode cX9_turnsRound 21 = .ok (.iload_n 3, 1) := by decide +kernel
theorem dX9_turnsRound_22 : decode cX9_turnsRound 22 = .ok (.iadd, 1) := by decide +kernel
theorem dX9_turnsRound_23 : decode cX9_turnsRound 23 = .ok (.iaload, 1) := by decide +kernel
theorem dX9_turnsRound_24 : decode cX9_turnsRound 24 = .ok (.istore 4, 2) := by decide +kernel
theorem dX9_turnsRound_26 : decode cX9_turnsRound 26 = .ok (.aload_n 0, 1) := by decide +kernel
theorem dX9_turnsRound_27 : decode cX9_turnsRound 27 = .ok (.getfield 9, 3) := by decide +kernel
theorem dX9_turnsRound_30 : decode cX9_turnsRound 30 = .ok (.iload_n 1, 1) := by decide +kernel
theorem dX9_turnsRound_31 : decode cX9_turnsRound 31 = .ok (.iload_n 3, 1) := by decide +kernel
theorem dX9_turnsRound_32 : decode cX9_turnsRound 32 = .ok (.iadd, 1) := by decide +kernel
theorem dX9_turnsRound_33 : decode cX9_turnsRound 33 = .ok (.aload_n 0, 1) := by decide +kernel
theorem dX9_turnsRound_34 : decode cX9_turnsRound 34 = .ok (.getfield 9, 3) := by decide +kernel
theorem dX9_turnsRound_37 : decode cX9_turnsRound 37 = .ok (.iload_n 1, 1) := by decide +kernel
theorem dX9_turnsRound_38 : decode cX9_turnsRound 38 = .ok (.iload_n 2, 1) := by decide +kernel
theorem dX9_turnsRound_39 : decode cX9_turnsRound 39 = .ok (.iadd, 1) := by decide +kernel
theorem dX9_turnsRound_40 : decode cX9_turnsRound 40 = .ok (.iload_n 3, 1) := by decide +kernel
theorem dX9_turnsRound_41 : decode cX9_turnsRound 41 = .ok (.isub, 1) := by decide +kernel
theorem dX9_turnsRound_42 : decode cX9_turnsRound 42 = .ok (.iaload, 1) := by decide +kernel
theorem dX9_turnsRound_43 : decode cX9_turnsRound 43 = .ok (.iastore, 1) := by decide +kernel
theorem dX9_turnsRound_44 : decode cX9_turnsRound 44 = .ok (.aload_n 0, 1) := by decide +kernel
theorem dX9_turnsRound_45 : decode cX9_turnsRound 45 = .ok (.getfield 9, 3) := by decide +kernel
theorem dX9_turnsRound_48 : decode cX9_turnsRound 48 = .ok (.iload_n 1, 1) := by decide +kernel
theorem dX9_turnsRound_49 : decode cX9_turnsRound 49 = .ok (.iload_n 2, 1) := by decide +kernel
theorem dX9_turnsRound_50 : decode cX9_turnsRound 50 = .ok (.iadd, 1) := by decide +kernel
theorem dX9_turnsRound_51 : decode cX9_turnsRound 51 = .ok (.iload_n 3, 1) := by decide +kernel
theorem dX9_turnsRound_52 : decode cX9_turnsRound 52 = .ok (.isub, 1) := by decide +kernel
theorem dX9_turnsRound_53 : decode cX9_turnsRound 53 = .ok (.iload 4, 2) := by decide +kernel
theorem dX9_turnsRound_55 : decode cX9_turnsRound 55 = .ok (.iastore, 1) := by decide +kernel
theorem dX9_turnsRound_56 : decode cX9_turnsRound 56 = .ok (.iinc 3 1, 3) := by decide +kernel
theorem dX9_turnsRound_59 : decode cX9_turnsRound 59 = .ok (.goto (-50), 3) := by decide +kernel
theorem dX9_turnsRound_62 : decode cX9_turnsRound 62 = .ok (.return_, 1) := by decide +kernel
set_option maxHeartbeats 4000000 in
theorem st_X9_turnsRound_9_b {X : sj_X} {g : sj_G} {s0 : sj_Mem} {N : Nat} {q : Unit × sj_VV} {k9 : Nat → Int → Int → Int → sj_VV → Option (Unit × sj_VV)} (hk9 : ∀ (a0 : Nat) (x1 : Int) (x2 : Int) (x3 : Int) (V : sj_VV), OK9 g a0 → k9 a0 x1 x2 x3 V = some q → sj_T X m_X9_turnsRound s0 (none, (g, q.2)) 9 [some (sj_r (some a0)), some (sj_i x1), some (sj_i x2), some (sj_i x3), none] [] (g, V)) :
    ∀ (a0 : Nat) (x1 : Int) (x2 : Int) (x3 : Int) (V : sj_VV), OK9 g a0 → g_X9_turnsRound_9_b N k9 a0 x1 x2 x3 V = some q → sj_T X m_X9_turnsRound s0 (none, (g, q.2)) 9 [some (sj_r (some a0)), some (sj_i x1), some (sj_i x2), some (sj_i x3), none] [] (g, V) := by
  intro a0 x1 x2 x3 V ha0 h
  unfold g_X9_turnsRound_9_b at h
  refine r_iconst (pc := 9) dX9_turnsRound_9 ?_
  refine r_iload_n (pc := 10) dX9_turnsRound_10 rfl rfl ?_
  refine r_imul (pc := 11) dX9_turnsRound_11 ?_
  refine r_iload_n (pc := 12) dX9_turnsRound_12 rfl rfl ?_
  refine r_icmp_ge (pc := 13) (tgt := 62) h dX9_turnsRound_13 (by decide) (fun h => ?_) (fun h => ?_)
  · exact r_vrets (pc := 62) h rfl dX9_turnsRound_62
  · refine r_aload_n (pc := 16) dX9_turnsRound_16 rfl rfl ?_
    refine r_gRs (b := a0 + 1) (pc := 17) dX9_turnsRound_17 fw_X9_9 rfl (ok9 ha0) (ok9_0 ha0).1 ?_
    refine r_iload_n (pc := 20) dX9_turnsRound_20 rfl rfl ?_
    refine r_iload_n (pc := 21) dX9_turnsRound_21 rfl rfl ?_
    refine r_iadd (pc := 22) dX9_turnsRound_22 ?_
    refine r_ialoads (pc := 23) h dX9_turnsRound_23 (ok9_0 ha0).2 (fun h => ?_)
    refine r_istoreL (ln := fun w => [some (sj_r (some a0)), some (sj_i x1), some (sj_i x2), some (sj_i x3), some (sj_i w)]) (pc := 24) h dX9_turnsRound_24 (Nat.le_of_ble_eq_true rfl) (fun _ => rfl) (fun v1 h => ?_)
    refine r_aload_n (pc := 26) dX9_turnsRound_26 rfl rfl ?_
    refine r_gRs (b := a0 + 1) (pc := 27) dX9_turnsRound_27 fw_X9_9 rfl (ok9 ha0) (ok9_0 ha0).1 ?_
    refine r_iload_n (pc := 30) dX9_turnsRound_30 rfl rfl ?_
    refine r_iload_n (pc := 31) dX9_turnsRound_31 rfl rfl ?_
    refine r_iadd (pc := 32) dX9_turnsRound_32 ?_
    refine r_aload_n (pc := 33) dX9_turnsRound_33 rfl rfl ?_
    refine r_gRs (b := a0 + 1) (pc := 34) dX9_turnsRound_34 fw_X9_9 rfl (ok9 ha0) (ok9_0 ha0).1 ?_
    refine r_iload_n (pc := 37) dX9_turnsRound_37 rfl rfl ?_
    refine r_iload_n (pc := 38) dX9_turnsRound_38 rfl rfl ?_
    refine r_iadd (pc := 39) dX9_turnsRound_39 ?_
    refine r_iload_n (pc := 40) dX9_turnsRound_40 rfl rfl ?_
    refine r_isub (pc := 41) dX9_turnsRound_41 ?_
    refine r_ialoads (pc := 42) h dX9_turnsRound_42 (ok9_0 ha0).2 (fun h => ?_)
    refine r_iastores (pc := 43) h dX9_turnsRound_43 (ok9_0 ha0).2 (fun V2 h => ?_)
    refine r_aload_n (pc := 44) dX9_turnsRound_44 rfl rfl ?_
    refine r_gRs (b := a0 + 1) (pc := 45) dX9_turnsRound_45 fw_X9_9 rfl (ok9 ha0) (ok9_0 ha0).1 ?_
    refine r_iload_n (pc := 48) dX9_turnsRound_48 rfl rfl ?_
    refine r_iload_n (pc := 49) dX9_turnsRound_49 rfl rfl ?_
    refine r_iadd (pc := 50) dX9_turnsRound_50 ?_
    refine r_iload_n (pc := 51) dX9_turnsRound_51 rfl rfl ?_
    refine r_isub (pc := 52) dX9_turnsRound_52 ?_
    refine r_iload (pc := 53) dX9_turnsRound_53 rfl ?_
    refine r_iastores (pc := 55) h dX9_turnsRound_55 (ok9_0 ha0).2 (fun V3 h => ?_)
    refine r_iinc (ln := fun w => [some (sj_r (some a0)), some (sj_i x1), some (sj_i x2), some (sj_i w), some (sj_i v1)]) (pc := 56) h dX9_turnsRound_56 rfl (Nat.le_of_ble_eq_true rfl) (fun _ => rfl) (fun v4 h => ?_)
    refine r_goto (pc := 59) (tgt := 9) dX9_turnsRound_59 (by decide) ?_
    exact sj_weak (l2 := [some (sj_r (some a0)), some (sj_i x1), some (sj_i x2), some (sj_i v4), none]) (⟨rfl, ⟨rfl, ⟨rfl, ⟨rfl, trivial⟩⟩⟩⟩) (hk9 a0 x1 x2 v4 V3 ha0 h)
set_option maxHeartbeats 4000000 in
theorem st_X9_turnsRound_9 {X : sj_X} {g : sj_G} {s0 : sj_Mem} {N : Nat} {q : Unit × sj_VV} :
    ∀ (n : Nat) (a0 : Nat) (x1 : Int) (x2 : Int) (x3 : Int) (V : sj_VV), OK9 g a0 → g_X9_turnsRound_9 N n a0 x1 x2 x3 V = some q → sj_T X m_X9_turnsRound s0 (none, (g, q.2)) 9 [some (sj_r (some a0)), some (sj_i x1), some (sj_i x2), some (sj_i x3), none] [] (g, V) := by
  intro n
  induction n with
  | zero => intro a0 x1 x2 x3 V ha0 h; exact nomatch h
  | succ n ih => intro a0 x1 x2 x3 V ha0 h; exact st_X9_turnsRound_9_b (N := N) ih a0 x1 x2 x3 V ha0 h
set_option maxHeartbeats 4000000 in
theorem st_X9_turnsRound_0 {X : sj_X} {g : sj_G} {s0 : sj_Mem} {N : Nat} {q : Unit × sj_VV} :
    ∀ (a0 : Nat) (x1 : Int) (V : sj_VV), OK9 g a0 → g_X9_turnsRound N a0 x1 V = some q → sj_T X m_X9_turnsRound s0 (none, (g, q.2)) 0 [some (sj_r (some a0)), some (sj_i x1), none, none, none] [] (g, V) := by
  intro a0 x1 V ha0 h
  unfold g_X9_turnsRound at h
  refine r_aload_n (pc := 0) dX9_turnsRound_0 rfl rfl ?_
  refine r_gRs (b := a0 + 1) (pc := 1) dX9_turnsRound_1 fw_X9_9 rfl (ok9 ha0) (ok9_0 ha0).1 ?_
  refine r_iconst (pc := 4) dX9_turnsRound_4 ?_
  refine r_ialoads (pc := 5) h dX9_turnsRound_5 (ok9_0 ha0).2 (fun h => ?_)
  refine r_istore_nL (ln := fun w => [some (sj_r (some a0)), some (sj_i x1), some (sj_i w), none, none]) (pc := 6) h dX9_turnsRound_6 rfl (Nat.le_of_ble_eq_true rfl) (fun _ => rfl) (fun v1 h => ?_)
  refine r_iconst (pc := 7) dX9_turnsRound_7 ?_
  refine r_istore_n (ln := [some (sj_r (some a0)), some (sj_i x1), some (sj_i v1), some (sj_i 0), none]) (pc := 8) dX9_turnsRound_8 rfl (Nat.le_of_ble_eq_true rfl) rfl ?_
  exact sj_weak (l2 := [some (sj_r (some a0)), some (sj_i x1), some (sj_i v1), some (sj_i 0), none]) (⟨rfl, ⟨rfl, ⟨rfl, ⟨rfl, trivial⟩⟩⟩⟩) (st_X9_turnsRound_9 N a0 x1 v1 0 V ha0 h)
set_option maxHeartbeats 4000000 in
theorem cg_X9_turnsRound {X : sj_X} {g : sj_G} {N : Nat} {a0 : Nat} {x1 : Int} {V : sj_VV} {q : Unit × sj_VV} (ha0 : OK9 g a0) (h : g_X9_turnsRound N a0 x1 V = some q) : sj_C X m_X9_turnsRound [sj_r (some a0), sj_i x1] (g, V) (none, (g, q.2)) :=
  sj_C_of (by decide +kernel) (Nat.le_of_ble_eq_true rfl) (lo := [some (sj_r (some a0)), some (sj_i x1), none, none, none]) rfl (sj_weak (l2 := [some (sj_r (some a0)), some (sj_i x1), none, none, none]) (⟨rfl, ⟨rfl, trivial⟩⟩) (st_X9_turnsRound_0 a0 x1 V ha0 h))
set_option maxHeartbeats 4000000 in
theorem c_X9_turnsRound {X : sj_X} {N : Nat} {a0 : Nat} {x1 : Int} {s : sj_Mem} {q : Unit × sj_Mem} (h : f_X9_turnsRound N a0 x1 s = some q) : sj_C X m_X9_turnsRound [sj_r (some a0), sj_i x1] s (none, q.2) := by
  obtain ⟨g, V⟩ := s
  unfold f_X9_turnsRound at h
  obtain ⟨ho, h1⟩ := e_ok_some h
  obtain ⟨q2, h2, rfl⟩ := sj_map_some h1
  exact cg_X9_turnsRound ho h2
