theorem dX5_init_0 : decode cX5_init 0 = .ok (.aload_n 0, 1) := by decide +kernel
theorem dX5_init_1 : decode cX5_init 1 = .ok (.invokespecial 3, 3) := by decide +kernel
theorem dX5_init_4 : decode cX5_init 4 = .ok (.aload_n 0, 1) := by decide +kernel
theorem dX5_init_5 : decode cX5_init 5 = .ok (.bipush 41, 2) := by decide +kernel
theorem dX5_init_7 : decode cX5_init 7 = .ok (.newarray .int, 2) := by decide +kernel
theorem dX5_init_9 : decode cX5_init 9 = .ok (.putfield 9, 3) := by decide +kernel
theorem dX5_init_12 : decode cX5_init 12 = .ok (.aload_n 0, 1) := by decide +kernel
theorem dX5_init_13 : decode cX5_init 13 = .ok (.iconst (-1), 1) := by decide +kernel
theorem dX5_init_14 : decode cX5_init 14 = .ok (.putfield 15, 3) := by decide +kernel
theorem dX5_init_17 : decode cX5_init 17 = .ok (.aload_n 0, 1) := by decide +kernel
theorem dX5_init_18 : decode cX5_init 18 = .ok (.iconst (-1), 1) := by decide +kernel
theorem dX5_init_19 : decode cX5_init 19 = .ok (.putfield 19, 3) := by decide +kernel
theorem dX5_init_22 : decode cX5_init 22 = .ok (.return_, 1) := by decide +kernel
set_option maxHeartbeats 4000000 in
theorem t_X5_init_0 {X : sj_X} {s0 : sj_Mem} {N : Nat} {q : Unit × sj_Mem} :
    ∀ (a0 : Nat) (s : sj_Mem), f_X5_init N a0 s = some q → sj_T X m_X5_init s0 (none, q.2) 0 [some (sj_r (some a0))] [] s := by
  intro a0 s h
  unfold f_X5_init at h
  refine r_aload_n (pc := 0) dX5_init_0 rfl rfl ?_
  refine r_oinit (pc := 1) dX5_init_1 ow_X5_3 (Nat.le_of_ble_eq_true rfl) (Nat.le_of_ble_eq_true rfl) ?_
  refine r_aload_n (pc := 4) dX5_init_4 rfl rfl ?_
  refine r_bipush (pc := 5) dX5_init_5 ⟨by decide, by decide⟩ ?_
  refine r_nA_I (pc := 7) h dX5_init_7 kw_62 (fun a1 s2 h => ?_)
  refine r_pF (pc := 9) h dX5_init_9 ff_X5_9 rfl rfl (Or.inr ⟨_, rfl⟩) (fun s3 h => ?_)
  refine r_aload_n (pc := 12) dX5_init_12 rfl rfl ?_
  refine r_iconst (pc := 13) dX5_init_13 ?_
  refine r_pI (pc := 14) h dX5_init_14 fw_X5_15 rfl rfl (fun _ hq => by cases hq; rfl) (fun s4 h => ?_)
  refine r_aload_n (pc := 17) dX5_init_17 rfl rfl ?_
  refine r_iconst (pc := 18) dX5_init_18 ?_
  refine r_pI (pc := 19) h dX5_init_19 fw_X5_19 rfl rfl (fun _ hq => by cases hq; rfl) (fun s5 h => ?_)
  exact r_vret (pc := 22) h rfl dX5_init_22
set_option maxHeartbeats 4000000 in
theorem c_X5_init {X : sj_X} {N : Nat} {a0 : Nat} {s : sj_Mem} {q : Unit × sj_Mem} (h : f_X5_init N a0 s = some q) : sj_C X m_X5_init [sj_r (some a0)] s (none, q.2) :=
  sj_C_of (by decide +kernel) (Nat.le_of_ble_eq_true rfl) (lo := [some (sj_r (some a0))]) rfl (sj_weak (l2 := [some (sj_r (some a0))]) (⟨rfl, trivial⟩) (t_X5_init_0 a0 s h))
theorem dX5_drop_0 : decode cX5_drop 0 = .ok (.aload_n 0, 1) := by decide +kernel
theorem dX5_drop_1 : decode cX5_drop 1 = .ok (.iconst (-1), 1) := by decide +kernel
theorem dX5_drop_2 : decode cX5_drop 2 = .ok (.putfield 15, 3) := by decide +kernel
theorem dX5_drop_5 : decode cX5_drop 5 = .ok (.aload_n 0, 1) := by decide +kernel
theorem dX5_drop_6 : decode cX5_drop 6 = .ok (.iconst (-1), 1) := by decide +kernel
theorem dX5_drop_7 : decode cX5_drop 7 = .ok (.putfield 19, 3) := by decide +kernel
theorem dX5_drop_10 : decode cX5_drop 10 = .ok (.return_, 1) := by decide +kernel
set_option maxHeartbeats 4000000 in
theorem t_X5_drop_0 {X : sj_X} {s0 : sj_Mem} {N : Nat} {q : Unit × sj_Mem} :
    ∀ (a0 : Nat) (s : sj_Mem), f_X5_drop N a0 s = some q → sj_T X m_X5_drop s0 (none, q.2) 0 [some (sj_r (some a0))] [] s := by
  intro a0 s h
  unfold f_X5_drop at h
  refine r_aload_n (pc := 0) dX5_drop_0 rfl rfl ?_
  refine r_iconst (pc := 1) dX5_drop_1 ?_
  refine r_pI (pc := 2) h dX5_drop_2 fw_X5_15 rfl rfl (fun _ hq => by cases hq; rfl) (fun s1 h => ?_)
  refine r_aload_n (pc := 5) dX5_drop_5 rfl rfl ?_
  refine r_iconst (pc := 6) dX5_drop_6 ?_
  refine r_pI (pc := 7) h dX5_drop_7 fw_X5_19 rfl rfl (fun _ hq => by cases hq; rfl) (fun s2 h => ?_)
  exact r_vret (pc := 10) h rfl dX5_drop_10
set_option maxHeartbeats 4000000 in
theorem c_X5_drop {X : sj_X} {N : Nat} {a0 : Nat} {s : sj_Mem} {q : Unit × sj_Mem} (h : f_X5_drop N a0 s = some q) : sj_C X m_X5_drop [sj_r (some a0)] s (none, q.2) :=
  sj_C_of (by decide +kernel) (Nat.le_of_ble_eq_true rfl) (lo := [some (sj_r (some a0))]) rfl (sj_weak (l2 := [some (sj_r (some a0))]) (⟨rfl, trivial⟩) (t_X5_drop_0 a0 s h))
theorem dX5_copy_0 : decode cX5_copy 0 = .ok (.aload_n 1, 1) := by decide +kernel
theorem dX5_copy_1 : decode cX5_copy 1 = .ok (.getfield 9, 3) := by decide +kernel
theorem dX5_copy_4 : decode cX5_copy 4 = .ok (.iconst 0, 1) := by decide +kernel
theorem dX5_copy_5 : decode cX5_copy 5 = .ok (.aload_n 0, 1) := by decide +kernel
theorem dX5_copy_6 : decode cX5_copy 6 = .ok (.getfield 9, 3) := by decide +kernel
theorem dX5_copy_9 : decode cX5_copy 9 = .ok (.iconst 0, 1) := by decide +kernel
theorem dX5_copy_10 : decode cX5_copy 10 = .ok (.bipush 41, 2) := by decide +kernel
theorem dX5_copy_12 : decode cX5_copy 12 = .ok (.invokestatic 22, 3) := by decide +kernel
theorem dX5_copy_15 : decode cX5_copy 15 = .ok (.aload_n 0, 1) := by decide +kernel
theorem dX5_copy_16 : decode cX5_copy 16 = .ok (.aload_n 1, 1) := by decide +kernel
theorem dX5_copy_17 : decode cX5_copy 17 = .ok (.getfield 15, 3) := by decide +kernel
theorem dX5_copy_20 : decode cX5_copy 20 = .ok (.putfield 15, 3) := by decide +kernel
theorem dX5_copy_23 : decode cX5_copy 23 = .ok (.aload_n 0, 1) := by decide +kernel
theorem dX5_copy_24 : decode cX5_copy 24 = .ok (.aload_n 1, 1) := by decide +kernel
theorem dX5_copy_25 : decode cX5_copy 25 = .ok (.getfield 19, 3) := by decide +kernel
theorem dX5_copy_28 : decode cX5_copy 28 = .ok (.putfield 19, 3) := by decide +kernel
theorem dX5_copy_31 : decode cX5_copy 31 = .ok (.aload_n 0, 1) := by decide +kernel
theorem dX5_copy_32 : decode cX5_copy 32 = .ok (.aload_n 1, 1) := by decide +kernel
theorem dX5_copy_33 : decode cX5_copy 33 = .ok (.getfield 28, 3) := by decide +kernel
theorem dX5_copy_36 : decode cX5_copy 36 = .ok (.putfield 28, 3) := by decide +kernel
theorem dX5_copy_39 : decode cX5_copy 39 = .ok (.return_, 1) := by decide +kernel
set_option maxHeartbeats 4000000 in
theorem t_X5_copy_0 {X : sj_X} {s0 : sj_Mem} {N : Nat} {q : Unit × sj_Mem} :
    ∀ (a0 : Nat) (x1 : Option Nat) (s : sj_Mem), f_X5_copy N a0 x1 s = some q → sj_T X m_X5_copy s0 (none, q.2) 0 [some (sj_r (some a0)), some (sj_r x1)] [] s := by
  intro a0 x1 s h
  unfold f_X5_copy at h
  refine r_aload_n (pc := 0) dX5_copy_0 rfl rfl ?_
  obtain ⟨a1, ea1, g⟩ := e_nn_some h
  clear h
  subst ea1
  have h := g
  clear g
  refine r_gR (pc := 1) h dX5_copy_1 fw_X5_9 rfl (fun r2 h => ?_)
  refine r_iconst (pc := 4) dX5_copy_4 ?_
  refine r_aload_n (pc := 5) dX5_copy_5 rfl rfl ?_
  refine r_gR (pc := 6) h dX5_copy_6 fw_X5_9 rfl (fun r3 h => ?_)
  refine r_iconst (pc := 9) dX5_copy_9 ?_
  refine r_bipush (pc := 10) dX5_copy_10 ⟨by decide, by decide⟩ ?_
  obtain ⟨a4, ea4, g⟩ := e_nn_some h
  clear h
  subst ea4
  have h := g
  clear g
  obtain ⟨a5, ea5, g⟩ := e_nn_some h
  clear h
  subst ea5
  have h := g
  clear g
  refine r_copy (pc := 12) h dX5_copy_12 yw_X5_22 (Nat.le_of_ble_eq_true rfl) (Nat.le_of_ble_eq_true rfl) (fun s6 h => ?_)
  refine r_aload_n (pc := 15) dX5_copy_15 rfl rfl ?_
  refine r_aload_n (pc := 16) dX5_copy_16 rfl rfl ?_
  refine r_gI (pc := 17) h dX5_copy_17 fw_X5_15 rfl (fun v7 h => ?_)
  refine r_pI (pc := 20) h dX5_copy_20 fw_X5_15 rfl rfl (fun _ hq => by cases hq; rfl) (fun s8 h => ?_)
  refine r_aload_n (pc := 23) dX5_copy_23 rfl rfl ?_
  refine r_aload_n (pc := 24) dX5_copy_24 rfl rfl ?_
  refine r_gI (pc := 25) h dX5_copy_25 fw_X5_19 rfl (fun v9 h => ?_)
  refine r_pI (pc := 28) h dX5_copy_28 fw_X5_19 rfl rfl (fun _ hq => by cases hq; rfl) (fun s10 h => ?_)
  refine r_aload_n (pc := 31) dX5_copy_31 rfl rfl ?_
  refine r_aload_n (pc := 32) dX5_copy_32 rfl rfl ?_
  refine r_gI (pc := 33) h dX5_copy_33 fw_X5_28 rfl (fun v11 h => ?_)
  refine r_pZ (pc := 36) h dX5_copy_36 fw_X5_28 rfl rfl (fun _ hq => by cases hq; rfl) (fun s12 h => ?_)
  exact r_vret (pc := 39) h rfl dX5_copy_39
set_option maxHeartbeats 4000000 in
theorem c_X5_copy {X : sj_X} {N : Nat} {a0 : Nat} {x1 : Option Nat} {s : sj_Mem} {q : Unit × sj_Mem} (h : f_X5_copy N a0 x1 s = some q) : sj_C X m_X5_copy [sj_r (some a0), sj_r x1] s (none, q.2) :=
  sj_C_of (by decide +kernel) (Nat.le_of_ble_eq_true rfl) (lo := [some (sj_r (some a0)), some (sj_r x1)]) rfl (sj_weak (l2 := [some (sj_r (some a0)), some (sj_r x1)]) (⟨rfl, ⟨rfl, trivial⟩⟩) (t_X5_copy_0 a0 x1 s h))
theorem dX8_topPlace_0 : decode cX8_topPlace 0 = .ok (.iload_n 0, 1) := by decide +kernel
theorem dX8_topPlace_1 : decode cX8_topPlace 1 = .ok (.iconst 1, 1) := by decide +kernel
theorem dX8_topPlace_2 : decode cX8_topPlace 2 = .ok (.isub, 1) := by decide +kernel
theorem dX8_topPlace_3 : decode cX8_topPlace 3 = .ok (.bipush 41, 2) := by decide +kernel
theorem dX8_topPlace_5 : decode cX8_topPlace 5 = .ok (.imul, 1) := by decide +kernel
theorem dX8_topPlace_6 : decode cX8_topPlace 6 = .ok (.iload_n 1, 1) := by decide +kernel
theorem dX8_topPlace_7 : decode cX8_topPlace 7 = .ok (.iadd, 1) := by decide +kernel
theorem dX8_topPlace_8 : decode cX8_topPlace 8 = .ok (.ireturn, 1) := by decide +kernel
set_option maxHeartbeats 4000000 in
theorem t_X8_topPlace_0 {X : sj_X} {s0 : sj_Mem} {N : Nat} {q : Int × sj_Mem} :
    ∀ (x0 : Int) (x1 : Int) (s : sj_Mem), f_X8_topPlace N x0 x1 s = some q → sj_T X m_X8_topPlace s0 (some (sj_i q.1), q.2) 0 [some (sj_i x0), some (sj_i x1)] [] s := by
  intro x0 x1 s h
  unfold f_X8_topPlace at h
  refine r_iload_n (pc := 0) dX8_topPlace_0 rfl rfl ?_
  refine r_iconst (pc := 1) dX8_topPlace_1 ?_
  refine r_isub (pc := 2) dX8_topPlace_2 ?_
  refine r_bipush (pc := 3) dX8_topPlace_3 ⟨by decide, by decide⟩ ?_
  refine r_imul (pc := 5) dX8_topPlace_5 ?_
  refine r_iload_n (pc := 6) dX8_topPlace_6 rfl rfl ?_
  refine r_iadd (pc := 7) dX8_topPlace_7 ?_
  exact r_iret (pc := 8) h rfl dX8_topPlace_8
set_option maxHeartbeats 4000000 in
theorem c_X8_topPlace {X : sj_X} {N : Nat} {x0 : Int} {x1 : Int} {s : sj_Mem} {q : Int × sj_Mem} (h : f_X8_topPlace N x0 x1 s = some q) : sj_C X m_X8_topPlace [sj_i x0, sj_i x1] s (some (sj_i q.1), q.2) :=
  sj_C_of (by decide +kernel) (Nat.le_of_ble_eq_true rfl) (lo := [some (sj_i x0), some (sj_i x1)]) rfl (sj_weak (l2 := [some (sj_i x0), some (sj_i x1)]) (⟨rfl, ⟨rfl, trivial⟩⟩) (t_X8_topPlace_0 x0 x1 s h))
theorem dX5_isNone_0 : decode cX5_isNone 0 = .ok (.aload_n 0, 1) := by decide +kernel
theorem dX5_isNone_1 : decode cX5_isNone 1 = .ok (.getfield 15, 3) := by decide +kernel
theorem dX5_isNone_4 : decode cX5_isNone 4 = .ok (.ifCond .ge 7, 3) := by decide +kernel
theorem dX5_isNone_7 : decode cX5_isNone 7 = .ok (.iconst 1, 1) := by decide +kernel
theorem dX5_isNone_8 : decode cX5_isNone 8 = .ok (.goto 4, 3) := by decide +kernel
theorem dX5_isNone_11 : decode cX5_isNone 11 = .ok (.iconst 0, 1) := by decide +kernel
theorem dX5_isNone_12 : decode cX5_isNone 12 = .ok (.ireturn, 1) := by decide +kernel
set_option maxHeartbeats 4000000 in
theorem t_X5_isNone_0 {X : sj_X} {s0 : sj_Mem} {N : Nat} {q : Int × sj_Mem} :
    ∀ (a0 : Nat) (s : sj_Mem), f_X5_isNone N a0 s = some q → sj_T X m_X5_isNone s0 (some (sj_i q.1), q.2) 0 [some (sj_r (some a0))] [] s := by
  intro a0 s h
  unfold f_X5_isNone at h
  refine r_aload_n (pc := 0) dX5_isNone_0 rfl rfl ?_
  refine r_gI (pc := 1) h dX5_isNone_1 fw_X5_15 rfl (fun v1 h => ?_)
  refine r_if_ge (pc := 4) (tgt := 11) h dX5_isNone_4 (by decide) (fun h => ?_) (fun h => ?_)
  · refine r_iconst (pc := 11) dX5_isNone_11 ?_
    exact r_zret (pc := 12) h rfl dX5_isNone_12
  · refine r_iconst (pc := 7) dX5_isNone_7 ?_
    refine r_goto (pc := 8) (tgt := 12) dX5_isNone_8 (by decide) ?_
    exact r_zret (pc := 12) h rfl dX5_isNone_12
set_option maxHeartbeats 4000000 in
theorem c_X5_isNone {X : sj_X} {N : Nat} {a0 : Nat} {s : sj_Mem} {q : Int × sj_Mem} (h : f_X5_isNone N a0 s = some q) : sj_C X m_X5_isNone [sj_r (some a0)] s (some (sj_i q.1), q.2) :=
  sj_C_of (by decide +kernel) (Nat.le_of_ble_eq_true rfl) (lo := [some (sj_r (some a0))]) rfl (sj_weak (l2 := [some (sj_r (some a0))]) (⟨rfl, trivial⟩) (t_X5_isNone_0 a0 s h))
theorem dX5_span_0 : decode cX5_span 0 = .ok (.aload_n 0, 1) := by decide +kernel
theorem dX5_span_1 : decode cX5_span 1 = .ok (.iload_n 2, 1) := by decide +kernel
theorem dX5_span_2 : decode cX5_span 2 = .ok (.putfield 15, 3) := by decide +kernel
theorem dX5_span_5 : decode cX5_span 5 = .ok (.aload_n 0, 1) := by decide +kernel
theorem dX5_span_6 : decode cX5_span 6 = .ok (.iload_n 3, 1) := by decide +kernel
theorem dX5_span_7 : decode cX5_span 7 = .ok (.putfield 19, 3) := by decide +kernel
theorem dX5_span_10 : decode cX5_span 10 = .ok (.aload_n 0, 1) := by decide +kernel
theorem dX5_span_11 : decode cX5_span 11 = .ok (.iload 4, 2) := by decide +kernel
theorem dX5_span_13 : decode cX5_span 13 = .ok (.putfield 28, 3) := by decide +kernel
theorem dX5_span_16 : decode cX5_span 16 = .ok (.aload_n 0, 1) := by decide +kernel
theorem dX5_span_17 : decode cX5_span 17 = .ok (.getfield 9, 3) := by decide +kernel
theorem dX5_span_20 : decode cX5_span 20 = .ok (.iload_n 2, 1) := by decide +kernel
theorem dX5_span_21 : decode cX5_span 21 = .ok (.aload_n 1, 1) := by decide +kernel
theorem dX5_span_22 : decode cX5_span 22 = .ok (.getfield 45, 3) := by decide +kernel
theorem dX5_span_25 : decode cX5_span 25 = .ok (.iload_n 2, 1) := by decide +kernel
theorem dX5_span_26 : decode cX5_span 26 = .ok (.iaload, 1) := by decide +kernel
theorem dX5_span_27 : decode cX5_span 27 = .ok (.iastore, 1) := by decide +kernel
theorem dX5_span_28 : decode cX5_span 28 = .ok (.aload_n 0, 1) := by decide +kernel
theorem dX5_span_29 : decode cX5_span 29 = .ok (.getfield 9, 3) := by decide +kernel
theorem dX5_span_32 : decode cX5_span 32 = .ok (.iload_n 3, 1) := by decide +kernel
theorem dX5_span_33 : decode cX5_span 33 = .ok (.aload_n 1, 1) := by decide +kernel
theorem dX5_span_34 : decode cX5_span 34 = .ok (.getfield 45, 3) := by decide +kernel
theorem dX5_span_37 : decode cX5_span 37 = .ok (.iload_n 3, 1) := by decide +kernel
theorem dX5_span_38 : decode cX5_span 38 = .ok (.iaload, 1) := by decide +kernel
theorem dX5_span_39 : decode cX5_span 39 = .ok (.iastore, 1) := by decide +kernel
theorem dX5_span_40 : decode cX5_span 40 = .ok (.return_, 1) := by decide +kernel
set_option maxHeartbeats 4000000 in
theorem t_X5_span_0 {X : sj_X} {s0 : sj_Mem} {N : Nat} {q : Unit × sj_Mem} :
    ∀ (a0 : Nat) (x1 : Option Nat) (x2 : Int) (x3 : Int) (x4 : Int) (s : sj_Mem), f_X5_span N a0 x1 x2 x3 x4 s = some q → sj_T X m_X5_span s0 (none, q.2) 0 [some (sj_r (some a0)), some (sj_r x1), some (sj_i x2), some (sj_i x3), some (sj_i x4)] [] s := by
  intro a0 x1 x2 x3 x4 s h
  unfold f_X5_span at h
  refine r_aload_n (pc := 0) dX5_span_0 rfl rfl ?_
  refine r_iload_n (pc := 1) dX5_span_1 rfl rfl ?_
  refine r_pI (pc := 2) h dX5_span_2 fw_X5_15 rfl rfl (fun _ hq => by cases hq; rfl) (fun s1 h => ?_)
  refine r_aload_n (pc := 5) dX5_span_5 rfl rfl ?_
  refine r_iload_n (pc := 6) dX5_span_6 rfl rfl ?_
  refine r_pI (pc := 7) h dX5_span_7 fw_X5_19 rfl rfl (fun _ hq => by cases hq; rfl) (fun s2 h => ?_)
  refine r_aload_n (pc := 10) dX5_span_10 rfl rfl ?_
  refine r_iload (pc := 11) dX5_span_11 rfl ?_
  refine r_pZ (pc := 13) h dX5_span_13 fw_X5_28 rfl rfl (fun _ hq => by cases hq; rfl) (fun s3 h => ?_)
  refine r_aload_n (pc := 16) dX5_span_16 rfl rfl ?_
  refine r_gR (pc := 17) h dX5_span_17 fw_X5_9 rfl (fun r4 h => ?_)
  refine r_iload_n (pc := 20) dX5_span_20 rfl rfl ?_
  refine r_aload_n (pc := 21) dX5_span_21 rfl rfl ?_
  obtain ⟨a5, ea5, g⟩ := e_nn_some h
  clear h
  subst ea5
  have h := g
  clear g
  refine r_gR (pc := 22) h dX5_span_22 fw_X5_45 rfl (fun r6 h => ?_)
  refine r_iload_n (pc := 25) dX5_span_25 rfl rfl ?_
  obtain ⟨a7, ea7, g⟩ := e_nn_some h
  clear h
  subst ea7
  have h := g
  clear g
  refine r_iaload (pc := 26) h dX5_span_26 (fun v8 h => ?_)
  obtain ⟨a9, ea9, g⟩ := e_nn_some h
  clear h
  subst ea9
  have h := g
  clear g
  refine r_iastore (pc := 27) h dX5_span_27 (fun s10 h => ?_)
  refine r_aload_n (pc := 28) dX5_span_28 rfl rfl ?_
  refine r_gR (pc := 29) h dX5_span_29 fw_X5_9 rfl (fun r11 h => ?_)
  refine r_iload_n (pc := 32) dX5_span_32 rfl rfl ?_
  refine r_aload_n (pc := 33) dX5_span_33 rfl rfl ?_
  refine r_gR (pc := 34) h dX5_span_34 fw_X5_45 rfl (fun r12 h => ?_)
  refine r_iload_n (pc := 37) dX5_span_37 rfl rfl ?_
  obtain ⟨a13, ea13, g⟩ := e_nn_some h
  clear h
  subst ea13
  have h := g
  clear g
  refine r_iaload (pc := 38) h dX5_span_38 (fun v14 h => ?_)
  obtain ⟨a15, ea15, g⟩ := e_nn_some h
  clear h
  subst ea15
  have h := g
  clear g
  refine r_iastore (pc := 39) h dX5_span_39 (fun s16 h => ?_)
  exact r_vret (pc := 40) h rfl dX5_span_40
set_option maxHeartbeats 4000000 in
theorem c_X5_span {X : sj_X} {N : Nat} {a0 : Nat} {x1 : Option Nat} {x2 : Int} {x3 : Int} {x4 : Int} {s : sj_Mem} {q : Unit × sj_Mem} (h : f_X5_span N a0 x1 x2 x3 x4 s = some q) : sj_C X m_X5_span [sj_r (some a0), sj_r x1, sj_i x2, sj_i x3, sj_i x4] s (none, q.2) :=
  sj_C_of (by decide +kernel) (Nat.le_of_ble_eq_true rfl) (lo := [some (sj_r (some a0)), some (sj_r x1), some (sj_i x2), some (sj_i x3), some (sj_i x4)]) rfl (sj_weak (l2 := [some (sj_r (some a0)), some (sj_r x1), some (sj_i x2), some (sj_i x3), some (sj_i x4)]) (⟨rfl, ⟨rfl, ⟨rfl, ⟨rfl, ⟨rfl, trivial⟩⟩⟩⟩⟩) (t_X5_span_0 a0 x1 x2 x3 x4 s h))
theorem dX8_rootOf_0 : decode cX8_rootOf 0 = .ok (.iconst 0, 1) := by decide +kernel
theorem dX8_rootOf_1 : decode cX8_rootOf 1 = .ok (.istore_n 1, 1) := by decide +kernel
theorem dX8_rootOf_2 : decode cX8_rootOf 2 = .ok (.sipush 256, 3) := by decide +kernel
theorem dX8_rootOf_5 : decode cX8_rootOf 5 = .ok (.istore_n 2, 1) := by decide +kernel
theorem dX8_rootOf_6 : decode cX8_rootOf 6 = .ok (.iload_n 2, 1) := by decide +kernel
theorem dX8_rootOf_7 : decode cX8_rootOf 7 = .ok (.ifCond .le 23, 3) := by decide +kernel
theorem dX8_rootOf_10 : decode cX8_rootOf 10 = .ok (.iload_n 1, 1) := by decide +kernel
theorem dX8_rootOf_11 : decode cX8_rootOf 11 = .ok (.iload_n 2, 1) := by decide +kernel
theorem dX8_rootOf_12 : decode cX8_rootOf 12 = .ok (.iadd, 1) := by decide +kernel
theorem dX8_rootOf_13 : decode cX8_rootOf 13 = .ok (.istore_n 3, 1) := by decide +kernel
theorem dX8_rootOf_14 : decode cX8_rootOf 14 = .ok (.iload_n 3, 1) := by decide +kernel
theorem dX8_rootOf_15 : decode cX8_rootOf 15 = .ok (.iload_n 3, 1) := by decide +kernel
theorem dX8_rootOf_16 : decode cX8_rootOf 16 = .ok (.imul, 1) := by decide +kernel
theorem dX8_rootOf_17 : decode cX8_rootOf 17 = .ok (.iload_n 0, 1) := by decide +kernel
theorem dX8_rootOf_18 : decode cX8_rootOf 18 = .ok (.if_icmp .gt 5, 3) := by decide +kernel
theorem dX8_rootOf_21 : decode cX8_rootOf 21 = .ok (.iload_n 3, 1) := by decide +kernel
theorem dX8_rootOf_22 : decode cX8_rootOf 22 = .ok (.istore_n 1, 1) := by decide +kernel
theorem dX8_rootOf_23 : decode cX8_rootOf 23 = .ok (.iload_n 2, 1) := by decide +kernel
theorem dX8_rootOf_24 : decode cX8_rootOf 24 = .ok (.iconst 2, 1) := by decide +kernel
theorem dX8_rootOf_25 : decode cX8_rootOf 25 = .ok (.idiv, 1) := by decide +kernel
theorem dX8_rootOf_26 : decode cX8_rootOf 26 = .ok (.istore_n 2, 1) := by decide +kernel
theorem dX8_rootOf_27 : decode cX8_rootOf 27 = .ok (.goto (-21), 3) := by decide +kernel
theorem dX8_rootOf_30 : decode cX8_rootOf 30 = .ok (.iload_n 1, 1) := by decide +kernel
theorem dX8_rootOf_31 : decode cX8_rootOf 31 = .ok (.ireturn, 1) := by decide +kernel
set_option maxHeartbeats 4000000 in
theorem t_X8_rootOf_23 {X : sj_X} {s0 : sj_Mem} {N : Nat} {q : Int × sj_Mem} {k6 : Int → Int → Int → sj_Mem → Option (Int × sj_Mem)} (hk6 : ∀ (x0 : Int) (x1 : Int) (x2 : Int) (s : sj_Mem), k6 x0 x1 x2 s = some q → sj_T X m_X8_rootOf s0 (some (sj_i q.1), q.2) 6 [some (sj_i x0), some (sj_i x1), some (sj_i x2), none] [] s) :
    ∀ (x0 : Int) (x1 : Int) (x2 : Int) (s : sj_Mem), f_X8_rootOf_23 N k6 x0 x1 x2 s = some q → sj_T X m_X8_rootOf s0 (some (sj_i q.1), q.2) 23 [some (sj_i x0), some (sj_i x1), some (sj_i x2), none] [] s := by
  intro x0 x1 x2 s h
  unfold f_X8_rootOf_23 at h
  refine r_iload_n (pc := 23) dX8_rootOf_23 rfl rfl ?_
  refine r_iconst (pc := 24) dX8_rootOf_24 ?_
  refine r_idiv (pc := 25) h dX8_rootOf_25 (fun v1 h => ?_)
  refine r_istore_n (ln := [some (sj_i x0), some (sj_i x1), some (sj_i v1), none]) (pc := 26) dX8_rootOf_26 rfl (Nat.le_of_ble_eq_true rfl) rfl ?_
  refine r_goto (pc := 27) (tgt := 6) dX8_rootOf_27 (by decide) ?_
  exact sj_weak (l2 := [some (sj_i x0), some (sj_i x1), some (sj_i v1), none]) (⟨rfl, ⟨rfl, ⟨rfl, trivial⟩⟩⟩) (hk6 x0 x1 v1 s h)
set_option maxHeartbeats 4000000 in
theorem t_X8_rootOf_6_b {X : sj_X} {s0 : sj_Mem} {N : Nat} {q : Int × sj_Mem} {k6 : Int → Int → Int → sj_Mem → Option (Int × sj_Mem)} (hk6 : ∀ (x0 : Int) (x1 : Int) (x2 : Int) (s : sj_Mem), k6 x0 x1 x2 s = some q → sj_T X m_X8_rootOf s0 (some (sj_i q.1), q.2) 6 [some (sj_i x0), some (sj_i x1), some (sj_i x2), none] [] s) :
    ∀ (x0 : Int) (x1 : Int) (x2 : Int) (s : sj_Mem), f_X8_rootOf_6_b N k6 x0 x1 x2 s = some q → sj_T X m_X8_rootOf s0 (some (sj_i q.1), q.2) 6 [some (sj_i x0), some (sj_i x1), some (sj_i x2), none] [] s := by
  intro x0 x1 x2 s h
  unfold f_X8_rootOf_6_b at h
  refine r_iload_n (pc := 6) dX8_rootOf_6 rfl rfl ?_
  refine r_if_le (pc := 7) (tgt := 30) h dX8_rootOf_7 (by decide) (fun h => ?_) (fun h => ?_)
  · refine r_iload_n (pc := 30) dX8_rootOf_30 rfl rfl ?_
    exact r_iret (pc := 31) h rfl dX8_rootOf_31
  · refine r_iload_n (pc := 10) dX8_rootOf_10 rfl rfl ?_
    refine r_iload_n (pc := 11) dX8_rootOf_11 rfl rfl ?_
    refine r_iadd (pc := 12) dX8_rootOf_12 ?_
    refine r_istore_nL (ln := fun w => [some (sj_i x0), some (sj_i x1), some (sj_i x2), some (sj_i w)]) (pc := 13) h dX8_rootOf_13 rfl (Nat.le_of_ble_eq_true rfl) (fun _ => rfl) (fun v1 h => ?_)
    refine r_iload_n (pc := 14) dX8_rootOf_14 rfl rfl ?_
    refine r_iload_n (pc := 15) dX8_rootOf_15 rfl rfl ?_
    refine r_imul (pc := 16) dX8_rootOf_16 ?_
    refine r_iload_n (pc := 17) dX8_rootOf_17 rfl rfl ?_
    refine r_icmp_gt (pc := 18) (tgt := 23) h dX8_rootOf_18 (by decide) (fun h => ?_) (fun h => ?_)
    · exact sj_weak (l2 := [some (sj_i x0), some (sj_i x1), some (sj_i x2), none]) (⟨rfl, ⟨rfl, ⟨rfl, trivial⟩⟩⟩) (t_X8_rootOf_23 hk6 x0 x1 x2 s h)
    · refine r_iload_n (pc := 21) dX8_rootOf_21 rfl rfl ?_
      refine r_istore_n (ln := [some (sj_i x0), some (sj_i v1), some (sj_i x2), some (sj_i v1)]) (pc := 22) dX8_rootOf_22 rfl (Nat.le_of_ble_eq_true rfl) rfl ?_
      exact sj_weak (l2 := [some (sj_i x0), some (sj_i v1), some (sj_i x2), none]) (⟨rfl, ⟨rfl, ⟨rfl, trivial⟩⟩⟩) (t_X8_rootOf_23 hk6 x0 v1 x2 s h)
set_option maxHeartbeats 4000000 in
theorem t_X8_rootOf_6 {X : sj_X} {s0 : sj_Mem} {N : Nat} {q : Int × sj_Mem} :
    ∀ (n : Nat) (x0 : Int) (x1 : Int) (x2 : Int) (s : sj_Mem), f_X8_rootOf_6 N n x0 x1 x2 s = some q → sj_T X m_X8_rootOf s0 (some (sj_i q.1), q.2) 6 [some (sj_i x0), some (sj_i x1), some (sj_i x2), none] [] s := by
  intro n
  induction n with
  | zero => intro x0 x1 x2 s h; exact nomatch h
  | succ n ih => intro x0 x1 x2 s h; exact t_X8_rootOf_6_b (N := N) ih x0 x1 x2 s h
set_option maxHeartbeats 4000000 in
theorem t_X8_rootOf_0 {X : sj_X} {s0 : sj_Mem} {N : Nat} {q : Int × sj_Mem} :
    ∀ (x0 : Int) (s : sj_Mem), f_X8_rootOf N x0 s = some q → sj_T X m_X8_rootOf s0 (some (sj_i q.1), q.2) 0 [some (sj_i x0), none, none, none] [] s := by
  intro x0 s h
  unfold f_X8_rootOf at h
  refine r_iconst (pc := 0) dX8_rootOf_0 ?_
  refine r_istore_n (ln := [some (sj_i x0), some (sj_i 0), none, none]) (pc := 1) dX8_rootOf_1 rfl (Nat.le_of_ble_eq_true rfl) rfl ?_
  refine r_sipush (pc := 2) dX8_rootOf_2 ⟨by decide, by decide⟩ ?_
  refine r_istore_n (ln := [some (sj_i x0), some (sj_i 0), some (sj_i 256), none]) (pc := 5) dX8_rootOf_5 rfl (Nat.le_of_ble_eq_true rfl) rfl ?_
  exact sj_weak (l2 := [some (sj_i x0), some (sj_i 0), some (sj_i 256), none]) (⟨rfl, ⟨rfl, ⟨rfl, trivial⟩⟩⟩) (t_X8_rootOf_6 N x0 0 256 s h)
set_option maxHeartbeats 4000000 in
theorem c_X8_rootOf {X : sj_X} {N : Nat} {x0 : Int} {s : sj_Mem} {q : Int × sj_Mem} (h : f_X8_rootOf N x0 s = some q) : sj_C X m_X8_rootOf [sj_i x0] s (some (sj_i q.1), q.2) :=
  sj_C_of (by decide +kernel) (Nat.le_of_ble_eq_true rfl) (lo := [some (sj_i x0), none, none, none]) rfl (sj_weak (l2 := [some (sj_i x0), none, none, none]) (⟨rfl, trivial⟩) (t_X8_rootOf_0 x0 s h))
theorem dX5_cut_0 : decode cX5_cut 0 = .ok (.iconst (-1), 1) := by decide +kernel
theorem dX5_cut_1 : decode cX5_cut 1 = .ok (.istore 6, 2) := by decide +kernel
theorem dX5_cut_3 : decode cX5_cut 3 = .ok (.iconst (-1), 1) := by decide +kernel
theorem dX5_cut_4 : decode cX5_cut 4 = .ok (.istore 7, 2) := by decide +kernel
theorem dX5_cut_6 : decode cX5_cut 6 = .ok (.iconst 0, 1) := by decide +kernel
theorem dX5_cut_7 : decode cX5_cut 7 = .ok (.istore 8, 2) := by decide +kernel
theorem dX5_cut_9 : decode cX5_cut 9 = .ok (.iload 8, 2) := by decide +kernel
theorem dX5_cut_11 : decode cX5_cut 11 = .ok (.aload_n 1, 1) := by decide +kernel
theorem dX5_cut_12 : decode cX5_cut 12 = .ok (.getfield 50, 3) := by decide +kernel
theorem dX5_cut_15 : decode cX5_cut 15 = .ok (.if_icmp .gt 114, 3) := by decide +kernel
theorem dX5_cut_18 : decode cX5_cut 18 = .ok (.aload_n 1, 1) := by decide +kernel
theorem dX5_cut_19 : decode cX5_cut 19 = .ok (.getfield 53, 3) := by decide +kernel
theorem dX5_cut_22 : decode cX5_cut 22 = .ok (.iload 8, 2) := by decide +kernel
theorem dX5_cut_24 : decode cX5_cut 24 = .ok (.imul, 1) := by decide +kernel
theorem dX5_cut_25 : decode cX5_cut 25 = .ok (.iload_n 2, 1) := by decide +kernel
theorem dX5_cut_26 : decode cX5_cut 26 = .ok (.isub, 1) := by decide +kernel
theorem dX5_cut_27 : decode cX5_cut 27 = .ok (.istore 9, 2) := by decide +kernel
theorem dX5_cut_29 : decode cX5_cut 29 = .ok (.iload 4, 2) := by decide +kernel
theorem dX5_cut_31 : decode cX5_cut 31 = .ok (.iload 4, 2) := by decide +kernel
theorem dX5_cut_33 : decode cX5_cut 33 = .ok (.imul, 1) := by decide +kernel
theorem dX5_cut_34 : decode cX5_cut 34 = .ok (.iload 9, 2) := by decide +kernel
theorem dX5_cut_36 : decode cX5_cut 36 = .ok (.iload 9, 2) := by decide +kernel
theorem dX5_cut_38 : decode cX5_cut 38 = .ok (.imul, 1) := by decide +kernel
theorem dX5_cut_39 : decode cX5_cut 39 = .ok (.isub, 1) := by decide +kernel
theorem dX5_cut_40 : decode cX5_cut 40 = .ok (.istore 10, 2) := by decide +kernel
theorem dX5_cut_42 : decode cX5_cut 42 = .ok (.iload 10, 2) := by decide +kernel
theorem dX5_cut_44 : decode cX5_cut 44 = .ok (.ifCond .ge 13, 3) := by decide +kernel
theorem dX5_cut_47 : decode cX5_cut 47 = .ok (.aload_n 1, 1) := by decide +kernel
theorem dX5_cut_48 : decode cX5_cut 48 = .ok (.getfield 45, 3) := by decide +kernel
theorem dX5_cut_51 : decode cX5_cut 51 = .ok (.iload 8, 2) := by decide +kernel
theorem dX5_cut_53 : decode cX5_cut 53 = .ok (.iaload, 1) := by decide +kernel
theorem dX5_cut_54 : decode cX5_cut 54 = .ok (.goto 20, 3) := by decide +kernel
theorem dX5_cut_57 : decode cX5_cut 57 = .ok (.iload_n 3, 1) := by decide +kernel
theorem dX5_cut_58 : decode cX5_cut 58 = .ok (.iload 10, 2) := by decide +kernel
theorem dX5_cut_60 : decode cX5_cut 60 = .ok (.invokestatic 56, 3) := by decide +kernel
theorem dX5_cut_63 : decode cX5_cut 63 = .ok (.isub, 1) := by decide +kernel
theorem dX5_cut_64 : decode cX5_cut 64 = .ok (.aload_n 1, 1) := by decide +kernel
theorem dX5_cut_65 : decode cX5_cut 65 = .ok (.getfield 60, 3) := by decide +kernel
theorem dX5_cut_68 : decode cX5_cut 68 = .ok (.iload 8, 2) := by decide +kernel
theorem dX5_cut_70 : decode cX5_cut 70 = .ok (.iaload, 1) := by decide +kernel
theorem dX5_cut_71 : decode cX5_cut 71 = .ok (.invokestatic 36, 3) := by decide +kernel
theorem dX5_cut_74 : decode cX5_cut 74 = .ok (.istore 11, 2) := by decide +kernel
theorem dX5_cut_76 : decode cX5_cut 76 = .ok (.iload 11, 2) := by decide +kernel
theorem dX5_cut_78 : decode cX5_cut 78 = .ok (.aload_n 1, 1) := by decide +kernel
theorem dX5_cut_79 : decode cX5_cut 79 = .ok (.getfield 45, 3) := by decide +kernel
theorem dX5_cut_82 : decode cX5_cut 82 = .ok (.iload 8, 2) := by decide +kernel
theorem dX5_cut_84 : decode cX5_cut 84 = .ok (.iaload, 1) := by decide +kernel
theorem dX5_cut_85 : decode cX5_cut 85 = .ok (.if_icmp .ge 29, 3) := by decide +kernel
theorem dX5_cut_88 : decode cX5_cut 88 = .ok (.aload_n 0, 1) := by decide +kernel
theorem dX5_cut_89 : decode cX5_cut 89 = .ok (.getfield 9, 3) := by decide +kernel
theorem dX5_cut_92 : decode cX5_cut 92 = .ok (.iload 8, 2) := by decide +kernel
theorem dX5_cut_94 : decode cX5_cut 94 = .ok (.iload 11, 2) := by decide +kernel
theorem dX5_cut_96 : decode cX5_cut 96 = .ok (.iastore, 1) := by decide +kernel
theorem dX5_cut_97 : decode cX5_cut 97 = .ok (.iload 8, 2) := by decide +kernel
theorem dX5_cut_99 : decode cX5_cut 99 = .ok (.istore 7, 2) := by decide +kernel
theorem dX5_cut_101 : decode cX5_cut 101 = .ok (.iload 6, 2) := by decide +kernel
theorem dX5_cut_103 : decode cX5_cut 103 = .ok (.iconst (-1), 1) := by decide +kernel
theorem dX5_cut_104 : decode cX5_cut 104 = .ok (.if_icmp .ne 19, 3) := by decide +kernel
theorem dX5_cut_107 : decode cX5_cut 107 = .ok (.iload 8, 2) := by decide +kernel
theorem dX5_cut_109 : decode cX5_cut 109 = .ok (.istore 6, 2) := by decide +kernel
theorem dX5_cut_111 : decode cX5_cut 111 = .ok (.goto 12, 3) := by decide +kernel
theorem dX5_cut_114 : decode cX5_cut 114 = .ok (.iload 6, 2) := by decide +kernel
theorem dX5_cut_116 : decode cX5_cut 116 = .ok (.iconst (-1), 1) := by decide +kernel
theorem dX5_cut_117 : decode cX5_cut 117 = .ok (.if_icmp .eq 6, 3) := by decide +kernel
theorem dX5_cut_120 : decode cX5_cut 120 = .ok (.goto 9, 3) := by decide +kernel
theorem dX5_cut_123 : decode cX5_cut 123 = .ok (.iinc 8 1, 3) := by decide +kernel
theorem dX5_cut_126 : decode cX5_cut 126 = .ok (.goto (-117), 3) := by decide +kernel
theorem dX5_cut_129 : decode cX5_cut 129 = .ok (.iload 6, 2) := by decide +kernel
theorem dX5_cut_131 : decode cX5_cut 131 = .ok (.iconst 1, 1) := by decide +kernel
theorem dX5_cut_132 : decode cX5_cut 132 = .ok (.if_icmp .lt 12, 3) := by decide +kernel
theorem dX5_cut_135 : decode cX5_cut 135 = .ok (.iload 7, 2) := by decide +kernel
theorem dX5_cut_137 : decode cX5_cut 137 = .ok (.aload_n 1, 1) := by decide +kernel
theorem dX5_cut_138 : decode cX5_cut 138 = .ok (.getfield 50, 3) := by decide +kernel
theorem dX5_cut_141 : decode cX5_cut 141 = .ok (.if_icmp .lt 5, 3) := by decide +kernel
theorem dX5_cut_144 : decode cX5_cut 144 = .ok (.iconst 0, 1) := by decide +kernel
theorem dX5_cut_145 : decode cX5_cut 145 = .ok (.ireturn, 1) := by decide +kernel
theorem dX5_cut_146 : decode cX5_cut 146 = .ok (.aload_n 0, 1) := by decide +kernel
theorem dX5_cut_147 : decode cX5_cut 147 = .ok (.aload_n 1, 1) := by decide +kernel
theorem dX5_cut_148 : decode cX5_cut 148 = .ok (.iload 6, 2) := by decide +kernel
theorem dX5_cut_150 : decode cX5_cut 150 = .ok (.iconst 1, 1) := by decide +kernel
theorem dX5_cut_151 : decode cX5_cut 151 = .ok (.isub, 1) := by decide +kernel
theorem dX5_cut_152 : decode cX5_cut 152 = .ok (.iload 7, 2) := by decide +kernel
theorem dX5_cut_154 : decode cX5_cut 154 = .ok (.iconst 1, 1) := by decide +kernel
theorem dX5_cut_155 : decode cX5_cut 155 = .ok (.iadd, 1) := by decide +kernel
theorem dX5_cut_156 : decode cX5_cut 156 = .ok (.iload 5, 2) := by decide +kernel
theorem dX5_cut_158 : decode cX5_cut 158 = .ok (.invokevirtual 63, 3) := by decide +kernel
theorem dX5_cut_161 : decode cX5_cut 161 = .ok (.iconst 1, 1) := by decide +kernel
theorem dX5_cut_162 : decode cX5_cut 162 = .ok (.ireturn, 1) := by decide +kernel
set_option maxHeartbeats 4000000 in
theorem t_X5_cut_123 {X : sj_X} {s0 : sj_Mem} {N : Nat} {q : Int × sj_Mem} {k9 : Nat → Option Nat → Int → Int → Int → Int → Int → Int → Int → sj_Mem → Option (Int × sj_Mem)} (hk9 : ∀ (a0 : Nat) (x1 : Option Nat) (x2 : Int) (x3 : Int) (x4 : Int) (x5 : Int) (x6 : Int) (x7 : Int) (x8 : Int) (s : sj_Mem), k9 a0 x1 x2 x3 x4 x5 x6 x7 x8 s = some q → sj_T X m_X5_cut s0 (some (sj_i q.1), q.2) 9 [some (sj_r (some a0)), some (sj_r x1), some (sj_i x2), some (sj_i x3), some (sj_i x4), some (sj_i x5), some (sj_i x6), some (sj_i x7), some (sj_i x8), none, none, none] [] s) :
    ∀ (a0 : Nat) (x1 : Option Nat) (x2 : Int) (x3 : Int) (x4 : Int) (x5 : Int) (x6 : Int) (x7 : Int) (x8 : Int) (s : sj_Mem), f_X5_cut_123 N k9 a0 x1 x2 x3 x4 x5 x6 x7 x8 s = some q → sj_T X m_X5_cut s0 (some (sj_i q.1), q.2) 123 [some (sj_r (some a0)), some (sj_r x1), some (sj_i x2), some (sj_i x3), some (sj_i x4), some (sj_i x5), some (sj_i x6), some (sj_i x7), some (sj_i x8), none, none, none] [] s := by
  intro a0 x1 x2 x3 x4 x5 x6 x7 x8 s h
  unfold f_X5_cut_123 at h
  refine r_iinc (ln := fun w => [some (sj_r (some a0)), some (sj_r x1), some (sj_i x2), some (sj_i x3), some (sj_i x4), some (sj_i x5), some (sj_i x6), some (sj_i x7), some (sj_i w), none, none, none]) (pc := 123) h dX5_cut_123 rfl (Nat.le_of_ble_eq_true rfl) (fun _ => rfl) (fun v1 h => ?_)
  refine r_goto (pc := 126) (tgt := 9) dX5_cut_126 (by decide) ?_
  exact sj_weak (l2 := [some (sj_r (some a0)), some (sj_r x1), some (sj_i x2), some (sj_i x3), some (sj_i x4), some (sj_i x5), some (sj_i x6), some (sj_i x7), some (sj_i v1), none, none, none]) (⟨rfl, ⟨rfl, ⟨rfl, ⟨rfl, ⟨rfl, ⟨rfl, ⟨rfl, ⟨rfl, ⟨rfl, trivial⟩⟩⟩⟩⟩⟩⟩⟩⟩) (hk9 a0 x1 x2 x3 x4 x5 x6 x7 v1 s h)
set_option maxHeartbeats 4000000 in
theorem t_X5_cut_129 {X : sj_X} {s0 : sj_Mem} {N : Nat} {q : Int × sj_Mem} :
    ∀ (a0 : Nat) (x1 : Option Nat) (x5 : Int) (x6 : Int) (x7 : Int) (s : sj_Mem), f_X5_cut_129 N a0 x1 x5 x6 x7 s = some q → sj_T X m_X5_cut s0 (some (sj_i q.1), q.2) 129 [some (sj_r (some a0)), some (sj_r x1), none, none, none, some (sj_i x5), some (sj_i x6), some (sj_i x7), none, none, none, none] [] s := by
  intro a0 x1 x5 x6 x7 s h
  unfold f_X5_cut_129 at h
  refine r_iload (pc := 129) dX5_cut_129 rfl ?_
  refine r_iconst (pc := 131) dX5_cut_131 ?_
  refine r_icmp_lt (pc := 132) (tgt := 144) h dX5_cut_132 (by decide) (fun h => ?_) (fun h => ?_)
  · refine r_iconst (pc := 144) dX5_cut_144 ?_
    exact r_zret (pc := 145) h rfl dX5_cut_145
  · refine r_iload (pc := 135) dX5_cut_135 rfl ?_
    refine r_aload_n (pc := 137) dX5_cut_137 rfl rfl ?_
    obtain ⟨a1, ea1, g⟩ := e_nn_some h
    clear h
    subst ea1
    have h := g
    clear g
    refine r_gI (pc := 138) h dX5_cut_138 fw_X5_50 rfl (fun v2 h => ?_)
    refine r_icmp_lt (pc := 141) (tgt := 146) h dX5_cut_141 (by decide) (fun h => ?_) (fun h => ?_)
    · refine r_aload_n (pc := 146) dX5_cut_146 rfl rfl ?_
      refine r_aload_n (pc := 147) dX5_cut_147 rfl rfl ?_
      refine r_iload (pc := 148) dX5_cut_148 rfl ?_
      refine r_iconst (pc := 150) dX5_cut_150 ?_
      refine r_isub (pc := 151) dX5_cut_151 ?_
      refine r_iload (pc := 152) dX5_cut_152 rfl ?_
      refine r_iconst (pc := 154) dX5_cut_154 ?_
      refine r_iadd (pc := 155) dX5_cut_155 ?_
      refine r_iload (pc := 156) dX5_cut_156 rfl ?_
      refine r_callV (pc := 158) (fun _ => none) (As := [sj_r (some a1), sj_i (x6 - 1), sj_i (x7 + 1), sj_i x5]) (rest := []) h dX5_cut_158 mw_X5_63 vw_X5_span (fun _ _ hc => c_X5_span hc) rfl ⟨(Nat.le_of_ble_eq_true rfl), (Nat.le_of_ble_eq_true rfl)⟩ (Nat.le_of_ble_eq_true rfl) rfl (fun _u s3 h => ?_)
      refine r_iconst (pc := 161) dX5_cut_161 ?_
      exact r_zret (pc := 162) h rfl dX5_cut_162
    · refine r_iconst (pc := 144) dX5_cut_144 ?_
      exact r_zret (pc := 145) h rfl dX5_cut_145
set_option maxHeartbeats 4000000 in
theorem t_X5_cut_74 {X : sj_X} {s0 : sj_Mem} {N : Nat} {q : Int × sj_Mem} {k9 : Nat → Option Nat → Int → Int → Int → Int → Int → Int → Int → sj_Mem → Option (Int × sj_Mem)} (hk9 : ∀ (a0 : Nat) (x1 : Option Nat) (x2 : Int) (x3 : Int) (x4 : Int) (x5 : Int) (x6 : Int) (x7 : Int) (x8 : Int) (s : sj_Mem), k9 a0 x1 x2 x3 x4 x5 x6 x7 x8 s = some q → sj_T X m_X5_cut s0 (some (sj_i q.1), q.2) 9 [some (sj_r (some a0)), some (sj_r x1), some (sj_i x2), some (sj_i x3), some (sj_i x4), some (sj_i x5), some (sj_i x6), some (sj_i x7), some (sj_i x8), none, none, none] [] s) :
    ∀ (a0 : Nat) (x1 : Option Nat) (x2 : Int) (x3 : Int) (x4 : Int) (x5 : Int) (x6 : Int) (x7 : Int) (x8 : Int) (y0 : Int) (s : sj_Mem), f_X5_cut_74 N k9 a0 x1 x2 x3 x4 x5 x6 x7 x8 y0 s = some q → sj_T X m_X5_cut s0 (some (sj_i q.1), q.2) 74 [some (sj_r (some a0)), some (sj_r x1), some (sj_i x2), some (sj_i x3), some (sj_i x4), some (sj_i x5), some (sj_i x6), some (sj_i x7), some (sj_i x8), none, none, none] [(sj_i y0)] s := by
  intro a0 x1 x2 x3 x4 x5 x6 x7 x8 y0 s h
  unfold f_X5_cut_74 at h
  refine r_istore (ln := [some (sj_r (some a0)), some (sj_r x1), some (sj_i x2), some (sj_i x3), some (sj_i x4), some (sj_i x5), some (sj_i x6), some (sj_i x7), some (sj_i x8), none, none, some (sj_i y0)]) (pc := 74) dX5_cut_74 (Nat.le_of_ble_eq_true rfl) rfl ?_
  refine r_iload (pc := 76) dX5_cut_76 rfl ?_
  refine r_aload_n (pc := 78) dX5_cut_78 rfl rfl ?_
  obtain ⟨a1, ea1, g⟩ := e_nn_some h
  clear h
  subst ea1
  have h := g
  clear g
  refine r_gR (pc := 79) h dX5_cut_79 fw_X5_45 rfl (fun r2 h => ?_)
  refine r_iload (pc := 82) dX5_cut_82 rfl ?_
  obtain ⟨a3, ea3, g⟩ := e_nn_some h
  clear h
  subst ea3
  have h := g
  clear g
  refine r_iaload (pc := 84) h dX5_cut_84 (fun v4 h => ?_)
  refine r_icmp_ge (pc := 85) (tgt := 114) h dX5_cut_85 (by decide) (fun h => ?_) (fun h => ?_)
  · refine r_iload (pc := 114) dX5_cut_114 rfl ?_
    refine r_iconst (pc := 116) dX5_cut_116 ?_
    refine r_icmp_eq (pc := 117) (tgt := 123) h dX5_cut_117 (by decide) (fun h => ?_) (fun h => ?_)
    · exact sj_weak (l2 := [some (sj_r (some a0)), some (sj_r (some a1)), some (sj_i x2), some (sj_i x3), some (sj_i x4), some (sj_i x5), some (sj_i x6), some (sj_i x7), some (sj_i x8), none, none, none]) (⟨rfl, ⟨rfl, ⟨rfl, ⟨rfl, ⟨rfl, ⟨rfl, ⟨rfl, ⟨rfl, ⟨rfl, trivial⟩⟩⟩⟩⟩⟩⟩⟩⟩) (t_X5_cut_123 hk9 a0 (some a1) x2 x3 x4 x5 x6 x7 x8 s h)
    · refine r_goto (pc := 120) (tgt := 129) dX5_cut_120 (by decide) ?_
      exact sj_weak (l2 := [some (sj_r (some a0)), some (sj_r (some a1)), none, none, none, some (sj_i x5), some (sj_i x6), some (sj_i x7), none, none, none, none]) (⟨rfl, ⟨rfl, ⟨rfl, ⟨rfl, ⟨rfl, trivial⟩⟩⟩⟩⟩) (t_X5_cut_129 a0 (some a1) x5 x6 x7 s h)
  · refine r_aload_n (pc := 88) dX5_cut_88 rfl rfl ?_
    refine r_gR (pc := 89) h dX5_cut_89 fw_X5_9 rfl (fun r5 h => ?_)
    refine r_iload (pc := 92) dX5_cut_92 rfl ?_
    refine r_iload (pc := 94) dX5_cut_94 rfl ?_
    obtain ⟨a6, ea6, g⟩ := e_nn_some h
    clear h
    subst ea6
    have h := g
    clear g
    refine r_iastore (pc := 96) h dX5_cut_96 (fun s7 h => ?_)
    refine r_iload (pc := 97) dX5_cut_97 rfl ?_
    refine r_istore (ln := [some (sj_r (some a0)), some (sj_r (some a1)), some (sj_i x2), some (sj_i x3), some (sj_i x4), some (sj_i x5), some (sj_i x6), some (sj_i x8), some (sj_i x8), none, none, some (sj_i y0)]) (pc := 99) dX5_cut_99 (Nat.le_of_ble_eq_true rfl) rfl ?_
    refine r_iload (pc := 101) dX5_cut_101 rfl ?_
    refine r_iconst (pc := 103) dX5_cut_103 ?_
    refine r_icmp_ne (pc := 104) (tgt := 123) h dX5_cut_104 (by decide) (fun h => ?_) (fun h => ?_)
    · refine r_iload (pc := 107) dX5_cut_107 rfl ?_
      refine r_istore (ln := [some (sj_r (some a0)), some (sj_r (some a1)), some (sj_i x2), some (sj_i x3), some (sj_i x4), some (sj_i x5), some (sj_i x8), some (sj_i x8), some (sj_i x8), none, none, some (sj_i y0)]) (pc := 109) dX5_cut_109 (Nat.le_of_ble_eq_true rfl) rfl ?_
      refine r_goto (pc := 111) (tgt := 123) dX5_cut_111 (by decide) ?_
      exact sj_weak (l2 := [some (sj_r (some a0)), some (sj_r (some a1)), some (sj_i x2), some (sj_i x3), some (sj_i x4), some (sj_i x5), some (sj_i x8), some (sj_i x8), some (sj_i x8), none, none, none]) (⟨rfl, ⟨rfl, ⟨rfl, ⟨rfl, ⟨rfl, ⟨rfl, ⟨rfl, ⟨rfl, ⟨rfl, trivial⟩⟩⟩⟩⟩⟩⟩⟩⟩) (t_X5_cut_123 hk9 a0 (some a1) x2 x3 x4 x5 x8 x8 x8 s7 h)
    · exact sj_weak (l2 := [some (sj_r (some a0)), some (sj_r (some a1)), some (sj_i x2), some (sj_i x3), some (sj_i x4), some (sj_i x5), some (sj_i x6), some (sj_i x8), some (sj_i x8), none, none, none]) (⟨rfl, ⟨rfl, ⟨rfl, ⟨rfl, ⟨rfl, ⟨rfl, ⟨rfl, ⟨rfl, ⟨rfl, trivial⟩⟩⟩⟩⟩⟩⟩⟩⟩) (t_X5_cut_123 hk9 a0 (some a1) x2 x3 x4 x5 x6 x8 x8 s7 h)
set_option maxHeartbeats 4000000 in
theorem t_X5_cut_9_b {X : sj_X} {s0 : sj_Mem} {N : Nat} {q : Int × sj_Mem} {k9 : Nat → Option Nat → Int → Int → Int → Int → Int → Int → Int → sj_Mem → Option (Int × sj_Mem)} (hk9 : ∀ (a0 : Nat) (x1 : Option Nat) (x2 : Int) (x3 : Int) (x4 : Int) (x5 : Int) (x6 : Int) (x7 : Int) (x8 : Int) (s : sj_Mem), k9 a0 x1 x2 x3 x4 x5 x6 x7 x8 s = some q → sj_T X m_X5_cut s0 (some (sj_i q.1), q.2) 9 [some (sj_r (some a0)), some (sj_r x1), some (sj_i x2), some (sj_i x3), some (sj_i x4), some (sj_i x5), some (sj_i x6), some (sj_i x7), some (sj_i x8), none, none, none] [] s) :
    ∀ (a0 : Nat) (x1 : Option Nat) (x2 : Int) (x3 : Int) (x4 : Int) (x5 : Int) (x6 : Int) (x7 : Int) (x8 : Int) (s : sj_Mem), f_X5_cut_9_b N k9 a0 x1 x2 x3 x4 x5 x6 x7 x8 s = some q → sj_T X m_X5_cut s0 (some (sj_i q.1), q.2) 9 [some (sj_r (some a0)), some (sj_r x1), some (sj_i x2), some (sj_i x3), some (sj_i x4), some (sj_i x5), some (sj_i x6), some (sj_i x7), some (sj_i x8), none, none, none] [] s := by
  intro a0 x1 x2 x3 x4 x5 x6 x7 x8 s h
  unfold f_X5_cut_9_b at h
  refine r_iload (pc := 9) dX5_cut_9 rfl ?_
  refine r_aload_n (pc := 11) dX5_cut_11 rfl rfl ?_
  obtain ⟨a1, ea1, g⟩ := e_nn_some h
  clear h
  subst ea1
  have h := g
  clear g
  refine r_gI (pc := 12) h dX5_cut_12 fw_X5_50 rfl (fun v2 h => ?_)
  refine r_icmp_gt (pc := 15) (tgt := 129) h dX5_cut_15 (by decide) (fun h => ?_) (fun h => ?_)
  · exact sj_weak (l2 := [some (sj_r (some a0)), some (sj_r (some a1)), none, none, none, some (sj_i x5), some (sj_i x6), some (sj_i x7), none, none, none, none]) (⟨rfl, ⟨rfl, ⟨rfl, ⟨rfl, ⟨rfl, trivial⟩⟩⟩⟩⟩) (t_X5_cut_129 a0 (some a1) x5 x6 x7 s h)
  · refine r_aload_n (pc := 18) dX5_cut_18 rfl rfl ?_
    refine r_gI (pc := 19) h dX5_cut_19 fw_X5_53 rfl (fun v3 h => ?_)
    refine r_iload (pc := 22) dX5_cut_22 rfl ?_
    refine r_imul (pc := 24) dX5_cut_24 ?_
    refine r_iload_n (pc := 25) dX5_cut_25 rfl rfl ?_
    refine r_isub (pc := 26) dX5_cut_26 ?_
    refine r_istoreL (ln := fun w => [some (sj_r (some a0)), some (sj_r (some a1)), some (sj_i x2), some (sj_i x3), some (sj_i x4), some (sj_i x5), some (sj_i x6), some (sj_i x7), some (sj_i x8), some (sj_i w), none, none]) (pc := 27) h dX5_cut_27 (Nat.le_of_ble_eq_true rfl) (fun _ => rfl) (fun v4 h => ?_)
    refine r_iload (pc := 29) dX5_cut_29 rfl ?_
    refine r_iload (pc := 31) dX5_cut_31 rfl ?_
    refine r_imul (pc := 33) dX5_cut_33 ?_
    refine r_iload (pc := 34) dX5_cut_34 rfl ?_
    refine r_iload (pc := 36) dX5_cut_36 rfl ?_
    refine r_imul (pc := 38) dX5_cut_38 ?_
    refine r_isub (pc := 39) dX5_cut_39 ?_
    refine r_istoreL (ln := fun w => [some (sj_r (some a0)), some (sj_r (some a1)), some (sj_i x2), some (sj_i x3), some (sj_i x4), some (sj_i x5), some (sj_i x6), some (sj_i x7), some (sj_i x8), some (sj_i v4), some (sj_i w), none]) (pc := 40) h dX5_cut_40 (Nat.le_of_ble_eq_true rfl) (fun _ => rfl) (fun v5 h => ?_)
    refine r_iload (pc := 42) dX5_cut_42 rfl ?_
    refine r_if_ge (pc := 44) (tgt := 57) h dX5_cut_44 (by decide) (fun h => ?_) (fun h => ?_)
    · refine r_iload_n (pc := 57) dX5_cut_57 rfl rfl ?_
      refine r_iload (pc := 58) dX5_cut_58 rfl ?_
      refine r_callS (pc := 60) (fun v => some (sj_i v)) (As := [sj_i v5]) (rest := [(sj_i x3)]) h dX5_cut_60 mw_X5_56 kw_607 (fun _ _ hc => c_X8_rootOf hc) rfl ⟨(Nat.le_of_ble_eq_true rfl), (Nat.le_of_ble_eq_true rfl)⟩ (Nat.le_of_ble_eq_true rfl) rfl (fun v7 s6 h => ?_)
      refine r_isub (pc := 63) dX5_cut_63 ?_
      refine r_aload_n (pc := 64) dX5_cut_64 rfl rfl ?_
      refine r_gR (pc := 65) h dX5_cut_65 fw_X5_60 rfl (fun r8 h => ?_)
      refine r_iload (pc := 68) dX5_cut_68 rfl ?_
      obtain ⟨a9, ea9, g⟩ := e_nn_some h
      clear h
      subst ea9
      have h := g
      clear g
      refine r_iaload (pc := 70) h dX5_cut_70 (fun v10 h => ?_)
      refine r_mmax (pc := 71) h dX5_cut_71 mx_X5_36 (Nat.le_of_ble_eq_true rfl) (Nat.le_of_ble_eq_true rfl) (fun v11 h => ?_)
      exact sj_weak (l2 := [some (sj_r (some a0)), some (sj_r (some a1)), some (sj_i x2), some (sj_i x3), some (sj_i x4), some (sj_i x5), some (sj_i x6), some (sj_i x7), some (sj_i x8), none, none, none]) (⟨rfl, ⟨rfl, ⟨rfl, ⟨rfl, ⟨rfl, ⟨rfl, ⟨rfl, ⟨rfl, ⟨rfl, trivial⟩⟩⟩⟩⟩⟩⟩⟩⟩) (t_X5_cut_74 hk9 a0 (some a1) x2 x3 x4 x5 x6 x7 x8 v11 s6 h)
    · refine r_aload_n (pc := 47) dX5_cut_47 rfl rfl ?_
      refine r_gR (pc := 48) h dX5_cut_48 fw_X5_45 rfl (fun r12 h => ?_)
      refine r_iload (pc := 51) dX5_cut_51 rfl ?_
      obtain ⟨a13, ea13, g⟩ := e_nn_some h
      clear h
      subst ea13
      have h := g
      clear g
      refine r_iaload (pc := 53) h dX5_cut_53 (fun v14 h => ?_)
      refine r_goto (pc := 54) (tgt := 74) dX5_cut_54 (by decide) ?_
      exact sj_weak (l2 := [some (sj_r (some a0)), some (sj_r (some a1)), some (sj_i x2), some (sj_i x3), some (sj_i x4), some (sj_i x5), some (sj_i x6), some (sj_i x7), some (sj_i x8), none, none, none]) (⟨rfl, ⟨rfl, ⟨rfl, ⟨rfl, ⟨rfl, ⟨rfl, ⟨rfl, ⟨rfl, ⟨rfl, trivial⟩⟩⟩⟩⟩⟩⟩⟩⟩) (t_X5_cut_74 hk9 a0 (some a1) x2 x3 x4 x5 x6 x7 x8 v14 s h)
set_option maxHeartbeats 4000000 in
theorem t_X5_cut_9 {X : sj_X} {s0 : sj_Mem} {N : Nat} {q : Int × sj_Mem} :
    ∀ (n : Nat) (a0 : Nat) (x1 : Option Nat) (x2 : Int) (x3 : Int) (x4 : Int) (x5 : Int) (x6 : Int) (x7 : Int) (x8 : Int) (s : sj_Mem), f_X5_cut_9 N n a0 x1 x2 x3 x4 x5 x6 x7 x8 s = some q → sj_T X m_X5_cut s0 (some (sj_i q.1), q.2) 9 [some (sj_r (some a0)), some (sj_r x1), some (sj_i x2), some (sj_i x3), some (sj_i x4), some (sj_i x5), some (sj_i x6), some (sj_i x7), some (sj_i x8), none, none, none] [] s := by
  intro n
  induction n with
  | zero => intro a0 x1 x2 x3 x4 x5 x6 x7 x8 s h; exact nomatch h
  | succ n ih => intro a0 x1 x2 x3 x4 x5 x6 x7 x8 s h; exact t_X5_cut_9_b (N := N) ih a0 x1 x2 x3 x4 x5 x6 x7 x8 s h
set_option maxHeartbeats 4000000 in
theorem t_X5_cut_0 {X : sj_X} {s0 : sj_Mem} {N : Nat} {q : Int × sj_Mem} :
    ∀ (a0 : Nat) (x1 : Option Nat) (x2 : Int) (x3 : Int) (x4 : Int) (x5 : Int) (s : sj_Mem), f_X5_cut N a0 x1 x2 x3 x4 x5 s = some q → sj_T X m_X5_cut s0 (some (sj_i q.1), q.2) 0 [some (sj_r (some a0)), some (sj_r x1), some (sj_i x2), some (sj_i x3), some (sj_i x4), some (sj_i x5), none, none, none, none, none, none] [] s := by
  intro a0 x1 x2 x3 x4 x5 s h
  unfold f_X5_cut at h
  refine r_iconst (pc := 0) dX5_cut_0 ?_
  refine r_istore (ln := [some (sj_r (some a0)), some (sj_r x1), some (sj_i x2), some (sj_i x3), some (sj_i x4), some (sj_i x5), some (sj_i ((-1))), none, none, none, none, none]) (pc := 1) dX5_cut_1 (Nat.le_of_ble_eq_true rfl) rfl ?_
  refine r_iconst (pc := 3) dX5_cut_3 ?_
  refine r_istore (ln := [some (sj_r (some a0)), some (sj_r x1), some (sj_i x2), some (sj_i x3), some (sj_i x4), some (sj_i x5), some (sj_i ((-1))), some (sj_i ((-1))), none, none, none, none]) (pc := 4) dX5_cut_4 (Nat.le_of_ble_eq_true rfl) rfl ?_
  refine r_iconst (pc := 6) dX5_cut_6 ?_
  refine r_istore (ln := [some (sj_r (some a0)), some (sj_r x1), some (sj_i x2), some (sj_i x3), some (sj_i x4), some (sj_i x5), some (sj_i ((-1))), some (sj_i ((-1))), some (sj_i 0), none, none, none]) (pc := 7) dX5_cut_7 (Nat.le_of_ble_eq_true rfl) rfl ?_
  exact sj_weak (l2 := [some (sj_r (some a0)), some (sj_r x1), some (sj_i x2), some (sj_i x3), some (sj_i x4), some (sj_i x5), some (sj_i ((-1))), some (sj_i ((-1))), some (sj_i 0), none, none, none]) (⟨rfl, ⟨rfl, ⟨rfl, ⟨rfl, ⟨rfl, ⟨rfl, ⟨rfl, ⟨rfl, ⟨rfl, trivial⟩⟩⟩⟩⟩⟩⟩⟩⟩) (t_X5_cut_9 N a0 x1 x2 x3 x4 x5 ((-1)) ((-1)) 0 s h)
set_option maxHeartbeats 4000000 in
theorem c_X5_cut {X : sj_X} {N : Nat} {a0 : Nat} {x1 : Option Nat} {x2 : Int} {x3 : Int} {x4 : Int} {x5 : Int} {s : sj_Mem} {q : Int × sj_Mem} (h : f_X5_cut N a0 x1 x2 x3 x4 x5 s = some q) : sj_C X m_X5_cut [sj_r (some a0), sj_r x1, sj_i x2, sj_i x3, sj_i x4, sj_i x5] s (some (sj_i q.1), q.2) :=
  sj_C_of (by decide +kernel) (Nat.le_of_ble_eq_true rfl) (lo := [some (sj_r (some a0)), some (sj_r x1), some (sj_i x2), some (sj_i x3), some (sj_i x4), some (sj_i x5), none, none, none, none, none, none]) rfl (sj_weak (l2 := [some (sj_r (some a0)), some (sj_r x1), some (sj_i x2), some (sj_i x3), some (sj_i x4), some (sj_i x5), none, none, none, none, none, none]) (⟨rfl, ⟨rfl, ⟨rfl, ⟨rfl, ⟨rfl, ⟨rfl, trivial⟩⟩⟩⟩⟩⟩) (t_X5_cut_0 a0 x1 x2 x3 x4 x5 s h))
theorem dX5_count_0 : decode cX5_count 0 = .ok (.aload_n 0, 1) := by decide +kernel
theorem dX5_count_1 : decode cX5_count 1 = .ok (.getfield 19, 3) := by decide +kernel
theorem dX5_count_4 : decode cX5_count 4 = .ok (.aload_n 0, 1) := by decide +kernel
theorem dX5_count_5 : decode cX5_count 5 = .ok (.getfield 15, 3) := by decide +kernel
theorem dX5_count_8 : decode cX5_count 8 = .ok (.isub, 1) := by decide +kernel
theorem dX5_count_9 : decode cX5_count 9 = .ok (.ireturn, 1) := by decide +kernel
set_option maxHeartbeats 4000000 in
theorem t_X5_count_0 {X : sj_X} {s0 : sj_Mem} {N : Nat} {q : Int × sj_Mem} :
    ∀ (a0 : Nat) (s : sj_Mem), f_X5_count N a0 s = some q → sj_T X m_X5_count s0 (some (sj_i q.1), q.2) 0 [some (sj_r (some a0))] [] s := by
  intro a0 s h
  unfold f_X5_count at h
  refine r_aload_n (pc := 0) dX5_count_0 rfl rfl ?_
  refine r_gI (pc := 1) h dX5_count_1 fw_X5_19 rfl (fun v1 h => ?_)
  refine r_aload_n (pc := 4) dX5_count_4 rfl rfl ?_
  refine r_gI (pc := 5) h dX5_count_5 fw_X5_15 rfl (fun v2 h => ?_)
  refine r_isub (pc := 8) dX5_count_8 ?_
  exact r_iret (pc := 9) h rfl dX5_count_9
set_option maxHeartbeats 4000000 in
theorem c_X5_count {X : sj_X} {N : Nat} {a0 : Nat} {s : sj_Mem} {q : Int × sj_Mem} (h : f_X5_count N a0 s = some q) : sj_C X m_X5_count [sj_r (some a0)] s (some (sj_i q.1), q.2) :=
  sj_C_of (by decide +kernel) (Nat.le_of_ble_eq_true rfl) (lo := [some (sj_r (some a0))]) rfl (sj_weak (l2 := [some (sj_r (some a0))]) (⟨rfl, trivial⟩) (t_X5_count_0 a0 s h))
theorem dJ9_floorDiv_f86c9_0 : decode cJ9_floorDiv_f86c9 0 = .ok (.lload_n 0, 1) := by decide +kernel
theorem dJ9_floorDiv_f86c9_1 : decode cJ9_floorDiv_f86c9 1 = .ok (.lload_n 2, 1) := by decide +kernel
theorem dJ9_floorDiv_f86c9_2 : decode cJ9_floorDiv_f86c9 2 = .ok (.ldiv, 1) := by decide +kernel
theorem dJ9_floorDiv_f86c9_3 : decode cJ9_floorDiv_f86c9 3 = .ok (.lstore 4, 2) := by decide +kernel
theorem dJ9_floorDiv_f86c9_5 : decode cJ9_floorDiv_f86c9 5 = .ok (.lload_n 0, 1) := by decide +kernel
theorem dJ9_floorDiv_f86c9_6 : decode cJ9_floorDiv_f86c9 6 = .ok (.lload_n 2, 1) := by decide +kernel
theorem dJ9_floorDiv_f86c9_7 : decode cJ9_floorDiv_f86c9 7 = .ok (.lxor, 1) := by decide +kernel
theorem dJ9_floorDiv_f86c9_8 : decode cJ9_floorDiv_f86c9 8 = .ok (.lconst 0, 1) := by decide +kernel
theorem dJ9_floorDiv_f86c9_9 : decode cJ9_floorDiv_f86c9 9 = .ok (.lcmp, 1) := by decide +kernel
theorem dJ9_floorDiv_f86c9_10 : decode cJ9_floorDiv_f86c9 10 = .ok (.ifCond .ge 17, 3) := by decide +kernel
theorem dJ9_floorDiv_f86c9_13 : decode cJ9_floorDiv_f86c9 13 = .ok (.lload 4, 2) := by decide +kernel
theorem dJ9_floorDiv_f86c9_15 : decode cJ9_floorDiv_f86c9 15 = .ok (.lload_n 2, 1) := by decide +kernel
theorem dJ9_floorDiv_f86c9_16 : decode cJ9_floorDiv_f86c9 16 = .ok (.lmul, 1) := by decide +kernel
theorem dJ9_floorDiv_f86c9_17 : decode cJ9_floorDiv_f86c9 17 = .ok (.lload_n 0, 1) := by decide +kernel
theorem dJ9_floorDiv_f86c9_18 : decode cJ9_floorDiv_f86c9 18 = .ok (.lcmp, 1) := by decide +kernel
theorem dJ9_floorDiv_f86c9_19 : decode cJ9_floorDiv_f86c9 19 = .ok (.ifCond .eq 8, 3) := by decide +kernel
theorem dJ9_floorDiv_f86c9_22 : decode cJ9_floorDiv_f86c9 22 = .ok (.lload 4, 2) := by decide +kernel
theorem dJ9_floorDiv_f86c9_24 : decode cJ9_floorDiv_f86c9 24 = .ok (.lconst 1, 1) := by decide +kernel
theorem dJ9_floorDiv_f86c9_25 : decode cJ9_floorDiv_f86c9 25 = .ok (.lsub, 1) := by decide +kernel
theorem dJ9_floorDiv_f86c9_26 : decode cJ9_floorDiv_f86c9 26 = .ok (.lreturn, 1) := by decide +kernel
theorem dJ9_floorDiv_f86c9_27 : decode cJ9_floorDiv_f86c9 27 = .ok (.lload 4, 2) := by decide +kernel
theorem dJ9_floorDiv_f86c9_29 : decode cJ9_floorDiv_f86c9 29 = .ok (.lreturn, 1) := by decide +kernel
set_option maxHeartbeats 4000000 in
theorem t_J9_floorDiv_f86c9_0 {X : sj_X} {s0 : sj_Mem} {N : Nat} {q : Int × sj_Mem} :
    ∀ (x0 : Int) (x2 : Int) (s : sj_Mem), f_J9_floorDiv_f86c9 N x0 x2 s = some q → sj_T X m_J9_floorDiv_f86c9 s0 (some (sj_j q.1), q.2) 0 [some (sj_j x0), none, some (sj_j x2), none, none, none] [] s := by
  intro x0 x2 s h
  unfold f_J9_floorDiv_f86c9 at h
  refine r_lload_n (pc := 0) dJ9_floorDiv_f86c9_0 rfl rfl ?_
  refine r_lload_n (pc := 1) dJ9_floorDiv_f86c9_1 rfl rfl ?_
  refine r_ldiv (pc := 2) h dJ9_floorDiv_f86c9_2 (fun v1 h => ?_)
  refine r_lstore (ln := [some (sj_j x0), none, some (sj_j x2), none, some (sj_j v1), none]) (pc := 3) dJ9_floorDiv_f86c9_3 (Nat.le_of_ble_eq_true rfl) rfl ?_
  refine r_lload_n (pc := 5) dJ9_floorDiv_f86c9_5 rfl rfl ?_
  refine r_lload_n (pc := 6) dJ9_floorDiv_f86c9_6 rfl rfl ?_
  refine r_lxor (pc := 7) dJ9_floorDiv_f86c9_7 ?_
  refine r_lconst0 (pc := 8) dJ9_floorDiv_f86c9_8 ?_
  refine r_lge (pc := 9) (tgt := 27) h dJ9_floorDiv_f86c9_9 rfl dJ9_floorDiv_f86c9_10 (by decide) (fun h => ?_) (fun h => ?_)
  · refine r_lload (pc := 27) dJ9_floorDiv_f86c9_27 rfl ?_
    exact r_lret (pc := 29) h rfl dJ9_floorDiv_f86c9_29
  · refine r_lload (pc := 13) dJ9_floorDiv_f86c9_13 rfl ?_
    refine r_lload_n (pc := 15) dJ9_floorDiv_f86c9_15 rfl rfl ?_
    refine r_lmul (pc := 16) dJ9_floorDiv_f86c9_16 ?_
    refine r_lload_n (pc := 17) dJ9_floorDiv_f86c9_17 rfl rfl ?_
    refine r_leq (pc := 18) (tgt := 27) h dJ9_floorDiv_f86c9_18 rfl dJ9_floorDiv_f86c9_19 (by decide) (fun h => ?_) (fun h => ?_)
    · refine r_lload (pc := 27) dJ9_floorDiv_f86c9_27 rfl ?_
      exact r_lret (pc := 29) h rfl dJ9_floorDiv_f86c9_29
    · refine r_lload (pc := 22) dJ9_floorDiv_f86c9_22 rfl ?_
      refine r_lconst1 (pc := 24) dJ9_floorDiv_f86c9_24 ?_
      refine r_lsub (pc := 25) dJ9_floorDiv_f86c9_25 ?_
      exact r_lret (pc := 26) h rfl dJ9_floorDiv_f86c9_26
set_option maxHeartbeats 4000000 in
theorem c_J9_floorDiv_f86c9 {X : sj_X} {N : Nat} {x0 : Int} {x2 : Int} {s : sj_Mem} {q : Int × sj_Mem} (h : f_J9_floorDiv_f86c9 N x0 x2 s = some q) : sj_C X m_J9_floorDiv_f86c9 [sj_j x0, sj_j x2] s (some (sj_j q.1), q.2) :=
  sj_C_of (by decide +kernel) (Nat.le_of_ble_eq_true rfl) (lo := [some (sj_j x0), none, some (sj_j x2), none, none, none]) rfl (sj_weak (l2 := [some (sj_j x0), none, some (sj_j x2), none, none, none]) (⟨rfl, ⟨rfl, trivial⟩⟩) (t_J9_floorDiv_f86c9_0 x0 x2 s h))
theorem dX5_baseAt_0 : decode cX5_baseAt 0 = .ok (.aload_n 0, 1) := by decide +kernel
theorem dX5_baseAt_1 : decode cX5_baseAt 1 = .ok (.invokevirtual 32, 3) := by decide +kernel
theorem dX5_baseAt_4 : decode cX5_baseAt 4 = .ok (.ifCond .ne 19, 3) := by decide +kernel
theorem dX5_baseAt_7 : decode cX5_baseAt 7 = .ok (.iload_n 1, 1) := by decide +kernel
theorem dX5_baseAt_8 : decode cX5_baseAt 8 = .ok (.aload_n 0, 1) := by decide +kernel
theorem dX5_baseAt_9 : decode cX5_baseAt 9 = .ok (.getfield 15, 3) := by decide +kernel
theorem dX5_baseAt_12 : decode cX5_baseAt 12 = .ok (.if_icmp .lt 11, 3) := by decide +kernel
theorem dX5_baseAt_15 : decode cX5_baseAt 15 = .ok (.iload_n 1, 1) := by decide +kernel
theorem dX5_baseAt_16 : decode cX5_baseAt 16 = .ok (.aload_n 0, 1) := by decide +kernel
theorem dX5_baseAt_17 : decode cX5_baseAt 17 = .ok (.getfield 19, 3) := by decide +kernel
theorem dX5_baseAt_20 : decode cX5_baseAt 20 = .ok (.if_icmp .le 7, 3) := by decide +kernel
theorem dX5_baseAt_23 : decode cX5_baseAt 23 = .ok (.iconst (-1), 1) := by decide +kernel
theorem dX5_baseAt_24 : decode cX5_baseAt 24 = .ok (.goto 9, 3) := by decide +kernel
theorem dX5_baseAt_27 : decode cX5_baseAt 27 = .ok (.aload_n 0, 1) := by decide +kernel
theorem dX5_baseAt_28 : decode cX5_baseAt 28 = .ok (.getfield 9, 3) := by decide +kernel
theorem dX5_baseAt_31 : decode cX5_baseAt 31 = .ok (.iload_n 1, 1) := by decide +kernel
theorem dX5_baseAt_32 : decode cX5_baseAt 32 = .ok (.iaload, 1) := by decide +kernel
theorem dX5_baseAt_33 : decode cX5_baseAt 33 = .ok (.ireturn, 1) := by decide +kernel
set_option maxHeartbeats 4000000 in
theorem t_X5_baseAt_23 {X : sj_X} {s0 : sj_Mem} {N : Nat} {q : Int × sj_Mem} :
    ∀ (s : sj_Mem), f_X5_baseAt_23 N s = some q → sj_T X m_X5_baseAt s0 (some (sj_i q.1), q.2) 23 [none, none] [] s := by
  intro  s h
  unfold f_X5_baseAt_23 at h
  refine r_iconst (pc := 23) dX5_baseAt_23 ?_
  refine r_goto (pc := 24) (tgt := 33) dX5_baseAt_24 (by decide) ?_
  exact r_iret (pc := 33) h rfl dX5_baseAt_33
set_option maxHeartbeats 4000000 in
theorem t_X5_baseAt_0 {X : sj_X} {s0 : sj_Mem} {N : Nat} {q : Int × sj_Mem} :
    ∀ (a0 : Nat) (x1 : Int) (s : sj_Mem), f_X5_baseAt N a0 x1 s = some q → sj_T X m_X5_baseAt s0 (some (sj_i q.1), q.2) 0 [some (sj_r (some a0)), some (sj_i x1)] [] s := by
  intro a0 x1 s h
  unfold f_X5_baseAt at h
  refine r_aload_n (pc := 0) dX5_baseAt_0 rfl rfl ?_
  refine r_callV (pc := 1) (fun v => some (sj_i v)) (As := []) (rest := []) h dX5_baseAt_1 mw_X5_32 vw_X5_isNone (fun _ _ hc => c_X5_isNone hc) rfl ⟨(Nat.le_of_ble_eq_true rfl), (Nat.le_of_ble_eq_true rfl)⟩ (Nat.le_of_ble_eq_true rfl) rfl (fun v2 s1 h => ?_)
  refine r_if_ne (pc := 4) (tgt := 23) h dX5_baseAt_4 (by decide) (fun h => ?_) (fun h => ?_)
  · refine r_iload_n (pc := 7) dX5_baseAt_7 rfl rfl ?_
    refine r_aload_n (pc := 8) dX5_baseAt_8 rfl rfl ?_
    refine r_gI (pc := 9) h dX5_baseAt_9 fw_X5_15 rfl (fun v3 h => ?_)
    refine r_icmp_lt (pc := 12) (tgt := 23) h dX5_baseAt_12 (by decide) (fun h => ?_) (fun h => ?_)
    · exact sj_weak (l2 := [none, none]) (trivial) (t_X5_baseAt_23 s1 h)
    · refine r_iload_n (pc := 15) dX5_baseAt_15 rfl rfl ?_
      refine r_aload_n (pc := 16) dX5_baseAt_16 rfl rfl ?_
      refine r_gI (pc := 17) h dX5_baseAt_17 fw_X5_19 rfl (fun v4 h => ?_)
      refine r_icmp_le (pc := 20) (tgt := 27) h dX5_baseAt_20 (by decide) (fun h => ?_) (fun h => ?_)
      · refine r_aload_n (pc := 27) dX5_baseAt_27 rfl rfl ?_
        refine r_gR (pc := 28) h dX5_baseAt_28 fw_X5_9 rfl (fun r5 h => ?_)
        refine r_iload_n (pc := 31) dX5_baseAt_31 rfl rfl ?_
        obtain ⟨a6, ea6, g⟩ := e_nn_some h
        clear h
        subst ea6
        have h := g
        clear g
        refine r_iaload (pc := 32) h dX5_baseAt_32 (fun v7 h => ?_)
        exact r_iret (pc := 33) h rfl dX5_baseAt_33
      · exact sj_weak (l2 := [none, none]) (trivial) (t_X5_baseAt_23 s1 h)
  · exact sj_weak (l2 := [none, none]) (trivial) (t_X5_baseAt_23 s1 h)
set_option maxHeartbeats 4000000 in
theorem c_X5_baseAt {X : sj_X} {N : Nat} {a0 : Nat} {x1 : Int} {s : sj_Mem} {q : Int × sj_Mem} (h : f_X5_baseAt N a0 x1 s = some q) : sj_C X m_X5_baseAt [sj_r (some a0), sj_i x1] s (some (sj_i q.1), q.2) :=
  sj_C_of (by decide +kernel) (Nat.le_of_ble_eq_true rfl) (lo := [some (sj_r (some a0)), some (sj_i x1)]) rfl (sj_weak (l2 := [some (sj_r (some a0)), some (sj_i x1)]) (⟨rfl, ⟨rfl, trivial⟩⟩) (t_X5_baseAt_0 a0 x1 s h))
theorem dX5_leastBase_0 : decode cX5_leastBase 0 = .ok (.bipush 100, 2) := by decide +kernel
theorem dX5_leastBase_2 : decode cX5_leastBase 2 = .ok (.istore_n 1, 1) := by decide +kernel
theorem dX5_leastBase_3 : decode cX5_leastBase 3 = .ok (.aload_n 0, 1) := by decide +kernel
theorem dX5_leastBase_4 : decode cX5_leastBase 4 = .ok (.getfield 15, 3) := by decide +kernel
theorem dX5_leastBase_7 : decode cX5_leastBase 7 = .ok (.iconst 0, 1) := by decide +kernel
theorem dX5_leastBase_8 : decode cX5_leastBase 8 = .ok (.invokestatic 36, 3) := by decide +kernel
theorem dX5_leastBase_11 : decode cX5_leastBase 11 = .ok (.istore_n 2, 1) := by decide +kernel
theorem dX5_leastBase_12 : decode cX5_leastBase 12 = .ok (.iload_n 2, 1) := by decide +kernel
theorem dX5_leastBase_13 : decode cX5_leastBase 13 = .ok (.aload_n 0, 1) := by decide +kernel
theorem dX5_leastBase_14 : decode cX5_leastBase 14 = .ok (.getfield 19, 3) := by decide +kernel
theorem dX5_leastBase_17 : decode cX5_leastBase 17 = .ok (.if_icmp .gt 20, 3) := by decide +kernel
theorem dX5_leastBase_20 : decode cX5_leastBase 20 = .ok (.iload_n 1, 1) := by decide +kernel
theorem dX5_leastBase_21 : decode cX5_leastBase 21 = .ok (.aload_n 0, 1) := by decide +kernel
theorem dX5_leastBase_22 : decode cX5_leastBase 22 = .ok (.getfield 9, 3) := by decide +kernel
theorem dX5_leastBase_25 : decode cX5_leastBase 25 = .ok (.iload_n 2, 1) := by decide +kernel
theorem dX5_leastBase_26 : decode cX5_leastBase 26 = .ok (.iaload, 1) := by decide +kernel
theorem dX5_leastBase_27 : decode cX5_leastBase 27 = .ok (.invokestatic 42, 3) := by decide +kernel
theorem dX5_leastBase_30 : decode cX5_leastBase 30 = .ok (.istore_n 1, 1) := by decide +kernel
theorem dX5_leastBase_31 : decode cX5_leastBase 31 = .ok (.iinc 2 1, 3) := by decide +kernel
theorem dX5_leastBase_34 : decode cX5_leastBase 34 = .ok (.goto (-22), 3) := by decide +kernel
theorem dX5_leastBase_37 : decode cX5_leastBase 37 = .ok (.iload_n 1, 1) := by decide +kernel
theorem dX5_leastBase_38 : decode cX5_leastBase 38 = .ok (.ireturn, 1) := by decide +kernel
set_option maxHeartbeats 4000000 in
theorem t_X5_leastBase_12_b {X : sj_X} {s0 : sj_Mem} {N : Nat} {q : Int × sj_Mem} {k12 : Nat → Int → Int → sj_Mem → Option (Int × sj_Mem)} (hk12 : ∀ (a0 : Nat) (x1 : Int) (x2 : Int) (s : sj_Mem), k12 a0 x1 x2 s = some q → sj_T X m_X5_leastBase s0 (some (sj_i q.1), q.2) 12 [some (sj_r (some a0)), some (sj_i x1), some (sj_i x2)] [] s) :
    ∀ (a0 : Nat) (x1 : Int) (x2 : Int) (s : sj_Mem), f_X5_leastBase_12_b N k12 a0 x1 x2 s = some q → sj_T X m_X5_leastBase s0 (some (sj_i q.1), q.2) 12 [some (sj_r (some a0)), some (sj_i x1), some (sj_i x2)] [] s := by
  intro a0 x1 x2 s h
  unfold f_X5_leastBase_12_b at h
  refine r_iload_n (pc := 12) dX5_leastBase_12 rfl rfl ?_
  refine r_aload_n (pc := 13) dX5_leastBase_13 rfl rfl ?_
  refine r_gI (pc := 14) h dX5_leastBase_14 fw_X5_19 rfl (fun v1 h => ?_)
  refine r_icmp_gt (pc := 17) (tgt := 37) h dX5_leastBase_17 (by decide) (fun h => ?_) (fun h => ?_)
  · refine r_iload_n (pc := 37) dX5_leastBase_37 rfl rfl ?_
    exact r_iret (pc := 38) h rfl dX5_leastBase_38
  · refine r_iload_n (pc := 20) dX5_leastBase_20 rfl rfl ?_
    refine r_aload_n (pc := 21) dX5_leastBase_21 rfl rfl ?_
    refine r_gR (pc := 22) h dX5_leastBase_22 fw_X5_9 rfl (fun r2 h => ?_)
    refine r_iload_n (pc := 25) dX5_leastBase_25 rfl rfl ?_
    obtain ⟨a3, ea3, g⟩ := e_nn_some h
    clear h
    subst ea3
    have h := g
    clear g
    refine r_iaload (pc := 26) h dX5_leastBase_26 (fun v4 h => ?_)
    refine r_mmin (pc := 27) h dX5_leastBase_27 mx_X5_42 (Nat.le_of_ble_eq_true rfl) (Nat.le_of_ble_eq_true rfl) (fun v5 h => ?_)
    refine r_istore_n (ln := [some (sj_r (some a0)), some (sj_i v5), some (sj_i x2)]) (pc := 30) dX5_leastBase_30 rfl (Nat.le_of_ble_eq_true rfl) rfl ?_
    refine r_iinc (ln := fun w => [some (sj_r (some a0)), some (sj_i v5), some (sj_i w)]) (pc := 31) h dX5_leastBase_31 rfl (Nat.le_of_ble_eq_true rfl) (fun _ => rfl) (fun v6 h => ?_)
    refine r_goto (pc := 34) (tgt := 12) dX5_leastBase_34 (by decide) ?_
    exact sj_weak (l2 := [some (sj_r (some a0)), some (sj_i v5), some (sj_i v6)]) (⟨rfl, ⟨rfl, ⟨rfl, trivial⟩⟩⟩) (hk12 a0 v5 v6 s h)
set_option maxHeartbeats 4000000 in
theorem t_X5_leastBase_12 {X : sj_X} {s0 : sj_Mem} {N : Nat} {q : Int × sj_Mem} :
    ∀ (n : Nat) (a0 : Nat) (x1 : Int) (x2 : Int) (s : sj_Mem), f_X5_leastBase_12 N n a0 x1 x2 s = some q → sj_T X m_X5_leastBase s0 (some (sj_i q.1), q.2) 12 [some (sj_r (some a0)), some (sj_i x1), some (sj_i x2)] [] s := by
  intro n
  induction n with
  | zero => intro a0 x1 x2 s h; exact nomatch h
  | succ n ih => intro a0 x1 x2 s h; exact t_X5_leastBase_12_b (N := N) ih a0 x1 x2 s h
set_option maxHeartbeats 4000000 in
theorem t_X5_leastBase_0 {X : sj_X} {s0 : sj_Mem} {N : Nat} {q : Int × sj_Mem} :
    ∀ (a0 : Nat) (s : sj_Mem), f_X5_leastBase N a0 s = some q → sj_T X m_X5_leastBase s0 (some (sj_i q.1), q.2) 0 [some (sj_r (some a0)), none, none] [] s := by
  intro a0 s h
  unfold f_X5_leastBase at h
  refine r_bipush (pc := 0) dX5_leastBase_0 ⟨by decide, by decide⟩ ?_
  refine r_istore_n (ln := [some (sj_r (some a0)), some (sj_i 100), none]) (pc := 2) dX5_leastBase_2 rfl (Nat.le_of_ble_eq_true rfl) rfl ?_
  refine r_aload_n (pc := 3) dX5_leastBase_3 rfl rfl ?_
  refine r_gI (pc := 4) h dX5_leastBase_4 fw_X5_15 rfl (fun v1 h => ?_)
  refine r_iconst (pc := 7) dX5_leastBase_7 ?_
  refine r_mmax (pc := 8) h dX5_leastBase_8 mx_X5_36 (Nat.le_of_ble_eq_true rfl) (Nat.le_of_ble_eq_true rfl) (fun v2 h => ?_)
  refine r_istore_n (ln := [some (sj_r (some a0)), some (sj_i 100), some (sj_i v2)]) (pc := 11) dX5_leastBase_11 rfl (Nat.le_of_ble_eq_true rfl) rfl ?_
  exact sj_weak (l2 := [some (sj_r (some a0)), some (sj_i 100), some (sj_i v2)]) (⟨rfl, ⟨rfl, ⟨rfl, trivial⟩⟩⟩) (t_X5_leastBase_12 N a0 100 v2 s h)
set_option maxHeartbeats 4000000 in
theorem c_X5_leastBase {X : sj_X} {N : Nat} {a0 : Nat} {s : sj_Mem} {q : Int × sj_Mem} (h : f_X5_leastBase N a0 s = some q) : sj_C X m_X5_leastBase [sj_r (some a0)] s (some (sj_i q.1), q.2) :=
  sj_C_of (by decide +kernel) (Nat.le_of_ble_eq_true rfl) (lo := [some (sj_r (some a0)), none, none]) rfl (sj_weak (l2 := [some (sj_r (some a0)), none, none]) (⟨rfl, trivial⟩) (t_X5_leastBase_0 a0 s h))
theorem dJ9_floorDiv_7cf53_0 : decode cJ9_floorDiv_7cf53 0 = .ok (.iload_n 0, 1) := by decide +kernel
theorem dJ9_floorDiv_7cf53_1 : decode cJ9_floorDiv_7cf53 1 = .ok (.iload_n 1, 1) := by decide +kernel
theorem dJ9_floorDiv_7cf53_2 : decode cJ9_floorDiv_7cf53 2 = .ok (.idiv, 1) := by decide +kernel
theorem dJ9_floorDiv_7cf53_3 : decode cJ9_floorDiv_7cf53 3 = .ok (.istore_n 2, 1) := by decide +kernel
theorem dJ9_floorDiv_7cf53_4 : decode cJ9_floorDiv_7cf53 4 = .ok (.iload_n 0, 1) := by decide +kernel
theorem dJ9_floorDiv_7cf53_5 : decode cJ9_floorDiv_7cf53 5 = .ok (.iload_n 1, 1) := by decide +kernel
theorem dJ9_floorDiv_7cf53_6 : decode cJ9_floorDiv_7cf53 6 = .ok (.ixor, 1) := by decide +kernel
theorem dJ9_floorDiv_7cf53_7 : decode cJ9_floorDiv_7cf53 7 = .ok (.ifCond .ge 14, 3) := by decide +kernel
theorem dJ9_floorDiv_7cf53_10 : decode cJ9_floorDiv_7cf53 10 = .ok (.iload_n 2, 1) := by decide +kernel
theorem dJ9_floorDiv_7cf53_11 : decode cJ9_floorDiv_7cf53 11 = .ok (.iload_n 1, 1) := by decide +kernel
theorem dJ9_floorDiv_7cf53_12 : decode cJ9_floorDiv_7cf53 12 = .ok (.imul, 1) := by decide +kernel
theorem dJ9_floorDiv_7cf53_13 : decode cJ9_floorDiv_7cf53 13 = .ok (.iload_n 0, 1) := by decide +kernel
theorem dJ9_floorDiv_7cf53_14 : decode cJ9_floorDiv_7cf53 14 = .ok (.if_icmp .eq 7, 3) := by decide +kernel
theorem dJ9_floorDiv_7cf53_17 : decode cJ9_floorDiv_7cf53 17 = .ok (.iload_n 2, 1) := by decide +kernel
theorem dJ9_floorDiv_7cf53_18 : decode cJ9_floorDiv_7cf53 18 = .ok (.iconst 1, 1) := by decide +kernel
theorem dJ9_floorDiv_7cf53_19 : decode cJ9_floorDiv_7cf53 19 = .ok (.isub, 1) := by decide +kernel
theorem dJ9_floorDiv_7cf53_20 : decode cJ9_floorDiv_7cf53 20 = .ok (.ireturn, 1) := by decide +kernel
theorem dJ9_floorDiv_7cf53_21 : decode cJ9_floorDiv_7cf53 21 = .ok (.iload_n 2, 1) := by decide +kernel
theorem dJ9_floorDiv_7cf53_22 : decode cJ9_floorDiv_7cf53 22 = .ok (.ireturn, 1) := by decide +kernel
set_option maxHeartbeats 4000000 in
theorem t_J9_floorDiv_7cf53_0 {X : sj_X} {s0 : sj_Mem} {N : Nat} {q : Int × sj_Mem} :
    ∀ (x0 : Int) (x1 : Int) (s : sj_Mem), f_J9_floorDiv_7cf53 N x0 x1 s = some q → sj_T X m_J9_floorDiv_7cf53 s0 (some (sj_i q.1), q.2) 0 [some (sj_i x0), some (sj_i x1), none] [] s := by
  intro x0 x1 s h
  unfold f_J9_floorDiv_7cf53 at h
  refine r_iload_n (pc := 0) dJ9_floorDiv_7cf53_0 rfl rfl ?_
  refine r_iload_n (pc := 1) dJ9_floorDiv_7cf53_1 rfl rfl ?_
  refine r_idiv (pc := 2) h dJ9_floorDiv_7cf53_2 (fun v1 h => ?_)
  refine r_istore_n (ln := [some (sj_i x0), some (sj_i x1), some (sj_i v1)]) (pc := 3) dJ9_floorDiv_7cf53_3 rfl (Nat.le_of_ble_eq_true rfl) rfl ?_
  refine r_iload_n (pc := 4) dJ9_floorDiv_7cf53_4 rfl rfl ?_
  refine r_iload_n (pc := 5) dJ9_floorDiv_7cf53_5 rfl rfl ?_
  refine r_ixor (pc := 6) dJ9_floorDiv_7cf53_6 ?_
  refine r_if_ge (pc := 7) (tgt := 21) h dJ9_floorDiv_7cf53_7 (by decide) (fun h => ?_) (fun h => ?_)
  · refine r_iload_n (pc := 21) dJ9_floorDiv_7cf53_21 rfl rfl ?_
    exact r_iret (pc := 22) h rfl dJ9_floorDiv_7cf53_22
  · refine r_iload_n (pc := 10) dJ9_floorDiv_7cf53_10 rfl rfl ?_
    refine r_iload_n (pc := 11) dJ9_floorDiv_7cf53_11 rfl rfl ?_
    refine r_imul (pc := 12) dJ9_floorDiv_7cf53_12 ?_
    refine r_iload_n (pc := 13) dJ9_floorDiv_7cf53_13 rfl rfl ?_
    refine r_icmp_eq (pc := 14) (tgt := 21) h dJ9_floorDiv_7cf53_14 (by decide) (fun h => ?_) (fun h => ?_)
    · refine r_iload_n (pc := 21) dJ9_floorDiv_7cf53_21 rfl rfl ?_
      exact r_iret (pc := 22) h rfl dJ9_floorDiv_7cf53_22
    · refine r_iload_n (pc := 17) dJ9_floorDiv_7cf53_17 rfl rfl ?_
      refine r_iconst (pc := 18) dJ9_floorDiv_7cf53_18 ?_
      refine r_isub (pc := 19) dJ9_floorDiv_7cf53_19 ?_
      exact r_iret (pc := 20) h rfl dJ9_floorDiv_7cf53_20
set_option maxHeartbeats 4000000 in
theorem c_J9_floorDiv_7cf53 {X : sj_X} {N : Nat} {x0 : Int} {x1 : Int} {s : sj_Mem} {q : Int × sj_Mem} (h : f_J9_floorDiv_7cf53 N x0 x1 s = some q) : sj_C X m_J9_floorDiv_7cf53 [sj_i x0, sj_i x1] s (some (sj_i q.1), q.2) :=
  sj_C_of (by decide +kernel) (Nat.le_of_ble_eq_true rfl) (lo := [some (sj_i x0), some (sj_i x1), none]) rfl (sj_weak (l2 := [some (sj_i x0), some (sj_i x1), none]) (⟨rfl, ⟨rfl, trivial⟩⟩) (t_J9_floorDiv_7cf53_0 x0 x1 s h))
theorem dX5_heightAt_0 : decode cX5_heightAt 0 = .ok (.iload_n 1, 1) := by decide +kernel
theorem dX5_heightAt_1 : decode cX5_heightAt 1 = .ok (.iconst 1, 1) := by decide +kernel
theorem dX5_heightAt_2 : decode cX5_heightAt 2 = .ok (.isub, 1) := by decide +kernel
theorem dX5_heightAt_3 : decode cX5_heightAt 3 = .ok (.istore_n 3, 1) := by decide +kernel
theorem dX5_heightAt_4 : decode cX5_heightAt 4 = .ok (.aload_n 0, 1) := by decide +kernel
theorem dX5_heightAt_5 : decode cX5_heightAt 5 = .ok (.getfield 72, 3) := by decide +kernel
theorem dX5_heightAt_8 : decode cX5_heightAt 8 = .ok (.iload_n 1, 1) := by decide +kernel
theorem dX5_heightAt_9 : decode cX5_heightAt 9 = .ok (.iaload, 1) := by decide +kernel
theorem dX5_heightAt_10 : decode cX5_heightAt 10 = .ok (.aload_n 0, 1) := by decide +kernel
theorem dX5_heightAt_11 : decode cX5_heightAt 11 = .ok (.getfield 72, 3) := by decide +kernel
theorem dX5_heightAt_14 : decode cX5_heightAt 14 = .ok (.iload_n 3, 1) := by decide +kernel
theorem dX5_heightAt_15 : decode cX5_heightAt 15 = .ok (.iaload, 1) := by decide +kernel
theorem dX5_heightAt_16 : decode cX5_heightAt 16 = .ok (.isub, 1) := by decide +kernel
theorem dX5_heightAt_17 : decode cX5_heightAt 17 = .ok (.istore 4, 2) := by decide +kernel
theorem dX5_heightAt_19 : decode cX5_heightAt 19 = .ok (.iload 4, 2) := by decide +kernel
theorem dX5_heightAt_21 : decode cX5_heightAt 21 = .ok (.ifCond .gt 10, 3) := by decide +kernel
theorem dX5_heightAt_24 : decode cX5_heightAt 24 = .ok (.aload_n 0, 1) := by decide +kernel
theorem dX5_heightAt_25 : decode cX5_heightAt 25 = .ok (.getfield 79, 3) := by decide +kernel
theorem dX5_heightAt_28 : decode cX5_heightAt 28 = .ok (.iload_n 1, 1) := by decide +kernel
theorem dX5_heightAt_29 : decode cX5_heightAt 29 = .ok (.iaload, 1) := by decide +kernel
theorem dX5_heightAt_30 : decode cX5_heightAt 30 = .ok (.ireturn, 1) := by decide +kernel
theorem dX5_heightAt_31 : decode cX5_heightAt 31 = .ok (.aload_n 0, 1) := by decide +kernel
theorem dX5_heightAt_32 : decode cX5_heightAt 32 = .ok (.getfield 79, 3) := by decide +kernel
theorem dX5_heightAt_35 : decode cX5_heightAt 35 = .ok (.iload_n 1, 1) := by decide +kernel
theorem dX5_heightAt_36 : decode cX5_heightAt 36 = .ok (.iaload, 1) := by decide +kernel
theorem dX5_heightAt_37 : decode cX5_heightAt 37 = .ok (.aload_n 0, 1) := by decide +kernel
theorem dX5_heightAt_38 : decode cX5_heightAt 38 = .ok (.getfield 79, 3) := by decide +kernel
theorem dX5_heightAt_41 : decode cX5_heightAt 41 = .ok (.iload_n 3, 1) := by decide +kernel
theorem dX5_heightAt_42 : decode cX5_heightAt 42 = .ok (.iaload, 1) := by decide +kernel
theorem dX5_heightAt_43 : decode cX5_heightAt 43 = .ok (.isub, 1) := by decide +kernel
theorem dX5_heightAt_44 : decode cX5_heightAt 44 = .ok (.istore 5, 2) := by decide +kernel
theorem dX5_heightAt_46 : decode cX5_heightAt 46 = .ok (.aload_n 0, 1) := by decide +kernel
theorem dX5_heightAt_47 : decode cX5_heightAt 47 = .ok (.getfield 79, 3) := by decide +kernel
theorem dX5_heightAt_50 : decode cX5_heightAt 50 = .ok (.iload_n 3, 1) := by decide +kernel
theorem dX5_heightAt_51 : decode cX5_heightAt 51 = .ok (.iaload, 1) := by decide +kernel
theorem dX5_heightAt_52 : decode cX5_heightAt 52 = .ok (.iload 5, 2) := by decide +kernel
theorem dX5_heightAt_54 : decode cX5_heightAt 54 = .ok (.iload_n 2, 1) := by decide +kernel
theorem dX5_heightAt_55 : decode cX5_heightAt 55 = .ok (.aload_n 0, 1) := by decide +kernel
theorem dX5_heightAt_56 : decode cX5_heightAt 56 = .ok (.getfield 72, 3) := by decide +kernel
theorem dX5_heightAt_59 : decode cX5_heightAt 59 = .ok (.iload_n 3, 1) := by decide +kernel
theorem dX5_heightAt_60 : decode cX5_heightAt 60 = .ok (.iaload, 1) := by decide +kernel
theorem dX5_heightAt_61 : decode cX5_heightAt 61 = .ok (.isub, 1) := by decide +kernel
theorem dX5_heightAt_62 : decode cX5_heightAt 62 = .ok (.imul, 1) := by decide +kernel
theorem dX5_heightAt_63 : decode cX5_heightAt 63 = .ok (.iload 4, 2) := by decide +kernel
theorem dX5_heightAt_65 : decode cX5_heightAt 65 = .ok (.invokestatic 82, 3) := by decide +kernel
theorem dX5_heightAt_68 : decode cX5_heightAt 68 = .ok (.iadd, 1) := by decide +kernel
theorem dX5_heightAt_69 : decode cX5_heightAt 69 = .ok (.ireturn, 1) := by decide +kernel
set_option maxHeartbeats 4000000 in
theorem t_X5_heightAt_0 {X : sj_X} {s0 : sj_Mem} {N : Nat} {q : Int × sj_Mem} :
    ∀ (x0 : Option Nat) (x1 : Int) (x2 : Int) (s : sj_Mem), f_X5_heightAt N x0 x1 x2 s = some q → sj_T X m_X5_heightAt s0 (some (sj_i q.1), q.2) 0 [some (sj_r x0), some (sj_i x1), some (sj_i x2), none, none, none] [] s := by
  intro x0 x1 x2 s h
  unfold f_X5_heightAt at h
  refine r_iload_n (pc := 0) dX5_heightAt_0 rfl rfl ?_
  refine r_iconst (pc := 1) dX5_heightAt_1 ?_
  refine r_isub (pc := 2) dX5_heightAt_2 ?_
  refine r_istore_nL (ln := fun w => [some (sj_r x0), some (sj_i x1), some (sj_i x2), some (sj_i w), none, none]) (pc := 3) h dX5_heightAt_3 rfl (Nat.le_of_ble_eq_true rfl) (fun _ => rfl) (fun v1 h => ?_)
  refine r_aload_n (pc := 4) dX5_heightAt_4 rfl rfl ?_
  obtain ⟨a2, ea2, g⟩ := e_nn_some h
  clear h
  subst ea2
  have h := g
  clear g
  refine r_gR (pc := 5) h dX5_heightAt_5 fw_X5_72 rfl (fun r3 h => ?_)
  refine r_iload_n (pc := 8) dX5_heightAt_8 rfl rfl ?_
  obtain ⟨a4, ea4, g⟩ := e_nn_some h
  clear h
  subst ea4
  have h := g
  clear g
  refine r_iaload (pc := 9) h dX5_heightAt_9 (fun v5 h => ?_)
  refine r_aload_n (pc := 10) dX5_heightAt_10 rfl rfl ?_
  refine r_gR (pc := 11) h dX5_heightAt_11 fw_X5_72 rfl (fun r6 h => ?_)
  refine r_iload_n (pc := 14) dX5_heightAt_14 rfl rfl ?_
  obtain ⟨a7, ea7, g⟩ := e_nn_some h
  clear h
  subst ea7
  have h := g
  clear g
  refine r_iaload (pc := 15) h dX5_heightAt_15 (fun v8 h => ?_)
  refine r_isub (pc := 16) dX5_heightAt_16 ?_
  refine r_istoreL (ln := fun w => [some (sj_r (some a2)), some (sj_i x1), some (sj_i x2), some (sj_i v1), some (sj_i w), none]) (pc := 17) h dX5_heightAt_17 (Nat.le_of_ble_eq_true rfl) (fun _ => rfl) (fun v9 h => ?_)
  refine r_iload (pc := 19) dX5_heightAt_19 rfl ?_
  refine r_if_gt (pc := 21) (tgt := 31) h dX5_heightAt_21 (by decide) (fun h => ?_) (fun h => ?_)
  · refine r_aload_n (pc := 31) dX5_heightAt_31 rfl rfl ?_
    refine r_gR (pc := 32) h dX5_heightAt_32 fw_X5_79 rfl (fun r10 h => ?_)
    refine r_iload_n (pc := 35) dX5_heightAt_35 rfl rfl ?_
    obtain ⟨a11, ea11, g⟩ := e_nn_some h
    clear h
    subst ea11
    have h := g
    clear g
    refine r_iaload (pc := 36) h dX5_heightAt_36 (fun v12 h => ?_)
    refine r_aload_n (pc := 37) dX5_heightAt_37 rfl rfl ?_
    refine r_gR (pc := 38) h dX5_heightAt_38 fw_X5_79 rfl (fun r13 h => ?_)
    refine r_iload_n (pc := 41) dX5_heightAt_41 rfl rfl ?_
    obtain ⟨a14, ea14, g⟩ := e_nn_some h
    clear h
    subst ea14
    have h := g
    clear g
    refine r_iaload (pc := 42) h dX5_heightAt_42 (fun v15 h => ?_)
    refine r_isub (pc := 43) dX5_heightAt_43 ?_
    refine r_istoreL (ln := fun w => [some (sj_r (some a2)), some (sj_i x1), some (sj_i x2), some (sj_i v1), some (sj_i v9), some (sj_i w)]) (pc := 44) h dX5_heightAt_44 (Nat.le_of_ble_eq_true rfl) (fun _ => rfl) (fun v16 h => ?_)
    refine r_aload_n (pc := 46) dX5_heightAt_46 rfl rfl ?_
    refine r_gR (pc := 47) h dX5_heightAt_47 fw_X5_79 rfl (fun r17 h => ?_)
    refine r_iload_n (pc := 50) dX5_heightAt_50 rfl rfl ?_
    obtain ⟨a18, ea18, g⟩ := e_nn_some h
    clear h
    subst ea18
    have h := g
    clear g
    refine r_iaload (pc := 51) h dX5_heightAt_51 (fun v19 h => ?_)
    refine r_iload (pc := 52) dX5_heightAt_52 rfl ?_
    refine r_iload_n (pc := 54) dX5_heightAt_54 rfl rfl ?_
    refine r_aload_n (pc := 55) dX5_heightAt_55 rfl rfl ?_
    refine r_gR (pc := 56) h dX5_heightAt_56 fw_X5_72 rfl (fun r20 h => ?_)
    refine r_iload_n (pc := 59) dX5_heightAt_59 rfl rfl ?_
    obtain ⟨a21, ea21, g⟩ := e_nn_some h
    clear h
    subst ea21
    have h := g
    clear g
    refine r_iaload (pc := 60) h dX5_heightAt_60 (fun v22 h => ?_)
    refine r_isub (pc := 61) dX5_heightAt_61 ?_
    refine r_imul (pc := 62) dX5_heightAt_62 ?_
    refine r_iload (pc := 63) dX5_heightAt_63 rfl ?_
    refine r_callS (pc := 65) (fun v => some (sj_i v)) (As := [sj_i (v16 * (x2 - v22)), sj_i v9]) (rest := [(sj_i v19)]) h dX5_heightAt_65 mw_X5_82 kw_641 (fun _ _ hc => c_J9_floorDiv_7cf53 hc) rfl ⟨(Nat.le_of_ble_eq_true rfl), (Nat.le_of_ble_eq_true rfl)⟩ (Nat.le_of_ble_eq_true rfl) rfl (fun v24 s23 h => ?_)
    refine r_iadd (pc := 68) dX5_heightAt_68 ?_
    exact r_iret (pc := 69) h rfl dX5_heightAt_69
  · refine r_aload_n (pc := 24) dX5_heightAt_24 rfl rfl ?_
    refine r_gR (pc := 25) h dX5_heightAt_25 fw_X5_79 rfl (fun r25 h => ?_)
    refine r_iload_n (pc := 28) dX5_heightAt_28 rfl rfl ?_
    obtain ⟨a26, ea26, g⟩ := e_nn_some h
    clear h
    subst ea26
    have h := g
    clear g
    refine r_iaload (pc := 29) h dX5_heightAt_29 (fun v27 h => ?_)
    exact r_iret (pc := 30) h rfl dX5_heightAt_30
set_option maxHeartbeats 4000000 in
theorem c_X5_heightAt {X : sj_X} {N : Nat} {x0 : Option Nat} {x1 : Int} {x2 : Int} {s : sj_Mem} {q : Int × sj_Mem} (h : f_X5_heightAt N x0 x1 x2 s = some q) : sj_C X m_X5_heightAt [sj_r x0, sj_i x1, sj_i x2] s (some (sj_i q.1), q.2) :=
  sj_C_of (by decide +kernel) (Nat.le_of_ble_eq_true rfl) (lo := [some (sj_r x0), some (sj_i x1), some (sj_i x2), none, none, none]) rfl (sj_weak (l2 := [some (sj_r x0), some (sj_i x1), some (sj_i x2), none, none, none]) (⟨rfl, ⟨rfl, ⟨rfl, trivial⟩⟩⟩) (t_X5_heightAt_0 x0 x1 x2 s h))
theorem dX5_follow_0 : decode cX5_follow 0 = .ok (.aload_n 2, 1) := by decide +kernel
theorem dX5_follow_1 : decode cX5_follow 1 = .ok (.getfield 67, 3) := by decide +kernel
theorem dX5_follow_4 : decode cX5_follow 4 = .ok (.istore 4, 2) := by decide +kernel
theorem dX5_follow_6 : decode cX5_follow 6 = .ok (.iload 4, 2) := by decide +kernel
theorem dX5_follow_8 : decode cX5_follow 8 = .ok (.iconst 2, 1) := by decide +kernel
theorem dX5_follow_9 : decode cX5_follow 9 = .ok (.if_icmp .lt 26, 3) := by decide +kernel
theorem dX5_follow_12 : decode cX5_follow 12 = .ok (.iload 4, 2) := by decide +kernel
theorem dX5_follow_14 : decode cX5_follow 14 = .ok (.bipush 12, 2) := by decide +kernel
theorem dX5_follow_16 : decode cX5_follow 16 = .ok (.if_icmp .gt 19, 3) := by decide +kernel
theorem dX5_follow_19 : decode cX5_follow 19 = .ok (.aload_n 2, 1) := by decide +kernel
theorem dX5_follow_20 : decode cX5_follow 20 = .ok (.getfield 72, 3) := by decide +kernel
theorem dX5_follow_23 : decode cX5_follow 23 = .ok (.iload 4, 2) := by decide +kernel
theorem dX5_follow_25 : decode cX5_follow 25 = .ok (.iconst 1, 1) := by decide +kernel
theorem dX5_follow_26 : decode cX5_follow 26 = .ok (.isub, 1) := by decide +kernel
theorem dX5_follow_27 : decode cX5_follow 27 = .ok (.iaload, 1) := by decide +kernel
theorem dX5_follow_28 : decode cX5_follow 28 = .ok (.aload_n 1, 1) := by decide +kernel
theorem dX5_follow_29 : decode cX5_follow 29 = .ok (.getfield 50, 3) := by decide +kernel
theorem dX5_follow_32 : decode cX5_follow 32 = .ok (.if_icmp .le 5, 3) := by decide +kernel
theorem dX5_follow_35 : decode cX5_follow 35 = .ok (.iconst 0, 1) := by decide +kernel
theorem dX5_follow_36 : decode cX5_follow 36 = .ok (.ireturn, 1) := by decide +kernel
theorem dX5_follow_37 : decode cX5_follow 37 = .ok (.iconst 1, 1) := by decide +kernel
theorem dX5_follow_38 : decode cX5_follow 38 = .ok (.istore 5, 2) := by decide +kernel
theorem dX5_follow_40 : decode cX5_follow 40 = .ok (.aload_n 2, 1) := by decide +kernel
theorem dX5_follow_41 : decode cX5_follow 41 = .ok (.getfield 72, 3) := by decide +kernel
theorem dX5_follow_44 : decode cX5_follow 44 = .ok (.iconst 0, 1) := by decide +kernel
theorem dX5_follow_45 : decode cX5_follow 45 = .ok (.iaload, 1) := by decide +kernel
theorem dX5_follow_46 : decode cX5_follow 46 = .ok (.istore 6, 2) := by decide +kernel
theorem dX5_follow_48 : decode cX5_follow 48 = .ok (.aload_n 2, 1) := by decide +kernel
theorem dX5_follow_49 : decode cX5_follow 49 = .ok (.getfield 72, 3) := by decide +kernel
theorem dX5_follow_52 : decode cX5_follow 52 = .ok (.iload 4, 2) := by decide +kernel
theorem dX5_follow_54 : decode cX5_follow 54 = .ok (.iconst 1, 1) := by decide +kernel
theorem dX5_follow_55 : decode cX5_follow 55 = .ok (.isub, 1) := by decide +kernel
theorem dX5_follow_56 : decode cX5_follow 56 = .ok (.iaload, 1) := by decide +kernel
theorem dX5_follow_57 : decode cX5_follow 57 = .ok (.istore 7, 2) := by decide +kernel
theorem dX5_follow_59 : decode cX5_follow 59 = .ok (.iload 6, 2) := by decide +kernel
theorem dX5_follow_61 : decode cX5_follow 61 = .ok (.iconst 1, 1) := by decide +kernel
theorem dX5_follow_62 : decode cX5_follow 62 = .ok (.iadd, 1) := by decide +kernel
theorem dX5_follow_63 : decode cX5_follow 63 = .ok (.istore 8, 2) := by decide +kernel
theorem dX5_follow_65 : decode cX5_follow 65 = .ok (.iload 8, 2) := by decide +kernel
theorem dX5_follow_67 : decode cX5_follow 67 = .ok (.iload 7, 2) := by decide +kernel
theorem dX5_follow_69 : decode cX5_follow 69 = .ok (.if_icmp .ge 78, 3) := by decide +kernel
theorem dX5_follow_72 : decode cX5_follow 72 = .ok (.iload 5, 2) := by decide +kernel
theorem dX5_follow_74 : decode cX5_follow 74 = .ok (.iload 4, 2) := by decide +kernel
theorem dX5_follow_76 : decode cX5_follow 76 = .ok (.iconst 1, 1) := by decide +kernel
theorem dX5_follow_77 : decode cX5_follow 77 = .ok (.isub, 1) := by decide +kernel
theorem dX5_follow_78 : decode cX5_follow 78 = .ok (.if_icmp .ge 18, 3) := by decide +kernel
theorem dX5_follow_81 : decode cX5_follow 81 = .ok (.iload 8, 2) := by decide +kernel
theorem dX5_follow_83 : decode cX5_follow 83 = .ok (.aload_n 2, 1) := by decide +kernel
theorem dX5_follow_84 : decode cX5_follow 84 = .ok (.getfield 72, 3) := by decide +kernel
theorem dX5_follow_87 : decode cX5_follow 87 = .ok (.iload 5, 2) := by decide +kernel
theorem dX5_follow_89 : decode cX5_follow 89 = .ok (.iaload, 1) := by decide +kernel
theorem dX5_follow_90 : decode cX5_follow 90 = .ok (.if_icmp .le 6, 3) := by decide +kernel
theorem dX5_follow_93 : decode cX5_follow 93 = .ok (.iinc 5 1, 3) := by decide +kernel
theorem dX5_follow_96 : decode cX5_follow 96 = .ok (.aload_n 2, 1) := by decide +kernel
theorem dX5_follow_97 : decode cX5_follow 97 = .ok (.iload 5, 2) := by decide +kernel
theorem dX5_follow_99 : decode cX5_follow 99 = .ok (.iload 8, 2) := by decide +kernel
theorem dX5_follow_101 : decode cX5_follow 101 = .ok (.invokestatic 75, 3) := by decide +kernel
theorem dX5_follow_104 : decode cX5_follow 104 = .ok (.istore 9, 2) := by decide +kernel
theorem dX5_follow_106 : decode cX5_follow 106 = .ok (.iload 9, 2) := by decide +kernel
theorem dX5_follow_108 : decode cX5_follow 108 = .ok (.aload_n 1, 1) := by decide +kernel
theorem dX5_follow_109 : decode cX5_follow 109 = .ok (.getfield 45, 3) := by decide +kernel
theorem dX5_follow_112 : decode cX5_follow 112 = .ok (.iload 8, 2) := by decide +kernel
theorem dX5_follow_114 : decode cX5_follow 114 = .ok (.iaload, 1) := by decide +kernel
theorem dX5_follow_115 : decode cX5_follow 115 = .ok (.if_icmp .ge 15, 3) := by decide +kernel
theorem dX5_follow_118 : decode cX5_follow 118 = .ok (.iload 9, 2) := by decide +kernel
theorem dX5_follow_120 : decode cX5_follow 120 = .ok (.aload_n 1, 1) := by decide +kernel
theorem dX5_follow_121 : decode cX5_follow 121 = .ok (.getfield 60, 3) := by decide +kernel
theorem dX5_follow_124 : decode cX5_follow 124 = .ok (.iload 8, 2) := by decide +kernel
theorem dX5_follow_126 : decode cX5_follow 126 = .ok (.iaload, 1) := by decide +kernel
theorem dX5_follow_127 : decode cX5_follow 127 = .ok (.if_icmp .ge 5, 3) := by decide +kernel
theorem dX5_follow_130 : decode cX5_follow 130 = .ok (.iconst 0, 1) := by decide +kernel
theorem dX5_follow_131 : decode cX5_follow 131 = .ok (.ireturn, 1) := by decide +kernel
theorem dX5_follow_132 : decode cX5_follow 132 = .ok (.aload_n 0, 1) := by decide +kernel
theorem dX5_follow_133 : decode cX5_follow 133 = .ok (.getfield 9, 3) := by decide +kernel
theorem dX5_follow_136 : decode cX5_follow 136 = .ok (.iload 8, 2) := by decide +kernel
theorem dX5_follow_138 : decode cX5_follow 138 = .ok (.iload 9, 2) := by decide +kernel
theorem dX5_follow_140 : decode cX5_follow 140 = .ok (.iastore, 1) := by decide +kernel
theorem dX5_follow_141 : decode cX5_follow 141 = .ok (.iinc 8 1, 3) := by decide +kernel
theorem dX5_follow_144 : decode cX5_follow 144 = .ok (.goto (-79), 3) := by decide +kernel
theorem dX5_follow_147 : decode cX5_follow 147 = .ok (.aload_n 0, 1) := by decide +kernel
theorem dX5_follow_148 : decode cX5_follow 148 = .ok (.aload_n 1, 1) := by decide +kernel
theorem dX5_follow_149 : decode cX5_follow 149 = .ok (.iload 6, 2) := by decide +kernel
theorem dX5_follow_151 : decode cX5_follow 151 = .ok (.iload 7, 2) := by decide +kernel
theorem dX5_follow_153 : decode cX5_follow 153 = .ok (.iload_n 3, 1) := by decide +kernel
theorem dX5_follow_154 : decode cX5_follow 154 = .ok (.invokevirtual 63, 3) := by decide +kernel
theorem dX5_follow_157 : decode cX5_follow 157 = .ok (.iconst 1, 1) := by decide +kernel
theorem dX5_follow_158 : decode cX5_follow 158 = .ok (.ireturn, 1) := by decide +kernel
set_option maxHeartbeats 4000000 in
theorem t_X5_follow_96 {X : sj_X} {s0 : sj_Mem} {N : Nat} {q : Int × sj_Mem} {k65 : Nat → Option Nat → Option Nat → Int → Int → Int → Int → Int → Int → sj_Mem → Option (Int × sj_Mem)} (hk65 : ∀ (a0 : Nat) (x1 : Option Nat) (x2 : Option Nat) (x3 : Int) (x4 : Int) (x5 : Int) (x6 : Int) (x7 : Int) (x8 : Int) (s : sj_Mem), k65 a0 x1 x2 x3 x4 x5 x6 x7 x8 s = some q → sj_T X m_X5_follow s0 (some (sj_i q.1), q.2) 65 [some (sj_r (some a0)), some (sj_r x1), some (sj_r x2), some (sj_i x3), some (sj_i x4), some (sj_i x5), some (sj_i x6), some (sj_i x7), some (sj_i x8), none] [] s) :
    ∀ (a0 : Nat) (x1 : Option Nat) (x2 : Option Nat) (x3 : Int) (x4 : Int) (x5 : Int) (x6 : Int) (x7 : Int) (x8 : Int) (s : sj_Mem), f_X5_follow_96 N k65 a0 x1 x2 x3 x4 x5 x6 x7 x8 s = some q → sj_T X m_X5_follow s0 (some (sj_i q.1), q.2) 96 [some (sj_r (some a0)), some (sj_r x1), some (sj_r x2), some (sj_i x3), some (sj_i x4), some (sj_i x5), some (sj_i x6), some (sj_i x7), some (sj_i x8), none] [] s := by
  intro a0 x1 x2 x3 x4 x5 x6 x7 x8 s h
  unfold f_X5_follow_96 at h
  refine r_aload_n (pc := 96) dX5_follow_96 rfl rfl ?_
  refine r_iload (pc := 97) dX5_follow_97 rfl ?_
  refine r_iload (pc := 99) dX5_follow_99 rfl ?_
  refine r_callS (pc := 101) (fun v => some (sj_i v)) (As := [sj_r x2, sj_i x5, sj_i x8]) (rest := []) h dX5_follow_101 mw_X5_75 kw_638 (fun _ _ hc => c_X5_heightAt hc) rfl ⟨(Nat.le_of_ble_eq_true rfl), (Nat.le_of_ble_eq_true rfl)⟩ (Nat.le_of_ble_eq_true rfl) rfl (fun v2 s1 h => ?_)
  refine r_istore (ln := [some (sj_r (some a0)), some (sj_r x1), some (sj_r x2), some (sj_i x3), some (sj_i x4), some (sj_i x5), some (sj_i x6), some (sj_i x7), some (sj_i x8), some (sj_i v2)]) (pc := 104) dX5_follow_104 (Nat.le_of_ble_eq_true rfl) rfl ?_
  refine r_iload (pc := 106) dX5_follow_106 rfl ?_
  refine r_aload_n (pc := 108) dX5_follow_108 rfl rfl ?_
  obtain ⟨a3, ea3, g⟩ := e_nn_some h
  clear h
  subst ea3
  have h := g
  clear g
  refine r_gR (pc := 109) h dX5_follow_109 fw_X5_45 rfl (fun r4 h => ?_)
  refine r_iload (pc := 112) dX5_follow_112 rfl ?_
  obtain ⟨a5, ea5, g⟩ := e_nn_some h
  clear h
  subst ea5
  have h := g
  clear g
  refine r_iaload (pc := 114) h dX5_follow_114 (fun v6 h => ?_)
  refine r_icmp_ge (pc := 115) (tgt := 130) h dX5_follow_115 (by decide) (fun h => ?_) (fun h => ?_)
  · refine r_iconst (pc := 130) dX5_follow_130 ?_
    exact r_zret (pc := 131) h rfl dX5_follow_131
  · refine r_iload (pc := 118) dX5_follow_118 rfl ?_
    refine r_aload_n (pc := 120) dX5_follow_120 rfl rfl ?_
    refine r_gR (pc := 121) h dX5_follow_121 fw_X5_60 rfl (fun r7 h => ?_)
    refine r_iload (pc := 124) dX5_follow_124 rfl ?_
    obtain ⟨a8, ea8, g⟩ := e_nn_some h
    clear h
    subst ea8
    have h := g
    clear g
    refine r_iaload (pc := 126) h dX5_follow_126 (fun v9 h => ?_)
    refine r_icmp_ge (pc := 127) (tgt := 132) h dX5_follow_127 (by decide) (fun h => ?_) (fun h => ?_)
    · refine r_aload_n (pc := 132) dX5_follow_132 rfl rfl ?_
      refine r_gR (pc := 133) h dX5_follow_133 fw_X5_9 rfl (fun r10 h => ?_)
      refine r_iload (pc := 136) dX5_follow_136 rfl ?_
      refine r_iload (pc := 138) dX5_follow_138 rfl ?_
      obtain ⟨a11, ea11, g⟩ := e_nn_some h
      clear h
      subst ea11
      have h := g
      clear g
      refine r_iastore (pc := 140) h dX5_follow_140 (fun s12 h => ?_)
      refine r_iinc (ln := fun w => [some (sj_r (some a0)), some (sj_r (some a3)), some (sj_r x2), some (sj_i x3), some (sj_i x4), some (sj_i x5), some (sj_i x6), some (sj_i x7), some (sj_i w), some (sj_i v2)]) (pc := 141) h dX5_follow_141 rfl (Nat.le_of_ble_eq_true rfl) (fun _ => rfl) (fun v13 h => ?_)
      refine r_goto (pc := 144) (tgt := 65) dX5_follow_144 (by decide) ?_
      exact sj_weak (l2 := [some (sj_r (some a0)), some (sj_r (some a3)), some (sj_r x2), some (sj_i x3), some (sj_i x4), some (sj_i x5), some (sj_i x6), some (sj_i x7), some (sj_i v13), none]) (⟨rfl, ⟨rfl, ⟨rfl, ⟨rfl, ⟨rfl, ⟨rfl, ⟨rfl, ⟨rfl, ⟨rfl, trivial⟩⟩⟩⟩⟩⟩⟩⟩⟩) (hk65 a0 (some a3) x2 x3 x4 x5 x6 x7 v13 s12 h)
    · refine r_iconst (pc := 130) dX5_follow_130 ?_
      exact r_zret (pc := 131) h rfl dX5_follow_131
set_option maxHeartbeats 4000000 in
theorem t_X5_follow_65_b {X : sj_X} {s0 : sj_Mem} {N : Nat} {q : Int × sj_Mem} {k65 : Nat → Option Nat → Option Nat → Int → Int → Int → Int → Int → Int → sj_Mem → Option (Int × sj_Mem)} (hk65 : ∀ (a0 : Nat) (x1 : Option Nat) (x2 : Option Nat) (x3 : Int) (x4 : Int) (x5 : Int) (x6 : Int) (x7 : Int) (x8 : Int) (s : sj_Mem), k65 a0 x1 x2 x3 x4 x5 x6 x7 x8 s = some q → sj_T X m_X5_follow s0 (some (sj_i q.1), q.2) 65 [some (sj_r (some a0)), some (sj_r x1), some (sj_r x2), some (sj_i x3), some (sj_i x4), some (sj_i x5), some (sj_i x6), some (sj_i x7), some (sj_i x8), none] [] s) :
    ∀ (a0 : Nat) (x1 : Option Nat) (x2 : Option Nat) (x3 : Int) (x4 : Int) (x5 : Int) (x6 : Int) (x7 : Int) (x8 : Int) (s : sj_Mem), f_X5_follow_65_b N k65 a0 x1 x2 x3 x4 x5 x6 x7 x8 s = some q → sj_T X m_X5_follow s0 (some (sj_i q.1), q.2) 65 [some (sj_r (some a0)), some (sj_r x1), some (sj_r x2), some (sj_i x3), some (sj_i x4), some (sj_i x5), some (sj_i x6), some (sj_i x7), some (sj_i x8), none] [] s := by
  intro a0 x1 x2 x3 x4 x5 x6 x7 x8 s h
  unfold f_X5_follow_65_b at h
  refine r_iload (pc := 65) dX5_follow_65 rfl ?_
  refine r_iload (pc := 67) dX5_follow_67 rfl ?_
  refine r_icmp_ge (pc := 69) (tgt := 147) h dX5_follow_69 (by decide) (fun h => ?_) (fun h => ?_)
  · refine r_aload_n (pc := 147) dX5_follow_147 rfl rfl ?_
    refine r_aload_n (pc := 148) dX5_follow_148 rfl rfl ?_
    refine r_iload (pc := 149) dX5_follow_149 rfl ?_
    refine r_iload (pc := 151) dX5_follow_151 rfl ?_
    refine r_iload_n (pc := 153) dX5_follow_153 rfl rfl ?_
    refine r_callV (pc := 154) (fun _ => none) (As := [sj_r x1, sj_i x6, sj_i x7, sj_i x3]) (rest := []) h dX5_follow_154 mw_X5_63 vw_X5_span (fun _ _ hc => c_X5_span hc) rfl ⟨(Nat.le_of_ble_eq_true rfl), (Nat.le_of_ble_eq_true rfl)⟩ (Nat.le_of_ble_eq_true rfl) rfl (fun _u s1 h => ?_)
    refine r_iconst (pc := 157) dX5_follow_157 ?_
    exact r_zret (pc := 158) h rfl dX5_follow_158
  · refine r_iload (pc := 72) dX5_follow_72 rfl ?_
    refine r_iload (pc := 74) dX5_follow_74 rfl ?_
    refine r_iconst (pc := 76) dX5_follow_76 ?_
    refine r_isub (pc := 77) dX5_follow_77 ?_
    refine r_icmp_ge (pc := 78) (tgt := 96) h dX5_follow_78 (by decide) (fun h => ?_) (fun h => ?_)
    · exact sj_weak (l2 := [some (sj_r (some a0)), some (sj_r x1), some (sj_r x2), some (sj_i x3), some (sj_i x4), some (sj_i x5), some (sj_i x6), some (sj_i x7), some (sj_i x8), none]) (⟨rfl, ⟨rfl, ⟨rfl, ⟨rfl, ⟨rfl, ⟨rfl, ⟨rfl, ⟨rfl, ⟨rfl, trivial⟩⟩⟩⟩⟩⟩⟩⟩⟩) (t_X5_follow_96 hk65 a0 x1 x2 x3 x4 x5 x6 x7 x8 s h)
    · refine r_iload (pc := 81) dX5_follow_81 rfl ?_
      refine r_aload_n (pc := 83) dX5_follow_83 rfl rfl ?_
      obtain ⟨a2, ea2, g⟩ := e_nn_some h
      clear h
      subst ea2
      have h := g
      clear g
      refine r_gR (pc := 84) h dX5_follow_84 fw_X5_72 rfl (fun r3 h => ?_)
      refine r_iload (pc := 87) dX5_follow_87 rfl ?_
      obtain ⟨a4, ea4, g⟩ := e_nn_some h
      clear h
      subst ea4
      have h := g
      clear g
      refine r_iaload (pc := 89) h dX5_follow_89 (fun v5 h => ?_)
      refine r_icmp_le (pc := 90) (tgt := 96) h dX5_follow_90 (by decide) (fun h => ?_) (fun h => ?_)
      · exact sj_weak (l2 := [some (sj_r (some a0)), some (sj_r x1), some (sj_r (some a2)), some (sj_i x3), some (sj_i x4), some (sj_i x5), some (sj_i x6), some (sj_i x7), some (sj_i x8), none]) (⟨rfl, ⟨rfl, ⟨rfl, ⟨rfl, ⟨rfl, ⟨rfl, ⟨rfl, ⟨rfl, ⟨rfl, trivial⟩⟩⟩⟩⟩⟩⟩⟩⟩) (t_X5_follow_96 hk65 a0 x1 (some a2) x3 x4 x5 x6 x7 x8 s h)
      · refine r_iinc (ln := fun w => [some (sj_r (some a0)), some (sj_r x1), some (sj_r (some a2)), some (sj_i x3), some (sj_i x4), some (sj_i w), some (sj_i x6), some (sj_i x7), some (sj_i x8), none]) (pc := 93) h dX5_follow_93 rfl (Nat.le_of_ble_eq_true rfl) (fun _ => rfl) (fun v6 h => ?_)
        exact sj_weak (l2 := [some (sj_r (some a0)), some (sj_r x1), some (sj_r (some a2)), some (sj_i x3), some (sj_i x4), some (sj_i v6), some (sj_i x6), some (sj_i x7), some (sj_i x8), none]) (⟨rfl, ⟨rfl, ⟨rfl, ⟨rfl, ⟨rfl, ⟨rfl, ⟨rfl, ⟨rfl, ⟨rfl, trivial⟩⟩⟩⟩⟩⟩⟩⟩⟩) (t_X5_follow_96 hk65 a0 x1 (some a2) x3 x4 v6 x6 x7 x8 s h)
set_option maxHeartbeats 4000000 in
theorem t_X5_follow_65 {X : sj_X} {s0 : sj_Mem} {N : Nat} {q : Int × sj_Mem} :
    ∀ (n : Nat) (a0 : Nat) (x1 : Option Nat) (x2 : Option Nat) (x3 : Int) (x4 : Int) (x5 : Int) (x6 : Int) (x7 : Int) (x8 : Int) (s : sj_Mem), f_X5_follow_65 N n a0 x1 x2 x3 x4 x5 x6 x7 x8 s = some q → sj_T X m_X5_follow s0 (some (sj_i q.1), q.2) 65 [some (sj_r (some a0)), some (sj_r x1), some (sj_r x2), some (sj_i x3), some (sj_i x4), some (sj_i x5), some (sj_i x6), some (sj_i x7), some (sj_i x8), none] [] s := by
  intro n
  induction n with
  | zero => intro a0 x1 x2 x3 x4 x5 x6 x7 x8 s h; exact nomatch h
  | succ n ih => intro a0 x1 x2 x3 x4 x5 x6 x7 x8 s h; exact t_X5_follow_65_b (N := N) ih a0 x1 x2 x3 x4 x5 x6 x7 x8 s h
set_option maxHeartbeats 4000000 in
theorem t_X5_follow_0 {X : sj_X} {s0 : sj_Mem} {N : Nat} {q : Int × sj_Mem} :
    ∀ (a0 : Nat) (x1 : Option Nat) (x2 : Option Nat) (x3 : Int) (s : sj_Mem), f_X5_follow N a0 x1 x2 x3 s = some q → sj_T X m_X5_follow s0 (some (sj_i q.1), q.2) 0 [some (sj_r (some a0)), some (sj_r x1), some (sj_r x2), some (sj_i x3), none, none, none, none, none, none] [] s := by
  intro a0 x1 x2 x3 s h
  unfold f_X5_follow at h
  refine r_aload_n (pc := 0) dX5_follow_0 rfl rfl ?_
  obtain ⟨a1, ea1, g⟩ := e_nn_some h
  clear h
  subst ea1
  have h := g
  clear g
  refine r_gI (pc := 1) h dX5_follow_1 fw_X5_67 rfl (fun v2 h => ?_)
  refine r_istore (ln := [some (sj_r (some a0)), some (sj_r x1), some (sj_r (some a1)), some (sj_i x3), some (sj_i v2), none, none, none, none, none]) (pc := 4) dX5_follow_4 (Nat.le_of_ble_eq_true rfl) rfl ?_
  refine r_iload (pc := 6) dX5_follow_6 rfl ?_
  refine r_iconst (pc := 8) dX5_follow_8 ?_
  refine r_icmp_lt (pc := 9) (tgt := 35) h dX5_follow_9 (by decide) (fun h => ?_) (fun h => ?_)
  · refine r_iconst (pc := 35) dX5_follow_35 ?_
    exact r_zret (pc := 36) h rfl dX5_follow_36
  · refine r_iload (pc := 12) dX5_follow_12 rfl ?_
    refine r_bipush (pc := 14) dX5_follow_14 ⟨by decide, by decide⟩ ?_
    refine r_icmp_gt (pc := 16) (tgt := 35) h dX5_follow_16 (by decide) (fun h => ?_) (fun h => ?_)
    · refine r_iconst (pc := 35) dX5_follow_35 ?_
      exact r_zret (pc := 36) h rfl dX5_follow_36
    · refine r_aload_n (pc := 19) dX5_follow_19 rfl rfl ?_
      refine r_gR (pc := 20) h dX5_follow_20 fw_X5_72 rfl (fun r3 h => ?_)
      refine r_iload (pc := 23) dX5_follow_23 rfl ?_
      refine r_iconst (pc := 25) dX5_follow_25 ?_
      refine r_isub (pc := 26) dX5_follow_26 ?_
      obtain ⟨a4, ea4, g⟩ := e_nn_some h
      clear h
      subst ea4
      have h := g
      clear g
      refine r_iaload (pc := 27) h dX5_follow_27 (fun v5 h => ?_)
      refine r_aload_n (pc := 28) dX5_follow_28 rfl rfl ?_
      obtain ⟨a6, ea6, g⟩ := e_nn_some h
      clear h
      subst ea6
      have h := g
      clear g
      refine r_gI (pc := 29) h dX5_follow_29 fw_X5_50 rfl (fun v7 h => ?_)
      refine r_icmp_le (pc := 32) (tgt := 37) h dX5_follow_32 (by decide) (fun h => ?_) (fun h => ?_)
      · refine r_iconst (pc := 37) dX5_follow_37 ?_
        refine r_istore (ln := [some (sj_r (some a0)), some (sj_r (some a6)), some (sj_r (some a1)), some (sj_i x3), some (sj_i v2), some (sj_i 1), none, none, none, none]) (pc := 38) dX5_follow_38 (Nat.le_of_ble_eq_true rfl) rfl ?_
        refine r_aload_n (pc := 40) dX5_follow_40 rfl rfl ?_
        refine r_gR (pc := 41) h dX5_follow_41 fw_X5_72 rfl (fun r8 h => ?_)
        refine r_iconst (pc := 44) dX5_follow_44 ?_
        obtain ⟨a9, ea9, g⟩ := e_nn_some h
        clear h
        subst ea9
        have h := g
        clear g
        refine r_iaload (pc := 45) h dX5_follow_45 (fun v10 h => ?_)
        refine r_istore (ln := [some (sj_r (some a0)), some (sj_r (some a6)), some (sj_r (some a1)), some (sj_i x3), some (sj_i v2), some (sj_i 1), some (sj_i v10), none, none, none]) (pc := 46) dX5_follow_46 (Nat.le_of_ble_eq_true rfl) rfl ?_
        refine r_aload_n (pc := 48) dX5_follow_48 rfl rfl ?_
        refine r_gR (pc := 49) h dX5_follow_49 fw_X5_72 rfl (fun r11 h => ?_)
        refine r_iload (pc := 52) dX5_follow_52 rfl ?_
        refine r_iconst (pc := 54) dX5_follow_54 ?_
        refine r_isub (pc := 55) dX5_follow_55 ?_
        obtain ⟨a12, ea12, g⟩ := e_nn_some h
        clear h
        subst ea12
        have h := g
        clear g
        refine r_iaload (pc := 56) h dX5_follow_56 (fun v13 h => ?_)
        refine r_istore (ln := [some (sj_r (some a0)), some (sj_r (some a6)), some (sj_r (some a1)), some (sj_i x3), some (sj_i v2), some (sj_i 1), some (sj_i v10), some (sj_i v13), none, none]) (pc := 57) dX5_follow_57 (Nat.le_of_ble_eq_true rfl) rfl ?_
        refine r_iload (pc := 59) dX5_follow_59 rfl ?_
        refine r_iconst (pc := 61) dX5_follow_61 ?_
        refine r_iadd (pc := 62) dX5_follow_62 ?_
        refine r_istoreL (ln := fun w => [some (sj_r (some a0)), some (sj_r (some a6)), some (sj_r (some a1)), some (sj_i x3), some (sj_i v2), some (sj_i 1), some (sj_i v10), some (sj_i v13), some (sj_i w), none]) (pc := 63) h dX5_follow_63 (Nat.le_of_ble_eq_true rfl) (fun _ => rfl) (fun v14 h => ?_)
        exact sj_weak (l2 := [some (sj_r (some a0)), some (sj_r (some a6)), some (sj_r (some a1)), some (sj_i x3), some (sj_i v2), some (sj_i 1), some (sj_i v10), some (sj_i v13), some (sj_i v14), none]) (⟨rfl, ⟨rfl, ⟨rfl, ⟨rfl, ⟨rfl, ⟨rfl, ⟨rfl, ⟨rfl, ⟨rfl, trivial⟩⟩⟩⟩⟩⟩⟩⟩⟩) (t_X5_follow_65 N a0 (some a6) (some a1) x3 v2 1 v10 v13 v14 s h)
      · refine r_iconst (pc := 35) dX5_follow_35 ?_
        exact r_zret (pc := 36) h rfl dX5_follow_36
set_option maxHeartbeats 4000000 in
theorem c_X5_follow {X : sj_X} {N : Nat} {a0 : Nat} {x1 : Option Nat} {x2 : Option Nat} {x3 : Int} {s : sj_Mem} {q : Int × sj_Mem} (h : f_X5_follow N a0 x1 x2 x3 s = some q) : sj_C X m_X5_follow [sj_r (some a0), sj_r x1, sj_r x2, sj_i x3] s (some (sj_i q.1), q.2) :=
  sj_C_of (by decide +kernel) (Nat.le_of_ble_eq_true rfl) (lo := [some (sj_r (some a0)), some (sj_r x1), some (sj_r x2), some (sj_i x3), none, none, none, none, none, none]) rfl (sj_weak (l2 := [some (sj_r (some a0)), some (sj_r x1), some (sj_r x2), some (sj_i x3), none, none, none, none, none, none]) (⟨rfl, ⟨rfl, ⟨rfl, ⟨rfl, trivial⟩⟩⟩⟩) (t_X5_follow_0 a0 x1 x2 x3 s h))
