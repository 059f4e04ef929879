theorem dX9_leastBase_0 : decode cX9_leastBase 0 = .ok (.aload_n 0, 1) := by decide +kernel
theorem dX9_leastBase_1 : decode cX9_leastBase 1 = .ok (.getfield 26, 3) := by decide +kernel
theorem dX9_leastBase_4 : decode cX9_leastBase 4 = .ok (.aload_n 0, 1) := by decide +kernel
theorem dX9_leastBase_5 : decode cX9_leastBase 5 = .ok (.getfield 22, 3) := by decide +kernel
theorem dX9_leastBase_8 : decode cX9_leastBase 8 = .ok (.iaload, 1) := by decide +kernel
theorem dX9_leastBase_9 : decode cX9_leastBase 9 = .ok (.istore_n 1, 1) := by decide +kernel
theorem dX9_leastBase_10 : decode cX9_leastBase 10 = .ok (.aload_n 0, 1) := by decide +kernel
theorem dX9_leastBase_11 : decode cX9_leastBase 11 = .ok (.getfield 22, 3) := by decide +kernel
theorem dX9_leastBase_14 : decode cX9_leastBase 14 = .ok (.istore_n 2, 1) := by decide +kernel
theorem dX9_leastBase_15 : decode cX9_leastBase 15 = .ok (.iload_n 2, 1) := by decide +kernel
theorem dX9_leastBase_16 : decode cX9_leastBase 16 = .ok (.aload_n 0, 1) := by decide +kernel
theorem dX9_leastBase_17 : decode cX9_leastBase 17 = .ok (.getfield 150, 3) := by decide +kernel
theorem dX9_leastBase_20 : decode cX9_leastBase 20 = .ok (.if_icmp .gt 20, 3) := by decide +kernel
theorem dX9_leastBase_23 : decode cX9_leastBase 23 = .ok (.iload_n 1, 1) := by decide +kernel
theorem dX9_leastBase_24 : decode cX9_leastBase 24 = .ok (.aload_n 0, 1) := by decide +kernel
theorem dX9_leastBase_25 : decode cX9_leastBase 25 = .ok (.getfield 26, 3) := by decide +kernel
theorem dX9_leastBase_28 : decode cX9_leastBase 28 = .ok (.iload_n 2, 1) := by decide +kernel
theorem dX9_leastBase_29 : decode cX9_leastBase 29 = .ok (.iaload, 1) := by decide +kernel
theorem dX9_leastBase_30 : decode cX9_leastBase 30 = .ok (.invokestatic 104, 3) := by decide +kernel
theorem dX9_leastBase_33 : decode cX9_leastBase 33 = .ok (.istore_n 1, 1) := by decide +kernel
theorem dX9_leastBase_34 : decode cX9_leastBase 34 = .ok (.iinc 2 1, 3) := by decide +kernel
theorem dX9_leastBase_37 : decode cX9_leastBase 37 = .ok (.goto (-22), 3) := by decide +kernel
theorem dX9_leastBase_40 : decode cX9_leastBase 40 = .ok (.iload_n 1, 1) := by decide +kernel
theorem dX9_leastBase_41 : decode cX9_leastBase 41 = .ok (.ireturn, 1) := by decide +kernel
set_option maxHeartbeats 4000000 in
theorem t_X9_leastBase_15_b {X : sj_X} {s0 : sj_Mem} {N : Nat} {q : Int × sj_Mem} {k15 : Nat → Int → Int → sj_Mem → Option (Int × sj_Mem)} (hk15 : ∀ (a0 : Nat) (x1 : Int) (x2 : Int) (s : sj_Mem), k15 a0 x1 x2 s = some q → sj_T X m_X9_leastBase s0 (some (sj_i q.1), q.2) 15 [some (sj_r (some a0)), some (sj_i x1), some (sj_i x2)] [] s) :
    ∀ (a0 : Nat) (x1 : Int) (x2 : Int) (s : sj_Mem), f_X9_leastBase_15_b N k15 a0 x1 x2 s = some q → sj_T X m_X9_leastBase s0 (some (sj_i q.1), q.2) 15 [some (sj_r (some a0)), some (sj_i x1), some (sj_i x2)] [] s := by
  intro a0 x1 x2 s h
  unfold f_X9_leastBase_15_b at h
  refine r_iload_n (pc := 15) dX9_leastBase_15 rfl rfl ?_
  refine r_aload_n (pc := 16) dX9_leastBase_16 rfl rfl ?_
  refine r_gI (pc := 17) h dX9_leastBase_17 fw_X9_150 rfl (fun v1 h => ?_)
  refine r_icmp_gt (pc := 20) (tgt := 40) h dX9_leastBase_20 (by decide) (fun h => ?_) (fun h => ?_)
  · refine r_iload_n (pc := 40) dX9_leastBase_40 rfl rfl ?_
    exact r_iret (pc := 41) h rfl dX9_leastBase_41
  · refine r_iload_n (pc := 23) dX9_leastBase_23 rfl rfl ?_
    refine r_aload_n (pc := 24) dX9_leastBase_24 rfl rfl ?_
    refine r_gR (pc := 25) h dX9_leastBase_25 fw_X9_26 rfl (fun r2 h => ?_)
    refine r_iload_n (pc := 28) dX9_leastBase_28 rfl rfl ?_
    obtain ⟨a3, ea3, g⟩ := e_nn_some h
    clear h
    subst ea3
    have h := g
    clear g
    refine r_iaload (pc := 29) h dX9_leastBase_29 (fun v4 h => ?_)
    refine r_callS (pc := 30) (fun v => some (sj_i v)) (As := [sj_i x1, sj_i v4]) (rest := []) h dX9_leastBase_30 mw_X9_104 kw_1352 (fun _ _ hc => c_X9_least hc) rfl ⟨(Nat.le_of_ble_eq_true rfl), (Nat.le_of_ble_eq_true rfl)⟩ (Nat.le_of_ble_eq_true rfl) rfl (fun v6 s5 h => ?_)
    refine r_istore_n (ln := [some (sj_r (some a0)), some (sj_i v6), some (sj_i x2)]) (pc := 33) dX9_leastBase_33 rfl (Nat.le_of_ble_eq_true rfl) rfl ?_
    refine r_iinc (ln := fun w => [some (sj_r (some a0)), some (sj_i v6), some (sj_i w)]) (pc := 34) h dX9_leastBase_34 rfl (Nat.le_of_ble_eq_true rfl) (fun _ => rfl) (fun v7 h => ?_)
    refine r_goto (pc := 37) (tgt := 15) dX9_leastBase_37 (by decide) ?_
    exact sj_weak (l2 := [some (sj_r (some a0)), some (sj_i v6), some (sj_i v7)]) (⟨rfl, ⟨rfl, ⟨rfl, trivial⟩⟩⟩) (hk15 a0 v6 v7 s5 h)
set_option maxHeartbeats 4000000 in
theorem t_X9_leastBase_15 {X : sj_X} {s0 : sj_Mem} {N : Nat} {q : Int × sj_Mem} :
    ∀ (n : Nat) (a0 : Nat) (x1 : Int) (x2 : Int) (s : sj_Mem), f_X9_leastBase_15 N n a0 x1 x2 s = some q → sj_T X m_X9_leastBase s0 (some (sj_i q.1), q.2) 15 [some (sj_r (some a0)), some (sj_i x1), some (sj_i x2)] [] s := by
  intro n
  induction n with
  | zero => intro a0 x1 x2 s h; exact nomatch h
  | succ n ih => intro a0 x1 x2 s h; exact t_X9_leastBase_15_b (N := N) ih a0 x1 x2 s h
set_option maxHeartbeats 4000000 in
theorem t_X9_leastBase_0 {X : sj_X} {s0 : sj_Mem} {N : Nat} {q : Int × sj_Mem} :
    ∀ (a0 : Nat) (s : sj_Mem), f_X9_leastBase N a0 s = some q → sj_T X m_X9_leastBase s0 (some (sj_i q.1), q.2) 0 [some (sj_r (some a0)), none, none] [] s := by
  intro a0 s h
  unfold f_X9_leastBase at h
  refine r_aload_n (pc := 0) dX9_leastBase_0 rfl rfl ?_
  refine r_gR (pc := 1) h dX9_leastBase_1 fw_X9_26 rfl (fun r1 h => ?_)
  refine r_aload_n (pc := 4) dX9_leastBase_4 rfl rfl ?_
  refine r_gI (pc := 5) h dX9_leastBase_5 fw_X9_22 rfl (fun v2 h => ?_)
  obtain ⟨a3, ea3, g⟩ := e_nn_some h
  clear h
  subst ea3
  have h := g
  clear g
  refine r_iaload (pc := 8) h dX9_leastBase_8 (fun v4 h => ?_)
  refine r_istore_n (ln := [some (sj_r (some a0)), some (sj_i v4), none]) (pc := 9) dX9_leastBase_9 rfl (Nat.le_of_ble_eq_true rfl) rfl ?_
  refine r_aload_n (pc := 10) dX9_leastBase_10 rfl rfl ?_
  refine r_gI (pc := 11) h dX9_leastBase_11 fw_X9_22 rfl (fun v5 h => ?_)
  refine r_istore_n (ln := [some (sj_r (some a0)), some (sj_i v4), some (sj_i v5)]) (pc := 14) dX9_leastBase_14 rfl (Nat.le_of_ble_eq_true rfl) rfl ?_
  exact sj_weak (l2 := [some (sj_r (some a0)), some (sj_i v4), some (sj_i v5)]) (⟨rfl, ⟨rfl, ⟨rfl, trivial⟩⟩⟩) (t_X9_leastBase_15 N a0 v4 v5 s h)
set_option maxHeartbeats 4000000 in
theorem c_X9_leastBase {X : sj_X} {N : Nat} {a0 : Nat} {s : sj_Mem} {q : Int × sj_Mem} (h : f_X9_leastBase N a0 s = some q) : sj_C X m_X9_leastBase [sj_r (some a0)] s (some (sj_i q.1), q.2) :=
  sj_C_of (by decide +kernel) (Nat.le_of_ble_eq_true rfl) (lo := [some (sj_r (some a0)), none, none]) rfl (sj_weak (l2 := [some (sj_r (some a0)), none, none]) (⟨rfl, trivial⟩) (t_X9_leastBase_0 a0 s h))
theorem dX9_deepest_0 : decode cX9_deepest 0 = .ok (.aload_n 0, 1) := by decide +kernel
theorem dX9_deepest_1 : decode cX9_deepest 1 = .ok (.getfield 22, 3) := by decide +kernel
theorem dX9_deepest_4 : decode cX9_deepest 4 = .ok (.istore_n 1, 1) := by decide +kernel
theorem dX9_deepest_5 : decode cX9_deepest 5 = .ok (.aload_n 0, 1) := by decide +kernel
theorem dX9_deepest_6 : decode cX9_deepest 6 = .ok (.getfield 22, 3) := by decide +kernel
theorem dX9_deepest_9 : decode cX9_deepest 9 = .ok (.istore_n 2, 1) := by decide +kernel
theorem dX9_deepest_10 : decode cX9_deepest 10 = .ok (.iload_n 2, 1) := by decide +kernel
theorem dX9_deepest_11 : decode cX9_deepest 11 = .ok (.aload_n 0, 1) := by decide +kernel
theorem dX9_deepest_12 : decode cX9_deepest 12 = .ok (.getfield 150, 3) := by decide +kernel
theorem dX9_deepest_15 : decode cX9_deepest 15 = .ok (.if_icmp .gt 44, 3) := by decide +kernel
theorem dX9_deepest_18 : decode cX9_deepest 18 = .ok (.aload_n 0, 1) := by decide +kernel
theorem dX9_deepest_19 : decode cX9_deepest 19 = .ok (.getfield 9, 3) := by decide +kernel
theorem dX9_deepest_22 : decode cX9_deepest 22 = .ok (.iconst 3, 1) := by decide +kernel
theorem dX9_deepest_23 : decode cX9_deepest 23 = .ok (.iload_n 2, 1) := by decide +kernel
theorem dX9_deepest_24 : decode cX9_deepest 24 = .ok (.iadd, 1) := by decide +kernel
theorem dX9_deepest_25 : decode cX9_deepest 25 = .ok (.iaload, 1) := by decide +kernel
theorem dX9_deepest_26 : decode cX9_deepest 26 = .ok (.aload_n 0, 1) := by decide +kernel
theorem dX9_deepest_27 : decode cX9_deepest 27 = .ok (.getfield 26, 3) := by decide +kernel
theorem dX9_deepest_30 : decode cX9_deepest 30 = .ok (.iload_n 2, 1) := by decide +kernel
theorem dX9_deepest_31 : decode cX9_deepest 31 = .ok (.iaload, 1) := by decide +kernel
theorem dX9_deepest_32 : decode cX9_deepest 32 = .ok (.isub, 1) := by decide +kernel
theorem dX9_deepest_33 : decode cX9_deepest 33 = .ok (.aload_n 0, 1) := by decide +kernel
theorem dX9_deepest_34 : decode cX9_deepest 34 = .ok (.getfield 9, 3) := by decide +kernel
theorem dX9_deepest_37 : decode cX9_deepest 37 = .ok (.iconst 3, 1) := by decide +kernel
theorem dX9_deepest_38 : decode cX9_deepest 38 = .ok (.iload_n 1, 1) := by decide +kernel
theorem dX9_deepest_39 : decode cX9_deepest 39 = .ok (.iadd, 1) := by decide +kernel
theorem dX9_deepest_40 : decode cX9_deepest 40 = .ok (.iaload, 1) := by decide +kernel
theorem dX9_deepest_41 : decode cX9_deepest 41 = .ok (.aload_n 0, 1) := by decide +kernel
theorem dX9_deepest_42 : decode cX9_deepest 42 = .ok (.getfield 26, 3) := by decide +kernel
theorem dX9_deepest_45 : decode cX9_deepest 45 = .ok (.iload_n 1, 1) := by decide +kernel
theorem dX9_deepest_46 : decode cX9_deepest 46 = .ok (.iaload, 1) := by decide +kernel
theorem dX9_deepest_47 : decode cX9_deepest 47 = .ok (.isub, 1) := by decide +kernel
theorem dX9_deepest_48 : decode cX9_deepest 48 = .ok (.if_icmp .le 5, 3) := by decide +kernel
theorem dX9_deepest_51 : decode cX9_deepest 51 = .ok (.iload_n 2, 1) := by decide +kernel
theorem dX9_deepest_52 : decode cX9_deepest 52 = .ok (.istore_n 1, 1) := by decide +kernel
theorem dX9_deepest_53 : decode cX9_deepest 53 = .ok (.iinc 2 1, 3) := by decide +kernel
theorem dX9_deepest_56 : decode cX9_deepest 56 = .ok (.goto (-46), 3) := by decide +kernel
theorem dX9_deepest_59 : decode cX9_deepest 59 = .ok (.iload_n 1, 1) := by decide +kernel
theorem dX9_deepest_60 : decode cX9_deepest 60 = .ok (.ireturn, 1) := by decide +kernel
set_option maxHeartbeats 4000000 in
theorem t_X9_deepest_53 {X : sj_X} {s0 : sj_Mem} {N : Nat} {q : Int × sj_Mem} {k10 : Nat → Int → Int → sj_Mem → Option (Int × sj_Mem)} (hk10 : ∀ (a0 : Nat) (x1 : Int) (x2 : Int) (s : sj_Mem), k10 a0 x1 x2 s = some q → sj_T X m_X9_deepest s0 (some (sj_i q.1), q.2) 10 [some (sj_r (some a0)), some (sj_i x1), some (sj_i x2)] [] s) :
    ∀ (a0 : Nat) (x1 : Int) (x2 : Int) (s : sj_Mem), f_X9_deepest_53 N k10 a0 x1 x2 s = some q → sj_T X m_X9_deepest s0 (some (sj_i q.1), q.2) 53 [some (sj_r (some a0)), some (sj_i x1), some (sj_i x2)] [] s := by
  intro a0 x1 x2 s h
  unfold f_X9_deepest_53 at h
  refine r_iinc (ln := fun w => [some (sj_r (some a0)), some (sj_i x1), some (sj_i w)]) (pc := 53) h dX9_deepest_53 rfl (Nat.le_of_ble_eq_true rfl) (fun _ => rfl) (fun v1 h => ?_)
  refine r_goto (pc := 56) (tgt := 10) dX9_deepest_56 (by decide) ?_
  exact sj_weak (l2 := [some (sj_r (some a0)), some (sj_i x1), some (sj_i v1)]) (⟨rfl, ⟨rfl, ⟨rfl, trivial⟩⟩⟩) (hk10 a0 x1 v1 s h)
set_option maxHeartbeats 4000000 in
theorem t_X9_deepest_10_b {X : sj_X} {s0 : sj_Mem} {N : Nat} {q : Int × sj_Mem} {k10 : Nat → Int → Int → sj_Mem → Option (Int × sj_Mem)} (hk10 : ∀ (a0 : Nat) (x1 : Int) (x2 : Int) (s : sj_Mem), k10 a0 x1 x2 s = some q → sj_T X m_X9_deepest s0 (some (sj_i q.1), q.2) 10 [some (sj_r (some a0)), some (sj_i x1), some (sj_i x2)] [] s) :
    ∀ (a0 : Nat) (x1 : Int) (x2 : Int) (s : sj_Mem), f_X9_deepest_10_b N k10 a0 x1 x2 s = some q → sj_T X m_X9_deepest s0 (some (sj_i q.1), q.2) 10 [some (sj_r (some a0)), some (sj_i x1), some (sj_i x2)] [] s := by
  intro a0 x1 x2 s h
  unfold f_X9_deepest_10_b at h
  refine r_iload_n (pc := 10) dX9_deepest_10 rfl rfl ?_
  refine r_aload_n (pc := 11) dX9_deepest_11 rfl rfl ?_
  refine r_gI (pc := 12) h dX9_deepest_12 fw_X9_150 rfl (fun v1 h => ?_)
  refine r_icmp_gt (pc := 15) (tgt := 59) h dX9_deepest_15 (by decide) (fun h => ?_) (fun h => ?_)
  · refine r_iload_n (pc := 59) dX9_deepest_59 rfl rfl ?_
    exact r_iret (pc := 60) h rfl dX9_deepest_60
  · refine r_aload_n (pc := 18) dX9_deepest_18 rfl rfl ?_
    refine r_gR (pc := 19) h dX9_deepest_19 fw_X9_9 rfl (fun r2 h => ?_)
    refine r_iconst (pc := 22) dX9_deepest_22 ?_
    refine r_iload_n (pc := 23) dX9_deepest_23 rfl rfl ?_
    refine r_iadd (pc := 24) dX9_deepest_24 ?_
    obtain ⟨a3, ea3, g⟩ := e_nn_some h
    clear h
    subst ea3
    have h := g
    clear g
    refine r_iaload (pc := 25) h dX9_deepest_25 (fun v4 h => ?_)
    refine r_aload_n (pc := 26) dX9_deepest_26 rfl rfl ?_
    refine r_gR (pc := 27) h dX9_deepest_27 fw_X9_26 rfl (fun r5 h => ?_)
    refine r_iload_n (pc := 30) dX9_deepest_30 rfl rfl ?_
    obtain ⟨a6, ea6, g⟩ := e_nn_some h
    clear h
    subst ea6
    have h := g
    clear g
    refine r_iaload (pc := 31) h dX9_deepest_31 (fun v7 h => ?_)
    refine r_isub (pc := 32) dX9_deepest_32 ?_
    refine r_aload_n (pc := 33) dX9_deepest_33 rfl rfl ?_
    refine r_gR (pc := 34) h dX9_deepest_34 fw_X9_9 rfl (fun r8 h => ?_)
    refine r_iconst (pc := 37) dX9_deepest_37 ?_
    refine r_iload_n (pc := 38) dX9_deepest_38 rfl rfl ?_
    refine r_iadd (pc := 39) dX9_deepest_39 ?_
    obtain ⟨a9, ea9, g⟩ := e_nn_some h
    clear h
    subst ea9
    have h := g
    clear g
    refine r_iaload (pc := 40) h dX9_deepest_40 (fun v10 h => ?_)
    refine r_aload_n (pc := 41) dX9_deepest_41 rfl rfl ?_
    refine r_gR (pc := 42) h dX9_deepest_42 fw_X9_26 rfl (fun r11 h => ?_)
    refine r_iload_n (pc := 45) dX9_deepest_45 rfl rfl ?_
    obtain ⟨a12, ea12, g⟩ := e_nn_some h
    clear h
    subst ea12
    have h := g
    clear g
    refine r_iaload (pc := 46) h dX9_deepest_46 (fun v13 h => ?_)
    refine r_isub (pc := 47) dX9_deepest_47 ?_
    refine r_icmp_le (pc := 48) (tgt := 53) h dX9_deepest_48 (by decide) (fun h => ?_) (fun h => ?_)
    · exact sj_weak (l2 := [some (sj_r (some a0)), some (sj_i x1), some (sj_i x2)]) (⟨rfl, ⟨rfl, ⟨rfl, trivial⟩⟩⟩) (t_X9_deepest_53 hk10 a0 x1 x2 s h)
    · refine r_iload_n (pc := 51) dX9_deepest_51 rfl rfl ?_
      refine r_istore_n (ln := [some (sj_r (some a0)), some (sj_i x2), some (sj_i x2)]) (pc := 52) dX9_deepest_52 rfl (Nat.le_of_ble_eq_true rfl) rfl ?_
      exact sj_weak (l2 := [some (sj_r (some a0)), some (sj_i x2), some (sj_i x2)]) (⟨rfl, ⟨rfl, ⟨rfl, trivial⟩⟩⟩) (t_X9_deepest_53 hk10 a0 x2 x2 s h)
set_option maxHeartbeats 4000000 in
theorem t_X9_deepest_10 {X : sj_X} {s0 : sj_Mem} {N : Nat} {q : Int × sj_Mem} :
    ∀ (n : Nat) (a0 : Nat) (x1 : Int) (x2 : Int) (s : sj_Mem), f_X9_deepest_10 N n a0 x1 x2 s = some q → sj_T X m_X9_deepest s0 (some (sj_i q.1), q.2) 10 [some (sj_r (some a0)), some (sj_i x1), some (sj_i x2)] [] s := by
  intro n
  induction n with
  | zero => intro a0 x1 x2 s h; exact nomatch h
  | succ n ih => intro a0 x1 x2 s h; exact t_X9_deepest_10_b (N := N) ih a0 x1 x2 s h
set_option maxHeartbeats 4000000 in
theorem t_X9_deepest_0 {X : sj_X} {s0 : sj_Mem} {N : Nat} {q : Int × sj_Mem} :
    ∀ (a0 : Nat) (s : sj_Mem), f_X9_deepest N a0 s = some q → sj_T X m_X9_deepest s0 (some (sj_i q.1), q.2) 0 [some (sj_r (some a0)), none, none] [] s := by
  intro a0 s h
  unfold f_X9_deepest at h
  refine r_aload_n (pc := 0) dX9_deepest_0 rfl rfl ?_
  refine r_gI (pc := 1) h dX9_deepest_1 fw_X9_22 rfl (fun v1 h => ?_)
  refine r_istore_n (ln := [some (sj_r (some a0)), some (sj_i v1), none]) (pc := 4) dX9_deepest_4 rfl (Nat.le_of_ble_eq_true rfl) rfl ?_
  refine r_aload_n (pc := 5) dX9_deepest_5 rfl rfl ?_
  refine r_gI (pc := 6) h dX9_deepest_6 fw_X9_22 rfl (fun v2 h => ?_)
  refine r_istore_n (ln := [some (sj_r (some a0)), some (sj_i v1), some (sj_i v2)]) (pc := 9) dX9_deepest_9 rfl (Nat.le_of_ble_eq_true rfl) rfl ?_
  exact sj_weak (l2 := [some (sj_r (some a0)), some (sj_i v1), some (sj_i v2)]) (⟨rfl, ⟨rfl, ⟨rfl, trivial⟩⟩⟩) (t_X9_deepest_10 N a0 v1 v2 s h)
set_option maxHeartbeats 4000000 in
theorem c_X9_deepest {X : sj_X} {N : Nat} {a0 : Nat} {s : sj_Mem} {q : Int × sj_Mem} (h : f_X9_deepest N a0 s = some q) : sj_C X m_X9_deepest [sj_r (some a0)] s (some (sj_i q.1), q.2) :=
  sj_C_of (by decide +kernel) (Nat.le_of_ble_eq_true rfl) (lo := [some (sj_r (some a0)), none, none]) rfl (sj_weak (l2 := [some (sj_r (some a0)), none, none]) (⟨rfl, trivial⟩) (t_X9_deepest_0 a0 s h))
theorem dX9_bodyOf_0 : decode cX9_bodyOf 0 = .ok (.iconst 0, 1) := by decide +kernel
theorem dX9_bodyOf_1 : decode cX9_bodyOf 1 = .ok (.istore_n 1, 1) := by decide +kernel
theorem dX9_bodyOf_2 : decode cX9_bodyOf 2 = .ok (.aload_n 0, 1) := by decide +kernel
theorem dX9_bodyOf_3 : decode cX9_bodyOf 3 = .ok (.getfield 22, 3) := by decide +kernel
theorem dX9_bodyOf_6 : decode cX9_bodyOf 6 = .ok (.istore_n 2, 1) := by decide +kernel
theorem dX9_bodyOf_7 : decode cX9_bodyOf 7 = .ok (.iload_n 2, 1) := by decide +kernel
theorem dX9_bodyOf_8 : decode cX9_bodyOf 8 = .ok (.aload_n 0, 1) := by decide +kernel
theorem dX9_bodyOf_9 : decode cX9_bodyOf 9 = .ok (.getfield 150, 3) := by decide +kernel
theorem dX9_bodyOf_12 : decode cX9_bodyOf 12 = .ok (.if_icmp .ge 47, 3) := by decide +kernel
theorem dX9_bodyOf_15 : decode cX9_bodyOf 15 = .ok (.iload_n 1, 1) := by decide +kernel
theorem dX9_bodyOf_16 : decode cX9_bodyOf 16 = .ok (.aload_n 0, 1) := by decide +kernel
theorem dX9_bodyOf_17 : decode cX9_bodyOf 17 = .ok (.getfield 9, 3) := by decide +kernel
theorem dX9_bodyOf_20 : decode cX9_bodyOf 20 = .ok (.iconst 3, 1) := by decide +kernel
theorem dX9_bodyOf_21 : decode cX9_bodyOf 21 = .ok (.iload_n 2, 1) := by decide +kernel
theorem dX9_bodyOf_22 : decode cX9_bodyOf 22 = .ok (.iadd, 1) := by decide +kernel
theorem dX9_bodyOf_23 : decode cX9_bodyOf 23 = .ok (.iaload, 1) := by decide +kernel
theorem dX9_bodyOf_24 : decode cX9_bodyOf 24 = .ok (.aload_n 0, 1) := by decide +kernel
theorem dX9_bodyOf_25 : decode cX9_bodyOf 25 = .ok (.getfield 26, 3) := by decide +kernel
theorem dX9_bodyOf_28 : decode cX9_bodyOf 28 = .ok (.iload_n 2, 1) := by decide +kernel
theorem dX9_bodyOf_29 : decode cX9_bodyOf 29 = .ok (.iaload, 1) := by decide +kernel
theorem dX9_bodyOf_30 : decode cX9_bodyOf 30 = .ok (.isub, 1) := by decide +kernel
theorem dX9_bodyOf_31 : decode cX9_bodyOf 31 = .ok (.aload_n 0, 1) := by decide +kernel
theorem dX9_bodyOf_32 : decode cX9_bodyOf 32 = .ok (.getfield 9, 3) := by decide +kernel
theorem dX9_bodyOf_35 : decode cX9_bodyOf 35 = .ok (.iconst 3, 1) := by decide +kernel
theorem dX9_bodyOf_36 : decode cX9_bodyOf 36 = .ok (.iload_n 2, 1) := by decide +kernel
theorem dX9_bodyOf_37 : decode cX9_bodyOf 37 = .ok (.iadd, 1) := by decide +kernel
theorem dX9_bodyOf_38 : decode cX9_bodyOf 38 = .ok (.iconst 1, 1) := by decide +kernel
theorem dX9_bodyOf_39 : decode cX9_bodyOf 39 = .ok (.iadd, 1) := by decide +kernel
theorem dX9_bodyOf_40 : decode cX9_bodyOf 40 = .ok (.iaload, 1) := by decide +kernel
theorem dX9_bodyOf_41 : decode cX9_bodyOf 41 = .ok (.iadd, 1) := by decide +kernel
theorem dX9_bodyOf_42 : decode cX9_bodyOf 42 = .ok (.aload_n 0, 1) := by decide +kernel
theorem dX9_bodyOf_43 : decode cX9_bodyOf 43 = .ok (.getfield 26, 3) := by decide +kernel
theorem dX9_bodyOf_46 : decode cX9_bodyOf 46 = .ok (.iload_n 2, 1) := by decide +kernel
theorem dX9_bodyOf_47 : decode cX9_bodyOf 47 = .ok (.iconst 1, 1) := by decide +kernel
theorem dX9_bodyOf_48 : decode cX9_bodyOf 48 = .ok (.iadd, 1) := by decide +kernel
theorem dX9_bodyOf_49 : decode cX9_bodyOf 49 = .ok (.iaload, 1) := by decide +kernel
theorem dX9_bodyOf_50 : decode cX9_bodyOf 50 = .ok (.isub, 1) := by decide +kernel
theorem dX9_bodyOf_51 : decode cX9_bodyOf 51 = .ok (.iadd, 1) := by decide +kernel
theorem dX9_bodyOf_52 : decode cX9_bodyOf 52 = .ok (.istore_n 1, 1) := by decide +kernel
theorem dX9_bodyOf_53 : decode cX9_bodyOf 53 = .ok (.iinc 2 1, 3) := by decide +kernel
theorem dX9_bodyOf_56 : decode cX9_bodyOf 56 = .ok (.goto (-49), 3) := by decide +kernel
theorem dX9_bodyOf_59 : decode cX9_bodyOf 59 = .ok (.aload_n 0, 1) := by decide +kernel
theorem dX9_bodyOf_60 : decode cX9_bodyOf 60 = .ok (.getfield 9, 3) := by decide +kernel
theorem dX9_bodyOf_63 : decode cX9_bodyOf 63 = .ok (.iconst 1, 1) := by decide +kernel
theorem dX9_bodyOf_64 : decode cX9_bodyOf 64 = .ok (.iaload, 1) := by decide +kernel
theorem dX9_bodyOf_65 : decode cX9_bodyOf 65 = .ok (.iload_n 1, 1) := by decide +kernel
theorem dX9_bodyOf_66 : decode cX9_bodyOf 66 = .ok (.imul, 1) := by decide +kernel
theorem dX9_bodyOf_67 : decode cX9_bodyOf 67 = .ok (.ireturn, 1) := by decide +kernel
set_option maxHeartbeats 4000000 in
theorem t_X9_bodyOf_7_b {X : sj_X} {s0 : sj_Mem} {N : Nat} {q : Int × sj_Mem} {k7 : Nat → Int → Int → sj_Mem → Option (Int × sj_Mem)} (hk7 : ∀ (a0 : Nat) (x1 : Int) (x2 : Int) (s : sj_Mem), k7 a0 x1 x2 s = some q → sj_T X m_X9_bodyOf s0 (some (sj_i q.1), q.2) 7 [some (sj_r (some a0)), some (sj_i x1), some (sj_i x2)] [] s) :
    ∀ (a0 : Nat) (x1 : Int) (x2 : Int) (s : sj_Mem), f_X9_bodyOf_7_b N k7 a0 x1 x2 s = some q → sj_T X m_X9_bodyOf s0 (some (sj_i q.1), q.2) 7 [some (sj_r (some a0)), some (sj_i x1), some (sj_i x2)] [] s := by
  intro a0 x1 x2 s h
  unfold f_X9_bodyOf_7_b at h
  refine r_iload_n (pc := 7) dX9_bodyOf_7 rfl rfl ?_
  refine r_aload_n (pc := 8) dX9_bodyOf_8 rfl rfl ?_
  refine r_gI (pc := 9) h dX9_bodyOf_9 fw_X9_150 rfl (fun v1 h => ?_)
  refine r_icmp_ge (pc := 12) (tgt := 59) h dX9_bodyOf_12 (by decide) (fun h => ?_) (fun h => ?_)
  · refine r_aload_n (pc := 59) dX9_bodyOf_59 rfl rfl ?_
    refine r_gR (pc := 60) h dX9_bodyOf_60 fw_X9_9 rfl (fun r2 h => ?_)
    refine r_iconst (pc := 63) dX9_bodyOf_63 ?_
    obtain ⟨a3, ea3, g⟩ := e_nn_some h
    clear h
    subst ea3
    have h := g
    clear g
    refine r_iaload (pc := 64) h dX9_bodyOf_64 (fun v4 h => ?_)
    refine r_iload_n (pc := 65) dX9_bodyOf_65 rfl rfl ?_
    refine r_imul (pc := 66) dX9_bodyOf_66 ?_
    exact r_iret (pc := 67) h rfl dX9_bodyOf_67
  · refine r_iload_n (pc := 15) dX9_bodyOf_15 rfl rfl ?_
    refine r_aload_n (pc := 16) dX9_bodyOf_16 rfl rfl ?_
    refine r_gR (pc := 17) h dX9_bodyOf_17 fw_X9_9 rfl (fun r5 h => ?_)
    refine r_iconst (pc := 20) dX9_bodyOf_20 ?_
    refine r_iload_n (pc := 21) dX9_bodyOf_21 rfl rfl ?_
    refine r_iadd (pc := 22) dX9_bodyOf_22 ?_
    obtain ⟨a6, ea6, g⟩ := e_nn_some h
    clear h
    subst ea6
    have h := g
    clear g
    refine r_iaload (pc := 23) h dX9_bodyOf_23 (fun v7 h => ?_)
    refine r_aload_n (pc := 24) dX9_bodyOf_24 rfl rfl ?_
    refine r_gR (pc := 25) h dX9_bodyOf_25 fw_X9_26 rfl (fun r8 h => ?_)
    refine r_iload_n (pc := 28) dX9_bodyOf_28 rfl rfl ?_
    obtain ⟨a9, ea9, g⟩ := e_nn_some h
    clear h
    subst ea9
    have h := g
    clear g
    refine r_iaload (pc := 29) h dX9_bodyOf_29 (fun v10 h => ?_)
    refine r_isub (pc := 30) dX9_bodyOf_30 ?_
    refine r_aload_n (pc := 31) dX9_bodyOf_31 rfl rfl ?_
    refine r_gR (pc := 32) h dX9_bodyOf_32 fw_X9_9 rfl (fun r11 h => ?_)
    refine r_iconst (pc := 35) dX9_bodyOf_35 ?_
    refine r_iload_n (pc := 36) dX9_bodyOf_36 rfl rfl ?_
    refine r_iadd (pc := 37) dX9_bodyOf_37 ?_
    refine r_iconst (pc := 38) dX9_bodyOf_38 ?_
    refine r_iadd (pc := 39) dX9_bodyOf_39 ?_
    obtain ⟨a12, ea12, g⟩ := e_nn_some h
    clear h
    subst ea12
    have h := g
    clear g
    refine r_iaload (pc := 40) h dX9_bodyOf_40 (fun v13 h => ?_)
    refine r_iadd (pc := 41) dX9_bodyOf_41 ?_
    refine r_aload_n (pc := 42) dX9_bodyOf_42 rfl rfl ?_
    refine r_gR (pc := 43) h dX9_bodyOf_43 fw_X9_26 rfl (fun r14 h => ?_)
    refine r_iload_n (pc := 46) dX9_bodyOf_46 rfl rfl ?_
    refine r_iconst (pc := 47) dX9_bodyOf_47 ?_
    refine r_iadd (pc := 48) dX9_bodyOf_48 ?_
    obtain ⟨a15, ea15, g⟩ := e_nn_some h
    clear h
    subst ea15
    have h := g
    clear g
    refine r_iaload (pc := 49) h dX9_bodyOf_49 (fun v16 h => ?_)
    refine r_isub (pc := 50) dX9_bodyOf_50 ?_
    refine r_iadd (pc := 51) dX9_bodyOf_51 ?_
    refine r_istore_nL (ln := fun w => [some (sj_r (some a0)), some (sj_i w), some (sj_i x2)]) (pc := 52) h dX9_bodyOf_52 rfl (Nat.le_of_ble_eq_true rfl) (fun _ => rfl) (fun v17 h => ?_)
    refine r_iinc (ln := fun w => [some (sj_r (some a0)), some (sj_i v17), some (sj_i w)]) (pc := 53) h dX9_bodyOf_53 rfl (Nat.le_of_ble_eq_true rfl) (fun _ => rfl) (fun v18 h => ?_)
    refine r_goto (pc := 56) (tgt := 7) dX9_bodyOf_56 (by decide) ?_
    exact sj_weak (l2 := [some (sj_r (some a0)), some (sj_i v17), some (sj_i v18)]) (⟨rfl, ⟨rfl, ⟨rfl, trivial⟩⟩⟩) (hk7 a0 v17 v18 s h)
set_option maxHeartbeats 4000000 in
theorem t_X9_bodyOf_7 {X : sj_X} {s0 : sj_Mem} {N : Nat} {q : Int × sj_Mem} :
    ∀ (n : Nat) (a0 : Nat) (x1 : Int) (x2 : Int) (s : sj_Mem), f_X9_bodyOf_7 N n a0 x1 x2 s = some q → sj_T X m_X9_bodyOf s0 (some (sj_i q.1), q.2) 7 [some (sj_r (some a0)), some (sj_i x1), some (sj_i x2)] [] s := by
  intro n
  induction n with
  | zero => intro a0 x1 x2 s h; exact nomatch h
  | succ n ih => intro a0 x1 x2 s h; exact t_X9_bodyOf_7_b (N := N) ih a0 x1 x2 s h
set_option maxHeartbeats 4000000 in
theorem t_X9_bodyOf_0 {X : sj_X} {s0 : sj_Mem} {N : Nat} {q : Int × sj_Mem} :
    ∀ (a0 : Nat) (s : sj_Mem), f_X9_bodyOf N a0 s = some q → sj_T X m_X9_bodyOf s0 (some (sj_i q.1), q.2) 0 [some (sj_r (some a0)), none, none] [] s := by
  intro a0 s h
  unfold f_X9_bodyOf at h
  refine r_iconst (pc := 0) dX9_bodyOf_0 ?_
  refine r_istore_n (ln := [some (sj_r (some a0)), some (sj_i 0), none]) (pc := 1) dX9_bodyOf_1 rfl (Nat.le_of_ble_eq_true rfl) rfl ?_
  refine r_aload_n (pc := 2) dX9_bodyOf_2 rfl rfl ?_
  refine r_gI (pc := 3) h dX9_bodyOf_3 fw_X9_22 rfl (fun v1 h => ?_)
  refine r_istore_n (ln := [some (sj_r (some a0)), some (sj_i 0), some (sj_i v1)]) (pc := 6) dX9_bodyOf_6 rfl (Nat.le_of_ble_eq_true rfl) rfl ?_
  exact sj_weak (l2 := [some (sj_r (some a0)), some (sj_i 0), some (sj_i v1)]) (⟨rfl, ⟨rfl, ⟨rfl, trivial⟩⟩⟩) (t_X9_bodyOf_7 N a0 0 v1 s h)
set_option maxHeartbeats 4000000 in
theorem c_X9_bodyOf {X : sj_X} {N : Nat} {a0 : Nat} {s : sj_Mem} {q : Int × sj_Mem} (h : f_X9_bodyOf N a0 s = some q) : sj_C X m_X9_bodyOf [sj_r (some a0)] s (some (sj_i q.1), q.2) :=
  sj_C_of (by decide +kernel) (Nat.le_of_ble_eq_true rfl) (lo := [some (sj_r (some a0)), none, none]) rfl (sj_weak (l2 := [some (sj_r (some a0)), none, none]) (⟨rfl, trivial⟩) (t_X9_bodyOf_0 a0 s h))
theorem dX9_shape_0 : decode cX9_shape 0 = .ok (.aload_n 0, 1) := by decide +kernel
theorem dX9_shape_1 : decode cX9_shape 1 = .ok (.invokevirtual 277, 3) := by decide +kernel
theorem dX9_shape_4 : decode cX9_shape 4 = .ok (.ifCond .ne 5, 3) := by decide +kernel
theorem dX9_shape_7 : decode cX9_shape 7 = .ok (.iconst (-1), 1) := by decide +kernel
theorem dX9_shape_8 : decode cX9_shape 8 = .ok (.ireturn, 1) := by decide +kernel
theorem dX9_shape_9 : decode cX9_shape 9 = .ok (.iload_n 1, 1) := by decide +kernel
theorem dX9_shape_10 : decode cX9_shape 10 = .ok (.tableswitch 87 0 5 #[38, 43, 65, 70, 75, 81], 38) := by decide +kernel
theorem dX9_shape_48 : decode cX9_shape 48 = .ok (.aload_n 0, 1) := by decide +kernel
theorem dX9_shape_49 : decode cX9_shape 49 = .ok (.invokevirtual 307, 3) := by decide +kernel
theorem dX9_shape_52 : decode cX9_shape 52 = .ok (.ireturn, 1) := by decide +kernel
theorem dX9_shape_53 : decode cX9_shape 53 = .ok (.aload_n 0, 1) := by decide +kernel
theorem dX9_shape_54 : decode cX9_shape 54 = .ok (.getfield 9, 3) := by decide +kernel
theorem dX9_shape_57 : decode cX9_shape 57 = .ok (.iconst 3, 1) := by decide +kernel
theorem dX9_shape_58 : decode cX9_shape 58 = .ok (.aload_n 0, 1) := by decide +kernel
theorem dX9_shape_59 : decode cX9_shape 59 = .ok (.invokevirtual 310, 3) := by decide +kernel
theorem dX9_shape_62 : decode cX9_shape 62 = .ok (.iadd, 1) := by decide +kernel
theorem dX9_shape_63 : decode cX9_shape 63 = .ok (.iaload, 1) := by decide +kernel
theorem dX9_shape_64 : decode cX9_shape 64 = .ok (.aload_n 0, 1) := by decide +kernel
theorem dX9_shape_65 : decode cX9_shape 65 = .ok (.getfield 26, 3) := by decide +kernel
theorem dX9_shape_68 : decode cX9_shape 68 = .ok (.aload_n 0, 1) := by decide +kernel
theorem dX9_shape_69 : decode cX9_shape 69 = .ok (.invokevirtual 310, 3) := by decide +kernel
theorem dX9_shape_72 : decode cX9_shape 72 = .ok (.iaload, 1) := by decide +kernel
theorem dX9_shape_73 : decode cX9_shape 73 = .ok (.isub, 1) := by decide +kernel
theorem dX9_shape_74 : decode cX9_shape 74 = .ok (.ireturn, 1) := by decide +kernel
theorem dX9_shape_75 : decode cX9_shape 75 = .ok (.aload_n 0, 1) := by decide +kernel
theorem dX9_shape_76 : decode cX9_shape 76 = .ok (.invokevirtual 310, 3) := by decide +kernel
theorem dX9_shape_79 : decode cX9_shape 79 = .ok (.ireturn, 1) := by decide +kernel
theorem dX9_shape_80 : decode cX9_shape 80 = .ok (.aload_n 0, 1) := by decide +kernel
theorem dX9_shape_81 : decode cX9_shape 81 = .ok (.invokevirtual 313, 3) := by decide +kernel
theorem dX9_shape_84 : decode cX9_shape 84 = .ok (.ireturn, 1) := by decide +kernel
theorem dX9_shape_85 : decode cX9_shape 85 = .ok (.aload_n 0, 1) := by decide +kernel
theorem dX9_shape_86 : decode cX9_shape 86 = .ok (.iconst 0, 1) := by decide +kernel
theorem dX9_shape_87 : decode cX9_shape 87 = .ok (.invokevirtual 316, 3) := by decide +kernel
theorem dX9_shape_90 : decode cX9_shape 90 = .ok (.ireturn, 1) := by decide +kernel
theorem dX9_shape_91 : decode cX9_shape 91 = .ok (.aload_n 0, 1) := by decide +kernel
theorem dX9_shape_92 : decode cX9_shape 92 = .ok (.iconst 1, 1) := by decide +kernel
theorem dX9_shape_93 : decode cX9_shape 93 = .ok (.invokevirtual 316, 3) := by decide +kernel
theorem dX9_shape_96 : decode cX9_shape 96 = .ok (.ireturn, 1) := by decide +kernel
theorem dX9_shape_97 : decode cX9_shape 97 = .ok (.iconst (-1), 1) := by decide +kernel
theorem dX9_shape_98 : decode cX9_shape 98 = .ok (.ireturn, 1) := by decide +kernel
set_option maxHeartbeats 4000000 in
theorem t_X9_shape_0 {X : sj_X} {s0 : sj_Mem} {N : Nat} {q : Int × sj_Mem} :
    ∀ (a0 : Nat) (x1 : Int) (s : sj_Mem), f_X9_shape N a0 x1 s = some q → sj_T X m_X9_shape s0 (some (sj_i q.1), q.2) 0 [some (sj_r (some a0)), some (sj_i x1)] [] s := by
  intro a0 x1 s h
  unfold f_X9_shape at h
  refine r_aload_n (pc := 0) dX9_shape_0 rfl rfl ?_
  refine r_callV (pc := 1) (fun v => some (sj_i v)) (As := []) (rest := []) h dX9_shape_1 mw_X9_277 vw_X9_takesSlip (fun _ _ hc => c_X9_takesSlip hc) rfl ⟨(Nat.le_of_ble_eq_true rfl), (Nat.le_of_ble_eq_true rfl)⟩ (Nat.le_of_ble_eq_true rfl) rfl (fun v2 s1 h => ?_)
  refine r_if_ne (pc := 4) (tgt := 9) h dX9_shape_4 (by decide) (fun h => ?_) (fun h => ?_)
  · refine r_iconst (pc := 7) dX9_shape_7 ?_
    exact r_iret (pc := 8) h rfl dX9_shape_8
  · refine r_iload_n (pc := 9) dX9_shape_9 rfl rfl ?_
    obtain ⟨hr, h⟩ := e_sw_some h
    refine sj_if h (fun c0 h => ?_) (fun c0 h => ?_)
    · refine r_tcase (pc := 10) (tgt := 48) (j := 0) hr c0 dX9_shape_10 (by decide) (by decide) rfl (by decide) ?_
      refine r_aload_n (pc := 48) dX9_shape_48 rfl rfl ?_
      refine r_callV (pc := 49) (fun v => some (sj_i v)) (As := []) (rest := []) h dX9_shape_49 mw_X9_307 vw_X9_bodyOf (fun _ _ hc => c_X9_bodyOf hc) rfl ⟨(Nat.le_of_ble_eq_true rfl), (Nat.le_of_ble_eq_true rfl)⟩ (Nat.le_of_ble_eq_true rfl) rfl (fun v4 s3 h => ?_)
      exact r_iret (pc := 52) h rfl dX9_shape_52
    refine sj_if h (fun c1 h => ?_) (fun c1 h => ?_)
    · refine r_tcase (pc := 10) (tgt := 53) (j := 1) hr c1 dX9_shape_10 (by decide) (by decide) rfl (by decide) ?_
      refine r_aload_n (pc := 53) dX9_shape_53 rfl rfl ?_
      refine r_gR (pc := 54) h dX9_shape_54 fw_X9_9 rfl (fun r5 h => ?_)
      refine r_iconst (pc := 57) dX9_shape_57 ?_
      refine r_aload_n (pc := 58) dX9_shape_58 rfl rfl ?_
      refine r_callV (pc := 59) (fun v => some (sj_i v)) (As := []) (rest := [(sj_i 3), (sj_r r5)]) h dX9_shape_59 mw_X9_310 vw_X9_deepest (fun _ _ hc => c_X9_deepest hc) rfl ⟨(Nat.le_of_ble_eq_true rfl), (Nat.le_of_ble_eq_true rfl)⟩ (Nat.le_of_ble_eq_true rfl) rfl (fun v7 s6 h => ?_)
      refine r_iadd (pc := 62) dX9_shape_62 ?_
      obtain ⟨a8, ea8, g⟩ := e_nn_some h
      clear h
      subst ea8
      have h := g
      clear g
      refine r_iaload (pc := 63) h dX9_shape_63 (fun v9 h => ?_)
      refine r_aload_n (pc := 64) dX9_shape_64 rfl rfl ?_
      refine r_gR (pc := 65) h dX9_shape_65 fw_X9_26 rfl (fun r10 h => ?_)
      refine r_aload_n (pc := 68) dX9_shape_68 rfl rfl ?_
      refine r_callV (pc := 69) (fun v => some (sj_i v)) (As := []) (rest := [(sj_r r10), (sj_i v9)]) h dX9_shape_69 mw_X9_310 vw_X9_deepest (fun _ _ hc => c_X9_deepest hc) rfl ⟨(Nat.le_of_ble_eq_true rfl), (Nat.le_of_ble_eq_true rfl)⟩ (Nat.le_of_ble_eq_true rfl) rfl (fun v12 s11 h => ?_)
      obtain ⟨a13, ea13, g⟩ := e_nn_some h
      clear h
      subst ea13
      have h := g
      clear g
      refine r_iaload (pc := 72) h dX9_shape_72 (fun v14 h => ?_)
      refine r_isub (pc := 73) dX9_shape_73 ?_
      exact r_iret (pc := 74) h rfl dX9_shape_74
    refine sj_if h (fun c2 h => ?_) (fun c2 h => ?_)
    · refine r_tcase (pc := 10) (tgt := 75) (j := 2) hr c2 dX9_shape_10 (by decide) (by decide) rfl (by decide) ?_
      refine r_aload_n (pc := 75) dX9_shape_75 rfl rfl ?_
      refine r_callV (pc := 76) (fun v => some (sj_i v)) (As := []) (rest := []) h dX9_shape_76 mw_X9_310 vw_X9_deepest (fun _ _ hc => c_X9_deepest hc) rfl ⟨(Nat.le_of_ble_eq_true rfl), (Nat.le_of_ble_eq_true rfl)⟩ (Nat.le_of_ble_eq_true rfl) rfl (fun v16 s15 h => ?_)
      exact r_iret (pc := 79) h rfl dX9_shape_79
    refine sj_if h (fun c3 h => ?_) (fun c3 h => ?_)
    · refine r_tcase (pc := 10) (tgt := 80) (j := 3) hr c3 dX9_shape_10 (by decide) (by decide) rfl (by decide) ?_
      refine r_aload_n (pc := 80) dX9_shape_80 rfl rfl ?_
      refine r_callV (pc := 81) (fun v => some (sj_i v)) (As := []) (rest := []) h dX9_shape_81 mw_X9_313 vw_X9_leastBase (fun _ _ hc => c_X9_leastBase hc) rfl ⟨(Nat.le_of_ble_eq_true rfl), (Nat.le_of_ble_eq_true rfl)⟩ (Nat.le_of_ble_eq_true rfl) rfl (fun v18 s17 h => ?_)
      exact r_iret (pc := 84) h rfl dX9_shape_84
    refine sj_if h (fun c4 h => ?_) (fun c4 h => ?_)
    · refine r_tcase (pc := 10) (tgt := 85) (j := 4) hr c4 dX9_shape_10 (by decide) (by decide) rfl (by decide) ?_
      refine r_aload_n (pc := 85) dX9_shape_85 rfl rfl ?_
      refine r_iconst (pc := 86) dX9_shape_86 ?_
      refine r_callV (pc := 87) (fun v => some (sj_i v)) (As := [sj_i 0]) (rest := []) h dX9_shape_87 mw_X9_316 vw_X9_slicesOf (fun _ _ hc => c_X9_slicesOf hc) rfl ⟨(Nat.le_of_ble_eq_true rfl), (Nat.le_of_ble_eq_true rfl)⟩ (Nat.le_of_ble_eq_true rfl) rfl (fun v20 s19 h => ?_)
      exact r_iret (pc := 90) h rfl dX9_shape_90
    refine sj_if h (fun c5 h => ?_) (fun c5 h => ?_)
    · refine r_tcase (pc := 10) (tgt := 91) (j := 5) hr c5 dX9_shape_10 (by decide) (by decide) rfl (by decide) ?_
      refine r_aload_n (pc := 91) dX9_shape_91 rfl rfl ?_
      refine r_iconst (pc := 92) dX9_shape_92 ?_
      refine r_callV (pc := 93) (fun v => some (sj_i v)) (As := [sj_i 1]) (rest := []) h dX9_shape_93 mw_X9_316 vw_X9_slicesOf (fun _ _ hc => c_X9_slicesOf hc) rfl ⟨(Nat.le_of_ble_eq_true rfl), (Nat.le_of_ble_eq_true rfl)⟩ (Nat.le_of_ble_eq_true rfl) rfl (fun v22 s21 h => ?_)
      exact r_iret (pc := 96) h rfl dX9_shape_96
    refine r_tdflt (pc := 10) (tgt := 97) hr dX9_shape_10 (by omega) (by decide) ?_
    refine r_iconst (pc := 97) dX9_shape_97 ?_
    exact r_iret (pc := 98) h rfl dX9_shape_98
set_option maxHeartbeats 4000000 in
theorem c_X9_shape {X : sj_X} {N : Nat} {a0 : Nat} {x1 : Int} {s : sj_Mem} {q : Int × sj_Mem} (h : f_X9_shape N a0 x1 s = some q) : sj_C X m_X9_shape [sj_r (some a0), sj_i x1] s (some (sj_i q.1), q.2) :=
  sj_C_of (by decide +kernel) (Nat.le_of_ble_eq_true rfl) (lo := [some (sj_r (some a0)), some (sj_i x1)]) rfl (sj_weak (l2 := [some (sj_r (some a0)), some (sj_i x1)]) (⟨rfl, ⟨rfl, trivial⟩⟩) (t_X9_shape_0 a0 x1 s h))
theorem dX9_berm_0 : decode cX9_berm 0 = .ok (.aload_n 0, 1) := by decide +kernel
theorem dX9_berm_1 : decode cX9_berm 1 = .ok (.iload_n 1, 1) := by decide +kernel
theorem dX9_berm_2 : decode cX9_berm 2 = .ok (.invokevirtual 74, 3) := by decide +kernel
theorem dX9_berm_5 : decode cX9_berm 5 = .ok (.ifCond .eq 30, 3) := by decide +kernel
theorem dX9_berm_8 : decode cX9_berm 8 = .ok (.aload_n 0, 1) := by decide +kernel
theorem dX9_berm_9 : decode cX9_berm 9 = .ok (.iload_n 2, 1) := by decide +kernel
theorem dX9_berm_10 : decode cX9_berm 10 = .ok (.invokevirtual 74, 3) := by decide +kernel
theorem dX9_berm_13 : decode cX9_berm 13 = .ok (.ifCond .eq 22, 3) := by decide +kernel
theorem dX9_berm_16 : decode cX9_berm 16 = .ok (.iload_n 1, 1) := by decide +kernel
theorem dX9_berm_17 : decode cX9_berm 17 = .ok (.iload_n 2, 1) := by decide +kernel
theorem dX9_berm_18 : decode cX9_berm 18 = .ok (.if_icmp .gt 17, 3) := by decide +kernel
theorem dX9_berm_21 : decode cX9_berm 21 = .ok (.iload_n 3, 1) := by decide +kernel
theorem dX9_berm_22 : decode cX9_berm 22 = .ok (.invokestatic 287, 3) := by decide +kernel
theorem dX9_berm_25 : decode cX9_berm 25 = .ok (.ifCond .eq 10, 3) := by decide +kernel
theorem dX9_berm_28 : decode cX9_berm 28 = .ok (.aload_n 0, 1) := by decide +kernel
theorem dX9_berm_29 : decode cX9_berm 29 = .ok (.invokevirtual 277, 3) := by decide +kernel
theorem dX9_berm_32 : decode cX9_berm 32 = .ok (.ifCond .ne 5, 3) := by decide +kernel
theorem dX9_berm_35 : decode cX9_berm 35 = .ok (.iconst (-1), 1) := by decide +kernel
theorem dX9_berm_36 : decode cX9_berm 36 = .ok (.ireturn, 1) := by decide +kernel
theorem dX9_berm_37 : decode cX9_berm 37 = .ok (.aload_n 0, 1) := by decide +kernel
theorem dX9_berm_38 : decode cX9_berm 38 = .ok (.invokevirtual 301, 3) := by decide +kernel
theorem dX9_berm_41 : decode cX9_berm 41 = .ok (.iconst 0, 1) := by decide +kernel
theorem dX9_berm_42 : decode cX9_berm 42 = .ok (.istore 4, 2) := by decide +kernel
theorem dX9_berm_44 : decode cX9_berm 44 = .ok (.iload 4, 2) := by decide +kernel
theorem dX9_berm_46 : decode cX9_berm 46 = .ok (.sipush 500, 3) := by decide +kernel
theorem dX9_berm_49 : decode cX9_berm 49 = .ok (.if_icmp .gt 55, 3) := by decide +kernel
theorem dX9_berm_52 : decode cX9_berm 52 = .ok (.aload_n 0, 1) := by decide +kernel
theorem dX9_berm_53 : decode cX9_berm 53 = .ok (.iload_n 3, 1) := by decide +kernel
theorem dX9_berm_54 : decode cX9_berm 54 = .ok (.invokevirtual 183, 3) := by decide +kernel
theorem dX9_berm_57 : decode cX9_berm 57 = .ok (.ifCond .ne 47, 3) := by decide +kernel
theorem dX9_berm_60 : decode cX9_berm 60 = .ok (.iinc 4 1, 3) := by decide +kernel
theorem dX9_berm_63 : decode cX9_berm 63 = .ok (.iload_n 1, 1) := by decide +kernel
theorem dX9_berm_64 : decode cX9_berm 64 = .ok (.istore 5, 2) := by decide +kernel
theorem dX9_berm_66 : decode cX9_berm 66 = .ok (.iload 5, 2) := by decide +kernel
theorem dX9_berm_68 : decode cX9_berm 68 = .ok (.iload_n 2, 1) := by decide +kernel
theorem dX9_berm_69 : decode cX9_berm 69 = .ok (.if_icmp .gt 32, 3) := by decide +kernel
theorem dX9_berm_72 : decode cX9_berm 72 = .ok (.aload_n 0, 1) := by decide +kernel
theorem dX9_berm_73 : decode cX9_berm 73 = .ok (.getfield 9, 3) := by decide +kernel
theorem dX9_berm_76 : decode cX9_berm 76 = .ok (.bipush 126, 2) := by decide +kernel
theorem dX9_berm_78 : decode cX9_berm 78 = .ok (.iload 5, 2) := by decide +kernel
theorem dX9_berm_80 : decode cX9_berm 80 = .ok (.iadd, 1) := by decide +kernel
theorem dX9_berm_81 : decode cX9_berm 81 = .ok (.aload_n 0, 1) := by decide +kernel
theorem dX9_berm_82 : decode cX9_berm 82 = .ok (.getfield 13, 3) := by decide +kernel
theorem dX9_berm_85 : decode cX9_berm 85 = .ok (.bipush 126, 2) := by decide +kernel
theorem dX9_berm_87 : decode cX9_berm 87 = .ok (.iload 5, 2) := by decide +kernel
theorem dX9_berm_89 : decode cX9_berm 89 = .ok (.iadd, 1) := by decide +kernel
theorem dX9_berm_90 : decode cX9_berm 90 = .ok (.iaload, 1) := by decide +kernel
theorem dX9_berm_91 : decode cX9_berm 91 = .ok (.iload 4, 2) := by decide +kernel
theorem dX9_berm_93 : decode cX9_berm 93 = .ok (.iadd, 1) := by decide +kernel
theorem dX9_berm_94 : decode cX9_berm 94 = .ok (.iastore, 1) := by decide +kernel
theorem dX9_berm_95 : decode cX9_berm 95 = .ok (.iinc 5 1, 3) := by decide +kernel
theorem dX9_berm_98 : decode cX9_berm 98 = .ok (.goto (-32), 3) := by decide +kernel
theorem dX9_berm_101 : decode cX9_berm 101 = .ok (.goto (-57), 3) := by decide +kernel
theorem dX9_berm_104 : decode cX9_berm 104 = .ok (.aload_n 0, 1) := by decide +kernel
theorem dX9_berm_105 : decode cX9_berm 105 = .ok (.invokevirtual 304, 3) := by decide +kernel
theorem dX9_berm_108 : decode cX9_berm 108 = .ok (.iload 4, 2) := by decide +kernel
theorem dX9_berm_110 : decode cX9_berm 110 = .ok (.sipush 500, 3) := by decide +kernel
theorem dX9_berm_113 : decode cX9_berm 113 = .ok (.if_icmp .le 7, 3) := by decide +kernel
theorem dX9_berm_116 : decode cX9_berm 116 = .ok (.iconst (-1), 1) := by decide +kernel
theorem dX9_berm_117 : decode cX9_berm 117 = .ok (.goto 5, 3) := by decide +kernel
theorem dX9_berm_120 : decode cX9_berm 120 = .ok (.iload 4, 2) := by decide +kernel
theorem dX9_berm_122 : decode cX9_berm 122 = .ok (.ireturn, 1) := by decide +kernel
set_option maxHeartbeats 4000000 in
theorem t_X9_berm_66_b {X : sj_X} {s0 : sj_Mem} {N : Nat} {q : Int × sj_Mem} {k44 : Nat → Int → Int → Int → Int → sj_Mem → Option (Int × sj_Mem)} {k66 : Nat → Int → Int → Int → Int → Int → sj_Mem → Option (Int × sj_Mem)} (hk44 : ∀ (a0 : Nat) (x1 : Int) (x2 : Int) (x3 : Int) (x4 : Int) (s : sj_Mem), k44 a0 x1 x2 x3 x4 s = some q → sj_T X m_X9_berm s0 (some (sj_i q.1), q.2) 44 [some (sj_r (some a0)), some (sj_i x1), some (sj_i x2), some (sj_i x3), some (sj_i x4), none] [] s) (hk66 : ∀ (a0 : Nat) (x1 : Int) (x2 : Int) (x3 : Int) (x4 : Int) (x5 : Int) (s : sj_Mem), k66 a0 x1 x2 x3 x4 x5 s = some q → sj_T X m_X9_berm s0 (some (sj_i q.1), q.2) 66 [some (sj_r (some a0)), some (sj_i x1), some (sj_i x2), some (sj_i x3), some (sj_i x4), some (sj_i x5)] [] s) :
    ∀ (a0 : Nat) (x1 : Int) (x2 : Int) (x3 : Int) (x4 : Int) (x5 : Int) (s : sj_Mem), f_X9_berm_66_b N k44 k66 a0 x1 x2 x3 x4 x5 s = some q → sj_T X m_X9_berm s0 (some (sj_i q.1), q.2) 66 [some (sj_r (some a0)), some (sj_i x1), some (sj_i x2), some (sj_i x3), some (sj_i x4), some (sj_i x5)] [] s := by
  intro a0 x1 x2 x3 x4 x5 s h
  unfold f_X9_berm_66_b at h
  refine r_iload (pc := 66) dX9_berm_66 rfl ?_
  refine r_iload_n (pc := 68) dX9_berm_68 rfl rfl ?_
  refine r_icmp_gt (pc := 69) (tgt := 101) h dX9_berm_69 (by decide) (fun h => ?_) (fun h => ?_)
  · refine r_goto (pc := 101) (tgt := 44) dX9_berm_101 (by decide) ?_
    exact sj_weak (l2 := [some (sj_r (some a0)), some (sj_i x1), some (sj_i x2), some (sj_i x3), some (sj_i x4), none]) (⟨rfl, ⟨rfl, ⟨rfl, ⟨rfl, ⟨rfl, trivial⟩⟩⟩⟩⟩) (hk44 a0 x1 x2 x3 x4 s h)
  · refine r_aload_n (pc := 72) dX9_berm_72 rfl rfl ?_
    refine r_gR (pc := 73) h dX9_berm_73 fw_X9_9 rfl (fun r1 h => ?_)
    refine r_bipush (pc := 76) dX9_berm_76 ⟨by decide, by decide⟩ ?_
    refine r_iload (pc := 78) dX9_berm_78 rfl ?_
    refine r_iadd (pc := 80) dX9_berm_80 ?_
    refine r_aload_n (pc := 81) dX9_berm_81 rfl rfl ?_
    refine r_gR (pc := 82) h dX9_berm_82 fw_X9_13 rfl (fun r2 h => ?_)
    refine r_bipush (pc := 85) dX9_berm_85 ⟨by decide, by decide⟩ ?_
    refine r_iload (pc := 87) dX9_berm_87 rfl ?_
    refine r_iadd (pc := 89) dX9_berm_89 ?_
    obtain ⟨a3, ea3, g⟩ := e_nn_some h
    clear h
    subst ea3
    have h := g
    clear g
    refine r_iaload (pc := 90) h dX9_berm_90 (fun v4 h => ?_)
    refine r_iload (pc := 91) dX9_berm_91 rfl ?_
    refine r_iadd (pc := 93) dX9_berm_93 ?_
    obtain ⟨a5, ea5, g⟩ := e_nn_some h
    clear h
    subst ea5
    have h := g
    clear g
    refine r_iastore (pc := 94) h dX9_berm_94 (fun s6 h => ?_)
    refine r_iinc (ln := fun w => [some (sj_r (some a0)), some (sj_i x1), some (sj_i x2), some (sj_i x3), some (sj_i x4), some (sj_i w)]) (pc := 95) h dX9_berm_95 rfl (Nat.le_of_ble_eq_true rfl) (fun _ => rfl) (fun v7 h => ?_)
    refine r_goto (pc := 98) (tgt := 66) dX9_berm_98 (by decide) ?_
    exact sj_weak (l2 := [some (sj_r (some a0)), some (sj_i x1), some (sj_i x2), some (sj_i x3), some (sj_i x4), some (sj_i v7)]) (⟨rfl, ⟨rfl, ⟨rfl, ⟨rfl, ⟨rfl, ⟨rfl, trivial⟩⟩⟩⟩⟩⟩) (hk66 a0 x1 x2 x3 x4 v7 s6 h)
set_option maxHeartbeats 4000000 in
theorem t_X9_berm_66 {X : sj_X} {s0 : sj_Mem} {N : Nat} {q : Int × sj_Mem} {k44 : Nat → Int → Int → Int → Int → sj_Mem → Option (Int × sj_Mem)} (hk44 : ∀ (a0 : Nat) (x1 : Int) (x2 : Int) (x3 : Int) (x4 : Int) (s : sj_Mem), k44 a0 x1 x2 x3 x4 s = some q → sj_T X m_X9_berm s0 (some (sj_i q.1), q.2) 44 [some (sj_r (some a0)), some (sj_i x1), some (sj_i x2), some (sj_i x3), some (sj_i x4), none] [] s) :
    ∀ (n : Nat) (a0 : Nat) (x1 : Int) (x2 : Int) (x3 : Int) (x4 : Int) (x5 : Int) (s : sj_Mem), f_X9_berm_66 N k44 n a0 x1 x2 x3 x4 x5 s = some q → sj_T X m_X9_berm s0 (some (sj_i q.1), q.2) 66 [some (sj_r (some a0)), some (sj_i x1), some (sj_i x2), some (sj_i x3), some (sj_i x4), some (sj_i x5)] [] s := by
  intro n
  induction n with
  | zero => intro a0 x1 x2 x3 x4 x5 s h; exact nomatch h
  | succ n ih => intro a0 x1 x2 x3 x4 x5 s h; exact t_X9_berm_66_b (N := N) hk44 ih a0 x1 x2 x3 x4 x5 s h
set_option maxHeartbeats 4000000 in
theorem t_X9_berm_104 {X : sj_X} {s0 : sj_Mem} {N : Nat} {q : Int × sj_Mem} :
    ∀ (a0 : Nat) (x4 : Int) (s : sj_Mem), f_X9_berm_104 N a0 x4 s = some q → sj_T X m_X9_berm s0 (some (sj_i q.1), q.2) 104 [some (sj_r (some a0)), none, none, none, some (sj_i x4), none] [] s := by
  intro a0 x4 s h
  unfold f_X9_berm_104 at h
  refine r_aload_n (pc := 104) dX9_berm_104 rfl rfl ?_
  refine r_callV (pc := 105) (fun _ => none) (As := []) (rest := []) h dX9_berm_105 mw_X9_304 vw_X9_comesBack (fun _ _ hc => c_X9_comesBack hc) rfl ⟨(Nat.le_of_ble_eq_true rfl), (Nat.le_of_ble_eq_true rfl)⟩ (Nat.le_of_ble_eq_true rfl) rfl (fun _u s1 h => ?_)
  refine r_iload (pc := 108) dX9_berm_108 rfl ?_
  refine r_sipush (pc := 110) dX9_berm_110 ⟨by decide, by decide⟩ ?_
  refine r_icmp_le (pc := 113) (tgt := 120) h dX9_berm_113 (by decide) (fun h => ?_) (fun h => ?_)
  · refine r_iload (pc := 120) dX9_berm_120 rfl ?_
    exact r_iret (pc := 122) h rfl dX9_berm_122
  · refine r_iconst (pc := 116) dX9_berm_116 ?_
    refine r_goto (pc := 117) (tgt := 122) dX9_berm_117 (by decide) ?_
    exact r_iret (pc := 122) h rfl dX9_berm_122
set_option maxHeartbeats 4000000 in
theorem t_X9_berm_44_b {X : sj_X} {s0 : sj_Mem} {N : Nat} {q : Int × sj_Mem} {k44 : Nat → Int → Int → Int → Int → sj_Mem → Option (Int × sj_Mem)} (hk44 : ∀ (a0 : Nat) (x1 : Int) (x2 : Int) (x3 : Int) (x4 : Int) (s : sj_Mem), k44 a0 x1 x2 x3 x4 s = some q → sj_T X m_X9_berm s0 (some (sj_i q.1), q.2) 44 [some (sj_r (some a0)), some (sj_i x1), some (sj_i x2), some (sj_i x3), some (sj_i x4), none] [] s) :
    ∀ (a0 : Nat) (x1 : Int) (x2 : Int) (x3 : Int) (x4 : Int) (s : sj_Mem), f_X9_berm_44_b N k44 a0 x1 x2 x3 x4 s = some q → sj_T X m_X9_berm s0 (some (sj_i q.1), q.2) 44 [some (sj_r (some a0)), some (sj_i x1), some (sj_i x2), some (sj_i x3), some (sj_i x4), none] [] s := by
  intro a0 x1 x2 x3 x4 s h
  unfold f_X9_berm_44_b at h
  refine r_iload (pc := 44) dX9_berm_44 rfl ?_
  refine r_sipush (pc := 46) dX9_berm_46 ⟨by decide, by decide⟩ ?_
  refine r_icmp_gt (pc := 49) (tgt := 104) h dX9_berm_49 (by decide) (fun h => ?_) (fun h => ?_)
  · exact sj_weak (l2 := [some (sj_r (some a0)), none, none, none, some (sj_i x4), none]) (⟨rfl, ⟨rfl, trivial⟩⟩) (t_X9_berm_104 a0 x4 s h)
  · refine r_aload_n (pc := 52) dX9_berm_52 rfl rfl ?_
    refine r_iload_n (pc := 53) dX9_berm_53 rfl rfl ?_
    refine r_callV (pc := 54) (fun v => some (sj_i v)) (As := [sj_i x3]) (rest := []) h dX9_berm_54 mw_X9_183 vw_X9_isStanding (fun _ _ hc => c_X9_isStanding hc) rfl ⟨(Nat.le_of_ble_eq_true rfl), (Nat.le_of_ble_eq_true rfl)⟩ (Nat.le_of_ble_eq_true rfl) rfl (fun v2 s1 h => ?_)
    refine r_if_ne (pc := 57) (tgt := 104) h dX9_berm_57 (by decide) (fun h => ?_) (fun h => ?_)
    · refine r_iinc (ln := fun w => [some (sj_r (some a0)), some (sj_i x1), some (sj_i x2), some (sj_i x3), some (sj_i w), none]) (pc := 60) h dX9_berm_60 rfl (Nat.le_of_ble_eq_true rfl) (fun _ => rfl) (fun v3 h => ?_)
      refine r_iload_n (pc := 63) dX9_berm_63 rfl rfl ?_
      refine r_istore (ln := [some (sj_r (some a0)), some (sj_i x1), some (sj_i x2), some (sj_i x3), some (sj_i v3), some (sj_i x1)]) (pc := 64) dX9_berm_64 (Nat.le_of_ble_eq_true rfl) rfl ?_
      exact sj_weak (l2 := [some (sj_r (some a0)), some (sj_i x1), some (sj_i x2), some (sj_i x3), some (sj_i v3), some (sj_i x1)]) (⟨rfl, ⟨rfl, ⟨rfl, ⟨rfl, ⟨rfl, ⟨rfl, trivial⟩⟩⟩⟩⟩⟩) (t_X9_berm_66 hk44 N a0 x1 x2 x3 v3 x1 s1 h)
    · exact sj_weak (l2 := [some (sj_r (some a0)), none, none, none, some (sj_i x4), none]) (⟨rfl, ⟨rfl, trivial⟩⟩) (t_X9_berm_104 a0 x4 s1 h)
set_option maxHeartbeats 4000000 in
theorem t_X9_berm_44 {X : sj_X} {s0 : sj_Mem} {N : Nat} {q : Int × sj_Mem} :
    ∀ (n : Nat) (a0 : Nat) (x1 : Int) (x2 : Int) (x3 : Int) (x4 : Int) (s : sj_Mem), f_X9_berm_44 N n a0 x1 x2 x3 x4 s = some q → sj_T X m_X9_berm s0 (some (sj_i q.1), q.2) 44 [some (sj_r (some a0)), some (sj_i x1), some (sj_i x2), some (sj_i x3), some (sj_i x4), none] [] s := by
  intro n
  induction n with
  | zero => intro a0 x1 x2 x3 x4 s h; exact nomatch h
  | succ n ih => intro a0 x1 x2 x3 x4 s h; exact t_X9_berm_44_b (N := N) ih a0 x1 x2 x3 x4 s h
set_option maxHeartbeats 4000000 in
theorem t_X9_berm_0 {X : sj_X} {s0 : sj_Mem} {N : Nat} {q : Int × sj_Mem} :
    ∀ (a0 : Nat) (x1 : Int) (x2 : Int) (x3 : Int) (s : sj_Mem), f_X9_berm N a0 x1 x2 x3 s = some q → sj_T X m_X9_berm s0 (some (sj_i q.1), q.2) 0 [some (sj_r (some a0)), some (sj_i x1), some (sj_i x2), some (sj_i x3), none, none] [] s := by
  intro a0 x1 x2 x3 s h
  unfold f_X9_berm at h
  refine r_aload_n (pc := 0) dX9_berm_0 rfl rfl ?_
  refine r_iload_n (pc := 1) dX9_berm_1 rfl rfl ?_
  refine r_callV (pc := 2) (fun v => some (sj_i v)) (As := [sj_i x1]) (rest := []) h dX9_berm_2 mw_X9_74 vw_X9_isColumn (fun _ _ hc => c_X9_isColumn hc) rfl ⟨(Nat.le_of_ble_eq_true rfl), (Nat.le_of_ble_eq_true rfl)⟩ (Nat.le_of_ble_eq_true rfl) rfl (fun v2 s1 h => ?_)
  refine r_if_eq (pc := 5) (tgt := 35) h dX9_berm_5 (by decide) (fun h => ?_) (fun h => ?_)
  · refine r_iconst (pc := 35) dX9_berm_35 ?_
    exact r_iret (pc := 36) h rfl dX9_berm_36
  · refine r_aload_n (pc := 8) dX9_berm_8 rfl rfl ?_
    refine r_iload_n (pc := 9) dX9_berm_9 rfl rfl ?_
    refine r_callV (pc := 10) (fun v => some (sj_i v)) (As := [sj_i x2]) (rest := []) h dX9_berm_10 mw_X9_74 vw_X9_isColumn (fun _ _ hc => c_X9_isColumn hc) rfl ⟨(Nat.le_of_ble_eq_true rfl), (Nat.le_of_ble_eq_true rfl)⟩ (Nat.le_of_ble_eq_true rfl) rfl (fun v4 s3 h => ?_)
    refine r_if_eq (pc := 13) (tgt := 35) h dX9_berm_13 (by decide) (fun h => ?_) (fun h => ?_)
    · refine r_iconst (pc := 35) dX9_berm_35 ?_
      exact r_iret (pc := 36) h rfl dX9_berm_36
    · refine r_iload_n (pc := 16) dX9_berm_16 rfl rfl ?_
      refine r_iload_n (pc := 17) dX9_berm_17 rfl rfl ?_
      refine r_icmp_gt (pc := 18) (tgt := 35) h dX9_berm_18 (by decide) (fun h => ?_) (fun h => ?_)
      · refine r_iconst (pc := 35) dX9_berm_35 ?_
        exact r_iret (pc := 36) h rfl dX9_berm_36
      · refine r_iload_n (pc := 21) dX9_berm_21 rfl rfl ?_
        refine r_callS (pc := 22) (fun v => some (sj_i v)) (As := [sj_i x3]) (rest := []) h dX9_berm_22 mw_X9_287 kw_1446 (fun _ _ hc => c_X9_isK hc) rfl ⟨(Nat.le_of_ble_eq_true rfl), (Nat.le_of_ble_eq_true rfl)⟩ (Nat.le_of_ble_eq_true rfl) rfl (fun v6 s5 h => ?_)
        refine r_if_eq (pc := 25) (tgt := 35) h dX9_berm_25 (by decide) (fun h => ?_) (fun h => ?_)
        · refine r_iconst (pc := 35) dX9_berm_35 ?_
          exact r_iret (pc := 36) h rfl dX9_berm_36
        · refine r_aload_n (pc := 28) dX9_berm_28 rfl rfl ?_
          refine r_callV (pc := 29) (fun v => some (sj_i v)) (As := []) (rest := []) h dX9_berm_29 mw_X9_277 vw_X9_takesSlip (fun _ _ hc => c_X9_takesSlip hc) rfl ⟨(Nat.le_of_ble_eq_true rfl), (Nat.le_of_ble_eq_true rfl)⟩ (Nat.le_of_ble_eq_true rfl) rfl (fun v8 s7 h => ?_)
          refine r_if_ne (pc := 32) (tgt := 37) h dX9_berm_32 (by decide) (fun h => ?_) (fun h => ?_)
          · refine r_iconst (pc := 35) dX9_berm_35 ?_
            exact r_iret (pc := 36) h rfl dX9_berm_36
          · refine r_aload_n (pc := 37) dX9_berm_37 rfl rfl ?_
            refine r_callV (pc := 38) (fun _ => none) (As := []) (rest := []) h dX9_berm_38 mw_X9_301 vw_X9_laysAside (fun _ _ hc => c_X9_laysAside hc) rfl ⟨(Nat.le_of_ble_eq_true rfl), (Nat.le_of_ble_eq_true rfl)⟩ (Nat.le_of_ble_eq_true rfl) rfl (fun _u s9 h => ?_)
            refine r_iconst (pc := 41) dX9_berm_41 ?_
            refine r_istore (ln := [some (sj_r (some a0)), some (sj_i x1), some (sj_i x2), some (sj_i x3), some (sj_i 0), none]) (pc := 42) dX9_berm_42 (Nat.le_of_ble_eq_true rfl) rfl ?_
            exact sj_weak (l2 := [some (sj_r (some a0)), some (sj_i x1), some (sj_i x2), some (sj_i x3), some (sj_i 0), none]) (⟨rfl, ⟨rfl, ⟨rfl, ⟨rfl, ⟨rfl, trivial⟩⟩⟩⟩⟩) (t_X9_berm_44 N a0 x1 x2 x3 0 s9 h)
set_option maxHeartbeats 4000000 in
theorem c_X9_berm {X : sj_X} {N : Nat} {a0 : Nat} {x1 : Int} {x2 : Int} {x3 : Int} {s : sj_Mem} {q : Int × sj_Mem} (h : f_X9_berm N a0 x1 x2 x3 s = some q) : sj_C X m_X9_berm [sj_r (some a0), sj_i x1, sj_i x2, sj_i x3] s (some (sj_i q.1), q.2) :=
  sj_C_of (by decide +kernel) (Nat.le_of_ble_eq_true rfl) (lo := [some (sj_r (some a0)), some (sj_i x1), some (sj_i x2), some (sj_i x3), none, none]) rfl (sj_weak (l2 := [some (sj_r (some a0)), some (sj_i x1), some (sj_i x2), some (sj_i x3), none, none]) (⟨rfl, ⟨rfl, ⟨rfl, ⟨rfl, trivial⟩⟩⟩⟩) (t_X9_berm_0 a0 x1 x2 x3 s h))
theorem dX9_remembers_0 : decode cX9_remembers 0 = .ok (.aload_n 0, 1) := by decide +kernel
theorem dX9_remembers_1 : decode cX9_remembers 1 = .ok (.getfield 61, 3) := by decide +kernel
theorem dX9_remembers_4 : decode cX9_remembers 4 = .ok (.bipush 8, 2) := by decide +kernel
theorem dX9_remembers_6 : decode cX9_remembers 6 = .ok (.if_icmp .ne 46, 3) := by decide +kernel
theorem dX9_remembers_9 : decode cX9_remembers 9 = .ok (.sipush 364, 3) := by decide +kernel
theorem dX9_remembers_12 : decode cX9_remembers 12 = .ok (.istore_n 2, 1) := by decide +kernel
theorem dX9_remembers_13 : decode cX9_remembers 13 = .ok (.iload_n 2, 1) := by decide +kernel
theorem dX9_remembers_14 : decode cX9_remembers 14 = .ok (.sipush 2912, 3) := by decide +kernel
theorem dX9_remembers_17 : decode cX9_remembers 17 = .ok (.if_icmp .ge 25, 3) := by decide +kernel
theorem dX9_remembers_20 : decode cX9_remembers 20 = .ok (.aload_n 0, 1) := by decide +kernel
theorem dX9_remembers_21 : decode cX9_remembers 21 = .ok (.getfield 19, 3) := by decide +kernel
theorem dX9_remembers_24 : decode cX9_remembers 24 = .ok (.iload_n 2, 1) := by decide +kernel
theorem dX9_remembers_25 : decode cX9_remembers 25 = .ok (.sipush 364, 3) := by decide +kernel
theorem dX9_remembers_28 : decode cX9_remembers 28 = .ok (.isub, 1) := by decide +kernel
theorem dX9_remembers_29 : decode cX9_remembers 29 = .ok (.aload_n 0, 1) := by decide +kernel
theorem dX9_remembers_30 : decode cX9_remembers 30 = .ok (.getfield 19, 3) := by decide +kernel
theorem dX9_remembers_33 : decode cX9_remembers 33 = .ok (.iload_n 2, 1) := by decide +kernel
theorem dX9_remembers_34 : decode cX9_remembers 34 = .ok (.iaload, 1) := by decide +kernel
theorem dX9_remembers_35 : decode cX9_remembers 35 = .ok (.iastore, 1) := by decide +kernel
theorem dX9_remembers_36 : decode cX9_remembers 36 = .ok (.iinc 2 1, 3) := by decide +kernel
theorem dX9_remembers_39 : decode cX9_remembers 39 = .ok (.goto (-26), 3) := by decide +kernel
theorem dX9_remembers_42 : decode cX9_remembers 42 = .ok (.aload_n 0, 1) := by decide +kernel
theorem dX9_remembers_43 : decode cX9_remembers 43 = .ok (.dup, 1) := by decide +kernel
theorem dX9_remembers_44 : decode cX9_remembers 44 = .ok (.getfield 61, 3) := by decide +kernel
theorem dX9_remembers_47 : decode cX9_remembers 47 = .ok (.iconst 1, 1) := by decide +kernel
theorem dX9_remembers_48 : decode cX9_remembers 48 = .ok (.isub, 1) := by decide +kernel
theorem dX9_remembers_49 : decode cX9_remembers 49 = .ok (.putfield 61, 3) := by decide +kernel
theorem dX9_remembers_52 : decode cX9_remembers 52 = .ok (.iconst 0, 1) := by decide +kernel
theorem dX9_remembers_53 : decode cX9_remembers 53 = .ok (.istore_n 2, 1) := by decide +kernel
theorem dX9_remembers_54 : decode cX9_remembers 54 = .ok (.iload_n 2, 1) := by decide +kernel
theorem dX9_remembers_55 : decode cX9_remembers 55 = .ok (.sipush 364, 3) := by decide +kernel
theorem dX9_remembers_58 : decode cX9_remembers 58 = .ok (.if_icmp .ge 27, 3) := by decide +kernel
theorem dX9_remembers_61 : decode cX9_remembers 61 = .ok (.aload_n 0, 1) := by decide +kernel
theorem dX9_remembers_62 : decode cX9_remembers 62 = .ok (.getfield 19, 3) := by decide +kernel
theorem dX9_remembers_65 : decode cX9_remembers 65 = .ok (.sipush 364, 3) := by decide +kernel
theorem dX9_remembers_68 : decode cX9_remembers 68 = .ok (.aload_n 0, 1) := by decide +kernel
theorem dX9_remembers_69 : decode cX9_remembers 69 = .ok (.getfield 61, 3) := by decide +kernel
theorem dX9_remembers_72 : decode cX9_remembers 72 = .ok (.imul, 1) := by decide +kernel
theorem dX9_remembers_73 : decode cX9_remembers 73 = .ok (.iload_n 2, 1) := by decide +kernel
theorem dX9_remembers_74 : decode cX9_remembers 74 = .ok (.iadd, 1) := by decide +kernel
theorem dX9_remembers_75 : decode cX9_remembers 75 = .ok (.aload_n 1, 1) := by decide +kernel
theorem dX9_remembers_76 : decode cX9_remembers 76 = .ok (.iload_n 2, 1) := by decide +kernel
theorem dX9_remembers_77 : decode cX9_remembers 77 = .ok (.iaload, 1) := by decide +kernel
theorem dX9_remembers_78 : decode cX9_remembers 78 = .ok (.iastore, 1) := by decide +kernel
theorem dX9_remembers_79 : decode cX9_remembers 79 = .ok (.iinc 2 1, 3) := by decide +kernel
theorem dX9_remembers_82 : decode cX9_remembers 82 = .ok (.goto (-28), 3) := by decide +kernel
theorem dX9_remembers_85 : decode cX9_remembers 85 = .ok (.aload_n 0, 1) := by decide +kernel
theorem dX9_remembers_86 : decode cX9_remembers 86 = .ok (.dup, 1) := by decide +kernel
theorem dX9_remembers_87 : decode cX9_remembers 87 = .ok (.getfield 61, 3) := by decide +kernel
theorem dX9_remembers_90 : decode cX9_remembers 90 = .ok (.iconst 1, 1) := by decide +kernel
theorem dX9_remembers_91 : decode cX9_remembers 91 = .ok (.iadd, 1) := by decide +kernel
theorem dX9_remembers_92 : decode cX9_remembers 92 = .ok (.putfield 61, 3) := by decide +kernel
theorem dX9_remembers_95 : decode cX9_remembers 95 = .ok (.return_, 1) := by decide +kernel
set_option maxHeartbeats 4000000 in
theorem t_X9_remembers_54_b {X : sj_X} {s0 : sj_Mem} {N : Nat} {q : Unit × sj_Mem} {k54 : Nat → Option Nat → Int → sj_Mem → Option (Unit × sj_Mem)} (hk54 : ∀ (a0 : Nat) (x1 : Option Nat) (x2 : Int) (s : sj_Mem), k54 a0 x1 x2 s = some q → sj_T X m_X9_remembers s0 (none, q.2) 54 [some (sj_r (some a0)), some (sj_r x1), some (sj_i x2)] [] s) :
    ∀ (a0 : Nat) (x1 : Option Nat) (x2 : Int) (s : sj_Mem), f_X9_remembers_54_b N k54 a0 x1 x2 s = some q → sj_T X m_X9_remembers s0 (none, q.2) 54 [some (sj_r (some a0)), some (sj_r x1), some (sj_i x2)] [] s := by
  intro a0 x1 x2 s h
  unfold f_X9_remembers_54_b at h
  refine r_iload_n (pc := 54) dX9_remembers_54 rfl rfl ?_
  refine r_sipush (pc := 55) dX9_remembers_55 ⟨by decide, by decide⟩ ?_
  refine r_icmp_ge (pc := 58) (tgt := 85) h dX9_remembers_58 (by decide) (fun h => ?_) (fun h => ?_)
  · refine r_aload_n (pc := 85) dX9_remembers_85 rfl rfl ?_
    refine r_dup (pc := 86) dX9_remembers_86 rfl ?_
    refine r_gI (pc := 87) h dX9_remembers_87 fw_X9_61 rfl (fun v1 h => ?_)
    refine r_iconst (pc := 90) dX9_remembers_90 ?_
    refine r_iadd (pc := 91) dX9_remembers_91 ?_
    refine r_pI (pc := 92) h dX9_remembers_92 fw_X9_61 rfl rfl (fun _ hq => by cases hq; rfl) (fun s2 h => ?_)
    exact r_vret (pc := 95) h rfl dX9_remembers_95
  · refine r_aload_n (pc := 61) dX9_remembers_61 rfl rfl ?_
    refine r_gR (pc := 62) h dX9_remembers_62 fw_X9_19 rfl (fun r3 h => ?_)
    refine r_sipush (pc := 65) dX9_remembers_65 ⟨by decide, by decide⟩ ?_
    refine r_aload_n (pc := 68) dX9_remembers_68 rfl rfl ?_
    refine r_gI (pc := 69) h dX9_remembers_69 fw_X9_61 rfl (fun v4 h => ?_)
    refine r_imul (pc := 72) dX9_remembers_72 ?_
    refine r_iload_n (pc := 73) dX9_remembers_73 rfl rfl ?_
    refine r_iadd (pc := 74) dX9_remembers_74 ?_
    refine r_aload_n (pc := 75) dX9_remembers_75 rfl rfl ?_
    refine r_iload_n (pc := 76) dX9_remembers_76 rfl rfl ?_
    obtain ⟨a5, ea5, g⟩ := e_nn_some h
    clear h
    subst ea5
    have h := g
    clear g
    refine r_iaload (pc := 77) h dX9_remembers_77 (fun v6 h => ?_)
    obtain ⟨a7, ea7, g⟩ := e_nn_some h
    clear h
    subst ea7
    have h := g
    clear g
    refine r_iastore (pc := 78) h dX9_remembers_78 (fun s8 h => ?_)
    refine r_iinc (ln := fun w => [some (sj_r (some a0)), some (sj_r (some a5)), some (sj_i w)]) (pc := 79) h dX9_remembers_79 rfl (Nat.le_of_ble_eq_true rfl) (fun _ => rfl) (fun v9 h => ?_)
    refine r_goto (pc := 82) (tgt := 54) dX9_remembers_82 (by decide) ?_
    exact sj_weak (l2 := [some (sj_r (some a0)), some (sj_r (some a5)), some (sj_i v9)]) (⟨rfl, ⟨rfl, ⟨rfl, trivial⟩⟩⟩) (hk54 a0 (some a5) v9 s8 h)
set_option maxHeartbeats 4000000 in
theorem t_X9_remembers_54 {X : sj_X} {s0 : sj_Mem} {N : Nat} {q : Unit × sj_Mem} :
    ∀ (n : Nat) (a0 : Nat) (x1 : Option Nat) (x2 : Int) (s : sj_Mem), f_X9_remembers_54 N n a0 x1 x2 s = some q → sj_T X m_X9_remembers s0 (none, q.2) 54 [some (sj_r (some a0)), some (sj_r x1), some (sj_i x2)] [] s := by
  intro n
  induction n with
  | zero => intro a0 x1 x2 s h; exact nomatch h
  | succ n ih => intro a0 x1 x2 s h; exact t_X9_remembers_54_b (N := N) ih a0 x1 x2 s h
set_option maxHeartbeats 4000000 in
theorem t_X9_remembers_52 {X : sj_X} {s0 : sj_Mem} {N : Nat} {q : Unit × sj_Mem} :
    ∀ (a0 : Nat) (x1 : Option Nat) (s : sj_Mem), f_X9_remembers_52 N a0 x1 s = some q → sj_T X m_X9_remembers s0 (none, q.2) 52 [some (sj_r (some a0)), some (sj_r x1), none] [] s := by
  intro a0 x1 s h
  unfold f_X9_remembers_52 at h
  refine r_iconst (pc := 52) dX9_remembers_52 ?_
  refine r_istore_n (ln := [some (sj_r (some a0)), some (sj_r x1), some (sj_i 0)]) (pc := 53) dX9_remembers_53 rfl (Nat.le_of_ble_eq_true rfl) rfl ?_
  exact sj_weak (l2 := [some (sj_r (some a0)), some (sj_r x1), some (sj_i 0)]) (⟨rfl, ⟨rfl, ⟨rfl, trivial⟩⟩⟩) (t_X9_remembers_54 N a0 x1 0 s h)
set_option maxHeartbeats 4000000 in
theorem t_X9_remembers_13_b {X : sj_X} {s0 : sj_Mem} {N : Nat} {q : Unit × sj_Mem} {k13 : Nat → Option Nat → Int → sj_Mem → Option (Unit × sj_Mem)} (hk13 : ∀ (a0 : Nat) (x1 : Option Nat) (x2 : Int) (s : sj_Mem), k13 a0 x1 x2 s = some q → sj_T X m_X9_remembers s0 (none, q.2) 13 [some (sj_r (some a0)), some (sj_r x1), some (sj_i x2)] [] s) :
    ∀ (a0 : Nat) (x1 : Option Nat) (x2 : Int) (s : sj_Mem), f_X9_remembers_13_b N k13 a0 x1 x2 s = some q → sj_T X m_X9_remembers s0 (none, q.2) 13 [some (sj_r (some a0)), some (sj_r x1), some (sj_i x2)] [] s := by
  intro a0 x1 x2 s h
  unfold f_X9_remembers_13_b at h
  refine r_iload_n (pc := 13) dX9_remembers_13 rfl rfl ?_
  refine r_sipush (pc := 14) dX9_remembers_14 ⟨by decide, by decide⟩ ?_
  refine r_icmp_ge (pc := 17) (tgt := 42) h dX9_remembers_17 (by decide) (fun h => ?_) (fun h => ?_)
  · refine r_aload_n (pc := 42) dX9_remembers_42 rfl rfl ?_
    refine r_dup (pc := 43) dX9_remembers_43 rfl ?_
    refine r_gI (pc := 44) h dX9_remembers_44 fw_X9_61 rfl (fun v1 h => ?_)
    refine r_iconst (pc := 47) dX9_remembers_47 ?_
    refine r_isub (pc := 48) dX9_remembers_48 ?_
    refine r_pI (pc := 49) h dX9_remembers_49 fw_X9_61 rfl rfl (fun _ hq => by cases hq; rfl) (fun s2 h => ?_)
    exact sj_weak (l2 := [some (sj_r (some a0)), some (sj_r x1), none]) (⟨rfl, ⟨rfl, trivial⟩⟩) (t_X9_remembers_52 a0 x1 s2 h)
  · refine r_aload_n (pc := 20) dX9_remembers_20 rfl rfl ?_
    refine r_gR (pc := 21) h dX9_remembers_21 fw_X9_19 rfl (fun r3 h => ?_)
    refine r_iload_n (pc := 24) dX9_remembers_24 rfl rfl ?_
    refine r_sipush (pc := 25) dX9_remembers_25 ⟨by decide, by decide⟩ ?_
    refine r_isub (pc := 28) dX9_remembers_28 ?_
    refine r_aload_n (pc := 29) dX9_remembers_29 rfl rfl ?_
    refine r_gR (pc := 30) h dX9_remembers_30 fw_X9_19 rfl (fun r4 h => ?_)
    refine r_iload_n (pc := 33) dX9_remembers_33 rfl rfl ?_
    obtain ⟨a5, ea5, g⟩ := e_nn_some h
    clear h
    subst ea5
    have h := g
    clear g
    refine r_iaload (pc := 34) h dX9_remembers_34 (fun v6 h => ?_)
    obtain ⟨a7, ea7, g⟩ := e_nn_some h
    clear h
    subst ea7
    have h := g
    clear g
    refine r_iastore (pc := 35) h dX9_remembers_35 (fun s8 h => ?_)
    refine r_iinc (ln := fun w => [some (sj_r (some a0)), some (sj_r x1), some (sj_i w)]) (pc := 36) h dX9_remembers_36 rfl (Nat.le_of_ble_eq_true rfl) (fun _ => rfl) (fun v9 h => ?_)
    refine r_goto (pc := 39) (tgt := 13) dX9_remembers_39 (by decide) ?_
    exact sj_weak (l2 := [some (sj_r (some a0)), some (sj_r x1), some (sj_i v9)]) (⟨rfl, ⟨rfl, ⟨rfl, trivial⟩⟩⟩) (hk13 a0 x1 v9 s8 h)
set_option maxHeartbeats 4000000 in
theorem t_X9_remembers_13 {X : sj_X} {s0 : sj_Mem} {N : Nat} {q : Unit × sj_Mem} :
    ∀ (n : Nat) (a0 : Nat) (x1 : Option Nat) (x2 : Int) (s : sj_Mem), f_X9_remembers_13 N n a0 x1 x2 s = some q → sj_T X m_X9_remembers s0 (none, q.2) 13 [some (sj_r (some a0)), some (sj_r x1), some (sj_i x2)] [] s := by
  intro n
  induction n with
  | zero => intro a0 x1 x2 s h; exact nomatch h
  | succ n ih => intro a0 x1 x2 s h; exact t_X9_remembers_13_b (N := N) ih a0 x1 x2 s h
set_option maxHeartbeats 4000000 in
theorem t_X9_remembers_0 {X : sj_X} {s0 : sj_Mem} {N : Nat} {q : Unit × sj_Mem} :
    ∀ (a0 : Nat) (x1 : Option Nat) (s : sj_Mem), f_X9_remembers N a0 x1 s = some q → sj_T X m_X9_remembers s0 (none, q.2) 0 [some (sj_r (some a0)), some (sj_r x1), none] [] s := by
  intro a0 x1 s h
  unfold f_X9_remembers at h
  refine r_aload_n (pc := 0) dX9_remembers_0 rfl rfl ?_
  refine r_gI (pc := 1) h dX9_remembers_1 fw_X9_61 rfl (fun v1 h => ?_)
  refine r_bipush (pc := 4) dX9_remembers_4 ⟨by decide, by decide⟩ ?_
  refine r_icmp_ne (pc := 6) (tgt := 52) h dX9_remembers_6 (by decide) (fun h => ?_) (fun h => ?_)
  · refine r_sipush (pc := 9) dX9_remembers_9 ⟨by decide, by decide⟩ ?_
    refine r_istore_n (ln := [some (sj_r (some a0)), some (sj_r x1), some (sj_i 364)]) (pc := 12) dX9_remembers_12 rfl (Nat.le_of_ble_eq_true rfl) rfl ?_
    exact sj_weak (l2 := [some (sj_r (some a0)), some (sj_r x1), some (sj_i 364)]) (⟨rfl, ⟨rfl, ⟨rfl, trivial⟩⟩⟩) (t_X9_remembers_13 N a0 x1 364 s h)
  · exact sj_weak (l2 := [some (sj_r (some a0)), some (sj_r x1), none]) (⟨rfl, ⟨rfl, trivial⟩⟩) (t_X9_remembers_52 a0 x1 s h)
set_option maxHeartbeats 4000000 in
theorem c_X9_remembers {X : sj_X} {N : Nat} {a0 : Nat} {x1 : Option Nat} {s : sj_Mem} {q : Unit × sj_Mem} (h : f_X9_remembers N a0 x1 s = some q) : sj_C X m_X9_remembers [sj_r (some a0), sj_r x1] s (none, q.2) :=
  sj_C_of (by decide +kernel) (Nat.le_of_ble_eq_true rfl) (lo := [some (sj_r (some a0)), some (sj_r x1), none]) rfl (sj_weak (l2 := [some (sj_r (some a0)), some (sj_r x1), none]) (⟨rfl, ⟨rfl, trivial⟩⟩) (t_X9_remembers_0 a0 x1 s h))
theorem dX9_turnsRound_0 : decode cX9_turnsRound 0 = .ok (.aload_n 0, 1) := by decide +kernel
theorem dX9_turnsRound_1 : decode cX9_turnsRound 1 = .ok (.getfield 9, 3) := by decide +kernel
theorem dX9_turnsRound_4 : decode cX9_turnsRound 4 = .ok (.iconst 0, 1) := by decide +kernel
theorem dX9_turnsRound_5 : decode cX9_turnsRound 5 = .ok (.iaload, 1) := by decide +kernel
theorem dX9_turnsRound_6 : decode cX9_turnsRound 6 = .ok (.istore_n 2, 1) := by decide +kernel
theorem dX9_turnsRound_7 : decode cX9_turnsRound 7 = .ok (.iconst 0, 1) := by decide +kernel
theorem dX9_turnsRound_8 : decode cX9_turnsRound 8 = .ok (.istore_n 3, 1) := by decide +kernel
theorem dX9_turnsRound_9 : decode cX9_turnsRound 9 = .ok (.iconst 2, 1) := by decide +kernel
theorem dX9_turnsRound_10 : decode cX9_turnsRound 10 = .ok (.iload_n 3, 1) := by decide +kernel
theorem dX9_turnsRound_11 : decode cX9_turnsRound 11 = .ok (.imul, 1) := by decide +kernel
theorem dX9_turnsRound_12 : decode cX9_turnsRound 12 = .ok (.iload_n 2, 1) := by decide +kernel
theorem dX9_turnsRound_13 : decode cX9_turnsRound 13 = .ok (.if_icmp .ge 49, 3) := by decide +kernel
theorem dX9_turnsRound_16 : decode cX9_turnsRound 16 = .ok (.aload_n 0, 1) := by decide +kernel
theorem dX9_turnsRound_17 : decode cX9_turnsRound 17 = .ok (.getfield 9, 3) := by decide +kernel
theorem dX9_turnsRound_20 : decode cX9_turnsRound 20 = .ok (.iload_n 1, 1) := by decide +kernel
theorem dX9_turnsRound_21 : decode cX9_turnsRound 21 = .ok (.iload_n 3, 1) := by decide +kernel
theorem dX9_turnsRound_22 : decode cX9_turnsRound 22 = .ok (.iadd, 1) := by decide +kernel
theorem dX9_turnsRound_23 : decode cX9_turnsRound 23 = .ok (.iaload, 1) := by decide +kernel
theorem dX9_turnsRound_24 : decode cX9_turnsRound 24 = .ok (.istore 4, 2) := by decide +kernel
theorem dX9_turnsRound_26 : decode cX9_turnsRound 26 = .ok (.aload_n 0, 1) := by decide +kernel
theorem dX9_turnsRound_27 : decode cX9_turnsRound 27 = .ok (.getfield 9, 3) := by decide +kernel
theorem dX9_turnsRound_30 : decode cX9_turnsRound 30 = .ok (.iload_n 1, 1) := by decide +kernel
theorem dX9_turnsRound_31 : decode cX9_turnsRound 31 = .ok (.iload_n 3, 1) := by decide +kernel
theorem dX9_turnsRound_32 : decode cX9_turnsRound 32 = .ok (.iadd, 1) := by decide +kernel
theorem dX9_turnsRound_33 : decode cX9_turnsRound 33 = .ok (.aload_n 0, 1) := by decide +kernel
theorem dX9_turnsRound_34 : decode cX9_turnsRound 34 = .ok (.getfield 9, 3) := by decide +kernel
theorem dX9_turnsRound_37 : decode cX9_turnsRound 37 = .ok (.iload_n 1, 1) := by decide +kernel
theorem dX9_turnsRound_38 : decode cX9_turnsRound 38 = .ok (.iload_n 2, 1) := by decide +kernel
theorem dX9_turnsRound_39 : decode cX9_turnsRound 39 = .ok (.iadd, 1) := by decide +kernel
theorem dX9_turnsRound_40 : decode cX9_turnsRound 40 = .ok (.iload_n 3, 1) := by decide +kernel
theorem dX9_turnsRound_41 : decode cX9_turnsRound 41 = .ok (.isub, 1) := by decide +kernel
theorem dX9_turnsRound_42 : decode cX9_turnsRound 42 = .ok (.iaload, 1) := by decide +kernel
theorem dX9_turnsRound_43 : decode cX9_turnsRound 43 = .ok (.iastore, 1) := by decide +kernel
theorem dX9_turnsRound_44 : decode cX9_turnsRound 44 = .ok (.aload_n 0, 1) := by decide +kernel
theorem dX9_turnsRound_45 : decode cX9_turnsRound 45 = .ok (.getfield 9, 3) := by decide +kernel
theorem dX9_turnsRound_48 : decode cX9_turnsRound 48 = .ok (.iload_n 1, 1) := by decide +kernel
theorem dX9_turnsRound_49 : decode cX9_turnsRound 49 = .ok (.iload_n 2, 1) := by decide +kernel
theorem dX9_turnsRound_50 : decode cX9_turnsRound 50 = .ok (.iadd, 1) := by decide +kernel
theorem dX9_turnsRound_51 : decode cX9_turnsRound 51 = .ok (.iload_n 3, 1) := by decide +kernel
theorem dX9_turnsRound_52 : decode cX9_turnsRound 52 = .ok (.isub, 1) := by decide +kernel
theorem dX9_turnsRound_53 : decode cX9_turnsRound 53 = .ok (.iload 4, 2) := by decide +kernel
theorem dX9_turnsRound_55 : decode cX9_turnsRound 55 = .ok (.iastore, 1) := by decide +kernel
theorem dX9_turnsRound_56 : decode cX9_turnsRound 56 = .ok (.iinc 3 1, 3) := by decide +kernel
theorem dX9_turnsRound_59 : decode cX9_turnsRound 59 = .ok (.goto (-50), 3) := by decide +kernel
theorem dX9_turnsRound_62 : decode cX9_turnsRound 62 = .ok (.return_, 1) := by decide +kernel
set_option maxHeartbeats 4000000 in
theorem t_X9_turnsRound_9_b {X : sj_X} {s0 : sj_Mem} {N : Nat} {q : Unit × sj_Mem} {k9 : Nat → Int → Int → Int → sj_Mem → Option (Unit × sj_Mem)} (hk9 : ∀ (a0 : Nat) (x1 : Int) (x2 : Int) (x3 : Int) (s : sj_Mem), k9 a0 x1 x2 x3 s = some q → sj_T X m_X9_turnsRound s0 (none, q.2) 9 [some (sj_r (some a0)), some (sj_i x1), some (sj_i x2), some (sj_i x3), none] [] s) :
    ∀ (a0 : Nat) (x1 : Int) (x2 : Int) (x3 : Int) (s : sj_Mem), f_X9_turnsRound_9_b N k9 a0 x1 x2 x3 s = some q → sj_T X m_X9_turnsRound s0 (none, q.2) 9 [some (sj_r (some a0)), some (sj_i x1), some (sj_i x2), some (sj_i x3), none] [] s := by
  intro a0 x1 x2 x3 s h
  unfold f_X9_turnsRound_9_b at h
  refine r_iconst (pc := 9) dX9_turnsRound_9 ?_
  refine r_iload_n (pc := 10) dX9_turnsRound_10 rfl rfl ?_
  refine r_imul (pc := 11) dX9_turnsRound_11 ?_
  refine r_iload_n (pc := 12) dX9_turnsRound_12 rfl rfl ?_
  refine r_icmp_ge (pc := 13) (tgt := 62) h dX9_turnsRound_13 (by decide) (fun h => ?_) (fun h => ?_)
  · exact r_vret (pc := 62) h rfl dX9_turnsRound_62
  · refine r_aload_n (pc := 16) dX9_turnsRound_16 rfl rfl ?_
    refine r_gR (pc := 17) h dX9_turnsRound_17 fw_X9_9 rfl (fun r1 h => ?_)
    refine r_iload_n (pc := 20) dX9_turnsRound_20 rfl rfl ?_
    refine r_iload_n (pc := 21) dX9_turnsRound_21 rfl rfl ?_
    refine r_iadd (pc := 22) dX9_turnsRound_22 ?_
    obtain ⟨a2, ea2, g⟩ := e_nn_some h
    clear h
    subst ea2
    have h := g
    clear g
    refine r_iaload (pc := 23) h dX9_turnsRound_23 (fun v3 h => ?_)
    refine r_istore (ln := [some (sj_r (some a0)), some (sj_i x1), some (sj_i x2), some (sj_i x3), some (sj_i v3)]) (pc := 24) dX9_turnsRound_24 (Nat.le_of_ble_eq_true rfl) rfl ?_
    refine r_aload_n (pc := 26) dX9_turnsRound_26 rfl rfl ?_
    refine r_gR (pc := 27) h dX9_turnsRound_27 fw_X9_9 rfl (fun r4 h => ?_)
    refine r_iload_n (pc := 30) dX9_turnsRound_30 rfl rfl ?_
    refine r_iload_n (pc := 31) dX9_turnsRound_31 rfl rfl ?_
    refine r_iadd (pc := 32) dX9_turnsRound_32 ?_
    refine r_aload_n (pc := 33) dX9_turnsRound_33 rfl rfl ?_
    refine r_gR (pc := 34) h dX9_turnsRound_34 fw_X9_9 rfl (fun r5 h => ?_)
    refine r_iload_n (pc := 37) dX9_turnsRound_37 rfl rfl ?_
    refine r_iload_n (pc := 38) dX9_turnsRound_38 rfl rfl ?_
    refine r_iadd (pc := 39) dX9_turnsRound_39 ?_
    refine r_iload_n (pc := 40) dX9_turnsRound_40 rfl rfl ?_
    refine r_isub (pc := 41) dX9_turnsRound_41 ?_
    obtain ⟨a6, ea6, g⟩ := e_nn_some h
    clear h
    subst ea6
    have h := g
    clear g
    refine r_iaload (pc := 42) h dX9_turnsRound_42 (fun v7 h => ?_)
    obtain ⟨a8, ea8, g⟩ := e_nn_some h
    clear h
    subst ea8
    have h := g
    clear g
    refine r_iastore (pc := 43) h dX9_turnsRound_43 (fun s9 h => ?_)
    refine r_aload_n (pc := 44) dX9_turnsRound_44 rfl rfl ?_
    refine r_gR (pc := 45) h dX9_turnsRound_45 fw_X9_9 rfl (fun r10 h => ?_)
    refine r_iload_n (pc := 48) dX9_turnsRound_48 rfl rfl ?_
    refine r_iload_n (pc := 49) dX9_turnsRound_49 rfl rfl ?_
    refine r_iadd (pc := 50) dX9_turnsRound_50 ?_
    refine r_iload_n (pc := 51) dX9_turnsRound_51 rfl rfl ?_
    refine r_isub (pc := 52) dX9_turnsRound_52 ?_
    refine r_iload (pc := 53) dX9_turnsRound_53 rfl ?_
    obtain ⟨a11, ea11, g⟩ := e_nn_some h
    clear h
    subst ea11
    have h := g
    clear g
    refine r_iastore (pc := 55) h dX9_turnsRound_55 (fun s12 h => ?_)
    refine r_iinc (ln := fun w => [some (sj_r (some a0)), some (sj_i x1), some (sj_i x2), some (sj_i w), some (sj_i v3)]) (pc := 56) h dX9_turnsRound_56 rfl (Nat.le_of_ble_eq_true rfl) (fun _ => rfl) (fun v13 h => ?_)
    refine r_goto (pc := 59) (tgt := 9) dX9_turnsRound_59 (by decide) ?_
    exact sj_weak (l2 := [some (sj_r (some a0)), some (sj_i x1), some (sj_i x2), some (sj_i v13), none]) (⟨rfl, ⟨rfl, ⟨rfl, ⟨rfl, trivial⟩⟩⟩⟩) (hk9 a0 x1 x2 v13 s12 h)
set_option maxHeartbeats 4000000 in
theorem t_X9_turnsRound_9 {X : sj_X} {s0 : sj_Mem} {N : Nat} {q : Unit × sj_Mem} :
    ∀ (n : Nat) (a0 : Nat) (x1 : Int) (x2 : Int) (x3 : Int) (s : sj_Mem), f_X9_turnsRound_9 N n a0 x1 x2 x3 s = some q → sj_T X m_X9_turnsRound s0 (none, q.2) 9 [some (sj_r (some a0)), some (sj_i x1), some (sj_i x2), some (sj_i x3), none] [] s := by
  intro n
  induction n with
  | zero => intro a0 x1 x2 x3 s h; exact nomatch h
  | succ n ih => intro a0 x1 x2 x3 s h; exact t_X9_turnsRound_9_b (N := N) ih a0 x1 x2 x3 s h
set_option maxHeartbeats 4000000 in
theorem t_X9_turnsRound_0 {X : sj_X} {s0 : sj_Mem} {N : Nat} {q : Unit × sj_Mem} :
    ∀ (a0 : Nat) (x1 : Int) (s : sj_Mem), f_X9_turnsRound N a0 x1 s = some q → sj_T X m_X9_turnsRound s0 (none, q.2) 0 [some (sj_r (some a0)), some (sj_i x1), none, none, none] [] s := by
  intro a0 x1 s h
  unfold f_X9_turnsRound at h
  refine r_aload_n (pc := 0) dX9_turnsRound_0 rfl rfl ?_
  refine r_gR (pc := 1) h dX9_turnsRound_1 fw_X9_9 rfl (fun r1 h => ?_)
  refine r_iconst (pc := 4) dX9_turnsRound_4 ?_
  obtain ⟨a2, ea2, g⟩ := e_nn_some h
  clear h
  subst ea2
  have h := g
  clear g
  refine r_iaload (pc := 5) h dX9_turnsRound_5 (fun v3 h => ?_)
  refine r_istore_n (ln := [some (sj_r (some a0)), some (sj_i x1), some (sj_i v3), none, none]) (pc := 6) dX9_turnsRound_6 rfl (Nat.le_of_ble_eq_true rfl) rfl ?_
  refine r_iconst (pc := 7) dX9_turnsRound_7 ?_
  refine r_istore_n (ln := [some (sj_r (some a0)), some (sj_i x1), some (sj_i v3), some (sj_i 0), none]) (pc := 8) dX9_turnsRound_8 rfl (Nat.le_of_ble_eq_true rfl) rfl ?_
  exact sj_weak (l2 := [some (sj_r (some a0)), some (sj_i x1), some (sj_i v3), some (sj_i 0), none]) (⟨rfl, ⟨rfl, ⟨rfl, ⟨rfl, trivial⟩⟩⟩⟩) (t_X9_turnsRound_9 N a0 x1 v3 0 s h)
set_option maxHeartbeats 4000000 in
theorem c_X9_turnsRound {X : sj_X} {N : Nat} {a0 : Nat} {x1 : Int} {s : sj_Mem} {q : Unit × sj_Mem} (h : f_X9_turnsRound N a0 x1 s = some q) : sj_C X m_X9_turnsRound [sj_r (some a0), sj_i x1] s (none, q.2) :=
  sj_C_of (by decide +kernel) (Nat.le_of_ble_eq_true rfl) (lo := [some (sj_r (some a0)), some (sj_i x1), none, none, none]) rfl (sj_weak (l2 := [some (sj_r (some a0)), some (sj_i x1), none, none, none]) (⟨rfl, ⟨rfl, trivial⟩⟩) (t_X9_turnsRound_0 a0 x1 s h))
theorem dX9_mirror_0 : decode cX9_mirror 0 = .ok (.aload_n 0, 1) := by decide +kernel
theorem dX9_mirror_1 : decode cX9_mirror 1 = .ok (.aload_n 0, 1) := by decide +kernel
theorem dX9_mirror_2 : decode cX9_mirror 2 = .ok (.getfield 9, 3) := by decide +kernel
theorem dX9_mirror_5 : decode cX9_mirror 5 = .ok (.invokevirtual 70, 3) := by decide +kernel
theorem dX9_mirror_8 : decode cX9_mirror 8 = .ok (.aload_n 0, 1) := by decide +kernel
theorem dX9_mirror_9 : decode cX9_mirror 9 = .ok (.iconst 3, 1) := by decide +kernel
theorem dX9_mirror_10 : decode cX9_mirror 10 = .ok (.invokevirtual 88, 3) := by decide +kernel
theorem dX9_mirror_13 : decode cX9_mirror 13 = .ok (.aload_n 0, 1) := by decide +kernel
theorem dX9_mirror_14 : decode cX9_mirror 14 = .ok (.bipush 44, 2) := by decide +kernel
theorem dX9_mirror_16 : decode cX9_mirror 16 = .ok (.invokevirtual 88, 3) := by decide +kernel
theorem dX9_mirror_19 : decode cX9_mirror 19 = .ok (.aload_n 0, 1) := by decide +kernel
theorem dX9_mirror_20 : decode cX9_mirror 20 = .ok (.bipush 85, 2) := by decide +kernel
theorem dX9_mirror_22 : decode cX9_mirror 22 = .ok (.invokevirtual 88, 3) := by decide +kernel
theorem dX9_mirror_25 : decode cX9_mirror 25 = .ok (.aload_n 0, 1) := by decide +kernel
theorem dX9_mirror_26 : decode cX9_mirror 26 = .ok (.bipush 126, 2) := by decide +kernel
theorem dX9_mirror_28 : decode cX9_mirror 28 = .ok (.invokevirtual 88, 3) := by decide +kernel
theorem dX9_mirror_31 : decode cX9_mirror 31 = .ok (.iconst 0, 1) := by decide +kernel
theorem dX9_mirror_32 : decode cX9_mirror 32 = .ok (.istore_n 1, 1) := by decide +kernel
theorem dX9_mirror_33 : decode cX9_mirror 33 = .ok (.iload_n 1, 1) := by decide +kernel
theorem dX9_mirror_34 : decode cX9_mirror 34 = .ok (.iconst 3, 1) := by decide +kernel
theorem dX9_mirror_35 : decode cX9_mirror 35 = .ok (.if_icmp .ge 21, 3) := by decide +kernel
theorem dX9_mirror_38 : decode cX9_mirror 38 = .ok (.aload_n 0, 1) := by decide +kernel
theorem dX9_mirror_39 : decode cX9_mirror 39 = .ok (.sipush 167, 3) := by decide +kernel
theorem dX9_mirror_42 : decode cX9_mirror 42 = .ok (.bipush 41, 2) := by decide +kernel
theorem dX9_mirror_44 : decode cX9_mirror 44 = .ok (.iload_n 1, 1) := by decide +kernel
theorem dX9_mirror_45 : decode cX9_mirror 45 = .ok (.imul, 1) := by decide +kernel
theorem dX9_mirror_46 : decode cX9_mirror 46 = .ok (.iadd, 1) := by decide +kernel
theorem dX9_mirror_47 : decode cX9_mirror 47 = .ok (.invokevirtual 88, 3) := by decide +kernel
theorem dX9_mirror_50 : decode cX9_mirror 50 = .ok (.iinc 1 1, 3) := by decide +kernel
theorem dX9_mirror_53 : decode cX9_mirror 53 = .ok (.goto (-20), 3) := by decide +kernel
theorem dX9_mirror_56 : decode cX9_mirror 56 = .ok (.iconst 0, 1) := by decide +kernel
theorem dX9_mirror_57 : decode cX9_mirror 57 = .ok (.istore_n 1, 1) := by decide +kernel
theorem dX9_mirror_58 : decode cX9_mirror 58 = .ok (.iload_n 1, 1) := by decide +kernel
theorem dX9_mirror_59 : decode cX9_mirror 59 = .ok (.bipush 6, 2) := by decide +kernel
theorem dX9_mirror_61 : decode cX9_mirror 61 = .ok (.if_icmp .ge 57, 3) := by decide +kernel
theorem dX9_mirror_64 : decode cX9_mirror 64 = .ok (.aload_n 0, 1) := by decide +kernel
theorem dX9_mirror_65 : decode cX9_mirror 65 = .ok (.getfield 9, 3) := by decide +kernel
theorem dX9_mirror_68 : decode cX9_mirror 68 = .ok (.sipush 302, 3) := by decide +kernel
theorem dX9_mirror_71 : decode cX9_mirror 71 = .ok (.iconst 3, 1) := by decide +kernel
theorem dX9_mirror_72 : decode cX9_mirror 72 = .ok (.iload_n 1, 1) := by decide +kernel
theorem dX9_mirror_73 : decode cX9_mirror 73 = .ok (.imul, 1) := by decide +kernel
theorem dX9_mirror_74 : decode cX9_mirror 74 = .ok (.iadd, 1) := by decide +kernel
theorem dX9_mirror_75 : decode cX9_mirror 75 = .ok (.iconst 2, 1) := by decide +kernel
theorem dX9_mirror_76 : decode cX9_mirror 76 = .ok (.iadd, 1) := by decide +kernel
theorem dX9_mirror_77 : decode cX9_mirror 77 = .ok (.iaload, 1) := by decide +kernel
theorem dX9_mirror_78 : decode cX9_mirror 78 = .ok (.ifCond .le 34, 3) := by decide +kernel
theorem dX9_mirror_81 : decode cX9_mirror 81 = .ok (.aload_n 0, 1) := by decide +kernel
theorem dX9_mirror_82 : decode cX9_mirror 82 = .ok (.getfield 9, 3) := by decide +kernel
theorem dX9_mirror_85 : decode cX9_mirror 85 = .ok (.sipush 302, 3) := by decide +kernel
theorem dX9_mirror_88 : decode cX9_mirror 88 = .ok (.iconst 3, 1) := by decide +kernel
theorem dX9_mirror_89 : decode cX9_mirror 89 = .ok (.iload_n 1, 1) := by decide +kernel
theorem dX9_mirror_90 : decode cX9_mirror 90 = .ok (.imul, 1) := by decide +kernel
theorem dX9_mirror_91 : decode cX9_mirror 91 = .ok (.iadd, 1) := by decide +kernel
theorem dX9_mirror_92 : decode cX9_mirror 92 = .ok (.aload_n 0, 1) := by decide +kernel
theorem dX9_mirror_93 : decode cX9_mirror 93 = .ok (.getfield 9, 3) := by decide +kernel
theorem dX9_mirror_96 : decode cX9_mirror 96 = .ok (.iconst 0, 1) := by decide +kernel
theorem dX9_mirror_97 : decode cX9_mirror 97 = .ok (.iaload, 1) := by decide +kernel
theorem dX9_mirror_98 : decode cX9_mirror 98 = .ok (.aload_n 0, 1) := by decide +kernel
theorem dX9_mirror_99 : decode cX9_mirror 99 = .ok (.getfield 9, 3) := by decide +kernel
theorem dX9_mirror_102 : decode cX9_mirror 102 = .ok (.sipush 302, 3) := by decide +kernel
theorem dX9_mirror_105 : decode cX9_mirror 105 = .ok (.iconst 3, 1) := by decide +kernel
theorem dX9_mirror_106 : decode cX9_mirror 106 = .ok (.iload_n 1, 1) := by decide +kernel
theorem dX9_mirror_107 : decode cX9_mirror 107 = .ok (.imul, 1) := by decide +kernel
theorem dX9_mirror_108 : decode cX9_mirror 108 = .ok (.iadd, 1) := by decide +kernel
theorem dX9_mirror_109 : decode cX9_mirror 109 = .ok (.iaload, 1) := by decide +kernel
theorem dX9_mirror_110 : decode cX9_mirror 110 = .ok (.isub, 1) := by decide +kernel
theorem dX9_mirror_111 : decode cX9_mirror 111 = .ok (.iastore, 1) := by decide +kernel
theorem dX9_mirror_112 : decode cX9_mirror 112 = .ok (.iinc 1 1, 3) := by decide +kernel
theorem dX9_mirror_115 : decode cX9_mirror 115 = .ok (.goto (-57), 3) := by decide +kernel
theorem dX9_mirror_118 : decode cX9_mirror 118 = .ok (.aload_n 0, 1) := by decide +kernel
theorem dX9_mirror_119 : decode cX9_mirror 119 = .ok (.invokevirtual 92, 3) := by decide +kernel
theorem dX9_mirror_122 : decode cX9_mirror 122 = .ok (.ifCond .ne 5, 3) := by decide +kernel
theorem dX9_mirror_125 : decode cX9_mirror 125 = .ok (.iconst 0, 1) := by decide +kernel
theorem dX9_mirror_126 : decode cX9_mirror 126 = .ok (.ireturn, 1) := by decide +kernel
theorem dX9_mirror_127 : decode cX9_mirror 127 = .ok (.aload_n 0, 1) := by decide +kernel
theorem dX9_mirror_128 : decode cX9_mirror 128 = .ok (.sipush 323, 3) := by decide +kernel
theorem dX9_mirror_131 : decode cX9_mirror 131 = .ok (.invokevirtual 88, 3) := by decide +kernel
theorem dX9_mirror_134 : decode cX9_mirror 134 = .ok (.aload_n 0, 1) := by decide +kernel
theorem dX9_mirror_135 : decode cX9_mirror 135 = .ok (.getfield 9, 3) := by decide +kernel
theorem dX9_mirror_138 : decode cX9_mirror 138 = .ok (.iconst 0, 1) := by decide +kernel
theorem dX9_mirror_139 : decode cX9_mirror 139 = .ok (.iaload, 1) := by decide +kernel
theorem dX9_mirror_140 : decode cX9_mirror 140 = .ok (.aload_n 0, 1) := by decide +kernel
theorem dX9_mirror_141 : decode cX9_mirror 141 = .ok (.getfield 9, 3) := by decide +kernel
theorem dX9_mirror_144 : decode cX9_mirror 144 = .ok (.sipush 321, 3) := by decide +kernel
theorem dX9_mirror_147 : decode cX9_mirror 147 = .ok (.iaload, 1) := by decide +kernel
theorem dX9_mirror_148 : decode cX9_mirror 148 = .ok (.isub, 1) := by decide +kernel
theorem dX9_mirror_149 : decode cX9_mirror 149 = .ok (.istore_n 1, 1) := by decide +kernel
theorem dX9_mirror_150 : decode cX9_mirror 150 = .ok (.aload_n 0, 1) := by decide +kernel
theorem dX9_mirror_151 : decode cX9_mirror 151 = .ok (.getfield 9, 3) := by decide +kernel
theorem dX9_mirror_154 : decode cX9_mirror 154 = .ok (.sipush 321, 3) := by decide +kernel
theorem dX9_mirror_157 : decode cX9_mirror 157 = .ok (.aload_n 0, 1) := by decide +kernel
theorem dX9_mirror_158 : decode cX9_mirror 158 = .ok (.getfield 9, 3) := by decide +kernel
theorem dX9_mirror_161 : decode cX9_mirror 161 = .ok (.iconst 0, 1) := by decide +kernel
theorem dX9_mirror_162 : decode cX9_mirror 162 = .ok (.iaload, 1) := by decide +kernel
theorem dX9_mirror_163 : decode cX9_mirror 163 = .ok (.aload_n 0, 1) := by decide +kernel
theorem dX9_mirror_164 : decode cX9_mirror 164 = .ok (.getfield 9, 3) := by decide +kernel
theorem dX9_mirror_167 : decode cX9_mirror 167 = .ok (.sipush 320, 3) := by decide +kernel
theorem dX9_mirror_170 : decode cX9_mirror 170 = .ok (.iaload, 1) := by decide +kernel
theorem dX9_mirror_171 : decode cX9_mirror 171 = .ok (.isub, 1) := by decide +kernel
theorem dX9_mirror_172 : decode cX9_mirror 172 = .ok (.iastore, 1) := by decide +kernel
theorem dX9_mirror_173 : decode cX9_mirror 173 = .ok (.aload_n 0, 1) := by decide +kernel
theorem dX9_mirror_174 : decode cX9_mirror 174 = .ok (.getfield 9, 3) := by decide +kernel
theorem dX9_mirror_177 : decode cX9_mirror 177 = .ok (.sipush 320, 3) := by decide +kernel
theorem dX9_mirror_180 : decode cX9_mirror 180 = .ok (.iload_n 1, 1) := by decide +kernel
theorem dX9_mirror_181 : decode cX9_mirror 181 = .ok (.iastore, 1) := by decide +kernel
theorem dX9_mirror_182 : decode cX9_mirror 182 = .ok (.aload_n 0, 1) := by decide +kernel
theorem dX9_mirror_183 : decode cX9_mirror 183 = .ok (.getfield 9, 3) := by decide +kernel
theorem dX9_mirror_186 : decode cX9_mirror 186 = .ok (.sipush 322, 3) := by decide +kernel
theorem dX9_mirror_189 : decode cX9_mirror 189 = .ok (.iconst 1, 1) := by decide +kernel
theorem dX9_mirror_190 : decode cX9_mirror 190 = .ok (.aload_n 0, 1) := by decide +kernel
theorem dX9_mirror_191 : decode cX9_mirror 191 = .ok (.getfield 9, 3) := by decide +kernel
theorem dX9_mirror_194 : decode cX9_mirror 194 = .ok (.sipush 322, 3) := by decide +kernel
theorem dX9_mirror_197 : decode cX9_mirror 197 = .ok (.iaload, 1) := by decide +kernel
theorem dX9_mirror_198 : decode cX9_mirror 198 = .ok (.isub, 1) := by decide +kernel
theorem dX9_mirror_199 : decode cX9_mirror 199 = .ok (.iastore, 1) := by decide +kernel
theorem dX9_mirror_200 : decode cX9_mirror 200 = .ok (.iconst 1, 1) := by decide +kernel
theorem dX9_mirror_201 : decode cX9_mirror 201 = .ok (.ireturn, 1) := by decide +kernel
set_option maxHeartbeats 4000000 in
theorem t_X9_mirror_112 {X : sj_X} {s0 : sj_Mem} {N : Nat} {q : Int × sj_Mem} {k58 : Nat → Int → sj_Mem → Option (Int × sj_Mem)} (hk58 : ∀ (a0 : Nat) (x1 : Int) (s : sj_Mem), k58 a0 x1 s = some q → sj_T X m_X9_mirror s0 (some (sj_i q.1), q.2) 58 [some (sj_r (some a0)), some (sj_i x1)] [] s) :
    ∀ (a0 : Nat) (x1 : Int) (s : sj_Mem), f_X9_mirror_112 N k58 a0 x1 s = some q → sj_T X m_X9_mirror s0 (some (sj_i q.1), q.2) 112 [some (sj_r (some a0)), some (sj_i x1)] [] s := by
  intro a0 x1 s h
  unfold f_X9_mirror_112 at h
  refine r_iinc (ln := fun w => [some (sj_r (some a0)), some (sj_i w)]) (pc := 112) h dX9_mirror_112 rfl (Nat.le_of_ble_eq_true rfl) (fun _ => rfl) (fun v1 h => ?_)
  refine r_goto (pc := 115) (tgt := 58) dX9_mirror_115 (by decide) ?_
  exact sj_weak (l2 := [some (sj_r (some a0)), some (sj_i v1)]) (⟨rfl, ⟨rfl, trivial⟩⟩) (hk58 a0 v1 s h)
set_option maxHeartbeats 4000000 in
theorem t_X9_mirror_58_b {X : sj_X} {s0 : sj_Mem} {N : Nat} {q : Int × sj_Mem} {k58 : Nat → Int → sj_Mem → Option (Int × sj_Mem)} (hk58 : ∀ (a0 : Nat) (x1 : Int) (s : sj_Mem), k58 a0 x1 s = some q → sj_T X m_X9_mirror s0 (some (sj_i q.1), q.2) 58 [some (sj_r (some a0)), some (sj_i x1)] [] s) :
    ∀ (a0 : Nat) (x1 : Int) (s : sj_Mem), f_X9_mirror_58_b N k58 a0 x1 s = some q → sj_T X m_X9_mirror s0 (some (sj_i q.1), q.2) 58 [some (sj_r (some a0)), some (sj_i x1)] [] s := by
  intro a0 x1 s h
  unfold f_X9_mirror_58_b at h
  refine r_iload_n (pc := 58) dX9_mirror_58 rfl rfl ?_
  refine r_bipush (pc := 59) dX9_mirror_59 ⟨by decide, by decide⟩ ?_
  refine r_icmp_ge (pc := 61) (tgt := 118) h dX9_mirror_61 (by decide) (fun h => ?_) (fun h => ?_)
  · refine r_aload_n (pc := 118) dX9_mirror_118 rfl rfl ?_
    refine r_callV (pc := 119) (fun v => some (sj_i v)) (As := []) (rest := []) h dX9_mirror_119 mw_X9_92 vw_X9_hasSlip (fun _ _ hc => c_X9_hasSlip hc) rfl ⟨(Nat.le_of_ble_eq_true rfl), (Nat.le_of_ble_eq_true rfl)⟩ (Nat.le_of_ble_eq_true rfl) rfl (fun v2 s1 h => ?_)
    refine r_if_ne (pc := 122) (tgt := 127) h dX9_mirror_122 (by decide) (fun h => ?_) (fun h => ?_)
    · refine r_iconst (pc := 125) dX9_mirror_125 ?_
      exact r_zret (pc := 126) h rfl dX9_mirror_126
    · refine r_aload_n (pc := 127) dX9_mirror_127 rfl rfl ?_
      refine r_sipush (pc := 128) dX9_mirror_128 ⟨by decide, by decide⟩ ?_
      refine r_callV (pc := 131) (fun _ => none) (As := [sj_i 323]) (rest := []) h dX9_mirror_131 mw_X9_88 vw_X9_turnsRound (fun _ _ hc => c_X9_turnsRound hc) rfl ⟨(Nat.le_of_ble_eq_true rfl), (Nat.le_of_ble_eq_true rfl)⟩ (Nat.le_of_ble_eq_true rfl) rfl (fun _u s3 h => ?_)
      refine r_aload_n (pc := 134) dX9_mirror_134 rfl rfl ?_
      refine r_gR (pc := 135) h dX9_mirror_135 fw_X9_9 rfl (fun r4 h => ?_)
      refine r_iconst (pc := 138) dX9_mirror_138 ?_
      obtain ⟨a5, ea5, g⟩ := e_nn_some h
      clear h
      subst ea5
      have h := g
      clear g
      refine r_iaload (pc := 139) h dX9_mirror_139 (fun v6 h => ?_)
      refine r_aload_n (pc := 140) dX9_mirror_140 rfl rfl ?_
      refine r_gR (pc := 141) h dX9_mirror_141 fw_X9_9 rfl (fun r7 h => ?_)
      refine r_sipush (pc := 144) dX9_mirror_144 ⟨by decide, by decide⟩ ?_
      obtain ⟨a8, ea8, g⟩ := e_nn_some h
      clear h
      subst ea8
      have h := g
      clear g
      refine r_iaload (pc := 147) h dX9_mirror_147 (fun v9 h => ?_)
      refine r_isub (pc := 148) dX9_mirror_148 ?_
      refine r_istore_nL (ln := fun w => [some (sj_r (some a0)), some (sj_i w)]) (pc := 149) h dX9_mirror_149 rfl (Nat.le_of_ble_eq_true rfl) (fun _ => rfl) (fun v10 h => ?_)
      refine r_aload_n (pc := 150) dX9_mirror_150 rfl rfl ?_
      refine r_gR (pc := 151) h dX9_mirror_151 fw_X9_9 rfl (fun r11 h => ?_)
      refine r_sipush (pc := 154) dX9_mirror_154 ⟨by decide, by decide⟩ ?_
      refine r_aload_n (pc := 157) dX9_mirror_157 rfl rfl ?_
      refine r_gR (pc := 158) h dX9_mirror_158 fw_X9_9 rfl (fun r12 h => ?_)
      refine r_iconst (pc := 161) dX9_mirror_161 ?_
      obtain ⟨a13, ea13, g⟩ := e_nn_some h
      clear h
      subst ea13
      have h := g
      clear g
      refine r_iaload (pc := 162) h dX9_mirror_162 (fun v14 h => ?_)
      refine r_aload_n (pc := 163) dX9_mirror_163 rfl rfl ?_
      refine r_gR (pc := 164) h dX9_mirror_164 fw_X9_9 rfl (fun r15 h => ?_)
      refine r_sipush (pc := 167) dX9_mirror_167 ⟨by decide, by decide⟩ ?_
      obtain ⟨a16, ea16, g⟩ := e_nn_some h
      clear h
      subst ea16
      have h := g
      clear g
      refine r_iaload (pc := 170) h dX9_mirror_170 (fun v17 h => ?_)
      refine r_isub (pc := 171) dX9_mirror_171 ?_
      obtain ⟨a18, ea18, g⟩ := e_nn_some h
      clear h
      subst ea18
      have h := g
      clear g
      refine r_iastore (pc := 172) h dX9_mirror_172 (fun s19 h => ?_)
      refine r_aload_n (pc := 173) dX9_mirror_173 rfl rfl ?_
      refine r_gR (pc := 174) h dX9_mirror_174 fw_X9_9 rfl (fun r20 h => ?_)
      refine r_sipush (pc := 177) dX9_mirror_177 ⟨by decide, by decide⟩ ?_
      refine r_iload_n (pc := 180) dX9_mirror_180 rfl rfl ?_
      obtain ⟨a21, ea21, g⟩ := e_nn_some h
      clear h
      subst ea21
      have h := g
      clear g
      refine r_iastore (pc := 181) h dX9_mirror_181 (fun s22 h => ?_)
      refine r_aload_n (pc := 182) dX9_mirror_182 rfl rfl ?_
      refine r_gR (pc := 183) h dX9_mirror_183 fw_X9_9 rfl (fun r23 h => ?_)
      refine r_sipush (pc := 186) dX9_mirror_186 ⟨by decide, by decide⟩ ?_
      refine r_iconst (pc := 189) dX9_mirror_189 ?_
      refine r_aload_n (pc := 190) dX9_mirror_190 rfl rfl ?_
      refine r_gR (pc := 191) h dX9_mirror_191 fw_X9_9 rfl (fun r24 h => ?_)
      refine r_sipush (pc := 194) dX9_mirror_194 ⟨by decide, by decide⟩ ?_
      obtain ⟨a25, ea25, g⟩ := e_nn_some h
      clear h
      subst ea25
      have h := g
      clear g
      refine r_iaload (pc := 197) h dX9_mirror_197 (fun v26 h => ?_)
      refine r_isub (pc := 198) dX9_mirror_198 ?_
      obtain ⟨a27, ea27, g⟩ := e_nn_some h
      clear h
      subst ea27
      have h := g
      clear g
      refine r_iastore (pc := 199) h dX9_mirror_199 (fun s28 h => ?_)
      refine r_iconst (pc := 200) dX9_mirror_200 ?_
      exact r_zret (pc := 201) h rfl dX9_mirror_201
  · refine r_aload_n (pc := 64) dX9_mirror_64 rfl rfl ?_
    refine r_gR (pc := 65) h dX9_mirror_65 fw_X9_9 rfl (fun r29 h => ?_)
    refine r_sipush (pc := 68) dX9_mirror_68 ⟨by decide, by decide⟩ ?_
    refine r_iconst (pc := 71) dX9_mirror_71 ?_
    refine r_iload_n (pc := 72) dX9_mirror_72 rfl rfl ?_
    refine r_imul (pc := 73) dX9_mirror_73 ?_
    refine r_iadd (pc := 74) dX9_mirror_74 ?_
    refine r_iconst (pc := 75) dX9_mirror_75 ?_
    refine r_iadd (pc := 76) dX9_mirror_76 ?_
    obtain ⟨a30, ea30, g⟩ := e_nn_some h
    clear h
    subst ea30
    have h := g
    clear g
    refine r_iaload (pc := 77) h dX9_mirror_77 (fun v31 h => ?_)
    refine r_if_le (pc := 78) (tgt := 112) h dX9_mirror_78 (by decide) (fun h => ?_) (fun h => ?_)
    · exact sj_weak (l2 := [some (sj_r (some a0)), some (sj_i x1)]) (⟨rfl, ⟨rfl, trivial⟩⟩) (t_X9_mirror_112 hk58 a0 x1 s h)
    · refine r_aload_n (pc := 81) dX9_mirror_81 rfl rfl ?_
      refine r_gR (pc := 82) h dX9_mirror_82 fw_X9_9 rfl (fun r32 h => ?_)
      refine r_sipush (pc := 85) dX9_mirror_85 ⟨by decide, by decide⟩ ?_
      refine r_iconst (pc := 88) dX9_mirror_88 ?_
      refine r_iload_n (pc := 89) dX9_mirror_89 rfl rfl ?_
      refine r_imul (pc := 90) dX9_mirror_90 ?_
      refine r_iadd (pc := 91) dX9_mirror_91 ?_
      refine r_aload_n (pc := 92) dX9_mirror_92 rfl rfl ?_
      refine r_gR (pc := 93) h dX9_mirror_93 fw_X9_9 rfl (fun r33 h => ?_)
      refine r_iconst (pc := 96) dX9_mirror_96 ?_
      obtain ⟨a34, ea34, g⟩ := e_nn_some h
      clear h
      subst ea34
      have h := g
      clear g
      refine r_iaload (pc := 97) h dX9_mirror_97 (fun v35 h => ?_)
      refine r_aload_n (pc := 98) dX9_mirror_98 rfl rfl ?_
      refine r_gR (pc := 99) h dX9_mirror_99 fw_X9_9 rfl (fun r36 h => ?_)
      refine r_sipush (pc := 102) dX9_mirror_102 ⟨by decide, by decide⟩ ?_
      refine r_iconst (pc := 105) dX9_mirror_105 ?_
      refine r_iload_n (pc := 106) dX9_mirror_106 rfl rfl ?_
      refine r_imul (pc := 107) dX9_mirror_107 ?_
      refine r_iadd (pc := 108) dX9_mirror_108 ?_
      obtain ⟨a37, ea37, g⟩ := e_nn_some h
      clear h
      subst ea37
      have h := g
      clear g
      refine r_iaload (pc := 109) h dX9_mirror_109 (fun v38 h => ?_)
      refine r_isub (pc := 110) dX9_mirror_110 ?_
      obtain ⟨a39, ea39, g⟩ := e_nn_some h
      clear h
      subst ea39
      have h := g
      clear g
      refine r_iastore (pc := 111) h dX9_mirror_111 (fun s40 h => ?_)
      exact sj_weak (l2 := [some (sj_r (some a0)), some (sj_i x1)]) (⟨rfl, ⟨rfl, trivial⟩⟩) (t_X9_mirror_112 hk58 a0 x1 s40 h)
set_option maxHeartbeats 4000000 in
theorem t_X9_mirror_58 {X : sj_X} {s0 : sj_Mem} {N : Nat} {q : Int × sj_Mem} :
    ∀ (n : Nat) (a0 : Nat) (x1 : Int) (s : sj_Mem), f_X9_mirror_58 N n a0 x1 s = some q → sj_T X m_X9_mirror s0 (some (sj_i q.1), q.2) 58 [some (sj_r (some a0)), some (sj_i x1)] [] s := by
  intro n
  induction n with
  | zero => intro a0 x1 s h; exact nomatch h
  | succ n ih => intro a0 x1 s h; exact t_X9_mirror_58_b (N := N) ih a0 x1 s h
set_option maxHeartbeats 4000000 in
theorem t_X9_mirror_33_b {X : sj_X} {s0 : sj_Mem} {N : Nat} {q : Int × sj_Mem} {k33 : Nat → Int → sj_Mem → Option (Int × sj_Mem)} (hk33 : ∀ (a0 : Nat) (x1 : Int) (s : sj_Mem), k33 a0 x1 s = some q → sj_T X m_X9_mirror s0 (some (sj_i q.1), q.2) 33 [some (sj_r (some a0)), some (sj_i x1)] [] s) :
    ∀ (a0 : Nat) (x1 : Int) (s : sj_Mem), f_X9_mirror_33_b N k33 a0 x1 s = some q → sj_T X m_X9_mirror s0 (some (sj_i q.1), q.2) 33 [some (sj_r (some a0)), some (sj_i x1)] [] s := by
  intro a0 x1 s h
  unfold f_X9_mirror_33_b at h
  refine r_iload_n (pc := 33) dX9_mirror_33 rfl rfl ?_
  refine r_iconst (pc := 34) dX9_mirror_34 ?_
  refine r_icmp_ge (pc := 35) (tgt := 56) h dX9_mirror_35 (by decide) (fun h => ?_) (fun h => ?_)
  · refine r_iconst (pc := 56) dX9_mirror_56 ?_
    refine r_istore_n (ln := [some (sj_r (some a0)), some (sj_i 0)]) (pc := 57) dX9_mirror_57 rfl (Nat.le_of_ble_eq_true rfl) rfl ?_
    exact sj_weak (l2 := [some (sj_r (some a0)), some (sj_i 0)]) (⟨rfl, ⟨rfl, trivial⟩⟩) (t_X9_mirror_58 N a0 0 s h)
  · refine r_aload_n (pc := 38) dX9_mirror_38 rfl rfl ?_
    refine r_sipush (pc := 39) dX9_mirror_39 ⟨by decide, by decide⟩ ?_
    refine r_bipush (pc := 42) dX9_mirror_42 ⟨by decide, by decide⟩ ?_
    refine r_iload_n (pc := 44) dX9_mirror_44 rfl rfl ?_
    refine r_imul (pc := 45) dX9_mirror_45 ?_
    refine r_iadd (pc := 46) dX9_mirror_46 ?_
    refine r_callV (pc := 47) (fun _ => none) (As := [sj_i (167 + (41 * x1))]) (rest := []) h dX9_mirror_47 mw_X9_88 vw_X9_turnsRound (fun _ _ hc => c_X9_turnsRound hc) rfl ⟨(Nat.le_of_ble_eq_true rfl), (Nat.le_of_ble_eq_true rfl)⟩ (Nat.le_of_ble_eq_true rfl) rfl (fun _u s1 h => ?_)
    refine r_iinc (ln := fun w => [some (sj_r (some a0)), some (sj_i w)]) (pc := 50) h dX9_mirror_50 rfl (Nat.le_of_ble_eq_true rfl) (fun _ => rfl) (fun v2 h => ?_)
    refine r_goto (pc := 53) (tgt := 33) dX9_mirror_53 (by decide) ?_
    exact sj_weak (l2 := [some (sj_r (some a0)), some (sj_i v2)]) (⟨rfl, ⟨rfl, trivial⟩⟩) (hk33 a0 v2 s1 h)
set_option maxHeartbeats 4000000 in
theorem t_X9_mirror_33 {X : sj_X} {s0 : sj_Mem} {N : Nat} {q : Int × sj_Mem} :
    ∀ (n : Nat) (a0 : Nat) (x1 : Int) (s : sj_Mem), f_X9_mirror_33 N n a0 x1 s = some q → sj_T X m_X9_mirror s0 (some (sj_i q.1), q.2) 33 [some (sj_r (some a0)), some (sj_i x1)] [] s := by
  intro n
  induction n with
  | zero => intro a0 x1 s h; exact nomatch h
  | succ n ih => intro a0 x1 s h; exact t_X9_mirror_33_b (N := N) ih a0 x1 s h
set_option maxHeartbeats 4000000 in
theorem t_X9_mirror_0 {X : sj_X} {s0 : sj_Mem} {N : Nat} {q : Int × sj_Mem} :
    ∀ (a0 : Nat) (s : sj_Mem), f_X9_mirror N a0 s = some q → sj_T X m_X9_mirror s0 (some (sj_i q.1), q.2) 0 [some (sj_r (some a0)), none] [] s := by
  intro a0 s h
  unfold f_X9_mirror at h
  refine r_aload_n (pc := 0) dX9_mirror_0 rfl rfl ?_
  refine r_aload_n (pc := 1) dX9_mirror_1 rfl rfl ?_
  refine r_gR (pc := 2) h dX9_mirror_2 fw_X9_9 rfl (fun r1 h => ?_)
  refine r_callV (pc := 5) (fun _ => none) (As := [sj_r r1]) (rest := []) h dX9_mirror_5 mw_X9_70 vw_X9_remembers (fun _ _ hc => c_X9_remembers hc) rfl ⟨(Nat.le_of_ble_eq_true rfl), (Nat.le_of_ble_eq_true rfl)⟩ (Nat.le_of_ble_eq_true rfl) rfl (fun _u s2 h => ?_)
  refine r_aload_n (pc := 8) dX9_mirror_8 rfl rfl ?_
  refine r_iconst (pc := 9) dX9_mirror_9 ?_
  refine r_callV (pc := 10) (fun _ => none) (As := [sj_i 3]) (rest := []) h dX9_mirror_10 mw_X9_88 vw_X9_turnsRound (fun _ _ hc => c_X9_turnsRound hc) rfl ⟨(Nat.le_of_ble_eq_true rfl), (Nat.le_of_ble_eq_true rfl)⟩ (Nat.le_of_ble_eq_true rfl) rfl (fun _u s3 h => ?_)
  refine r_aload_n (pc := 13) dX9_mirror_13 rfl rfl ?_
  refine r_bipush (pc := 14) dX9_mirror_14 ⟨by decide, by decide⟩ ?_
  refine r_callV (pc := 16) (fun _ => none) (As := [sj_i 44]) (rest := []) h dX9_mirror_16 mw_X9_88 vw_X9_turnsRound (fun _ _ hc => c_X9_turnsRound hc) rfl ⟨(Nat.le_of_ble_eq_true rfl), (Nat.le_of_ble_eq_true rfl)⟩ (Nat.le_of_ble_eq_true rfl) rfl (fun _u s4 h => ?_)
  refine r_aload_n (pc := 19) dX9_mirror_19 rfl rfl ?_
  refine r_bipush (pc := 20) dX9_mirror_20 ⟨by decide, by decide⟩ ?_
  refine r_callV (pc := 22) (fun _ => none) (As := [sj_i 85]) (rest := []) h dX9_mirror_22 mw_X9_88 vw_X9_turnsRound (fun _ _ hc => c_X9_turnsRound hc) rfl ⟨(Nat.le_of_ble_eq_true rfl), (Nat.le_of_ble_eq_true rfl)⟩ (Nat.le_of_ble_eq_true rfl) rfl (fun _u s5 h => ?_)
  refine r_aload_n (pc := 25) dX9_mirror_25 rfl rfl ?_
  refine r_bipush (pc := 26) dX9_mirror_26 ⟨by decide, by decide⟩ ?_
  refine r_callV (pc := 28) (fun _ => none) (As := [sj_i 126]) (rest := []) h dX9_mirror_28 mw_X9_88 vw_X9_turnsRound (fun _ _ hc => c_X9_turnsRound hc) rfl ⟨(Nat.le_of_ble_eq_true rfl), (Nat.le_of_ble_eq_true rfl)⟩ (Nat.le_of_ble_eq_true rfl) rfl (fun _u s6 h => ?_)
  refine r_iconst (pc := 31) dX9_mirror_31 ?_
  refine r_istore_n (ln := [some (sj_r (some a0)), some (sj_i 0)]) (pc := 32) dX9_mirror_32 rfl (Nat.le_of_ble_eq_true rfl) rfl ?_
  exact sj_weak (l2 := [some (sj_r (some a0)), some (sj_i 0)]) (⟨rfl, ⟨rfl, trivial⟩⟩) (t_X9_mirror_33 N a0 0 s6 h)
set_option maxHeartbeats 4000000 in
theorem c_X9_mirror {X : sj_X} {N : Nat} {a0 : Nat} {s : sj_Mem} {q : Int × sj_Mem} (h : f_X9_mirror N a0 s = some q) : sj_C X m_X9_mirror [sj_r (some a0)] s (some (sj_i q.1), q.2) :=
  sj_C_of (by decide +kernel) (Nat.le_of_ble_eq_true rfl) (lo := [some (sj_r (some a0)), none]) rfl (sj_weak (l2 := [some (sj_r (some a0)), none]) (⟨rfl, trivial⟩) (t_X9_mirror_0 a0 s h))
theorem dX9_canDig_0 : decode cX9_canDig 0 = .ok (.aload_n 0, 1) := by decide +kernel
theorem dX9_canDig_1 : decode cX9_canDig 1 = .ok (.iload_n 1, 1) := by decide +kernel
theorem dX9_canDig_2 : decode cX9_canDig 2 = .ok (.invokevirtual 74, 3) := by decide +kernel
theorem dX9_canDig_5 : decode cX9_canDig 5 = .ok (.ifCond .eq 42, 3) := by decide +kernel
theorem dX9_canDig_8 : decode cX9_canDig 8 = .ok (.iload_n 2, 1) := by decide +kernel
theorem dX9_canDig_9 : decode cX9_canDig 9 = .ok (.ifCond .eq 38, 3) := by decide +kernel
theorem dX9_canDig_12 : decode cX9_canDig 12 = .ok (.aload_n 0, 1) := by decide +kernel
theorem dX9_canDig_13 : decode cX9_canDig 13 = .ok (.getfield 9, 3) := by decide +kernel
theorem dX9_canDig_16 : decode cX9_canDig 16 = .ok (.iconst 3, 1) := by decide +kernel
theorem dX9_canDig_17 : decode cX9_canDig 17 = .ok (.iload_n 1, 1) := by decide +kernel
theorem dX9_canDig_18 : decode cX9_canDig 18 = .ok (.iadd, 1) := by decide +kernel
theorem dX9_canDig_19 : decode cX9_canDig 19 = .ok (.iaload, 1) := by decide +kernel
theorem dX9_canDig_20 : decode cX9_canDig 20 = .ok (.i2l, 1) := by decide +kernel
theorem dX9_canDig_21 : decode cX9_canDig 21 = .ok (.iload_n 2, 1) := by decide +kernel
theorem dX9_canDig_22 : decode cX9_canDig 22 = .ok (.i2l, 1) := by decide +kernel
theorem dX9_canDig_23 : decode cX9_canDig 23 = .ok (.lsub, 1) := by decide +kernel
theorem dX9_canDig_24 : decode cX9_canDig 24 = .ok (.aload_n 0, 1) := by decide +kernel
theorem dX9_canDig_25 : decode cX9_canDig 25 = .ok (.getfield 9, 3) := by decide +kernel
theorem dX9_canDig_28 : decode cX9_canDig 28 = .ok (.bipush 44, 2) := by decide +kernel
theorem dX9_canDig_30 : decode cX9_canDig 30 = .ok (.iload_n 1, 1) := by decide +kernel
theorem dX9_canDig_31 : decode cX9_canDig 31 = .ok (.iadd, 1) := by decide +kernel
theorem dX9_canDig_32 : decode cX9_canDig 32 = .ok (.iaload, 1) := by decide +kernel
theorem dX9_canDig_33 : decode cX9_canDig 33 = .ok (.i2l, 1) := by decide +kernel
theorem dX9_canDig_34 : decode cX9_canDig 34 = .ok (.ldc2_w 82, 3) := by decide +kernel
theorem dX9_canDig_37 : decode cX9_canDig 37 = .ok (.invokestatic 57, 3) := by decide +kernel
theorem dX9_canDig_40 : decode cX9_canDig 40 = .ok (.ifCond .eq 7, 3) := by decide +kernel
theorem dX9_canDig_43 : decode cX9_canDig 43 = .ok (.iconst 1, 1) := by decide +kernel
theorem dX9_canDig_44 : decode cX9_canDig 44 = .ok (.goto 4, 3) := by decide +kernel
theorem dX9_canDig_47 : decode cX9_canDig 47 = .ok (.iconst 0, 1) := by decide +kernel
theorem dX9_canDig_48 : decode cX9_canDig 48 = .ok (.ireturn, 1) := by decide +kernel
set_option maxHeartbeats 4000000 in
theorem t_X9_canDig_0 {X : sj_X} {s0 : sj_Mem} {N : Nat} {q : Int × sj_Mem} :
    ∀ (a0 : Nat) (x1 : Int) (x2 : Int) (s : sj_Mem), f_X9_canDig N a0 x1 x2 s = some q → sj_T X m_X9_canDig s0 (some (sj_i q.1), q.2) 0 [some (sj_r (some a0)), some (sj_i x1), some (sj_i x2)] [] s := by
  intro a0 x1 x2 s h
  unfold f_X9_canDig at h
  refine r_aload_n (pc := 0) dX9_canDig_0 rfl rfl ?_
  refine r_iload_n (pc := 1) dX9_canDig_1 rfl rfl ?_
  refine r_callV (pc := 2) (fun v => some (sj_i v)) (As := [sj_i x1]) (rest := []) h dX9_canDig_2 mw_X9_74 vw_X9_isColumn (fun _ _ hc => c_X9_isColumn hc) rfl ⟨(Nat.le_of_ble_eq_true rfl), (Nat.le_of_ble_eq_true rfl)⟩ (Nat.le_of_ble_eq_true rfl) rfl (fun v2 s1 h => ?_)
  refine r_if_eq (pc := 5) (tgt := 47) h dX9_canDig_5 (by decide) (fun h => ?_) (fun h => ?_)
  · refine r_iconst (pc := 47) dX9_canDig_47 ?_
    exact r_zret (pc := 48) h rfl dX9_canDig_48
  · refine r_iload_n (pc := 8) dX9_canDig_8 rfl rfl ?_
    refine r_if_eq (pc := 9) (tgt := 47) h dX9_canDig_9 (by decide) (fun h => ?_) (fun h => ?_)
    · refine r_iconst (pc := 47) dX9_canDig_47 ?_
      exact r_zret (pc := 48) h rfl dX9_canDig_48
    · refine r_aload_n (pc := 12) dX9_canDig_12 rfl rfl ?_
      refine r_gR (pc := 13) h dX9_canDig_13 fw_X9_9 rfl (fun r3 h => ?_)
      refine r_iconst (pc := 16) dX9_canDig_16 ?_
      refine r_iload_n (pc := 17) dX9_canDig_17 rfl rfl ?_
      refine r_iadd (pc := 18) dX9_canDig_18 ?_
      obtain ⟨a4, ea4, g⟩ := e_nn_some h
      clear h
      subst ea4
      have h := g
      clear g
      refine r_iaload (pc := 19) h dX9_canDig_19 (fun v5 h => ?_)
      refine r_i2l (pc := 20) h dX9_canDig_20 (fun v6 h => ?_)
      refine r_iload_n (pc := 21) dX9_canDig_21 rfl rfl ?_
      refine r_i2l (pc := 22) h dX9_canDig_22 (fun v7 h => ?_)
      refine r_lsub (pc := 23) dX9_canDig_23 ?_
      refine r_aload_n (pc := 24) dX9_canDig_24 rfl rfl ?_
      refine r_gR (pc := 25) h dX9_canDig_25 fw_X9_9 rfl (fun r8 h => ?_)
      refine r_bipush (pc := 28) dX9_canDig_28 ⟨by decide, by decide⟩ ?_
      refine r_iload_n (pc := 30) dX9_canDig_30 rfl rfl ?_
      refine r_iadd (pc := 31) dX9_canDig_31 ?_
      obtain ⟨a9, ea9, g⟩ := e_nn_some h
      clear h
      subst ea9
      have h := g
      clear g
      refine r_iaload (pc := 32) h dX9_canDig_32 (fun v10 h => ?_)
      refine r_i2l (pc := 33) h dX9_canDig_33 (fun v11 h => ?_)
      refine r_ldc2 (n := 100) (pc := 34) dX9_canDig_34 kc_X9_82 ?_
      refine r_callS (pc := 37) (fun v => some (sj_i v)) (As := [sj_j (v6 - v7), sj_j v11, sj_j 100]) (rest := []) h dX9_canDig_37 mw_X9_57 kw_1225 (fun _ _ hc => c_X9_isIn hc) rfl ⟨(Nat.le_of_ble_eq_true rfl), (Nat.le_of_ble_eq_true rfl)⟩ (Nat.le_of_ble_eq_true rfl) rfl (fun v13 s12 h => ?_)
      refine r_if_eq (pc := 40) (tgt := 47) h dX9_canDig_40 (by decide) (fun h => ?_) (fun h => ?_)
      · refine r_iconst (pc := 47) dX9_canDig_47 ?_
        exact r_zret (pc := 48) h rfl dX9_canDig_48
      · refine r_iconst (pc := 43) dX9_canDig_43 ?_
        refine r_goto (pc := 44) (tgt := 48) dX9_canDig_44 (by decide) ?_
        exact r_zret (pc := 48) h rfl dX9_canDig_48
set_option maxHeartbeats 4000000 in
theorem c_X9_canDig {X : sj_X} {N : Nat} {a0 : Nat} {x1 : Int} {x2 : Int} {s : sj_Mem} {q : Int × sj_Mem} (h : f_X9_canDig N a0 x1 x2 s = some q) : sj_C X m_X9_canDig [sj_r (some a0), sj_i x1, sj_i x2] s (some (sj_i q.1), q.2) :=
  sj_C_of (by decide +kernel) (Nat.le_of_ble_eq_true rfl) (lo := [some (sj_r (some a0)), some (sj_i x1), some (sj_i x2)]) rfl (sj_weak (l2 := [some (sj_r (some a0)), some (sj_i x1), some (sj_i x2)]) (⟨rfl, ⟨rfl, ⟨rfl, trivial⟩⟩⟩) (t_X9_canDig_0 a0 x1 x2 s h))
theorem dX9_dug_0 : decode cX9_dug 0 = .ok (.aload_n 0, 1) := by decide +kernel
theorem dX9_dug_1 : decode cX9_dug 1 = .ok (.iload_n 1, 1) := by decide +kernel
theorem dX9_dug_2 : decode cX9_dug 2 = .ok (.iload_n 2, 1) := by decide +kernel
theorem dX9_dug_3 : decode cX9_dug 3 = .ok (.invokevirtual 84, 3) := by decide +kernel
theorem dX9_dug_6 : decode cX9_dug 6 = .ok (.ifCond .eq 14, 3) := by decide +kernel
theorem dX9_dug_9 : decode cX9_dug 9 = .ok (.iload_n 3, 1) := by decide +kernel
theorem dX9_dug_10 : decode cX9_dug 10 = .ok (.iload 4, 2) := by decide +kernel
theorem dX9_dug_12 : decode cX9_dug 12 = .ok (.iload 5, 2) := by decide +kernel
theorem dX9_dug_14 : decode cX9_dug 14 = .ok (.invokestatic 197, 3) := by decide +kernel
theorem dX9_dug_17 : decode cX9_dug 17 = .ok (.ifCond .ne 5, 3) := by decide +kernel
theorem dX9_dug_20 : decode cX9_dug 20 = .ok (.iconst (-1), 1) := by decide +kernel
theorem dX9_dug_21 : decode cX9_dug 21 = .ok (.ireturn, 1) := by decide +kernel
theorem dX9_dug_22 : decode cX9_dug 22 = .ok (.aload_n 0, 1) := by decide +kernel
theorem dX9_dug_23 : decode cX9_dug 23 = .ok (.getfield 9, 3) := by decide +kernel
theorem dX9_dug_26 : decode cX9_dug 26 = .ok (.iconst 3, 1) := by decide +kernel
theorem dX9_dug_27 : decode cX9_dug 27 = .ok (.iload_n 1, 1) := by decide +kernel
theorem dX9_dug_28 : decode cX9_dug 28 = .ok (.iadd, 1) := by decide +kernel
theorem dX9_dug_29 : decode cX9_dug 29 = .ok (.dup2, 1) := by decide +kernel
theorem dX9_dug_30 : decode cX9_dug 30 = .ok (.iaload, 1) := by decide +kernel
theorem dX9_dug_31 : decode cX9_dug 31 = .ok (.iload_n 2, 1) := by decide +kernel
theorem dX9_dug_32 : decode cX9_dug 32 = .ok (.isub, 1) := by decide +kernel
theorem dX9_dug_33 : decode cX9_dug 33 = .ok (.iastore, 1) := by decide +kernel
theorem dX9_dug_34 : decode cX9_dug 34 = .ok (.aload_n 0, 1) := by decide +kernel
theorem dX9_dug_35 : decode cX9_dug 35 = .ok (.iload_n 3, 1) := by decide +kernel
theorem dX9_dug_36 : decode cX9_dug 36 = .ok (.iload 4, 2) := by decide +kernel
theorem dX9_dug_38 : decode cX9_dug 38 = .ok (.iload 5, 2) := by decide +kernel
theorem dX9_dug_40 : decode cX9_dug 40 = .ok (.bipush 8, 2) := by decide +kernel
theorem dX9_dug_42 : decode cX9_dug 42 = .ok (.iload 6, 2) := by decide +kernel
theorem dX9_dug_44 : decode cX9_dug 44 = .ok (.invokevirtual 243, 3) := by decide +kernel
theorem dX9_dug_47 : decode cX9_dug 47 = .ok (.istore 7, 2) := by decide +kernel
theorem dX9_dug_49 : decode cX9_dug 49 = .ok (.aload_n 0, 1) := by decide +kernel
theorem dX9_dug_50 : decode cX9_dug 50 = .ok (.getfield 9, 3) := by decide +kernel
theorem dX9_dug_53 : decode cX9_dug 53 = .ok (.iconst 3, 1) := by decide +kernel
theorem dX9_dug_54 : decode cX9_dug 54 = .ok (.iload_n 1, 1) := by decide +kernel
theorem dX9_dug_55 : decode cX9_dug 55 = .ok (.iadd, 1) := by decide +kernel
theorem dX9_dug_56 : decode cX9_dug 56 = .ok (.dup2, 1) := by decide +kernel
theorem dX9_dug_57 : decode cX9_dug 57 = .ok (.iaload, 1) := by decide +kernel
theorem dX9_dug_58 : decode cX9_dug 58 = .ok (.iload_n 2, 1) := by decide +kernel
theorem dX9_dug_59 : decode cX9_dug 59 = .ok (.iadd, 1) := by decide +kernel
theorem dX9_dug_60 : decode cX9_dug 60 = .ok (.iastore, 1) := by decide +kernel
theorem dX9_dug_61 : decode cX9_dug 61 = .ok (.iload 7, 2) := by decide +kernel
theorem dX9_dug_63 : decode cX9_dug 63 = .ok (.ireturn, 1) := by decide +kernel
set_option maxHeartbeats 4000000 in
theorem t_X9_dug_0 {X : sj_X} {s0 : sj_Mem} {N : Nat} {q : Int × sj_Mem} :
    ∀ (a0 : Nat) (x1 : Int) (x2 : Int) (x3 : Int) (x4 : Int) (x5 : Int) (x6 : Int) (s : sj_Mem), f_X9_dug N a0 x1 x2 x3 x4 x5 x6 s = some q → sj_T X m_X9_dug s0 (some (sj_i q.1), q.2) 0 [some (sj_r (some a0)), some (sj_i x1), some (sj_i x2), some (sj_i x3), some (sj_i x4), some (sj_i x5), some (sj_i x6), none] [] s := by
  intro a0 x1 x2 x3 x4 x5 x6 s h
  unfold f_X9_dug at h
  refine r_aload_n (pc := 0) dX9_dug_0 rfl rfl ?_
  refine r_iload_n (pc := 1) dX9_dug_1 rfl rfl ?_
  refine r_iload_n (pc := 2) dX9_dug_2 rfl rfl ?_
  refine r_callV (pc := 3) (fun v => some (sj_i v)) (As := [sj_i x1, sj_i x2]) (rest := []) h dX9_dug_3 mw_X9_84 vw_X9_canDig (fun _ _ hc => c_X9_canDig hc) rfl ⟨(Nat.le_of_ble_eq_true rfl), (Nat.le_of_ble_eq_true rfl)⟩ (Nat.le_of_ble_eq_true rfl) rfl (fun v2 s1 h => ?_)
  refine r_if_eq (pc := 6) (tgt := 20) h dX9_dug_6 (by decide) (fun h => ?_) (fun h => ?_)
  · refine r_iconst (pc := 20) dX9_dug_20 ?_
    exact r_iret (pc := 21) h rfl dX9_dug_21
  · refine r_iload_n (pc := 9) dX9_dug_9 rfl rfl ?_
    refine r_iload (pc := 10) dX9_dug_10 rfl ?_
    refine r_iload (pc := 12) dX9_dug_12 rfl ?_
    refine r_callS (pc := 14) (fun v => some (sj_i v)) (As := [sj_i x3, sj_i x4, sj_i x5]) (rest := []) h dX9_dug_14 mw_X9_197 kw_1284 (fun _ _ hc => c_X9_isCircle hc) rfl ⟨(Nat.le_of_ble_eq_true rfl), (Nat.le_of_ble_eq_true rfl)⟩ (Nat.le_of_ble_eq_true rfl) rfl (fun v4 s3 h => ?_)
    refine r_if_ne (pc := 17) (tgt := 22) h dX9_dug_17 (by decide) (fun h => ?_) (fun h => ?_)
    · refine r_iconst (pc := 20) dX9_dug_20 ?_
      exact r_iret (pc := 21) h rfl dX9_dug_21
    · refine r_aload_n (pc := 22) dX9_dug_22 rfl rfl ?_
      refine r_gR (pc := 23) h dX9_dug_23 fw_X9_9 rfl (fun r5 h => ?_)
      refine r_iconst (pc := 26) dX9_dug_26 ?_
      refine r_iload_n (pc := 27) dX9_dug_27 rfl rfl ?_
      refine r_iadd (pc := 28) dX9_dug_28 ?_
      refine r_dup2_11 (pc := 29) dX9_dug_29 rfl rfl ?_
      obtain ⟨a6, ea6, g⟩ := e_nn_some h
      clear h
      subst ea6
      have h := g
      clear g
      refine r_iaload (pc := 30) h dX9_dug_30 (fun v7 h => ?_)
      refine r_iload_n (pc := 31) dX9_dug_31 rfl rfl ?_
      refine r_isub (pc := 32) dX9_dug_32 ?_
      refine r_iastore (pc := 33) h dX9_dug_33 (fun s8 h => ?_)
      refine r_aload_n (pc := 34) dX9_dug_34 rfl rfl ?_
      refine r_iload_n (pc := 35) dX9_dug_35 rfl rfl ?_
      refine r_iload (pc := 36) dX9_dug_36 rfl ?_
      refine r_iload (pc := 38) dX9_dug_38 rfl ?_
      refine r_bipush (pc := 40) dX9_dug_40 ⟨by decide, by decide⟩ ?_
      refine r_iload (pc := 42) dX9_dug_42 rfl ?_
      refine r_callV (pc := 44) (fun v => some (sj_i v)) (As := [sj_i x3, sj_i x4, sj_i x5, sj_i 8, sj_i x6]) (rest := []) h dX9_dug_44 mw_X9_243 vw_X9_searches (fun _ _ hc => c_X9_searches hc) rfl ⟨(Nat.le_of_ble_eq_true rfl), (Nat.le_of_ble_eq_true rfl)⟩ (Nat.le_of_ble_eq_true rfl) rfl (fun v10 s9 h => ?_)
      refine r_istore (ln := [some (sj_r (some a0)), some (sj_i x1), some (sj_i x2), some (sj_i x3), some (sj_i x4), some (sj_i x5), some (sj_i x6), some (sj_i v10)]) (pc := 47) dX9_dug_47 (Nat.le_of_ble_eq_true rfl) rfl ?_
      refine r_aload_n (pc := 49) dX9_dug_49 rfl rfl ?_
      refine r_gR (pc := 50) h dX9_dug_50 fw_X9_9 rfl (fun r11 h => ?_)
      refine r_iconst (pc := 53) dX9_dug_53 ?_
      refine r_iload_n (pc := 54) dX9_dug_54 rfl rfl ?_
      refine r_iadd (pc := 55) dX9_dug_55 ?_
      refine r_dup2_11 (pc := 56) dX9_dug_56 rfl rfl ?_
      obtain ⟨a12, ea12, g⟩ := e_nn_some h
      clear h
      subst ea12
      have h := g
      clear g
      refine r_iaload (pc := 57) h dX9_dug_57 (fun v13 h => ?_)
      refine r_iload_n (pc := 58) dX9_dug_58 rfl rfl ?_
      refine r_iadd (pc := 59) dX9_dug_59 ?_
      refine r_iastore (pc := 60) h dX9_dug_60 (fun s14 h => ?_)
      refine r_iload (pc := 61) dX9_dug_61 rfl ?_
      exact r_iret (pc := 63) h rfl dX9_dug_63
set_option maxHeartbeats 4000000 in
theorem c_X9_dug {X : sj_X} {N : Nat} {a0 : Nat} {x1 : Int} {x2 : Int} {x3 : Int} {x4 : Int} {x5 : Int} {x6 : Int} {s : sj_Mem} {q : Int × sj_Mem} (h : f_X9_dug N a0 x1 x2 x3 x4 x5 x6 s = some q) : sj_C X m_X9_dug [sj_r (some a0), sj_i x1, sj_i x2, sj_i x3, sj_i x4, sj_i x5, sj_i x6] s (some (sj_i q.1), q.2) :=
  sj_C_of (by decide +kernel) (Nat.le_of_ble_eq_true rfl) (lo := [some (sj_r (some a0)), some (sj_i x1), some (sj_i x2), some (sj_i x3), some (sj_i x4), some (sj_i x5), some (sj_i x6), none]) rfl (sj_weak (l2 := [some (sj_r (some a0)), some (sj_i x1), some (sj_i x2), some (sj_i x3), some (sj_i x4), some (sj_i x5), some (sj_i x6), none]) (⟨rfl, ⟨rfl, ⟨rfl, ⟨rfl, ⟨rfl, ⟨rfl, ⟨rfl, trivial⟩⟩⟩⟩⟩⟩⟩) (t_X9_dug_0 a0 x1 x2 x3 x4 x5 x6 s h))
theorem dX9_adds_0 : decode cX9_adds 0 = .ok (.aload_n 0, 1) := by decide +kernel
theorem dX9_adds_1 : decode cX9_adds 1 = .ok (.iload_n 1, 1) := by decide +kernel
theorem dX9_adds_2 : decode cX9_adds 2 = .ok (.iload_n 2, 1) := by decide +kernel
theorem dX9_adds_3 : decode cX9_adds 3 = .ok (.iload_n 3, 1) := by decide +kernel
theorem dX9_adds_4 : decode cX9_adds 4 = .ok (.iload 4, 2) := by decide +kernel
theorem dX9_adds_6 : decode cX9_adds 6 = .ok (.invokevirtual 157, 3) := by decide +kernel
theorem dX9_adds_9 : decode cX9_adds 9 = .ok (.aload_n 0, 1) := by decide +kernel
theorem dX9_adds_10 : decode cX9_adds 10 = .ok (.iload 5, 2) := by decide +kernel
theorem dX9_adds_12 : decode cX9_adds 12 = .ok (.invokevirtual 171, 3) := by decide +kernel
theorem dX9_adds_15 : decode cX9_adds 15 = .ok (.lstore 6, 2) := by decide +kernel
theorem dX9_adds_17 : decode cX9_adds 17 = .ok (.lload 6, 2) := by decide +kernel
theorem dX9_adds_19 : decode cX9_adds 19 = .ok (.ldc2_w 148, 3) := by decide +kernel
theorem dX9_adds_22 : decode cX9_adds 22 = .ok (.lcmp, 1) := by decide +kernel
theorem dX9_adds_23 : decode cX9_adds 23 = .ok (.ifCond .eq 12, 3) := by decide +kernel
theorem dX9_adds_26 : decode cX9_adds 26 = .ok (.lload 6, 2) := by decide +kernel
theorem dX9_adds_28 : decode cX9_adds 28 = .ok (.ldc2_w 247, 3) := by decide +kernel
theorem dX9_adds_31 : decode cX9_adds 31 = .ok (.lcmp, 1) := by decide +kernel
theorem dX9_adds_32 : decode cX9_adds 32 = .ok (.ifCond .le 9, 3) := by decide +kernel
theorem dX9_adds_35 : decode cX9_adds 35 = .ok (.ldc2_w 249, 3) := by decide +kernel
theorem dX9_adds_38 : decode cX9_adds 38 = .ok (.goto 18, 3) := by decide +kernel
theorem dX9_adds_41 : decode cX9_adds 41 = .ok (.ldc2_w 143, 3) := by decide +kernel
theorem dX9_adds_44 : decode cX9_adds 44 = .ok (.lload 6, 2) := by decide +kernel
theorem dX9_adds_46 : decode cX9_adds 46 = .ok (.lmul, 1) := by decide +kernel
theorem dX9_adds_47 : decode cX9_adds 47 = .ok (.iload 5, 2) := by decide +kernel
theorem dX9_adds_49 : decode cX9_adds 49 = .ok (.i2l, 1) := by decide +kernel
theorem dX9_adds_50 : decode cX9_adds 50 = .ok (.aload_n 0, 1) := by decide +kernel
theorem dX9_adds_51 : decode cX9_adds 51 = .ok (.getfield 145, 3) := by decide +kernel
theorem dX9_adds_54 : decode cX9_adds 54 = .ok (.lmul, 1) := by decide +kernel
theorem dX9_adds_55 : decode cX9_adds 55 = .ok (.lsub, 1) := by decide +kernel
theorem dX9_adds_56 : decode cX9_adds 56 = .ok (.lreturn, 1) := by decide +kernel
set_option maxHeartbeats 4000000 in
theorem t_X9_adds_35 {X : sj_X} {s0 : sj_Mem} {N : Nat} {q : Int × sj_Mem} :
    ∀ (s : sj_Mem), f_X9_adds_35 N s = some q → sj_T X m_X9_adds s0 (some (sj_j q.1), q.2) 35 [none, none, none, none, none, none, none, none] [] s := by
  intro  s h
  unfold f_X9_adds_35 at h
  refine r_ldc2 (n := 4000000000000000000) (pc := 35) dX9_adds_35 kc_X9_249 ?_
  refine r_goto (pc := 38) (tgt := 56) dX9_adds_38 (by decide) ?_
  exact r_lret (pc := 56) h rfl dX9_adds_56
set_option maxHeartbeats 4000000 in
theorem t_X9_adds_0 {X : sj_X} {s0 : sj_Mem} {N : Nat} {q : Int × sj_Mem} :
    ∀ (a0 : Nat) (x1 : Int) (x2 : Int) (x3 : Int) (x4 : Int) (x5 : Int) (s : sj_Mem), f_X9_adds N a0 x1 x2 x3 x4 x5 s = some q → sj_T X m_X9_adds s0 (some (sj_j q.1), q.2) 0 [some (sj_r (some a0)), some (sj_i x1), some (sj_i x2), some (sj_i x3), some (sj_i x4), some (sj_i x5), none, none] [] s := by
  intro a0 x1 x2 x3 x4 x5 s h
  unfold f_X9_adds at h
  refine r_aload_n (pc := 0) dX9_adds_0 rfl rfl ?_
  refine r_iload_n (pc := 1) dX9_adds_1 rfl rfl ?_
  refine r_iload_n (pc := 2) dX9_adds_2 rfl rfl ?_
  refine r_iload_n (pc := 3) dX9_adds_3 rfl rfl ?_
  refine r_iload (pc := 4) dX9_adds_4 rfl ?_
  refine r_callV (pc := 6) (fun _ => none) (As := [sj_i x1, sj_i x2, sj_i x3, sj_i x4]) (rest := []) h dX9_adds_6 mw_X9_157 vw_X9_laysSlice (fun _ _ hc => c_X9_laysSlice hc) rfl ⟨(Nat.le_of_ble_eq_true rfl), (Nat.le_of_ble_eq_true rfl)⟩ (Nat.le_of_ble_eq_true rfl) rfl (fun _u s1 h => ?_)
  refine r_aload_n (pc := 9) dX9_adds_9 rfl rfl ?_
  refine r_iload (pc := 10) dX9_adds_10 rfl ?_
  refine r_callV (pc := 12) (fun v => some (sj_j v)) (As := [sj_i x5]) (rest := []) h dX9_adds_12 mw_X9_171 vw_X9_rubsOf (fun _ _ hc => c_X9_rubsOf hc) rfl ⟨(Nat.le_of_ble_eq_true rfl), (Nat.le_of_ble_eq_true rfl)⟩ (Nat.le_of_ble_eq_true rfl) rfl (fun v3 s2 h => ?_)
  refine r_lstore (ln := [some (sj_r (some a0)), some (sj_i x1), some (sj_i x2), some (sj_i x3), some (sj_i x4), some (sj_i x5), some (sj_j v3), none]) (pc := 15) dX9_adds_15 (Nat.le_of_ble_eq_true rfl) rfl ?_
  refine r_lload (pc := 17) dX9_adds_17 rfl ?_
  refine r_ldc2 (n := -1) (pc := 19) dX9_adds_19 kc_X9_148 ?_
  refine r_leq (pc := 22) (tgt := 35) h dX9_adds_22 rfl dX9_adds_23 (by decide) (fun h => ?_) (fun h => ?_)
  · exact sj_weak (l2 := [none, none, none, none, none, none, none, none]) (trivial) (t_X9_adds_35 s2 h)
  · refine r_lload (pc := 26) dX9_adds_26 rfl ?_
    refine r_ldc2 (n := 10000000000000) (pc := 28) dX9_adds_28 kc_X9_247 ?_
    refine r_lle (pc := 31) (tgt := 41) h dX9_adds_31 rfl dX9_adds_32 (by decide) (fun h => ?_) (fun h => ?_)
    · refine r_ldc2 (n := 1000) (pc := 41) dX9_adds_41 kc_X9_143 ?_
      refine r_lload (pc := 44) dX9_adds_44 rfl ?_
      refine r_lmul (pc := 46) dX9_adds_46 ?_
      refine r_iload (pc := 47) dX9_adds_47 rfl ?_
      refine r_i2l (pc := 49) h dX9_adds_49 (fun v4 h => ?_)
      refine r_aload_n (pc := 50) dX9_adds_50 rfl rfl ?_
      refine r_gJ (pc := 51) h dX9_adds_51 fw_X9_145 rfl (fun v5 h => ?_)
      refine r_lmul (pc := 54) dX9_adds_54 ?_
      refine r_lsub (pc := 55) dX9_adds_55 ?_
      exact r_lret (pc := 56) h rfl dX9_adds_56
    · exact sj_weak (l2 := [none, none, none, none, none, none, none, none]) (trivial) (t_X9_adds_35 s2 h)
set_option maxHeartbeats 4000000 in
theorem c_X9_adds {X : sj_X} {N : Nat} {a0 : Nat} {x1 : Int} {x2 : Int} {x3 : Int} {x4 : Int} {x5 : Int} {s : sj_Mem} {q : Int × sj_Mem} (h : f_X9_adds N a0 x1 x2 x3 x4 x5 s = some q) : sj_C X m_X9_adds [sj_r (some a0), sj_i x1, sj_i x2, sj_i x3, sj_i x4, sj_i x5] s (some (sj_j q.1), q.2) :=
  sj_C_of (by decide +kernel) (Nat.le_of_ble_eq_true rfl) (lo := [some (sj_r (some a0)), some (sj_i x1), some (sj_i x2), some (sj_i x3), some (sj_i x4), some (sj_i x5), none, none]) rfl (sj_weak (l2 := [some (sj_r (some a0)), some (sj_i x1), some (sj_i x2), some (sj_i x3), some (sj_i x4), some (sj_i x5), none, none]) (⟨rfl, ⟨rfl, ⟨rfl, ⟨rfl, ⟨rfl, ⟨rfl, trivial⟩⟩⟩⟩⟩⟩) (t_X9_adds_0 a0 x1 x2 x3 x4 x5 s h))
theorem dX9_comes_0 : decode cX9_comes 0 = .ok (.bipush 101, 2) := by decide +kernel
theorem dX9_comes_2 : decode cX9_comes 2 = .ok (.iload_n 1, 1) := by decide +kernel
theorem dX9_comes_3 : decode cX9_comes 3 = .ok (.imul, 1) := by decide +kernel
theorem dX9_comes_4 : decode cX9_comes 4 = .ok (.iload_n 2, 1) := by decide +kernel
theorem dX9_comes_5 : decode cX9_comes 5 = .ok (.iadd, 1) := by decide +kernel
theorem dX9_comes_6 : decode cX9_comes 6 = .ok (.istore 6, 2) := by decide +kernel
theorem dX9_comes_8 : decode cX9_comes 8 = .ok (.iconst 0, 1) := by decide +kernel
theorem dX9_comes_9 : decode cX9_comes 9 = .ok (.iload_n 2, 1) := by decide +kernel
theorem dX9_comes_10 : decode cX9_comes 10 = .ok (.iload_n 3, 1) := by decide +kernel
theorem dX9_comes_11 : decode cX9_comes 11 = .ok (.isub, 1) := by decide +kernel
theorem dX9_comes_12 : decode cX9_comes 12 = .ok (.invokestatic 111, 3) := by decide +kernel
theorem dX9_comes_15 : decode cX9_comes 15 = .ok (.istore 7, 2) := by decide +kernel
theorem dX9_comes_17 : decode cX9_comes 17 = .ok (.iload 7, 2) := by decide +kernel
theorem dX9_comes_19 : decode cX9_comes 19 = .ok (.bipush 100, 2) := by decide +kernel
theorem dX9_comes_21 : decode cX9_comes 21 = .ok (.iload_n 2, 1) := by decide +kernel
theorem dX9_comes_22 : decode cX9_comes 22 = .ok (.iload_n 3, 1) := by decide +kernel
theorem dX9_comes_23 : decode cX9_comes 23 = .ok (.iadd, 1) := by decide +kernel
theorem dX9_comes_24 : decode cX9_comes 24 = .ok (.invokestatic 104, 3) := by decide +kernel
theorem dX9_comes_27 : decode cX9_comes 27 = .ok (.if_icmp .gt 102, 3) := by decide +kernel
theorem dX9_comes_30 : decode cX9_comes 30 = .ok (.aload_n 0, 1) := by decide +kernel
theorem dX9_comes_31 : decode cX9_comes 31 = .ok (.getfield 29, 3) := by decide +kernel
theorem dX9_comes_34 : decode cX9_comes 34 = .ok (.bipush 101, 2) := by decide +kernel
theorem dX9_comes_36 : decode cX9_comes 36 = .ok (.iload_n 1, 1) := by decide +kernel
theorem dX9_comes_37 : decode cX9_comes 37 = .ok (.iconst 1, 1) := by decide +kernel
theorem dX9_comes_38 : decode cX9_comes 38 = .ok (.isub, 1) := by decide +kernel
theorem dX9_comes_39 : decode cX9_comes 39 = .ok (.imul, 1) := by decide +kernel
theorem dX9_comes_40 : decode cX9_comes 40 = .ok (.iload 7, 2) := by decide +kernel
theorem dX9_comes_42 : decode cX9_comes 42 = .ok (.iadd, 1) := by decide +kernel
theorem dX9_comes_43 : decode cX9_comes 43 = .ok (.laload, 1) := by decide +kernel
theorem dX9_comes_44 : decode cX9_comes 44 = .ok (.lstore 8, 2) := by decide +kernel
theorem dX9_comes_46 : decode cX9_comes 46 = .ok (.lload 8, 2) := by decide +kernel
theorem dX9_comes_48 : decode cX9_comes 48 = .ok (.ldc2_w 249, 3) := by decide +kernel
theorem dX9_comes_51 : decode cX9_comes 51 = .ok (.lcmp, 1) := by decide +kernel
theorem dX9_comes_52 : decode cX9_comes 52 = .ok (.ifCond .ne 6, 3) := by decide +kernel
theorem dX9_comes_55 : decode cX9_comes 55 = .ok (.goto 68, 3) := by decide +kernel
theorem dX9_comes_58 : decode cX9_comes 58 = .ok (.aload_n 0, 1) := by decide +kernel
theorem dX9_comes_59 : decode cX9_comes 59 = .ok (.iload_n 1, 1) := by decide +kernel
theorem dX9_comes_60 : decode cX9_comes 60 = .ok (.iconst 1, 1) := by decide +kernel
theorem dX9_comes_61 : decode cX9_comes 61 = .ok (.isub, 1) := by decide +kernel
theorem dX9_comes_62 : decode cX9_comes 62 = .ok (.iload 7, 2) := by decide +kernel
theorem dX9_comes_64 : decode cX9_comes 64 = .ok (.iload_n 2, 1) := by decide +kernel
theorem dX9_comes_65 : decode cX9_comes 65 = .ok (.iload 4, 2) := by decide +kernel
theorem dX9_comes_67 : decode cX9_comes 67 = .ok (.iload 5, 2) := by decide +kernel
theorem dX9_comes_69 : decode cX9_comes 69 = .ok (.invokevirtual 255, 3) := by decide +kernel
theorem dX9_comes_72 : decode cX9_comes 72 = .ok (.lstore 10, 2) := by decide +kernel
theorem dX9_comes_74 : decode cX9_comes 74 = .ok (.lload 10, 2) := by decide +kernel
theorem dX9_comes_76 : decode cX9_comes 76 = .ok (.ldc2_w 249, 3) := by decide +kernel
theorem dX9_comes_79 : decode cX9_comes 79 = .ok (.lcmp, 1) := by decide +kernel
theorem dX9_comes_80 : decode cX9_comes 80 = .ok (.ifCond .eq 43, 3) := by decide +kernel
theorem dX9_comes_83 : decode cX9_comes 83 = .ok (.lload 8, 2) := by decide +kernel
theorem dX9_comes_85 : decode cX9_comes 85 = .ok (.lload 10, 2) := by decide +kernel
theorem dX9_comes_87 : decode cX9_comes 87 = .ok (.ladd, 1) := by decide +kernel
theorem dX9_comes_88 : decode cX9_comes 88 = .ok (.aload_n 0, 1) := by decide +kernel
theorem dX9_comes_89 : decode cX9_comes 89 = .ok (.getfield 29, 3) := by decide +kernel
theorem dX9_comes_92 : decode cX9_comes 92 = .ok (.iload 6, 2) := by decide +kernel
theorem dX9_comes_94 : decode cX9_comes 94 = .ok (.laload, 1) := by decide +kernel
theorem dX9_comes_95 : decode cX9_comes 95 = .ok (.lcmp, 1) := by decide +kernel
theorem dX9_comes_96 : decode cX9_comes 96 = .ok (.ifCond .lt 6, 3) := by decide +kernel
theorem dX9_comes_99 : decode cX9_comes 99 = .ok (.goto 24, 3) := by decide +kernel
theorem dX9_comes_102 : decode cX9_comes 102 = .ok (.aload_n 0, 1) := by decide +kernel
theorem dX9_comes_103 : decode cX9_comes 103 = .ok (.getfield 29, 3) := by decide +kernel
theorem dX9_comes_106 : decode cX9_comes 106 = .ok (.iload 6, 2) := by decide +kernel
theorem dX9_comes_108 : decode cX9_comes 108 = .ok (.lload 8, 2) := by decide +kernel
theorem dX9_comes_110 : decode cX9_comes 110 = .ok (.lload 10, 2) := by decide +kernel
theorem dX9_comes_112 : decode cX9_comes 112 = .ok (.ladd, 1) := by decide +kernel
theorem dX9_comes_113 : decode cX9_comes 113 = .ok (.lastore, 1) := by decide +kernel
theorem dX9_comes_114 : decode cX9_comes 114 = .ok (.aload_n 0, 1) := by decide +kernel
theorem dX9_comes_115 : decode cX9_comes 115 = .ok (.getfield 33, 3) := by decide +kernel
theorem dX9_comes_118 : decode cX9_comes 118 = .ok (.iload 6, 2) := by decide +kernel
theorem dX9_comes_120 : decode cX9_comes 120 = .ok (.iload 7, 2) := by decide +kernel
theorem dX9_comes_122 : decode cX9_comes 122 = .ok (.iastore, 1) := by decide +kernel
theorem dX9_comes_123 : decode cX9_comes 123 = .ok (.iinc 7 1, 3) := by decide +kernel
theorem dX9_comes_126 : decode cX9_comes 126 = .ok (.goto (-109), 3) := by decide +kernel
theorem dX9_comes_129 : decode cX9_comes 129 = .ok (.return_, 1) := by decide +kernel
set_option maxHeartbeats 4000000 in
theorem t_X9_comes_123 {X : sj_X} {s0 : sj_Mem} {N : Nat} {q : Unit × sj_Mem} {k17 : Nat → Int → Int → Int → Int → Int → Int → Int → sj_Mem → Option (Unit × sj_Mem)} (hk17 : ∀ (a0 : Nat) (x1 : Int) (x2 : Int) (x3 : Int) (x4 : Int) (x5 : Int) (x6 : Int) (x7 : Int) (s : sj_Mem), k17 a0 x1 x2 x3 x4 x5 x6 x7 s = some q → sj_T X m_X9_comes s0 (none, q.2) 17 [some (sj_r (some a0)), some (sj_i x1), some (sj_i x2), some (sj_i x3), some (sj_i x4), some (sj_i x5), some (sj_i x6), some (sj_i x7), none, none, none, none] [] s) :
    ∀ (a0 : Nat) (x1 : Int) (x2 : Int) (x3 : Int) (x4 : Int) (x5 : Int) (x6 : Int) (x7 : Int) (s : sj_Mem), f_X9_comes_123 N k17 a0 x1 x2 x3 x4 x5 x6 x7 s = some q → sj_T X m_X9_comes s0 (none, q.2) 123 [some (sj_r (some a0)), some (sj_i x1), some (sj_i x2), some (sj_i x3), some (sj_i x4), some (sj_i x5), some (sj_i x6), some (sj_i x7), none, none, none, none] [] s := by
  intro a0 x1 x2 x3 x4 x5 x6 x7 s h
  unfold f_X9_comes_123 at h
  refine r_iinc (ln := fun w => [some (sj_r (some a0)), some (sj_i x1), some (sj_i x2), some (sj_i x3), some (sj_i x4), some (sj_i x5), some (sj_i x6), some (sj_i w), none, none, none, none]) (pc := 123) h dX9_comes_123 rfl (Nat.le_of_ble_eq_true rfl) (fun _ => rfl) (fun v1 h => ?_)
  refine r_goto (pc := 126) (tgt := 17) dX9_comes_126 (by decide) ?_
  exact sj_weak (l2 := [some (sj_r (some a0)), some (sj_i x1), some (sj_i x2), some (sj_i x3), some (sj_i x4), some (sj_i x5), some (sj_i x6), some (sj_i v1), none, none, none, none]) (⟨rfl, ⟨rfl, ⟨rfl, ⟨rfl, ⟨rfl, ⟨rfl, ⟨rfl, ⟨rfl, trivial⟩⟩⟩⟩⟩⟩⟩⟩) (hk17 a0 x1 x2 x3 x4 x5 x6 v1 s h)
set_option maxHeartbeats 4000000 in
theorem t_X9_comes_17_b {X : sj_X} {s0 : sj_Mem} {N : Nat} {q : Unit × sj_Mem} {k17 : Nat → Int → Int → Int → Int → Int → Int → Int → sj_Mem → Option (Unit × sj_Mem)} (hk17 : ∀ (a0 : Nat) (x1 : Int) (x2 : Int) (x3 : Int) (x4 : Int) (x5 : Int) (x6 : Int) (x7 : Int) (s : sj_Mem), k17 a0 x1 x2 x3 x4 x5 x6 x7 s = some q → sj_T X m_X9_comes s0 (none, q.2) 17 [some (sj_r (some a0)), some (sj_i x1), some (sj_i x2), some (sj_i x3), some (sj_i x4), some (sj_i x5), some (sj_i x6), some (sj_i x7), none, none, none, none] [] s) :
    ∀ (a0 : Nat) (x1 : Int) (x2 : Int) (x3 : Int) (x4 : Int) (x5 : Int) (x6 : Int) (x7 : Int) (s : sj_Mem), f_X9_comes_17_b N k17 a0 x1 x2 x3 x4 x5 x6 x7 s = some q → sj_T X m_X9_comes s0 (none, q.2) 17 [some (sj_r (some a0)), some (sj_i x1), some (sj_i x2), some (sj_i x3), some (sj_i x4), some (sj_i x5), some (sj_i x6), some (sj_i x7), none, none, none, none] [] s := by
  intro a0 x1 x2 x3 x4 x5 x6 x7 s h
  unfold f_X9_comes_17_b at h
  refine r_iload (pc := 17) dX9_comes_17 rfl ?_
  refine r_bipush (pc := 19) dX9_comes_19 ⟨by decide, by decide⟩ ?_
  refine r_iload_n (pc := 21) dX9_comes_21 rfl rfl ?_
  refine r_iload_n (pc := 22) dX9_comes_22 rfl rfl ?_
  refine r_iadd (pc := 23) dX9_comes_23 ?_
  refine r_callS (pc := 24) (fun v => some (sj_i v)) (As := [sj_i 100, sj_i (x2 + x3)]) (rest := [(sj_i x7)]) h dX9_comes_24 mw_X9_104 kw_1352 (fun _ _ hc => c_X9_least hc) rfl ⟨(Nat.le_of_ble_eq_true rfl), (Nat.le_of_ble_eq_true rfl)⟩ (Nat.le_of_ble_eq_true rfl) rfl (fun v2 s1 h => ?_)
  refine r_icmp_gt (pc := 27) (tgt := 129) h dX9_comes_27 (by decide) (fun h => ?_) (fun h => ?_)
  · exact r_vret (pc := 129) h rfl dX9_comes_129
  · refine r_aload_n (pc := 30) dX9_comes_30 rfl rfl ?_
    refine r_gR (pc := 31) h dX9_comes_31 fw_X9_29 rfl (fun r3 h => ?_)
    refine r_bipush (pc := 34) dX9_comes_34 ⟨by decide, by decide⟩ ?_
    refine r_iload_n (pc := 36) dX9_comes_36 rfl rfl ?_
    refine r_iconst (pc := 37) dX9_comes_37 ?_
    refine r_isub (pc := 38) dX9_comes_38 ?_
    refine r_imul (pc := 39) dX9_comes_39 ?_
    refine r_iload (pc := 40) dX9_comes_40 rfl ?_
    refine r_iadd (pc := 42) dX9_comes_42 ?_
    obtain ⟨a4, ea4, g⟩ := e_nn_some h
    clear h
    subst ea4
    have h := g
    clear g
    refine r_laload (pc := 43) h dX9_comes_43 (fun v5 h => ?_)
    refine r_lstore (ln := [some (sj_r (some a0)), some (sj_i x1), some (sj_i x2), some (sj_i x3), some (sj_i x4), some (sj_i x5), some (sj_i x6), some (sj_i x7), some (sj_j v5), none, none, none]) (pc := 44) dX9_comes_44 (Nat.le_of_ble_eq_true rfl) rfl ?_
    refine r_lload (pc := 46) dX9_comes_46 rfl ?_
    refine r_ldc2 (n := 4000000000000000000) (pc := 48) dX9_comes_48 kc_X9_249 ?_
    refine r_lne (pc := 51) (tgt := 58) h dX9_comes_51 rfl dX9_comes_52 (by decide) (fun h => ?_) (fun h => ?_)
    · refine r_goto (pc := 55) (tgt := 123) dX9_comes_55 (by decide) ?_
      exact sj_weak (l2 := [some (sj_r (some a0)), some (sj_i x1), some (sj_i x2), some (sj_i x3), some (sj_i x4), some (sj_i x5), some (sj_i x6), some (sj_i x7), none, none, none, none]) (⟨rfl, ⟨rfl, ⟨rfl, ⟨rfl, ⟨rfl, ⟨rfl, ⟨rfl, ⟨rfl, trivial⟩⟩⟩⟩⟩⟩⟩⟩) (t_X9_comes_123 hk17 a0 x1 x2 x3 x4 x5 x6 x7 s1 h)
    · refine r_aload_n (pc := 58) dX9_comes_58 rfl rfl ?_
      refine r_iload_n (pc := 59) dX9_comes_59 rfl rfl ?_
      refine r_iconst (pc := 60) dX9_comes_60 ?_
      refine r_isub (pc := 61) dX9_comes_61 ?_
      refine r_iload (pc := 62) dX9_comes_62 rfl ?_
      refine r_iload_n (pc := 64) dX9_comes_64 rfl rfl ?_
      refine r_iload (pc := 65) dX9_comes_65 rfl ?_
      refine r_iload (pc := 67) dX9_comes_67 rfl ?_
      refine r_callV (pc := 69) (fun v => some (sj_j v)) (As := [sj_i (x1 - 1), sj_i x7, sj_i x2, sj_i x4, sj_i x5]) (rest := []) h dX9_comes_69 mw_X9_255 vw_X9_adds (fun _ _ hc => c_X9_adds hc) rfl ⟨(Nat.le_of_ble_eq_true rfl), (Nat.le_of_ble_eq_true rfl)⟩ (Nat.le_of_ble_eq_true rfl) rfl (fun v7 s6 h => ?_)
      refine r_lstore (ln := [some (sj_r (some a0)), some (sj_i x1), some (sj_i x2), some (sj_i x3), some (sj_i x4), some (sj_i x5), some (sj_i x6), some (sj_i x7), some (sj_j v5), none, some (sj_j v7), none]) (pc := 72) dX9_comes_72 (Nat.le_of_ble_eq_true rfl) rfl ?_
      refine r_lload (pc := 74) dX9_comes_74 rfl ?_
      refine r_ldc2 (n := 4000000000000000000) (pc := 76) dX9_comes_76 kc_X9_249 ?_
      refine r_leq (pc := 79) (tgt := 123) h dX9_comes_79 rfl dX9_comes_80 (by decide) (fun h => ?_) (fun h => ?_)
      · exact sj_weak (l2 := [some (sj_r (some a0)), some (sj_i x1), some (sj_i x2), some (sj_i x3), some (sj_i x4), some (sj_i x5), some (sj_i x6), some (sj_i x7), none, none, none, none]) (⟨rfl, ⟨rfl, ⟨rfl, ⟨rfl, ⟨rfl, ⟨rfl, ⟨rfl, ⟨rfl, trivial⟩⟩⟩⟩⟩⟩⟩⟩) (t_X9_comes_123 hk17 a0 x1 x2 x3 x4 x5 x6 x7 s6 h)
      · refine r_lload (pc := 83) dX9_comes_83 rfl ?_
        refine r_lload (pc := 85) dX9_comes_85 rfl ?_
        refine r_ladd (pc := 87) dX9_comes_87 ?_
        refine r_aload_n (pc := 88) dX9_comes_88 rfl rfl ?_
        refine r_gR (pc := 89) h dX9_comes_89 fw_X9_29 rfl (fun r8 h => ?_)
        refine r_iload (pc := 92) dX9_comes_92 rfl ?_
        obtain ⟨a9, ea9, g⟩ := e_nn_some h
        clear h
        subst ea9
        have h := g
        clear g
        refine r_laload (pc := 94) h dX9_comes_94 (fun v10 h => ?_)
        refine r_llt (pc := 95) (tgt := 102) h dX9_comes_95 rfl dX9_comes_96 (by decide) (fun h => ?_) (fun h => ?_)
        · refine r_aload_n (pc := 102) dX9_comes_102 rfl rfl ?_
          refine r_gR (pc := 103) h dX9_comes_103 fw_X9_29 rfl (fun r11 h => ?_)
          refine r_iload (pc := 106) dX9_comes_106 rfl ?_
          refine r_lload (pc := 108) dX9_comes_108 rfl ?_
          refine r_lload (pc := 110) dX9_comes_110 rfl ?_
          refine r_ladd (pc := 112) dX9_comes_112 ?_
          obtain ⟨a12, ea12, g⟩ := e_nn_some h
          clear h
          subst ea12
          have h := g
          clear g
          refine r_lastore (pc := 113) h dX9_comes_113 (fun s13 h => ?_)
          refine r_aload_n (pc := 114) dX9_comes_114 rfl rfl ?_
          refine r_gR (pc := 115) h dX9_comes_115 fw_X9_33 rfl (fun r14 h => ?_)
          refine r_iload (pc := 118) dX9_comes_118 rfl ?_
          refine r_iload (pc := 120) dX9_comes_120 rfl ?_
          obtain ⟨a15, ea15, g⟩ := e_nn_some h
          clear h
          subst ea15
          have h := g
          clear g
          refine r_iastore (pc := 122) h dX9_comes_122 (fun s16 h => ?_)
          exact sj_weak (l2 := [some (sj_r (some a0)), some (sj_i x1), some (sj_i x2), some (sj_i x3), some (sj_i x4), some (sj_i x5), some (sj_i x6), some (sj_i x7), none, none, none, none]) (⟨rfl, ⟨rfl, ⟨rfl, ⟨rfl, ⟨rfl, ⟨rfl, ⟨rfl, ⟨rfl, trivial⟩⟩⟩⟩⟩⟩⟩⟩) (t_X9_comes_123 hk17 a0 x1 x2 x3 x4 x5 x6 x7 s16 h)
        · refine r_goto (pc := 99) (tgt := 123) dX9_comes_99 (by decide) ?_
          exact sj_weak (l2 := [some (sj_r (some a0)), some (sj_i x1), some (sj_i x2), some (sj_i x3), some (sj_i x4), some (sj_i x5), some (sj_i x6), some (sj_i x7), none, none, none, none]) (⟨rfl, ⟨rfl, ⟨rfl, ⟨rfl, ⟨rfl, ⟨rfl, ⟨rfl, ⟨rfl, trivial⟩⟩⟩⟩⟩⟩⟩⟩) (t_X9_comes_123 hk17 a0 x1 x2 x3 x4 x5 x6 x7 s6 h)
set_option maxHeartbeats 4000000 in
theorem t_X9_comes_17 {X : sj_X} {s0 : sj_Mem} {N : Nat} {q : Unit × sj_Mem} :
    ∀ (n : Nat) (a0 : Nat) (x1 : Int) (x2 : Int) (x3 : Int) (x4 : Int) (x5 : Int) (x6 : Int) (x7 : Int) (s : sj_Mem), f_X9_comes_17 N n a0 x1 x2 x3 x4 x5 x6 x7 s = some q → sj_T X m_X9_comes s0 (none, q.2) 17 [some (sj_r (some a0)), some (sj_i x1), some (sj_i x2), some (sj_i x3), some (sj_i x4), some (sj_i x5), some (sj_i x6), some (sj_i x7), none, none, none, none] [] s := by
  intro n
  induction n with
  | zero => intro a0 x1 x2 x3 x4 x5 x6 x7 s h; exact nomatch h
  | succ n ih => intro a0 x1 x2 x3 x4 x5 x6 x7 s h; exact t_X9_comes_17_b (N := N) ih a0 x1 x2 x3 x4 x5 x6 x7 s h
set_option maxHeartbeats 4000000 in
theorem t_X9_comes_0 {X : sj_X} {s0 : sj_Mem} {N : Nat} {q : Unit × sj_Mem} :
    ∀ (a0 : Nat) (x1 : Int) (x2 : Int) (x3 : Int) (x4 : Int) (x5 : Int) (s : sj_Mem), f_X9_comes N a0 x1 x2 x3 x4 x5 s = some q → sj_T X m_X9_comes s0 (none, q.2) 0 [some (sj_r (some a0)), some (sj_i x1), some (sj_i x2), some (sj_i x3), some (sj_i x4), some (sj_i x5), none, none, none, none, none, none] [] s := by
  intro a0 x1 x2 x3 x4 x5 s h
  unfold f_X9_comes at h
  refine r_bipush (pc := 0) dX9_comes_0 ⟨by decide, by decide⟩ ?_
  refine r_iload_n (pc := 2) dX9_comes_2 rfl rfl ?_
  refine r_imul (pc := 3) dX9_comes_3 ?_
  refine r_iload_n (pc := 4) dX9_comes_4 rfl rfl ?_
  refine r_iadd (pc := 5) dX9_comes_5 ?_
  refine r_istoreL (ln := fun w => [some (sj_r (some a0)), some (sj_i x1), some (sj_i x2), some (sj_i x3), some (sj_i x4), some (sj_i x5), some (sj_i w), none, none, none, none, none]) (pc := 6) h dX9_comes_6 (Nat.le_of_ble_eq_true rfl) (fun _ => rfl) (fun v1 h => ?_)
  refine r_iconst (pc := 8) dX9_comes_8 ?_
  refine r_iload_n (pc := 9) dX9_comes_9 rfl rfl ?_
  refine r_iload_n (pc := 10) dX9_comes_10 rfl rfl ?_
  refine r_isub (pc := 11) dX9_comes_11 ?_
  refine r_callS (pc := 12) (fun v => some (sj_i v)) (As := [sj_i 0, sj_i (x2 - x3)]) (rest := []) h dX9_comes_12 mw_X9_111 kw_1300 (fun _ _ hc => c_X9_most hc) rfl ⟨(Nat.le_of_ble_eq_true rfl), (Nat.le_of_ble_eq_true rfl)⟩ (Nat.le_of_ble_eq_true rfl) rfl (fun v3 s2 h => ?_)
  refine r_istore (ln := [some (sj_r (some a0)), some (sj_i x1), some (sj_i x2), some (sj_i x3), some (sj_i x4), some (sj_i x5), some (sj_i v1), some (sj_i v3), none, none, none, none]) (pc := 15) dX9_comes_15 (Nat.le_of_ble_eq_true rfl) rfl ?_
  exact sj_weak (l2 := [some (sj_r (some a0)), some (sj_i x1), some (sj_i x2), some (sj_i x3), some (sj_i x4), some (sj_i x5), some (sj_i v1), some (sj_i v3), none, none, none, none]) (⟨rfl, ⟨rfl, ⟨rfl, ⟨rfl, ⟨rfl, ⟨rfl, ⟨rfl, ⟨rfl, trivial⟩⟩⟩⟩⟩⟩⟩⟩) (t_X9_comes_17 N a0 x1 x2 x3 x4 x5 v1 v3 s2 h)
set_option maxHeartbeats 4000000 in
theorem c_X9_comes {X : sj_X} {N : Nat} {a0 : Nat} {x1 : Int} {x2 : Int} {x3 : Int} {x4 : Int} {x5 : Int} {s : sj_Mem} {q : Unit × sj_Mem} (h : f_X9_comes N a0 x1 x2 x3 x4 x5 s = some q) : sj_C X m_X9_comes [sj_r (some a0), sj_i x1, sj_i x2, sj_i x3, sj_i x4, sj_i x5] s (none, q.2) :=
  sj_C_of (by decide +kernel) (Nat.le_of_ble_eq_true rfl) (lo := [some (sj_r (some a0)), some (sj_i x1), some (sj_i x2), some (sj_i x3), some (sj_i x4), some (sj_i x5), none, none, none, none, none, none]) rfl (sj_weak (l2 := [some (sj_r (some a0)), some (sj_i x1), some (sj_i x2), some (sj_i x3), some (sj_i x4), some (sj_i x5), none, none, none, none, none, none]) (⟨rfl, ⟨rfl, ⟨rfl, ⟨rfl, ⟨rfl, ⟨rfl, trivial⟩⟩⟩⟩⟩⟩) (t_X9_comes_0 a0 x1 x2 x3 x4 x5 s h))
theorem dX9_goes_0 : decode cX9_goes 0 = .ok (.ldc2_w 249, 3) := by decide +kernel
theorem dX9_goes_3 : decode cX9_goes 3 = .ok (.lstore 6, 2) := by decide +kernel
theorem dX9_goes_5 : decode cX9_goes 5 = .ok (.iload_n 1, 1) := by decide +kernel
theorem dX9_goes_6 : decode cX9_goes 6 = .ok (.istore 8, 2) := by decide +kernel
theorem dX9_goes_8 : decode cX9_goes 8 = .ok (.iload 8, 2) := by decide +kernel
theorem dX9_goes_10 : decode cX9_goes 10 = .ok (.aload_n 0, 1) := by decide +kernel
theorem dX9_goes_11 : decode cX9_goes 11 = .ok (.getfield 9, 3) := by decide +kernel
theorem dX9_goes_14 : decode cX9_goes 14 = .ok (.iconst 0, 1) := by decide +kernel
theorem dX9_goes_15 : decode cX9_goes 15 = .ok (.iaload, 1) := by decide +kernel
theorem dX9_goes_16 : decode cX9_goes 16 = .ok (.if_icmp .gt 183, 3) := by decide +kernel
theorem dX9_goes_19 : decode cX9_goes 19 = .ok (.iconst 0, 1) := by decide +kernel
theorem dX9_goes_20 : decode cX9_goes 20 = .ok (.istore 9, 2) := by decide +kernel
theorem dX9_goes_22 : decode cX9_goes 22 = .ok (.iload 9, 2) := by decide +kernel
theorem dX9_goes_24 : decode cX9_goes 24 = .ok (.bipush 101, 2) := by decide +kernel
theorem dX9_goes_26 : decode cX9_goes 26 = .ok (.if_icmp .ge 90, 3) := by decide +kernel
theorem dX9_goes_29 : decode cX9_goes 29 = .ok (.aload_n 0, 1) := by decide +kernel
theorem dX9_goes_30 : decode cX9_goes 30 = .ok (.getfield 29, 3) := by decide +kernel
theorem dX9_goes_33 : decode cX9_goes 33 = .ok (.bipush 101, 2) := by decide +kernel
theorem dX9_goes_35 : decode cX9_goes 35 = .ok (.iload 8, 2) := by decide +kernel
theorem dX9_goes_37 : decode cX9_goes 37 = .ok (.imul, 1) := by decide +kernel
theorem dX9_goes_38 : decode cX9_goes 38 = .ok (.iload 9, 2) := by decide +kernel
theorem dX9_goes_40 : decode cX9_goes 40 = .ok (.iadd, 1) := by decide +kernel
theorem dX9_goes_41 : decode cX9_goes 41 = .ok (.ldc2_w 249, 3) := by decide +kernel
theorem dX9_goes_44 : decode cX9_goes 44 = .ok (.lastore, 1) := by decide +kernel
theorem dX9_goes_45 : decode cX9_goes 45 = .ok (.iload 8, 2) := by decide +kernel
theorem dX9_goes_47 : decode cX9_goes 47 = .ok (.iload_n 1, 1) := by decide +kernel
theorem dX9_goes_48 : decode cX9_goes 48 = .ok (.if_icmp .eq 62, 3) := by decide +kernel
theorem dX9_goes_51 : decode cX9_goes 51 = .ok (.iload 9, 2) := by decide +kernel
theorem dX9_goes_53 : decode cX9_goes 53 = .ok (.aload_n 0, 1) := by decide +kernel
theorem dX9_goes_54 : decode cX9_goes 54 = .ok (.getfield 9, 3) := by decide +kernel
theorem dX9_goes_57 : decode cX9_goes 57 = .ok (.iconst 3, 1) := by decide +kernel
theorem dX9_goes_58 : decode cX9_goes 58 = .ok (.iload 8, 2) := by decide +kernel
theorem dX9_goes_60 : decode cX9_goes 60 = .ok (.iadd, 1) := by decide +kernel
theorem dX9_goes_61 : decode cX9_goes 61 = .ok (.iaload, 1) := by decide +kernel
theorem dX9_goes_62 : decode cX9_goes 62 = .ok (.if_icmp .gt 48, 3) := by decide +kernel
theorem dX9_goes_65 : decode cX9_goes 65 = .ok (.iload 9, 2) := by decide +kernel
theorem dX9_goes_67 : decode cX9_goes 67 = .ok (.aload_n 0, 1) := by decide +kernel
theorem dX9_goes_68 : decode cX9_goes 68 = .ok (.getfield 9, 3) := by decide +kernel
theorem dX9_goes_71 : decode cX9_goes 71 = .ok (.iconst 3, 1) := by decide +kernel
theorem dX9_goes_72 : decode cX9_goes 72 = .ok (.iload 8, 2) := by decide +kernel
theorem dX9_goes_74 : decode cX9_goes 74 = .ok (.iadd, 1) := by decide +kernel
theorem dX9_goes_75 : decode cX9_goes 75 = .ok (.iaload, 1) := by decide +kernel
theorem dX9_goes_76 : decode cX9_goes 76 = .ok (.if_icmp .ge 21, 3) := by decide +kernel
theorem dX9_goes_79 : decode cX9_goes 79 = .ok (.iload 9, 2) := by decide +kernel
theorem dX9_goes_81 : decode cX9_goes 81 = .ok (.aload_n 0, 1) := by decide +kernel
theorem dX9_goes_82 : decode cX9_goes 82 = .ok (.getfield 9, 3) := by decide +kernel
theorem dX9_goes_85 : decode cX9_goes 85 = .ok (.bipush 44, 2) := by decide +kernel
theorem dX9_goes_87 : decode cX9_goes 87 = .ok (.iload 8, 2) := by decide +kernel
theorem dX9_goes_89 : decode cX9_goes 89 = .ok (.iadd, 1) := by decide +kernel
theorem dX9_goes_90 : decode cX9_goes 90 = .ok (.iaload, 1) := by decide +kernel
theorem dX9_goes_91 : decode cX9_goes 91 = .ok (.if_icmp .ge 6, 3) := by decide +kernel
theorem dX9_goes_94 : decode cX9_goes 94 = .ok (.goto 16, 3) := by decide +kernel
theorem dX9_goes_97 : decode cX9_goes 97 = .ok (.aload_n 0, 1) := by decide +kernel
theorem dX9_goes_98 : decode cX9_goes 98 = .ok (.iload 8, 2) := by decide +kernel
theorem dX9_goes_100 : decode cX9_goes 100 = .ok (.iload 9, 2) := by decide +kernel
theorem dX9_goes_102 : decode cX9_goes 102 = .ok (.iload_n 3, 1) := by decide +kernel
theorem dX9_goes_103 : decode cX9_goes 103 = .ok (.iload 4, 2) := by decide +kernel
theorem dX9_goes_105 : decode cX9_goes 105 = .ok (.iload 5, 2) := by decide +kernel
theorem dX9_goes_107 : decode cX9_goes 107 = .ok (.invokevirtual 251, 3) := by decide +kernel
theorem dX9_goes_110 : decode cX9_goes 110 = .ok (.iinc 9 1, 3) := by decide +kernel
theorem dX9_goes_113 : decode cX9_goes 113 = .ok (.goto (-91), 3) := by decide +kernel
theorem dX9_goes_116 : decode cX9_goes 116 = .ok (.bipush 101, 2) := by decide +kernel
theorem dX9_goes_118 : decode cX9_goes 118 = .ok (.iload 8, 2) := by decide +kernel
theorem dX9_goes_120 : decode cX9_goes 120 = .ok (.imul, 1) := by decide +kernel
theorem dX9_goes_121 : decode cX9_goes 121 = .ok (.aload_n 0, 1) := by decide +kernel
theorem dX9_goes_122 : decode cX9_goes 122 = .ok (.getfield 9, 3) := by decide +kernel
theorem dX9_goes_125 : decode cX9_goes 125 = .ok (.iconst 3, 1) := by decide +kernel
theorem dX9_goes_126 : decode cX9_goes 126 = .ok (.iload 8, 2) := by decide +kernel
theorem dX9_goes_128 : decode cX9_goes 128 = .ok (.iadd, 1) := by decide +kernel
theorem dX9_goes_129 : decode cX9_goes 129 = .ok (.iaload, 1) := by decide +kernel
theorem dX9_goes_130 : decode cX9_goes 130 = .ok (.iadd, 1) := by decide +kernel
theorem dX9_goes_131 : decode cX9_goes 131 = .ok (.istore 9, 2) := by decide +kernel
theorem dX9_goes_133 : decode cX9_goes 133 = .ok (.aload_n 0, 1) := by decide +kernel
theorem dX9_goes_134 : decode cX9_goes 134 = .ok (.getfield 29, 3) := by decide +kernel
theorem dX9_goes_137 : decode cX9_goes 137 = .ok (.iload 9, 2) := by decide +kernel
theorem dX9_goes_139 : decode cX9_goes 139 = .ok (.laload, 1) := by decide +kernel
theorem dX9_goes_140 : decode cX9_goes 140 = .ok (.lload 6, 2) := by decide +kernel
theorem dX9_goes_142 : decode cX9_goes 142 = .ok (.lcmp, 1) := by decide +kernel
theorem dX9_goes_143 : decode cX9_goes 143 = .ok (.ifCond .ge 12, 3) := by decide +kernel
theorem dX9_goes_146 : decode cX9_goes 146 = .ok (.aload_n 0, 1) := by decide +kernel
theorem dX9_goes_147 : decode cX9_goes 147 = .ok (.getfield 29, 3) := by decide +kernel
theorem dX9_goes_150 : decode cX9_goes 150 = .ok (.iload 9, 2) := by decide +kernel
theorem dX9_goes_152 : decode cX9_goes 152 = .ok (.laload, 1) := by decide +kernel
theorem dX9_goes_153 : decode cX9_goes 153 = .ok (.lstore 6, 2) := by decide +kernel
theorem dX9_goes_155 : decode cX9_goes 155 = .ok (.aload_n 0, 1) := by decide +kernel
theorem dX9_goes_156 : decode cX9_goes 156 = .ok (.getfield 36, 3) := by decide +kernel
theorem dX9_goes_159 : decode cX9_goes 159 = .ok (.iload 8, 2) := by decide +kernel
theorem dX9_goes_161 : decode cX9_goes 161 = .ok (.aload_n 0, 1) := by decide +kernel
theorem dX9_goes_162 : decode cX9_goes 162 = .ok (.getfield 29, 3) := by decide +kernel
theorem dX9_goes_165 : decode cX9_goes 165 = .ok (.iload 9, 2) := by decide +kernel
theorem dX9_goes_167 : decode cX9_goes 167 = .ok (.laload, 1) := by decide +kernel
theorem dX9_goes_168 : decode cX9_goes 168 = .ok (.lastore, 1) := by decide +kernel
theorem dX9_goes_169 : decode cX9_goes 169 = .ok (.aload_n 0, 1) := by decide +kernel
theorem dX9_goes_170 : decode cX9_goes 170 = .ok (.getfield 29, 3) := by decide +kernel
theorem dX9_goes_173 : decode cX9_goes 173 = .ok (.iload 9, 2) := by decide +kernel
theorem dX9_goes_175 : decode cX9_goes 175 = .ok (.iload 8, 2) := by decide +kernel
theorem dX9_goes_177 : decode cX9_goes 177 = .ok (.iload_n 1, 1) := by decide +kernel
theorem dX9_goes_178 : decode cX9_goes 178 = .ok (.if_icmp .eq 7, 3) := by decide +kernel
theorem dX9_goes_181 : decode cX9_goes 181 = .ok (.iload_n 2, 1) := by decide +kernel
theorem dX9_goes_182 : decode cX9_goes 182 = .ok (.ifCond .eq 7, 3) := by decide +kernel
theorem dX9_goes_185 : decode cX9_goes 185 = .ok (.lconst 0, 1) := by decide +kernel
theorem dX9_goes_186 : decode cX9_goes 186 = .ok (.goto 6, 3) := by decide +kernel
theorem dX9_goes_189 : decode cX9_goes 189 = .ok (.ldc2_w 249, 3) := by decide +kernel
theorem dX9_goes_192 : decode cX9_goes 192 = .ok (.lastore, 1) := by decide +kernel
theorem dX9_goes_193 : decode cX9_goes 193 = .ok (.iinc 8 1, 3) := by decide +kernel
theorem dX9_goes_196 : decode cX9_goes 196 = .ok (.goto (-188), 3) := by decide +kernel
theorem dX9_goes_199 : decode cX9_goes 199 = .ok (.lload 6, 2) := by decide +kernel
theorem dX9_goes_201 : decode cX9_goes 201 = .ok (.lreturn, 1) := by decide +kernel
set_option maxHeartbeats 4000000 in
theorem t_X9_goes_110 {X : sj_X} {s0 : sj_Mem} {N : Nat} {q : Int × sj_Mem} {k8 : Nat → Int → Int → Int → Int → Int → Int → Int → sj_Mem → Option (Int × sj_Mem)} {k22 : Nat → Int → Int → Int → Int → Int → Int → Int → Int → sj_Mem → Option (Int × sj_Mem)} (hk8 : ∀ (a0 : Nat) (x1 : Int) (x2 : Int) (x3 : Int) (x4 : Int) (x5 : Int) (x6 : Int) (x8 : Int) (s : sj_Mem), k8 a0 x1 x2 x3 x4 x5 x6 x8 s = some q → sj_T X m_X9_goes s0 (some (sj_j q.1), q.2) 8 [some (sj_r (some a0)), some (sj_i x1), some (sj_i x2), some (sj_i x3), some (sj_i x4), some (sj_i x5), some (sj_j x6), none, some (sj_i x8), none] [] s) (hk22 : ∀ (a0 : Nat) (x1 : Int) (x2 : Int) (x3 : Int) (x4 : Int) (x5 : Int) (x6 : Int) (x8 : Int) (x9 : Int) (s : sj_Mem), k22 a0 x1 x2 x3 x4 x5 x6 x8 x9 s = some q → sj_T X m_X9_goes s0 (some (sj_j q.1), q.2) 22 [some (sj_r (some a0)), some (sj_i x1), some (sj_i x2), some (sj_i x3), some (sj_i x4), some (sj_i x5), some (sj_j x6), none, some (sj_i x8), some (sj_i x9)] [] s) :
    ∀ (a0 : Nat) (x1 : Int) (x2 : Int) (x3 : Int) (x4 : Int) (x5 : Int) (x6 : Int) (x8 : Int) (x9 : Int) (s : sj_Mem), f_X9_goes_110 N k8 k22 a0 x1 x2 x3 x4 x5 x6 x8 x9 s = some q → sj_T X m_X9_goes s0 (some (sj_j q.1), q.2) 110 [some (sj_r (some a0)), some (sj_i x1), some (sj_i x2), some (sj_i x3), some (sj_i x4), some (sj_i x5), some (sj_j x6), none, some (sj_i x8), some (sj_i x9)] [] s := by
  intro a0 x1 x2 x3 x4 x5 x6 x8 x9 s h
  unfold f_X9_goes_110 at h
  refine r_iinc (ln := fun w => [some (sj_r (some a0)), some (sj_i x1), some (sj_i x2), some (sj_i x3), some (sj_i x4), some (sj_i x5), some (sj_j x6), none, some (sj_i x8), some (sj_i w)]) (pc := 110) h dX9_goes_110 rfl (Nat.le_of_ble_eq_true rfl) (fun _ => rfl) (fun v1 h => ?_)
  refine r_goto (pc := 113) (tgt := 22) dX9_goes_113 (by decide) ?_
  exact sj_weak (l2 := [some (sj_r (some a0)), some (sj_i x1), some (sj_i x2), some (sj_i x3), some (sj_i x4), some (sj_i x5), some (sj_j x6), none, some (sj_i x8), some (sj_i v1)]) (⟨rfl, ⟨rfl, ⟨rfl, ⟨rfl, ⟨rfl, ⟨rfl, ⟨rfl, ⟨rfl, ⟨rfl, trivial⟩⟩⟩⟩⟩⟩⟩⟩⟩) (hk22 a0 x1 x2 x3 x4 x5 x6 x8 v1 s h)
set_option maxHeartbeats 4000000 in
theorem t_X9_goes_97 {X : sj_X} {s0 : sj_Mem} {N : Nat} {q : Int × sj_Mem} {k8 : Nat → Int → Int → Int → Int → Int → Int → Int → sj_Mem → Option (Int × sj_Mem)} {k22 : Nat → Int → Int → Int → Int → Int → Int → Int → Int → sj_Mem → Option (Int × sj_Mem)} (hk8 : ∀ (a0 : Nat) (x1 : Int) (x2 : Int) (x3 : Int) (x4 : Int) (x5 : Int) (x6 : Int) (x8 : Int) (s : sj_Mem), k8 a0 x1 x2 x3 x4 x5 x6 x8 s = some q → sj_T X m_X9_goes s0 (some (sj_j q.1), q.2) 8 [some (sj_r (some a0)), some (sj_i x1), some (sj_i x2), some (sj_i x3), some (sj_i x4), some (sj_i x5), some (sj_j x6), none, some (sj_i x8), none] [] s) (hk22 : ∀ (a0 : Nat) (x1 : Int) (x2 : Int) (x3 : Int) (x4 : Int) (x5 : Int) (x6 : Int) (x8 : Int) (x9 : Int) (s : sj_Mem), k22 a0 x1 x2 x3 x4 x5 x6 x8 x9 s = some q → sj_T X m_X9_goes s0 (some (sj_j q.1), q.2) 22 [some (sj_r (some a0)), some (sj_i x1), some (sj_i x2), some (sj_i x3), some (sj_i x4), some (sj_i x5), some (sj_j x6), none, some (sj_i x8), some (sj_i x9)] [] s) :
    ∀ (a0 : Nat) (x1 : Int) (x2 : Int) (x3 : Int) (x4 : Int) (x5 : Int) (x6 : Int) (x8 : Int) (x9 : Int) (s : sj_Mem), f_X9_goes_97 N k8 k22 a0 x1 x2 x3 x4 x5 x6 x8 x9 s = some q → sj_T X m_X9_goes s0 (some (sj_j q.1), q.2) 97 [some (sj_r (some a0)), some (sj_i x1), some (sj_i x2), some (sj_i x3), some (sj_i x4), some (sj_i x5), some (sj_j x6), none, some (sj_i x8), some (sj_i x9)] [] s := by
  intro a0 x1 x2 x3 x4 x5 x6 x8 x9 s h
  unfold f_X9_goes_97 at h
  refine r_aload_n (pc := 97) dX9_goes_97 rfl rfl ?_
  refine r_iload (pc := 98) dX9_goes_98 rfl ?_
  refine r_iload (pc := 100) dX9_goes_100 rfl ?_
  refine r_iload_n (pc := 102) dX9_goes_102 rfl rfl ?_
  refine r_iload (pc := 103) dX9_goes_103 rfl ?_
  refine r_iload (pc := 105) dX9_goes_105 rfl ?_
  refine r_callV (pc := 107) (fun _ => none) (As := [sj_i x8, sj_i x9, sj_i x3, sj_i x4, sj_i x5]) (rest := []) h dX9_goes_107 mw_X9_251 vw_X9_comes (fun _ _ hc => c_X9_comes hc) rfl ⟨(Nat.le_of_ble_eq_true rfl), (Nat.le_of_ble_eq_true rfl)⟩ (Nat.le_of_ble_eq_true rfl) rfl (fun _u s1 h => ?_)
  exact sj_weak (l2 := [some (sj_r (some a0)), some (sj_i x1), some (sj_i x2), some (sj_i x3), some (sj_i x4), some (sj_i x5), some (sj_j x6), none, some (sj_i x8), some (sj_i x9)]) (⟨rfl, ⟨rfl, ⟨rfl, ⟨rfl, ⟨rfl, ⟨rfl, ⟨rfl, ⟨rfl, ⟨rfl, trivial⟩⟩⟩⟩⟩⟩⟩⟩⟩) (t_X9_goes_110 hk8 hk22 a0 x1 x2 x3 x4 x5 x6 x8 x9 s1 h)
set_option maxHeartbeats 4000000 in
theorem t_X9_goes_192 {X : sj_X} {s0 : sj_Mem} {N : Nat} {q : Int × sj_Mem} {k8 : Nat → Int → Int → Int → Int → Int → Int → Int → sj_Mem → Option (Int × sj_Mem)} (hk8 : ∀ (a0 : Nat) (x1 : Int) (x2 : Int) (x3 : Int) (x4 : Int) (x5 : Int) (x6 : Int) (x8 : Int) (s : sj_Mem), k8 a0 x1 x2 x3 x4 x5 x6 x8 s = some q → sj_T X m_X9_goes s0 (some (sj_j q.1), q.2) 8 [some (sj_r (some a0)), some (sj_i x1), some (sj_i x2), some (sj_i x3), some (sj_i x4), some (sj_i x5), some (sj_j x6), none, some (sj_i x8), none] [] s) :
    ∀ (a0 : Nat) (x1 : Int) (x2 : Int) (x3 : Int) (x4 : Int) (x5 : Int) (x6 : Int) (x8 : Int) (y0 : Int) (y1 : Int) (y2 : Option Nat) (s : sj_Mem), f_X9_goes_192 N k8 a0 x1 x2 x3 x4 x5 x6 x8 y0 y1 y2 s = some q → sj_T X m_X9_goes s0 (some (sj_j q.1), q.2) 192 [some (sj_r (some a0)), some (sj_i x1), some (sj_i x2), some (sj_i x3), some (sj_i x4), some (sj_i x5), some (sj_j x6), none, some (sj_i x8), none] [(sj_j y0), (sj_i y1), (sj_r y2)] s := by
  intro a0 x1 x2 x3 x4 x5 x6 x8 y0 y1 y2 s h
  unfold f_X9_goes_192 at h
  obtain ⟨a1, ea1, g⟩ := e_nn_some h
  clear h
  subst ea1
  have h := g
  clear g
  refine r_lastore (pc := 192) h dX9_goes_192 (fun s2 h => ?_)
  refine r_iinc (ln := fun w => [some (sj_r (some a0)), some (sj_i x1), some (sj_i x2), some (sj_i x3), some (sj_i x4), some (sj_i x5), some (sj_j x6), none, some (sj_i w), none]) (pc := 193) h dX9_goes_193 rfl (Nat.le_of_ble_eq_true rfl) (fun _ => rfl) (fun v3 h => ?_)
  refine r_goto (pc := 196) (tgt := 8) dX9_goes_196 (by decide) ?_
  exact sj_weak (l2 := [some (sj_r (some a0)), some (sj_i x1), some (sj_i x2), some (sj_i x3), some (sj_i x4), some (sj_i x5), some (sj_j x6), none, some (sj_i v3), none]) (⟨rfl, ⟨rfl, ⟨rfl, ⟨rfl, ⟨rfl, ⟨rfl, ⟨rfl, ⟨rfl, trivial⟩⟩⟩⟩⟩⟩⟩⟩) (hk8 a0 x1 x2 x3 x4 x5 x6 v3 s2 h)
set_option maxHeartbeats 4000000 in
theorem t_X9_goes_185 {X : sj_X} {s0 : sj_Mem} {N : Nat} {q : Int × sj_Mem} {k8 : Nat → Int → Int → Int → Int → Int → Int → Int → sj_Mem → Option (Int × sj_Mem)} (hk8 : ∀ (a0 : Nat) (x1 : Int) (x2 : Int) (x3 : Int) (x4 : Int) (x5 : Int) (x6 : Int) (x8 : Int) (s : sj_Mem), k8 a0 x1 x2 x3 x4 x5 x6 x8 s = some q → sj_T X m_X9_goes s0 (some (sj_j q.1), q.2) 8 [some (sj_r (some a0)), some (sj_i x1), some (sj_i x2), some (sj_i x3), some (sj_i x4), some (sj_i x5), some (sj_j x6), none, some (sj_i x8), none] [] s) :
    ∀ (a0 : Nat) (x1 : Int) (x2 : Int) (x3 : Int) (x4 : Int) (x5 : Int) (x6 : Int) (x8 : Int) (y0 : Int) (y1 : Option Nat) (s : sj_Mem), f_X9_goes_185 N k8 a0 x1 x2 x3 x4 x5 x6 x8 y0 y1 s = some q → sj_T X m_X9_goes s0 (some (sj_j q.1), q.2) 185 [some (sj_r (some a0)), some (sj_i x1), some (sj_i x2), some (sj_i x3), some (sj_i x4), some (sj_i x5), some (sj_j x6), none, some (sj_i x8), none] [(sj_i y0), (sj_r y1)] s := by
  intro a0 x1 x2 x3 x4 x5 x6 x8 y0 y1 s h
  unfold f_X9_goes_185 at h
  refine r_lconst0 (pc := 185) dX9_goes_185 ?_
  refine r_goto (pc := 186) (tgt := 192) dX9_goes_186 (by decide) ?_
  exact sj_weak (l2 := [some (sj_r (some a0)), some (sj_i x1), some (sj_i x2), some (sj_i x3), some (sj_i x4), some (sj_i x5), some (sj_j x6), none, some (sj_i x8), none]) (⟨rfl, ⟨rfl, ⟨rfl, ⟨rfl, ⟨rfl, ⟨rfl, ⟨rfl, ⟨rfl, trivial⟩⟩⟩⟩⟩⟩⟩⟩) (t_X9_goes_192 hk8 a0 x1 x2 x3 x4 x5 x6 x8 0 y0 y1 s h)
set_option maxHeartbeats 4000000 in
theorem t_X9_goes_155 {X : sj_X} {s0 : sj_Mem} {N : Nat} {q : Int × sj_Mem} {k8 : Nat → Int → Int → Int → Int → Int → Int → Int → sj_Mem → Option (Int × sj_Mem)} (hk8 : ∀ (a0 : Nat) (x1 : Int) (x2 : Int) (x3 : Int) (x4 : Int) (x5 : Int) (x6 : Int) (x8 : Int) (s : sj_Mem), k8 a0 x1 x2 x3 x4 x5 x6 x8 s = some q → sj_T X m_X9_goes s0 (some (sj_j q.1), q.2) 8 [some (sj_r (some a0)), some (sj_i x1), some (sj_i x2), some (sj_i x3), some (sj_i x4), some (sj_i x5), some (sj_j x6), none, some (sj_i x8), none] [] s) :
    ∀ (a0 : Nat) (x1 : Int) (x2 : Int) (x3 : Int) (x4 : Int) (x5 : Int) (x6 : Int) (x8 : Int) (x9 : Int) (s : sj_Mem), f_X9_goes_155 N k8 a0 x1 x2 x3 x4 x5 x6 x8 x9 s = some q → sj_T X m_X9_goes s0 (some (sj_j q.1), q.2) 155 [some (sj_r (some a0)), some (sj_i x1), some (sj_i x2), some (sj_i x3), some (sj_i x4), some (sj_i x5), some (sj_j x6), none, some (sj_i x8), some (sj_i x9)] [] s := by
  intro a0 x1 x2 x3 x4 x5 x6 x8 x9 s h
  unfold f_X9_goes_155 at h
  refine r_aload_n (pc := 155) dX9_goes_155 rfl rfl ?_
  refine r_gR (pc := 156) h dX9_goes_156 fw_X9_36 rfl (fun r1 h => ?_)
  refine r_iload (pc := 159) dX9_goes_159 rfl ?_
  refine r_aload_n (pc := 161) dX9_goes_161 rfl rfl ?_
  refine r_gR (pc := 162) h dX9_goes_162 fw_X9_29 rfl (fun r2 h => ?_)
  refine r_iload (pc := 165) dX9_goes_165 rfl ?_
  obtain ⟨a3, ea3, g⟩ := e_nn_some h
  clear h
  subst ea3
  have h := g
  clear g
  refine r_laload (pc := 167) h dX9_goes_167 (fun v4 h => ?_)
  obtain ⟨a5, ea5, g⟩ := e_nn_some h
  clear h
  subst ea5
  have h := g
  clear g
  refine r_lastore (pc := 168) h dX9_goes_168 (fun s6 h => ?_)
  refine r_aload_n (pc := 169) dX9_goes_169 rfl rfl ?_
  refine r_gR (pc := 170) h dX9_goes_170 fw_X9_29 rfl (fun r7 h => ?_)
  refine r_iload (pc := 173) dX9_goes_173 rfl ?_
  refine r_iload (pc := 175) dX9_goes_175 rfl ?_
  refine r_iload_n (pc := 177) dX9_goes_177 rfl rfl ?_
  refine r_icmp_eq (pc := 178) (tgt := 185) h dX9_goes_178 (by decide) (fun h => ?_) (fun h => ?_)
  · exact sj_weak (l2 := [some (sj_r (some a0)), some (sj_i x1), some (sj_i x2), some (sj_i x3), some (sj_i x4), some (sj_i x5), some (sj_j x6), none, some (sj_i x8), none]) (⟨rfl, ⟨rfl, ⟨rfl, ⟨rfl, ⟨rfl, ⟨rfl, ⟨rfl, ⟨rfl, trivial⟩⟩⟩⟩⟩⟩⟩⟩) (t_X9_goes_185 hk8 a0 x1 x2 x3 x4 x5 x6 x8 x9 r7 s6 h)
  · refine r_iload_n (pc := 181) dX9_goes_181 rfl rfl ?_
    refine r_if_eq (pc := 182) (tgt := 189) h dX9_goes_182 (by decide) (fun h => ?_) (fun h => ?_)
    · refine r_ldc2 (n := 4000000000000000000) (pc := 189) dX9_goes_189 kc_X9_249 ?_
      exact sj_weak (l2 := [some (sj_r (some a0)), some (sj_i x1), some (sj_i x2), some (sj_i x3), some (sj_i x4), some (sj_i x5), some (sj_j x6), none, some (sj_i x8), none]) (⟨rfl, ⟨rfl, ⟨rfl, ⟨rfl, ⟨rfl, ⟨rfl, ⟨rfl, ⟨rfl, trivial⟩⟩⟩⟩⟩⟩⟩⟩) (t_X9_goes_192 hk8 a0 x1 x2 x3 x4 x5 x6 x8 4000000000000000000 x9 r7 s6 h)
    · exact sj_weak (l2 := [some (sj_r (some a0)), some (sj_i x1), some (sj_i x2), some (sj_i x3), some (sj_i x4), some (sj_i x5), some (sj_j x6), none, some (sj_i x8), none]) (⟨rfl, ⟨rfl, ⟨rfl, ⟨rfl, ⟨rfl, ⟨rfl, ⟨rfl, ⟨rfl, trivial⟩⟩⟩⟩⟩⟩⟩⟩) (t_X9_goes_185 hk8 a0 x1 x2 x3 x4 x5 x6 x8 x9 r7 s6 h)
set_option maxHeartbeats 4000000 in
theorem t_X9_goes_22_b {X : sj_X} {s0 : sj_Mem} {N : Nat} {q : Int × sj_Mem} {k8 : Nat → Int → Int → Int → Int → Int → Int → Int → sj_Mem → Option (Int × sj_Mem)} {k22 : Nat → Int → Int → Int → Int → Int → Int → Int → Int → sj_Mem → Option (Int × sj_Mem)} (hk8 : ∀ (a0 : Nat) (x1 : Int) (x2 : Int) (x3 : Int) (x4 : Int) (x5 : Int) (x6 : Int) (x8 : Int) (s : sj_Mem), k8 a0 x1 x2 x3 x4 x5 x6 x8 s = some q → sj_T X m_X9_goes s0 (some (sj_j q.1), q.2) 8 [some (sj_r (some a0)), some (sj_i x1), some (sj_i x2), some (sj_i x3), some (sj_i x4), some (sj_i x5), some (sj_j x6), none, some (sj_i x8), none] [] s) (hk22 : ∀ (a0 : Nat) (x1 : Int) (x2 : Int) (x3 : Int) (x4 : Int) (x5 : Int) (x6 : Int) (x8 : Int) (x9 : Int) (s : sj_Mem), k22 a0 x1 x2 x3 x4 x5 x6 x8 x9 s = some q → sj_T X m_X9_goes s0 (some (sj_j q.1), q.2) 22 [some (sj_r (some a0)), some (sj_i x1), some (sj_i x2), some (sj_i x3), some (sj_i x4), some (sj_i x5), some (sj_j x6), none, some (sj_i x8), some (sj_i x9)] [] s) :
    ∀ (a0 : Nat) (x1 : Int) (x2 : Int) (x3 : Int) (x4 : Int) (x5 : Int) (x6 : Int) (x8 : Int) (x9 : Int) (s : sj_Mem), f_X9_goes_22_b N k8 k22 a0 x1 x2 x3 x4 x5 x6 x8 x9 s = some q → sj_T X m_X9_goes s0 (some (sj_j q.1), q.2) 22 [some (sj_r (some a0)), some (sj_i x1), some (sj_i x2), some (sj_i x3), some (sj_i x4), some (sj_i x5), some (sj_j x6), none, some (sj_i x8), some (sj_i x9)] [] s := by
  intro a0 x1 x2 x3 x4 x5 x6 x8 x9 s h
  unfold f_X9_goes_22_b at h
  refine r_iload (pc := 22) dX9_goes_22 rfl ?_
  refine r_bipush (pc := 24) dX9_goes_24 ⟨by decide, by decide⟩ ?_
  refine r_icmp_ge (pc := 26) (tgt := 116) h dX9_goes_26 (by decide) (fun h => ?_) (fun h => ?_)
  · refine r_bipush (pc := 116) dX9_goes_116 ⟨by decide, by decide⟩ ?_
    refine r_iload (pc := 118) dX9_goes_118 rfl ?_
    refine r_imul (pc := 120) dX9_goes_120 ?_
    refine r_aload_n (pc := 121) dX9_goes_121 rfl rfl ?_
    refine r_gR (pc := 122) h dX9_goes_122 fw_X9_9 rfl (fun r1 h => ?_)
    refine r_iconst (pc := 125) dX9_goes_125 ?_
    refine r_iload (pc := 126) dX9_goes_126 rfl ?_
    refine r_iadd (pc := 128) dX9_goes_128 ?_
    obtain ⟨a2, ea2, g⟩ := e_nn_some h
    clear h
    subst ea2
    have h := g
    clear g
    refine r_iaload (pc := 129) h dX9_goes_129 (fun v3 h => ?_)
    refine r_iadd (pc := 130) dX9_goes_130 ?_
    refine r_istoreL (ln := fun w => [some (sj_r (some a0)), some (sj_i x1), some (sj_i x2), some (sj_i x3), some (sj_i x4), some (sj_i x5), some (sj_j x6), none, some (sj_i x8), some (sj_i w)]) (pc := 131) h dX9_goes_131 (Nat.le_of_ble_eq_true rfl) (fun _ => rfl) (fun v4 h => ?_)
    refine r_aload_n (pc := 133) dX9_goes_133 rfl rfl ?_
    refine r_gR (pc := 134) h dX9_goes_134 fw_X9_29 rfl (fun r5 h => ?_)
    refine r_iload (pc := 137) dX9_goes_137 rfl ?_
    obtain ⟨a6, ea6, g⟩ := e_nn_some h
    clear h
    subst ea6
    have h := g
    clear g
    refine r_laload (pc := 139) h dX9_goes_139 (fun v7 h => ?_)
    refine r_lload (pc := 140) dX9_goes_140 rfl ?_
    refine r_lge (pc := 142) (tgt := 155) h dX9_goes_142 rfl dX9_goes_143 (by decide) (fun h => ?_) (fun h => ?_)
    · exact sj_weak (l2 := [some (sj_r (some a0)), some (sj_i x1), some (sj_i x2), some (sj_i x3), some (sj_i x4), some (sj_i x5), some (sj_j x6), none, some (sj_i x8), some (sj_i v4)]) (⟨rfl, ⟨rfl, ⟨rfl, ⟨rfl, ⟨rfl, ⟨rfl, ⟨rfl, ⟨rfl, ⟨rfl, trivial⟩⟩⟩⟩⟩⟩⟩⟩⟩) (t_X9_goes_155 hk8 a0 x1 x2 x3 x4 x5 x6 x8 v4 s h)
    · refine r_aload_n (pc := 146) dX9_goes_146 rfl rfl ?_
      refine r_gR (pc := 147) h dX9_goes_147 fw_X9_29 rfl (fun r8 h => ?_)
      refine r_iload (pc := 150) dX9_goes_150 rfl ?_
      obtain ⟨a9, ea9, g⟩ := e_nn_some h
      clear h
      subst ea9
      have h := g
      clear g
      refine r_laload (pc := 152) h dX9_goes_152 (fun v10 h => ?_)
      refine r_lstore (ln := [some (sj_r (some a0)), some (sj_i x1), some (sj_i x2), some (sj_i x3), some (sj_i x4), some (sj_i x5), some (sj_j v10), none, some (sj_i x8), some (sj_i v4)]) (pc := 153) dX9_goes_153 (Nat.le_of_ble_eq_true rfl) rfl ?_
      exact sj_weak (l2 := [some (sj_r (some a0)), some (sj_i x1), some (sj_i x2), some (sj_i x3), some (sj_i x4), some (sj_i x5), some (sj_j v10), none, some (sj_i x8), some (sj_i v4)]) (⟨rfl, ⟨rfl, ⟨rfl, ⟨rfl, ⟨rfl, ⟨rfl, ⟨rfl, ⟨rfl, ⟨rfl, trivial⟩⟩⟩⟩⟩⟩⟩⟩⟩) (t_X9_goes_155 hk8 a0 x1 x2 x3 x4 x5 v10 x8 v4 s h)
  · refine r_aload_n (pc := 29) dX9_goes_29 rfl rfl ?_
    refine r_gR (pc := 30) h dX9_goes_30 fw_X9_29 rfl (fun r11 h => ?_)
    refine r_bipush (pc := 33) dX9_goes_33 ⟨by decide, by decide⟩ ?_
    refine r_iload (pc := 35) dX9_goes_35 rfl ?_
    refine r_imul (pc := 37) dX9_goes_37 ?_
    refine r_iload (pc := 38) dX9_goes_38 rfl ?_
    refine r_iadd (pc := 40) dX9_goes_40 ?_
    refine r_ldc2 (n := 4000000000000000000) (pc := 41) dX9_goes_41 kc_X9_249 ?_
    obtain ⟨a12, ea12, g⟩ := e_nn_some h
    clear h
    subst ea12
    have h := g
    clear g
    refine r_lastore (pc := 44) h dX9_goes_44 (fun s13 h => ?_)
    refine r_iload (pc := 45) dX9_goes_45 rfl ?_
    refine r_iload_n (pc := 47) dX9_goes_47 rfl rfl ?_
    refine r_icmp_eq (pc := 48) (tgt := 110) h dX9_goes_48 (by decide) (fun h => ?_) (fun h => ?_)
    · exact sj_weak (l2 := [some (sj_r (some a0)), some (sj_i x1), some (sj_i x2), some (sj_i x3), some (sj_i x4), some (sj_i x5), some (sj_j x6), none, some (sj_i x8), some (sj_i x9)]) (⟨rfl, ⟨rfl, ⟨rfl, ⟨rfl, ⟨rfl, ⟨rfl, ⟨rfl, ⟨rfl, ⟨rfl, trivial⟩⟩⟩⟩⟩⟩⟩⟩⟩) (t_X9_goes_110 hk8 hk22 a0 x1 x2 x3 x4 x5 x6 x8 x9 s13 h)
    · refine r_iload (pc := 51) dX9_goes_51 rfl ?_
      refine r_aload_n (pc := 53) dX9_goes_53 rfl rfl ?_
      refine r_gR (pc := 54) h dX9_goes_54 fw_X9_9 rfl (fun r14 h => ?_)
      refine r_iconst (pc := 57) dX9_goes_57 ?_
      refine r_iload (pc := 58) dX9_goes_58 rfl ?_
      refine r_iadd (pc := 60) dX9_goes_60 ?_
      obtain ⟨a15, ea15, g⟩ := e_nn_some h
      clear h
      subst ea15
      have h := g
      clear g
      refine r_iaload (pc := 61) h dX9_goes_61 (fun v16 h => ?_)
      refine r_icmp_gt (pc := 62) (tgt := 110) h dX9_goes_62 (by decide) (fun h => ?_) (fun h => ?_)
      · exact sj_weak (l2 := [some (sj_r (some a0)), some (sj_i x1), some (sj_i x2), some (sj_i x3), some (sj_i x4), some (sj_i x5), some (sj_j x6), none, some (sj_i x8), some (sj_i x9)]) (⟨rfl, ⟨rfl, ⟨rfl, ⟨rfl, ⟨rfl, ⟨rfl, ⟨rfl, ⟨rfl, ⟨rfl, trivial⟩⟩⟩⟩⟩⟩⟩⟩⟩) (t_X9_goes_110 hk8 hk22 a0 x1 x2 x3 x4 x5 x6 x8 x9 s13 h)
      · refine r_iload (pc := 65) dX9_goes_65 rfl ?_
        refine r_aload_n (pc := 67) dX9_goes_67 rfl rfl ?_
        refine r_gR (pc := 68) h dX9_goes_68 fw_X9_9 rfl (fun r17 h => ?_)
        refine r_iconst (pc := 71) dX9_goes_71 ?_
        refine r_iload (pc := 72) dX9_goes_72 rfl ?_
        refine r_iadd (pc := 74) dX9_goes_74 ?_
        obtain ⟨a18, ea18, g⟩ := e_nn_some h
        clear h
        subst ea18
        have h := g
        clear g
        refine r_iaload (pc := 75) h dX9_goes_75 (fun v19 h => ?_)
        refine r_icmp_ge (pc := 76) (tgt := 97) h dX9_goes_76 (by decide) (fun h => ?_) (fun h => ?_)
        · exact sj_weak (l2 := [some (sj_r (some a0)), some (sj_i x1), some (sj_i x2), some (sj_i x3), some (sj_i x4), some (sj_i x5), some (sj_j x6), none, some (sj_i x8), some (sj_i x9)]) (⟨rfl, ⟨rfl, ⟨rfl, ⟨rfl, ⟨rfl, ⟨rfl, ⟨rfl, ⟨rfl, ⟨rfl, trivial⟩⟩⟩⟩⟩⟩⟩⟩⟩) (t_X9_goes_97 hk8 hk22 a0 x1 x2 x3 x4 x5 x6 x8 x9 s13 h)
        · refine r_iload (pc := 79) dX9_goes_79 rfl ?_
          refine r_aload_n (pc := 81) dX9_goes_81 rfl rfl ?_
          refine r_gR (pc := 82) h dX9_goes_82 fw_X9_9 rfl (fun r20 h => ?_)
          refine r_bipush (pc := 85) dX9_goes_85 ⟨by decide, by decide⟩ ?_
          refine r_iload (pc := 87) dX9_goes_87 rfl ?_
          refine r_iadd (pc := 89) dX9_goes_89 ?_
          obtain ⟨a21, ea21, g⟩ := e_nn_some h
          clear h
          subst ea21
          have h := g
          clear g
          refine r_iaload (pc := 90) h dX9_goes_90 (fun v22 h => ?_)
          refine r_icmp_ge (pc := 91) (tgt := 97) h dX9_goes_91 (by decide) (fun h => ?_) (fun h => ?_)
          · exact sj_weak (l2 := [some (sj_r (some a0)), some (sj_i x1), some (sj_i x2), some (sj_i x3), some (sj_i x4), some (sj_i x5), some (sj_j x6), none, some (sj_i x8), some (sj_i x9)]) (⟨rfl, ⟨rfl, ⟨rfl, ⟨rfl, ⟨rfl, ⟨rfl, ⟨rfl, ⟨rfl, ⟨rfl, trivial⟩⟩⟩⟩⟩⟩⟩⟩⟩) (t_X9_goes_97 hk8 hk22 a0 x1 x2 x3 x4 x5 x6 x8 x9 s13 h)
          · refine r_goto (pc := 94) (tgt := 110) dX9_goes_94 (by decide) ?_
            exact sj_weak (l2 := [some (sj_r (some a0)), some (sj_i x1), some (sj_i x2), some (sj_i x3), some (sj_i x4), some (sj_i x5), some (sj_j x6), none, some (sj_i x8), some (sj_i x9)]) (⟨rfl, ⟨rfl, ⟨rfl, ⟨rfl, ⟨rfl, ⟨rfl, ⟨rfl, ⟨rfl, ⟨rfl, trivial⟩⟩⟩⟩⟩⟩⟩⟩⟩) (t_X9_goes_110 hk8 hk22 a0 x1 x2 x3 x4 x5 x6 x8 x9 s13 h)
set_option maxHeartbeats 4000000 in
theorem t_X9_goes_22 {X : sj_X} {s0 : sj_Mem} {N : Nat} {q : Int × sj_Mem} {k8 : Nat → Int → Int → Int → Int → Int → Int → Int → sj_Mem → Option (Int × sj_Mem)} (hk8 : ∀ (a0 : Nat) (x1 : Int) (x2 : Int) (x3 : Int) (x4 : Int) (x5 : Int) (x6 : Int) (x8 : Int) (s : sj_Mem), k8 a0 x1 x2 x3 x4 x5 x6 x8 s = some q → sj_T X m_X9_goes s0 (some (sj_j q.1), q.2) 8 [some (sj_r (some a0)), some (sj_i x1), some (sj_i x2), some (sj_i x3), some (sj_i x4), some (sj_i x5), some (sj_j x6), none, some (sj_i x8), none] [] s) :
    ∀ (n : Nat) (a0 : Nat) (x1 : Int) (x2 : Int) (x3 : Int) (x4 : Int) (x5 : Int) (x6 : Int) (x8 : Int) (x9 : Int) (s : sj_Mem), f_X9_goes_22 N k8 n a0 x1 x2 x3 x4 x5 x6 x8 x9 s = some q → sj_T X m_X9_goes s0 (some (sj_j q.1), q.2) 22 [some (sj_r (some a0)), some (sj_i x1), some (sj_i x2), some (sj_i x3), some (sj_i x4), some (sj_i x5), some (sj_j x6), none, some (sj_i x8), some (sj_i x9)] [] s := by
  intro n
  induction n with
  | zero => intro a0 x1 x2 x3 x4 x5 x6 x8 x9 s h; exact nomatch h
  | succ n ih => intro a0 x1 x2 x3 x4 x5 x6 x8 x9 s h; exact t_X9_goes_22_b (N := N) hk8 ih a0 x1 x2 x3 x4 x5 x6 x8 x9 s h
set_option maxHeartbeats 4000000 in
theorem t_X9_goes_8_b {X : sj_X} {s0 : sj_Mem} {N : Nat} {q : Int × sj_Mem} {k8 : Nat → Int → Int → Int → Int → Int → Int → Int → sj_Mem → Option (Int × sj_Mem)} (hk8 : ∀ (a0 : Nat) (x1 : Int) (x2 : Int) (x3 : Int) (x4 : Int) (x5 : Int) (x6 : Int) (x8 : Int) (s : sj_Mem), k8 a0 x1 x2 x3 x4 x5 x6 x8 s = some q → sj_T X m_X9_goes s0 (some (sj_j q.1), q.2) 8 [some (sj_r (some a0)), some (sj_i x1), some (sj_i x2), some (sj_i x3), some (sj_i x4), some (sj_i x5), some (sj_j x6), none, some (sj_i x8), none] [] s) :
    ∀ (a0 : Nat) (x1 : Int) (x2 : Int) (x3 : Int) (x4 : Int) (x5 : Int) (x6 : Int) (x8 : Int) (s : sj_Mem), f_X9_goes_8_b N k8 a0 x1 x2 x3 x4 x5 x6 x8 s = some q → sj_T X m_X9_goes s0 (some (sj_j q.1), q.2) 8 [some (sj_r (some a0)), some (sj_i x1), some (sj_i x2), some (sj_i x3), some (sj_i x4), some (sj_i x5), some (sj_j x6), none, some (sj_i x8), none] [] s := by
  intro a0 x1 x2 x3 x4 x5 x6 x8 s h
  unfold f_X9_goes_8_b at h
  refine r_iload (pc := 8) dX9_goes_8 rfl ?_
  refine r_aload_n (pc := 10) dX9_goes_10 rfl rfl ?_
  refine r_gR (pc := 11) h dX9_goes_11 fw_X9_9 rfl (fun r1 h => ?_)
  refine r_iconst (pc := 14) dX9_goes_14 ?_
  obtain ⟨a2, ea2, g⟩ := e_nn_some h
  clear h
  subst ea2
  have h := g
  clear g
  refine r_iaload (pc := 15) h dX9_goes_15 (fun v3 h => ?_)
  refine r_icmp_gt (pc := 16) (tgt := 199) h dX9_goes_16 (by decide) (fun h => ?_) (fun h => ?_)
  · refine r_lload (pc := 199) dX9_goes_199 rfl ?_
    exact r_lret (pc := 201) h rfl dX9_goes_201
  · refine r_iconst (pc := 19) dX9_goes_19 ?_
    refine r_istore (ln := [some (sj_r (some a0)), some (sj_i x1), some (sj_i x2), some (sj_i x3), some (sj_i x4), some (sj_i x5), some (sj_j x6), none, some (sj_i x8), some (sj_i 0)]) (pc := 20) dX9_goes_20 (Nat.le_of_ble_eq_true rfl) rfl ?_
    exact sj_weak (l2 := [some (sj_r (some a0)), some (sj_i x1), some (sj_i x2), some (sj_i x3), some (sj_i x4), some (sj_i x5), some (sj_j x6), none, some (sj_i x8), some (sj_i 0)]) (⟨rfl, ⟨rfl, ⟨rfl, ⟨rfl, ⟨rfl, ⟨rfl, ⟨rfl, ⟨rfl, ⟨rfl, trivial⟩⟩⟩⟩⟩⟩⟩⟩⟩) (t_X9_goes_22 hk8 N a0 x1 x2 x3 x4 x5 x6 x8 0 s h)
set_option maxHeartbeats 4000000 in
theorem t_X9_goes_8 {X : sj_X} {s0 : sj_Mem} {N : Nat} {q : Int × sj_Mem} :
    ∀ (n : Nat) (a0 : Nat) (x1 : Int) (x2 : Int) (x3 : Int) (x4 : Int) (x5 : Int) (x6 : Int) (x8 : Int) (s : sj_Mem), f_X9_goes_8 N n a0 x1 x2 x3 x4 x5 x6 x8 s = some q → sj_T X m_X9_goes s0 (some (sj_j q.1), q.2) 8 [some (sj_r (some a0)), some (sj_i x1), some (sj_i x2), some (sj_i x3), some (sj_i x4), some (sj_i x5), some (sj_j x6), none, some (sj_i x8), none] [] s := by
  intro n
  induction n with
  | zero => intro a0 x1 x2 x3 x4 x5 x6 x8 s h; exact nomatch h
  | succ n ih => intro a0 x1 x2 x3 x4 x5 x6 x8 s h; exact t_X9_goes_8_b (N := N) ih a0 x1 x2 x3 x4 x5 x6 x8 s h
set_option maxHeartbeats 4000000 in
theorem t_X9_goes_0 {X : sj_X} {s0 : sj_Mem} {N : Nat} {q : Int × sj_Mem} :
    ∀ (a0 : Nat) (x1 : Int) (x2 : Int) (x3 : Int) (x4 : Int) (x5 : Int) (s : sj_Mem), f_X9_goes N a0 x1 x2 x3 x4 x5 s = some q → sj_T X m_X9_goes s0 (some (sj_j q.1), q.2) 0 [some (sj_r (some a0)), some (sj_i x1), some (sj_i x2), some (sj_i x3), some (sj_i x4), some (sj_i x5), none, none, none, none] [] s := by
  intro a0 x1 x2 x3 x4 x5 s h
  unfold f_X9_goes at h
  refine r_ldc2 (n := 4000000000000000000) (pc := 0) dX9_goes_0 kc_X9_249 ?_
  refine r_lstore (ln := [some (sj_r (some a0)), some (sj_i x1), some (sj_i x2), some (sj_i x3), some (sj_i x4), some (sj_i x5), some (sj_j 4000000000000000000), none, none, none]) (pc := 3) dX9_goes_3 (Nat.le_of_ble_eq_true rfl) rfl ?_
  refine r_iload_n (pc := 5) dX9_goes_5 rfl rfl ?_
  refine r_istore (ln := [some (sj_r (some a0)), some (sj_i x1), some (sj_i x2), some (sj_i x3), some (sj_i x4), some (sj_i x5), some (sj_j 4000000000000000000), none, some (sj_i x1), none]) (pc := 6) dX9_goes_6 (Nat.le_of_ble_eq_true rfl) rfl ?_
  exact sj_weak (l2 := [some (sj_r (some a0)), some (sj_i x1), some (sj_i x2), some (sj_i x3), some (sj_i x4), some (sj_i x5), some (sj_j 4000000000000000000), none, some (sj_i x1), none]) (⟨rfl, ⟨rfl, ⟨rfl, ⟨rfl, ⟨rfl, ⟨rfl, ⟨rfl, ⟨rfl, trivial⟩⟩⟩⟩⟩⟩⟩⟩) (t_X9_goes_8 N a0 x1 x2 x3 x4 x5 4000000000000000000 x1 s h)
set_option maxHeartbeats 4000000 in
theorem c_X9_goes {X : sj_X} {N : Nat} {a0 : Nat} {x1 : Int} {x2 : Int} {x3 : Int} {x4 : Int} {x5 : Int} {s : sj_Mem} {q : Int × sj_Mem} (h : f_X9_goes N a0 x1 x2 x3 x4 x5 s = some q) : sj_C X m_X9_goes [sj_r (some a0), sj_i x1, sj_i x2, sj_i x3, sj_i x4, sj_i x5] s (some (sj_j q.1), q.2) :=
  sj_C_of (by decide +kernel) (Nat.le_of_ble_eq_true rfl) (lo := [some (sj_r (some a0)), some (sj_i x1), some (sj_i x2), some (sj_i x3), some (sj_i x4), some (sj_i x5), none, none, none, none]) rfl (sj_weak (l2 := [some (sj_r (some a0)), some (sj_i x1), some (sj_i x2), some (sj_i x3), some (sj_i x4), some (sj_i x5), none, none, none, none]) (⟨rfl, ⟨rfl, ⟨rfl, ⟨rfl, ⟨rfl, ⟨rfl, trivial⟩⟩⟩⟩⟩⟩) (t_X9_goes_0 a0 x1 x2 x3 x4 x5 s h))
theorem dX9_tableK_0 : decode cX9_tableK 0 = .ok (.iconst 0, 1) := by decide +kernel
theorem dX9_tableK_1 : decode cX9_tableK 1 = .ok (.istore_n 3, 1) := by decide +kernel
theorem dX9_tableK_2 : decode cX9_tableK 2 = .ok (.sipush 20001, 3) := by decide +kernel
theorem dX9_tableK_5 : decode cX9_tableK 5 = .ok (.istore 4, 2) := by decide +kernel
theorem dX9_tableK_7 : decode cX9_tableK 7 = .ok (.iload 4, 2) := by decide +kernel
theorem dX9_tableK_9 : decode cX9_tableK 9 = .ok (.iload_n 3, 1) := by decide +kernel
theorem dX9_tableK_10 : decode cX9_tableK 10 = .ok (.isub, 1) := by decide +kernel
theorem dX9_tableK_11 : decode cX9_tableK 11 = .ok (.iconst 1, 1) := by decide +kernel
theorem dX9_tableK_12 : decode cX9_tableK 12 = .ok (.if_icmp .le 39, 3) := by decide +kernel
theorem dX9_tableK_15 : decode cX9_tableK 15 = .ok (.iload_n 3, 1) := by decide +kernel
theorem dX9_tableK_16 : decode cX9_tableK 16 = .ok (.iload 4, 2) := by decide +kernel
theorem dX9_tableK_18 : decode cX9_tableK 18 = .ok (.iadd, 1) := by decide +kernel
theorem dX9_tableK_19 : decode cX9_tableK 19 = .ok (.iconst 2, 1) := by decide +kernel
theorem dX9_tableK_20 : decode cX9_tableK 20 = .ok (.idiv, 1) := by decide +kernel
theorem dX9_tableK_21 : decode cX9_tableK 21 = .ok (.istore 5, 2) := by decide +kernel
theorem dX9_tableK_23 : decode cX9_tableK 23 = .ok (.aload_n 0, 1) := by decide +kernel
theorem dX9_tableK_24 : decode cX9_tableK 24 = .ok (.iconst 0, 1) := by decide +kernel
theorem dX9_tableK_25 : decode cX9_tableK 25 = .ok (.iconst 1, 1) := by decide +kernel
theorem dX9_tableK_26 : decode cX9_tableK 26 = .ok (.iload_n 1, 1) := by decide +kernel
theorem dX9_tableK_27 : decode cX9_tableK 27 = .ok (.iload_n 2, 1) := by decide +kernel
theorem dX9_tableK_28 : decode cX9_tableK 28 = .ok (.iload 5, 2) := by decide +kernel
theorem dX9_tableK_30 : decode cX9_tableK 30 = .ok (.invokevirtual 259, 3) := by decide +kernel
theorem dX9_tableK_33 : decode cX9_tableK 33 = .ok (.lconst 0, 1) := by decide +kernel
theorem dX9_tableK_34 : decode cX9_tableK 34 = .ok (.lcmp, 1) := by decide +kernel
theorem dX9_tableK_35 : decode cX9_tableK 35 = .ok (.ifCond .lt 9, 3) := by decide +kernel
theorem dX9_tableK_38 : decode cX9_tableK 38 = .ok (.iload 5, 2) := by decide +kernel
theorem dX9_tableK_40 : decode cX9_tableK 40 = .ok (.istore_n 3, 1) := by decide +kernel
theorem dX9_tableK_41 : decode cX9_tableK 41 = .ok (.goto 7, 3) := by decide +kernel
theorem dX9_tableK_44 : decode cX9_tableK 44 = .ok (.iload 5, 2) := by decide +kernel
theorem dX9_tableK_46 : decode cX9_tableK 46 = .ok (.istore 4, 2) := by decide +kernel
theorem dX9_tableK_48 : decode cX9_tableK 48 = .ok (.goto (-41), 3) := by decide +kernel
theorem dX9_tableK_51 : decode cX9_tableK 51 = .ok (.iload_n 3, 1) := by decide +kernel
theorem dX9_tableK_52 : decode cX9_tableK 52 = .ok (.ireturn, 1) := by decide +kernel
set_option maxHeartbeats 4000000 in
theorem t_X9_tableK_48 {X : sj_X} {s0 : sj_Mem} {N : Nat} {q : Int × sj_Mem} {k7 : Nat → Int → Int → Int → Int → sj_Mem → Option (Int × sj_Mem)} (hk7 : ∀ (a0 : Nat) (x1 : Int) (x2 : Int) (x3 : Int) (x4 : Int) (s : sj_Mem), k7 a0 x1 x2 x3 x4 s = some q → sj_T X m_X9_tableK s0 (some (sj_i q.1), q.2) 7 [some (sj_r (some a0)), some (sj_i x1), some (sj_i x2), some (sj_i x3), some (sj_i x4), none] [] s) :
    ∀ (a0 : Nat) (x1 : Int) (x2 : Int) (x3 : Int) (x4 : Int) (s : sj_Mem), f_X9_tableK_48 N k7 a0 x1 x2 x3 x4 s = some q → sj_T X m_X9_tableK s0 (some (sj_i q.1), q.2) 48 [some (sj_r (some a0)), some (sj_i x1), some (sj_i x2), some (sj_i x3), some (sj_i x4), none] [] s := by
  intro a0 x1 x2 x3 x4 s h
  unfold f_X9_tableK_48 at h
  refine r_goto (pc := 48) (tgt := 7) dX9_tableK_48 (by decide) ?_
  exact sj_weak (l2 := [some (sj_r (some a0)), some (sj_i x1), some (sj_i x2), some (sj_i x3), some (sj_i x4), none]) (⟨rfl, ⟨rfl, ⟨rfl, ⟨rfl, ⟨rfl, trivial⟩⟩⟩⟩⟩) (hk7 a0 x1 x2 x3 x4 s h)
set_option maxHeartbeats 4000000 in
theorem t_X9_tableK_7_b {X : sj_X} {s0 : sj_Mem} {N : Nat} {q : Int × sj_Mem} {k7 : Nat → Int → Int → Int → Int → sj_Mem → Option (Int × sj_Mem)} (hk7 : ∀ (a0 : Nat) (x1 : Int) (x2 : Int) (x3 : Int) (x4 : Int) (s : sj_Mem), k7 a0 x1 x2 x3 x4 s = some q → sj_T X m_X9_tableK s0 (some (sj_i q.1), q.2) 7 [some (sj_r (some a0)), some (sj_i x1), some (sj_i x2), some (sj_i x3), some (sj_i x4), none] [] s) :
    ∀ (a0 : Nat) (x1 : Int) (x2 : Int) (x3 : Int) (x4 : Int) (s : sj_Mem), f_X9_tableK_7_b N k7 a0 x1 x2 x3 x4 s = some q → sj_T X m_X9_tableK s0 (some (sj_i q.1), q.2) 7 [some (sj_r (some a0)), some (sj_i x1), some (sj_i x2), some (sj_i x3), some (sj_i x4), none] [] s := by
  intro a0 x1 x2 x3 x4 s h
  unfold f_X9_tableK_7_b at h
  refine r_iload (pc := 7) dX9_tableK_7 rfl ?_
  refine r_iload_n (pc := 9) dX9_tableK_9 rfl rfl ?_
  refine r_isub (pc := 10) dX9_tableK_10 ?_
  refine r_iconst (pc := 11) dX9_tableK_11 ?_
  refine r_icmp_le (pc := 12) (tgt := 51) h dX9_tableK_12 (by decide) (fun h => ?_) (fun h => ?_)
  · refine r_iload_n (pc := 51) dX9_tableK_51 rfl rfl ?_
    exact r_iret (pc := 52) h rfl dX9_tableK_52
  · refine r_iload_n (pc := 15) dX9_tableK_15 rfl rfl ?_
    refine r_iload (pc := 16) dX9_tableK_16 rfl ?_
    refine r_iadd (pc := 18) dX9_tableK_18 ?_
    refine r_iconst (pc := 19) dX9_tableK_19 ?_
    refine r_idiv (pc := 20) h dX9_tableK_20 (fun v1 h => ?_)
    refine r_istore (ln := [some (sj_r (some a0)), some (sj_i x1), some (sj_i x2), some (sj_i x3), some (sj_i x4), some (sj_i v1)]) (pc := 21) dX9_tableK_21 (Nat.le_of_ble_eq_true rfl) rfl ?_
    refine r_aload_n (pc := 23) dX9_tableK_23 rfl rfl ?_
    refine r_iconst (pc := 24) dX9_tableK_24 ?_
    refine r_iconst (pc := 25) dX9_tableK_25 ?_
    refine r_iload_n (pc := 26) dX9_tableK_26 rfl rfl ?_
    refine r_iload_n (pc := 27) dX9_tableK_27 rfl rfl ?_
    refine r_iload (pc := 28) dX9_tableK_28 rfl ?_
    refine r_callV (pc := 30) (fun v => some (sj_j v)) (As := [sj_i 0, sj_i 1, sj_i x1, sj_i x2, sj_i v1]) (rest := []) h dX9_tableK_30 mw_X9_259 vw_X9_goes (fun _ _ hc => c_X9_goes hc) rfl ⟨(Nat.le_of_ble_eq_true rfl), (Nat.le_of_ble_eq_true rfl)⟩ (Nat.le_of_ble_eq_true rfl) rfl (fun v3 s2 h => ?_)
    refine r_lconst0 (pc := 33) dX9_tableK_33 ?_
    refine r_llt (pc := 34) (tgt := 44) h dX9_tableK_34 rfl dX9_tableK_35 (by decide) (fun h => ?_) (fun h => ?_)
    · refine r_iload (pc := 44) dX9_tableK_44 rfl ?_
      refine r_istore (ln := [some (sj_r (some a0)), some (sj_i x1), some (sj_i x2), some (sj_i x3), some (sj_i v1), some (sj_i v1)]) (pc := 46) dX9_tableK_46 (Nat.le_of_ble_eq_true rfl) rfl ?_
      exact sj_weak (l2 := [some (sj_r (some a0)), some (sj_i x1), some (sj_i x2), some (sj_i x3), some (sj_i v1), none]) (⟨rfl, ⟨rfl, ⟨rfl, ⟨rfl, ⟨rfl, trivial⟩⟩⟩⟩⟩) (t_X9_tableK_48 hk7 a0 x1 x2 x3 v1 s2 h)
    · refine r_iload (pc := 38) dX9_tableK_38 rfl ?_
      refine r_istore_n (ln := [some (sj_r (some a0)), some (sj_i x1), some (sj_i x2), some (sj_i v1), some (sj_i x4), some (sj_i v1)]) (pc := 40) dX9_tableK_40 rfl (Nat.le_of_ble_eq_true rfl) rfl ?_
      refine r_goto (pc := 41) (tgt := 48) dX9_tableK_41 (by decide) ?_
      exact sj_weak (l2 := [some (sj_r (some a0)), some (sj_i x1), some (sj_i x2), some (sj_i v1), some (sj_i x4), none]) (⟨rfl, ⟨rfl, ⟨rfl, ⟨rfl, ⟨rfl, trivial⟩⟩⟩⟩⟩) (t_X9_tableK_48 hk7 a0 x1 x2 v1 x4 s2 h)
set_option maxHeartbeats 4000000 in
theorem t_X9_tableK_7 {X : sj_X} {s0 : sj_Mem} {N : Nat} {q : Int × sj_Mem} :
    ∀ (n : Nat) (a0 : Nat) (x1 : Int) (x2 : Int) (x3 : Int) (x4 : Int) (s : sj_Mem), f_X9_tableK_7 N n a0 x1 x2 x3 x4 s = some q → sj_T X m_X9_tableK s0 (some (sj_i q.1), q.2) 7 [some (sj_r (some a0)), some (sj_i x1), some (sj_i x2), some (sj_i x3), some (sj_i x4), none] [] s := by
  intro n
  induction n with
  | zero => intro a0 x1 x2 x3 x4 s h; exact nomatch h
  | succ n ih => intro a0 x1 x2 x3 x4 s h; exact t_X9_tableK_7_b (N := N) ih a0 x1 x2 x3 x4 s h
set_option maxHeartbeats 4000000 in
theorem t_X9_tableK_0 {X : sj_X} {s0 : sj_Mem} {N : Nat} {q : Int × sj_Mem} :
    ∀ (a0 : Nat) (x1 : Int) (x2 : Int) (s : sj_Mem), f_X9_tableK N a0 x1 x2 s = some q → sj_T X m_X9_tableK s0 (some (sj_i q.1), q.2) 0 [some (sj_r (some a0)), some (sj_i x1), some (sj_i x2), none, none, none] [] s := by
  intro a0 x1 x2 s h
  unfold f_X9_tableK at h
  refine r_iconst (pc := 0) dX9_tableK_0 ?_
  refine r_istore_n (ln := [some (sj_r (some a0)), some (sj_i x1), some (sj_i x2), some (sj_i 0), none, none]) (pc := 1) dX9_tableK_1 rfl (Nat.le_of_ble_eq_true rfl) rfl ?_
  refine r_sipush (pc := 2) dX9_tableK_2 ⟨by decide, by decide⟩ ?_
  refine r_istore (ln := [some (sj_r (some a0)), some (sj_i x1), some (sj_i x2), some (sj_i 0), some (sj_i 20001), none]) (pc := 5) dX9_tableK_5 (Nat.le_of_ble_eq_true rfl) rfl ?_
  exact sj_weak (l2 := [some (sj_r (some a0)), some (sj_i x1), some (sj_i x2), some (sj_i 0), some (sj_i 20001), none]) (⟨rfl, ⟨rfl, ⟨rfl, ⟨rfl, ⟨rfl, trivial⟩⟩⟩⟩⟩) (t_X9_tableK_7 N a0 x1 x2 0 20001 s h)
set_option maxHeartbeats 4000000 in
theorem c_X9_tableK {X : sj_X} {N : Nat} {a0 : Nat} {x1 : Int} {x2 : Int} {s : sj_Mem} {q : Int × sj_Mem} (h : f_X9_tableK N a0 x1 x2 s = some q) : sj_C X m_X9_tableK [sj_r (some a0), sj_i x1, sj_i x2] s (some (sj_i q.1), q.2) :=
  sj_C_of (by decide +kernel) (Nat.le_of_ble_eq_true rfl) (lo := [some (sj_r (some a0)), some (sj_i x1), some (sj_i x2), none, none, none]) rfl (sj_weak (l2 := [some (sj_r (some a0)), some (sj_i x1), some (sj_i x2), none, none, none]) (⟨rfl, ⟨rfl, ⟨rfl, trivial⟩⟩⟩) (t_X9_tableK_0 a0 x1 x2 s h))
theorem dX9_findsWorst_0 : decode cX9_findsWorst 0 = .ok (.iload_n 3, 1) := by decide +kernel
theorem dX9_findsWorst_1 : decode cX9_findsWorst 1 = .ok (.sipush 20000, 3) := by decide +kernel
theorem dX9_findsWorst_4 : decode cX9_findsWorst 4 = .ok (.if_icmp .ne 5, 3) := by decide +kernel
theorem dX9_findsWorst_7 : decode cX9_findsWorst 7 = .ok (.iconst 0, 1) := by decide +kernel
theorem dX9_findsWorst_8 : decode cX9_findsWorst 8 = .ok (.ireturn, 1) := by decide +kernel
theorem dX9_findsWorst_9 : decode cX9_findsWorst 9 = .ok (.aload_n 0, 1) := by decide +kernel
theorem dX9_findsWorst_10 : decode cX9_findsWorst 10 = .ok (.iconst 0, 1) := by decide +kernel
theorem dX9_findsWorst_11 : decode cX9_findsWorst 11 = .ok (.iconst 1, 1) := by decide +kernel
theorem dX9_findsWorst_12 : decode cX9_findsWorst 12 = .ok (.iload_n 1, 1) := by decide +kernel
theorem dX9_findsWorst_13 : decode cX9_findsWorst 13 = .ok (.iload_n 2, 1) := by decide +kernel
theorem dX9_findsWorst_14 : decode cX9_findsWorst 14 = .ok (.iload_n 3, 1) := by decide +kernel
theorem dX9_findsWorst_15 : decode cX9_findsWorst 15 = .ok (.iconst 1, 1) := by decide +kernel
theorem dX9_findsWorst_16 : decode cX9_findsWorst 16 = .ok (.iadd, 1) := by decide +kernel
theorem dX9_findsWorst_17 : decode cX9_findsWorst 17 = .ok (.invokevirtual 259, 3) := by decide +kernel
theorem dX9_findsWorst_20 : decode cX9_findsWorst 20 = .ok (.lstore 4, 2) := by decide +kernel
theorem dX9_findsWorst_22 : decode cX9_findsWorst 22 = .ok (.iconst 0, 1) := by decide +kernel
theorem dX9_findsWorst_23 : decode cX9_findsWorst 23 = .ok (.istore 6, 2) := by decide +kernel
theorem dX9_findsWorst_25 : decode cX9_findsWorst 25 = .ok (.iload 6, 2) := by decide +kernel
theorem dX9_findsWorst_27 : decode cX9_findsWorst 27 = .ok (.aload_n 0, 1) := by decide +kernel
theorem dX9_findsWorst_28 : decode cX9_findsWorst 28 = .ok (.getfield 9, 3) := by decide +kernel
theorem dX9_findsWorst_31 : decode cX9_findsWorst 31 = .ok (.iconst 0, 1) := by decide +kernel
theorem dX9_findsWorst_32 : decode cX9_findsWorst 32 = .ok (.iaload, 1) := by decide +kernel
theorem dX9_findsWorst_33 : decode cX9_findsWorst 33 = .ok (.if_icmp .ge 134, 3) := by decide +kernel
theorem dX9_findsWorst_36 : decode cX9_findsWorst 36 = .ok (.aload_n 0, 1) := by decide +kernel
theorem dX9_findsWorst_37 : decode cX9_findsWorst 37 = .ok (.iload 6, 2) := by decide +kernel
theorem dX9_findsWorst_39 : decode cX9_findsWorst 39 = .ok (.iconst 0, 1) := by decide +kernel
theorem dX9_findsWorst_40 : decode cX9_findsWorst 40 = .ok (.iload_n 1, 1) := by decide +kernel
theorem dX9_findsWorst_41 : decode cX9_findsWorst 41 = .ok (.iload_n 2, 1) := by decide +kernel
theorem dX9_findsWorst_42 : decode cX9_findsWorst 42 = .ok (.iload_n 3, 1) := by decide +kernel
theorem dX9_findsWorst_43 : decode cX9_findsWorst 43 = .ok (.iconst 1, 1) := by decide +kernel
theorem dX9_findsWorst_44 : decode cX9_findsWorst 44 = .ok (.iadd, 1) := by decide +kernel
theorem dX9_findsWorst_45 : decode cX9_findsWorst 45 = .ok (.invokevirtual 259, 3) := by decide +kernel
theorem dX9_findsWorst_48 : decode cX9_findsWorst 48 = .ok (.lload 4, 2) := by decide +kernel
theorem dX9_findsWorst_50 : decode cX9_findsWorst 50 = .ok (.lcmp, 1) := by decide +kernel
theorem dX9_findsWorst_51 : decode cX9_findsWorst 51 = .ok (.ifCond .eq 6, 3) := by decide +kernel
theorem dX9_findsWorst_54 : decode cX9_findsWorst 54 = .ok (.goto 107, 3) := by decide +kernel
theorem dX9_findsWorst_57 : decode cX9_findsWorst 57 = .ok (.iload 6, 2) := by decide +kernel
theorem dX9_findsWorst_59 : decode cX9_findsWorst 59 = .ok (.iconst 1, 1) := by decide +kernel
theorem dX9_findsWorst_60 : decode cX9_findsWorst 60 = .ok (.iadd, 1) := by decide +kernel
theorem dX9_findsWorst_61 : decode cX9_findsWorst 61 = .ok (.istore 7, 2) := by decide +kernel
theorem dX9_findsWorst_63 : decode cX9_findsWorst 63 = .ok (.aload_n 0, 1) := by decide +kernel
theorem dX9_findsWorst_64 : decode cX9_findsWorst 64 = .ok (.getfield 36, 3) := by decide +kernel
theorem dX9_findsWorst_67 : decode cX9_findsWorst 67 = .ok (.iload 7, 2) := by decide +kernel
theorem dX9_findsWorst_69 : decode cX9_findsWorst 69 = .ok (.laload, 1) := by decide +kernel
theorem dX9_findsWorst_70 : decode cX9_findsWorst 70 = .ok (.lload 4, 2) := by decide +kernel
theorem dX9_findsWorst_72 : decode cX9_findsWorst 72 = .ok (.lcmp, 1) := by decide +kernel
theorem dX9_findsWorst_73 : decode cX9_findsWorst 73 = .ok (.ifCond .eq 9, 3) := by decide +kernel
theorem dX9_findsWorst_76 : decode cX9_findsWorst 76 = .ok (.iinc 7 1, 3) := by decide +kernel
theorem dX9_findsWorst_79 : decode cX9_findsWorst 79 = .ok (.goto (-16), 3) := by decide +kernel
theorem dX9_findsWorst_82 : decode cX9_findsWorst 82 = .ok (.aload_n 0, 1) := by decide +kernel
theorem dX9_findsWorst_83 : decode cX9_findsWorst 83 = .ok (.iload 6, 2) := by decide +kernel
theorem dX9_findsWorst_85 : decode cX9_findsWorst 85 = .ok (.putfield 22, 3) := by decide +kernel
theorem dX9_findsWorst_88 : decode cX9_findsWorst 88 = .ok (.aload_n 0, 1) := by decide +kernel
theorem dX9_findsWorst_89 : decode cX9_findsWorst 89 = .ok (.iload 7, 2) := by decide +kernel
theorem dX9_findsWorst_91 : decode cX9_findsWorst 91 = .ok (.putfield 150, 3) := by decide +kernel
theorem dX9_findsWorst_94 : decode cX9_findsWorst 94 = .ok (.aload_n 0, 1) := by decide +kernel
theorem dX9_findsWorst_95 : decode cX9_findsWorst 95 = .ok (.iload_n 2, 1) := by decide +kernel
theorem dX9_findsWorst_96 : decode cX9_findsWorst 96 = .ok (.putfield 153, 3) := by decide +kernel
theorem dX9_findsWorst_99 : decode cX9_findsWorst 99 = .ok (.aload_n 0, 1) := by decide +kernel
theorem dX9_findsWorst_100 : decode cX9_findsWorst 100 = .ok (.getfield 26, 3) := by decide +kernel
theorem dX9_findsWorst_103 : decode cX9_findsWorst 103 = .ok (.iload 7, 2) := by decide +kernel
theorem dX9_findsWorst_105 : decode cX9_findsWorst 105 = .ok (.aload_n 0, 1) := by decide +kernel
theorem dX9_findsWorst_106 : decode cX9_findsWorst 106 = .ok (.getfield 9, 3) := by decide +kernel
theorem dX9_findsWorst_109 : decode cX9_findsWorst 109 = .ok (.iconst 3, 1) := by decide +kernel
theorem dX9_findsWorst_110 : decode cX9_findsWorst 110 = .ok (.iload 7, 2) := by decide +kernel
theorem dX9_findsWorst_112 : decode cX9_findsWorst 112 = .ok (.iadd, 1) := by decide +kernel
theorem dX9_findsWorst_113 : decode cX9_findsWorst 113 = .ok (.iaload, 1) := by decide +kernel
theorem dX9_findsWorst_114 : decode cX9_findsWorst 114 = .ok (.iastore, 1) := by decide +kernel
theorem dX9_findsWorst_115 : decode cX9_findsWorst 115 = .ok (.iload 7, 2) := by decide +kernel
theorem dX9_findsWorst_117 : decode cX9_findsWorst 117 = .ok (.istore 8, 2) := by decide +kernel
theorem dX9_findsWorst_119 : decode cX9_findsWorst 119 = .ok (.iload 8, 2) := by decide +kernel
theorem dX9_findsWorst_121 : decode cX9_findsWorst 121 = .ok (.iload 6, 2) := by decide +kernel
theorem dX9_findsWorst_123 : decode cX9_findsWorst 123 = .ok (.if_icmp .le 36, 3) := by decide +kernel
theorem dX9_findsWorst_126 : decode cX9_findsWorst 126 = .ok (.aload_n 0, 1) := by decide +kernel
theorem dX9_findsWorst_127 : decode cX9_findsWorst 127 = .ok (.getfield 26, 3) := by decide +kernel
theorem dX9_findsWorst_130 : decode cX9_findsWorst 130 = .ok (.iload 8, 2) := by decide +kernel
theorem dX9_findsWorst_132 : decode cX9_findsWorst 132 = .ok (.iconst 1, 1) := by decide +kernel
theorem dX9_findsWorst_133 : decode cX9_findsWorst 133 = .ok (.isub, 1) := by decide +kernel
theorem dX9_findsWorst_134 : decode cX9_findsWorst 134 = .ok (.aload_n 0, 1) := by decide +kernel
theorem dX9_findsWorst_135 : decode cX9_findsWorst 135 = .ok (.getfield 33, 3) := by decide +kernel
theorem dX9_findsWorst_138 : decode cX9_findsWorst 138 = .ok (.bipush 101, 2) := by decide +kernel
theorem dX9_findsWorst_140 : decode cX9_findsWorst 140 = .ok (.iload 8, 2) := by decide +kernel
theorem dX9_findsWorst_142 : decode cX9_findsWorst 142 = .ok (.imul, 1) := by decide +kernel
theorem dX9_findsWorst_143 : decode cX9_findsWorst 143 = .ok (.aload_n 0, 1) := by decide +kernel
theorem dX9_findsWorst_144 : decode cX9_findsWorst 144 = .ok (.getfield 26, 3) := by decide +kernel
theorem dX9_findsWorst_147 : decode cX9_findsWorst 147 = .ok (.iload 8, 2) := by decide +kernel
theorem dX9_findsWorst_149 : decode cX9_findsWorst 149 = .ok (.iaload, 1) := by decide +kernel
theorem dX9_findsWorst_150 : decode cX9_findsWorst 150 = .ok (.iadd, 1) := by decide +kernel
theorem dX9_findsWorst_151 : decode cX9_findsWorst 151 = .ok (.iaload, 1) := by decide +kernel
theorem dX9_findsWorst_152 : decode cX9_findsWorst 152 = .ok (.iastore, 1) := by decide +kernel
theorem dX9_findsWorst_153 : decode cX9_findsWorst 153 = .ok (.iinc 8 (-1), 3) := by decide +kernel
theorem dX9_findsWorst_156 : decode cX9_findsWorst 156 = .ok (.goto (-37), 3) := by decide +kernel
theorem dX9_findsWorst_159 : decode cX9_findsWorst 159 = .ok (.iconst 1, 1) := by decide +kernel
theorem dX9_findsWorst_160 : decode cX9_findsWorst 160 = .ok (.ireturn, 1) := by decide +kernel
theorem dX9_findsWorst_161 : decode cX9_findsWorst 161 = .ok (.iinc 6 1, 3) := by decide +kernel
theorem dX9_findsWorst_164 : decode cX9_findsWorst 164 = .ok (.goto (-139), 3) := by decide +kernel
theorem dX9_findsWorst_167 : decode cX9_findsWorst 167 = .ok (.iconst 0, 1) := by decide +kernel
theorem dX9_findsWorst_168 : decode cX9_findsWorst 168 = .ok (.ireturn, 1) := by decide +kernel
set_option maxHeartbeats 4000000 in
theorem t_X9_findsWorst_119_b {X : sj_X} {s0 : sj_Mem} {N : Nat} {q : Int × sj_Mem} {k119 : Nat → Int → Int → sj_Mem → Option (Int × sj_Mem)} (hk119 : ∀ (a0 : Nat) (x6 : Int) (x8 : Int) (s : sj_Mem), k119 a0 x6 x8 s = some q → sj_T X m_X9_findsWorst s0 (some (sj_i q.1), q.2) 119 [some (sj_r (some a0)), none, none, none, none, none, some (sj_i x6), none, some (sj_i x8)] [] s) :
    ∀ (a0 : Nat) (x6 : Int) (x8 : Int) (s : sj_Mem), f_X9_findsWorst_119_b N k119 a0 x6 x8 s = some q → sj_T X m_X9_findsWorst s0 (some (sj_i q.1), q.2) 119 [some (sj_r (some a0)), none, none, none, none, none, some (sj_i x6), none, some (sj_i x8)] [] s := by
  intro a0 x6 x8 s h
  unfold f_X9_findsWorst_119_b at h
  refine r_iload (pc := 119) dX9_findsWorst_119 rfl ?_
  refine r_iload (pc := 121) dX9_findsWorst_121 rfl ?_
  refine r_icmp_le (pc := 123) (tgt := 159) h dX9_findsWorst_123 (by decide) (fun h => ?_) (fun h => ?_)
  · refine r_iconst (pc := 159) dX9_findsWorst_159 ?_
    exact r_zret (pc := 160) h rfl dX9_findsWorst_160
  · refine r_aload_n (pc := 126) dX9_findsWorst_126 rfl rfl ?_
    refine r_gR (pc := 127) h dX9_findsWorst_127 fw_X9_26 rfl (fun r1 h => ?_)
    refine r_iload (pc := 130) dX9_findsWorst_130 rfl ?_
    refine r_iconst (pc := 132) dX9_findsWorst_132 ?_
    refine r_isub (pc := 133) dX9_findsWorst_133 ?_
    refine r_aload_n (pc := 134) dX9_findsWorst_134 rfl rfl ?_
    refine r_gR (pc := 135) h dX9_findsWorst_135 fw_X9_33 rfl (fun r2 h => ?_)
    refine r_bipush (pc := 138) dX9_findsWorst_138 ⟨by decide, by decide⟩ ?_
    refine r_iload (pc := 140) dX9_findsWorst_140 rfl ?_
    refine r_imul (pc := 142) dX9_findsWorst_142 ?_
    refine r_aload_n (pc := 143) dX9_findsWorst_143 rfl rfl ?_
    refine r_gR (pc := 144) h dX9_findsWorst_144 fw_X9_26 rfl (fun r3 h => ?_)
    refine r_iload (pc := 147) dX9_findsWorst_147 rfl ?_
    obtain ⟨a4, ea4, g⟩ := e_nn_some h
    clear h
    subst ea4
    have h := g
    clear g
    refine r_iaload (pc := 149) h dX9_findsWorst_149 (fun v5 h => ?_)
    refine r_iadd (pc := 150) dX9_findsWorst_150 ?_
    obtain ⟨a6, ea6, g⟩ := e_nn_some h
    clear h
    subst ea6
    have h := g
    clear g
    refine r_iaload (pc := 151) h dX9_findsWorst_151 (fun v7 h => ?_)
    obtain ⟨a8, ea8, g⟩ := e_nn_some h
    clear h
    subst ea8
    have h := g
    clear g
    refine r_iastore (pc := 152) h dX9_findsWorst_152 (fun s9 h => ?_)
    refine r_iinc (ln := fun w => [some (sj_r (some a0)), none, none, none, none, none, some (sj_i x6), none, some (sj_i w)]) (pc := 153) h dX9_findsWorst_153 rfl (Nat.le_of_ble_eq_true rfl) (fun _ => rfl) (fun v10 h => ?_)
    refine r_goto (pc := 156) (tgt := 119) dX9_findsWorst_156 (by decide) ?_
    exact sj_weak (l2 := [some (sj_r (some a0)), none, none, none, none, none, some (sj_i x6), none, some (sj_i v10)]) (⟨rfl, ⟨rfl, ⟨rfl, trivial⟩⟩⟩) (hk119 a0 x6 v10 s9 h)
set_option maxHeartbeats 4000000 in
theorem t_X9_findsWorst_119 {X : sj_X} {s0 : sj_Mem} {N : Nat} {q : Int × sj_Mem} :
    ∀ (n : Nat) (a0 : Nat) (x6 : Int) (x8 : Int) (s : sj_Mem), f_X9_findsWorst_119 N n a0 x6 x8 s = some q → sj_T X m_X9_findsWorst s0 (some (sj_i q.1), q.2) 119 [some (sj_r (some a0)), none, none, none, none, none, some (sj_i x6), none, some (sj_i x8)] [] s := by
  intro n
  induction n with
  | zero => intro a0 x6 x8 s h; exact nomatch h
  | succ n ih => intro a0 x6 x8 s h; exact t_X9_findsWorst_119_b (N := N) ih a0 x6 x8 s h
set_option maxHeartbeats 4000000 in
theorem t_X9_findsWorst_63_b {X : sj_X} {s0 : sj_Mem} {N : Nat} {q : Int × sj_Mem} {k63 : Nat → Int → Int → Int → Int → sj_Mem → Option (Int × sj_Mem)} (hk63 : ∀ (a0 : Nat) (x2 : Int) (x4 : Int) (x6 : Int) (x7 : Int) (s : sj_Mem), k63 a0 x2 x4 x6 x7 s = some q → sj_T X m_X9_findsWorst s0 (some (sj_i q.1), q.2) 63 [some (sj_r (some a0)), none, some (sj_i x2), none, some (sj_j x4), none, some (sj_i x6), some (sj_i x7), none] [] s) :
    ∀ (a0 : Nat) (x2 : Int) (x4 : Int) (x6 : Int) (x7 : Int) (s : sj_Mem), f_X9_findsWorst_63_b N k63 a0 x2 x4 x6 x7 s = some q → sj_T X m_X9_findsWorst s0 (some (sj_i q.1), q.2) 63 [some (sj_r (some a0)), none, some (sj_i x2), none, some (sj_j x4), none, some (sj_i x6), some (sj_i x7), none] [] s := by
  intro a0 x2 x4 x6 x7 s h
  unfold f_X9_findsWorst_63_b at h
  refine r_aload_n (pc := 63) dX9_findsWorst_63 rfl rfl ?_
  refine r_gR (pc := 64) h dX9_findsWorst_64 fw_X9_36 rfl (fun r1 h => ?_)
  refine r_iload (pc := 67) dX9_findsWorst_67 rfl ?_
  obtain ⟨a2, ea2, g⟩ := e_nn_some h
  clear h
  subst ea2
  have h := g
  clear g
  refine r_laload (pc := 69) h dX9_findsWorst_69 (fun v3 h => ?_)
  refine r_lload (pc := 70) dX9_findsWorst_70 rfl ?_
  refine r_leq (pc := 72) (tgt := 82) h dX9_findsWorst_72 rfl dX9_findsWorst_73 (by decide) (fun h => ?_) (fun h => ?_)
  · refine r_aload_n (pc := 82) dX9_findsWorst_82 rfl rfl ?_
    refine r_iload (pc := 83) dX9_findsWorst_83 rfl ?_
    refine r_pI (pc := 85) h dX9_findsWorst_85 fw_X9_22 rfl rfl (fun _ hq => by cases hq; rfl) (fun s4 h => ?_)
    refine r_aload_n (pc := 88) dX9_findsWorst_88 rfl rfl ?_
    refine r_iload (pc := 89) dX9_findsWorst_89 rfl ?_
    refine r_pI (pc := 91) h dX9_findsWorst_91 fw_X9_150 rfl rfl (fun _ hq => by cases hq; rfl) (fun s5 h => ?_)
    refine r_aload_n (pc := 94) dX9_findsWorst_94 rfl rfl ?_
    refine r_iload_n (pc := 95) dX9_findsWorst_95 rfl rfl ?_
    refine r_pZ (pc := 96) h dX9_findsWorst_96 fw_X9_153 rfl rfl (fun _ hq => by cases hq; rfl) (fun s6 h => ?_)
    refine r_aload_n (pc := 99) dX9_findsWorst_99 rfl rfl ?_
    refine r_gR (pc := 100) h dX9_findsWorst_100 fw_X9_26 rfl (fun r7 h => ?_)
    refine r_iload (pc := 103) dX9_findsWorst_103 rfl ?_
    refine r_aload_n (pc := 105) dX9_findsWorst_105 rfl rfl ?_
    refine r_gR (pc := 106) h dX9_findsWorst_106 fw_X9_9 rfl (fun r8 h => ?_)
    refine r_iconst (pc := 109) dX9_findsWorst_109 ?_
    refine r_iload (pc := 110) dX9_findsWorst_110 rfl ?_
    refine r_iadd (pc := 112) dX9_findsWorst_112 ?_
    obtain ⟨a9, ea9, g⟩ := e_nn_some h
    clear h
    subst ea9
    have h := g
    clear g
    refine r_iaload (pc := 113) h dX9_findsWorst_113 (fun v10 h => ?_)
    obtain ⟨a11, ea11, g⟩ := e_nn_some h
    clear h
    subst ea11
    have h := g
    clear g
    refine r_iastore (pc := 114) h dX9_findsWorst_114 (fun s12 h => ?_)
    refine r_iload (pc := 115) dX9_findsWorst_115 rfl ?_
    refine r_istore (ln := [some (sj_r (some a0)), none, some (sj_i x2), none, some (sj_j x4), none, some (sj_i x6), some (sj_i x7), some (sj_i x7)]) (pc := 117) dX9_findsWorst_117 (Nat.le_of_ble_eq_true rfl) rfl ?_
    exact sj_weak (l2 := [some (sj_r (some a0)), none, none, none, none, none, some (sj_i x6), none, some (sj_i x7)]) (⟨rfl, ⟨rfl, ⟨rfl, trivial⟩⟩⟩) (t_X9_findsWorst_119 N a0 x6 x7 s12 h)
  · refine r_iinc (ln := fun w => [some (sj_r (some a0)), none, some (sj_i x2), none, some (sj_j x4), none, some (sj_i x6), some (sj_i w), none]) (pc := 76) h dX9_findsWorst_76 rfl (Nat.le_of_ble_eq_true rfl) (fun _ => rfl) (fun v13 h => ?_)
    refine r_goto (pc := 79) (tgt := 63) dX9_findsWorst_79 (by decide) ?_
    exact sj_weak (l2 := [some (sj_r (some a0)), none, some (sj_i x2), none, some (sj_j x4), none, some (sj_i x6), some (sj_i v13), none]) (⟨rfl, ⟨rfl, ⟨rfl, ⟨rfl, ⟨rfl, trivial⟩⟩⟩⟩⟩) (hk63 a0 x2 x4 x6 v13 s h)
set_option maxHeartbeats 4000000 in
theorem t_X9_findsWorst_63 {X : sj_X} {s0 : sj_Mem} {N : Nat} {q : Int × sj_Mem} :
    ∀ (n : Nat) (a0 : Nat) (x2 : Int) (x4 : Int) (x6 : Int) (x7 : Int) (s : sj_Mem), f_X9_findsWorst_63 N n a0 x2 x4 x6 x7 s = some q → sj_T X m_X9_findsWorst s0 (some (sj_i q.1), q.2) 63 [some (sj_r (some a0)), none, some (sj_i x2), none, some (sj_j x4), none, some (sj_i x6), some (sj_i x7), none] [] s := by
  intro n
  induction n with
  | zero => intro a0 x2 x4 x6 x7 s h; exact nomatch h
  | succ n ih => intro a0 x2 x4 x6 x7 s h; exact t_X9_findsWorst_63_b (N := N) ih a0 x2 x4 x6 x7 s h
set_option maxHeartbeats 4000000 in
theorem t_X9_findsWorst_25_b {X : sj_X} {s0 : sj_Mem} {N : Nat} {q : Int × sj_Mem} {k25 : Nat → Int → Int → Int → Int → Int → sj_Mem → Option (Int × sj_Mem)} (hk25 : ∀ (a0 : Nat) (x1 : Int) (x2 : Int) (x3 : Int) (x4 : Int) (x6 : Int) (s : sj_Mem), k25 a0 x1 x2 x3 x4 x6 s = some q → sj_T X m_X9_findsWorst s0 (some (sj_i q.1), q.2) 25 [some (sj_r (some a0)), some (sj_i x1), some (sj_i x2), some (sj_i x3), some (sj_j x4), none, some (sj_i x6), none, none] [] s) :
    ∀ (a0 : Nat) (x1 : Int) (x2 : Int) (x3 : Int) (x4 : Int) (x6 : Int) (s : sj_Mem), f_X9_findsWorst_25_b N k25 a0 x1 x2 x3 x4 x6 s = some q → sj_T X m_X9_findsWorst s0 (some (sj_i q.1), q.2) 25 [some (sj_r (some a0)), some (sj_i x1), some (sj_i x2), some (sj_i x3), some (sj_j x4), none, some (sj_i x6), none, none] [] s := by
  intro a0 x1 x2 x3 x4 x6 s h
  unfold f_X9_findsWorst_25_b at h
  refine r_iload (pc := 25) dX9_findsWorst_25 rfl ?_
  refine r_aload_n (pc := 27) dX9_findsWorst_27 rfl rfl ?_
  refine r_gR (pc := 28) h dX9_findsWorst_28 fw_X9_9 rfl (fun r1 h => ?_)
  refine r_iconst (pc := 31) dX9_findsWorst_31 ?_
  obtain ⟨a2, ea2, g⟩ := e_nn_some h
  clear h
  subst ea2
  have h := g
  clear g
  refine r_iaload (pc := 32) h dX9_findsWorst_32 (fun v3 h => ?_)
  refine r_icmp_ge (pc := 33) (tgt := 167) h dX9_findsWorst_33 (by decide) (fun h => ?_) (fun h => ?_)
  · refine r_iconst (pc := 167) dX9_findsWorst_167 ?_
    exact r_zret (pc := 168) h rfl dX9_findsWorst_168
  · refine r_aload_n (pc := 36) dX9_findsWorst_36 rfl rfl ?_
    refine r_iload (pc := 37) dX9_findsWorst_37 rfl ?_
    refine r_iconst (pc := 39) dX9_findsWorst_39 ?_
    refine r_iload_n (pc := 40) dX9_findsWorst_40 rfl rfl ?_
    refine r_iload_n (pc := 41) dX9_findsWorst_41 rfl rfl ?_
    refine r_iload_n (pc := 42) dX9_findsWorst_42 rfl rfl ?_
    refine r_iconst (pc := 43) dX9_findsWorst_43 ?_
    refine r_iadd (pc := 44) dX9_findsWorst_44 ?_
    refine r_callV (pc := 45) (fun v => some (sj_j v)) (As := [sj_i x6, sj_i 0, sj_i x1, sj_i x2, sj_i (x3 + 1)]) (rest := []) h dX9_findsWorst_45 mw_X9_259 vw_X9_goes (fun _ _ hc => c_X9_goes hc) rfl ⟨(Nat.le_of_ble_eq_true rfl), (Nat.le_of_ble_eq_true rfl)⟩ (Nat.le_of_ble_eq_true rfl) rfl (fun v5 s4 h => ?_)
    refine r_lload (pc := 48) dX9_findsWorst_48 rfl ?_
    refine r_leq (pc := 50) (tgt := 57) h dX9_findsWorst_50 rfl dX9_findsWorst_51 (by decide) (fun h => ?_) (fun h => ?_)
    · refine r_iload (pc := 57) dX9_findsWorst_57 rfl ?_
      refine r_iconst (pc := 59) dX9_findsWorst_59 ?_
      refine r_iadd (pc := 60) dX9_findsWorst_60 ?_
      refine r_istoreL (ln := fun w => [some (sj_r (some a0)), some (sj_i x1), some (sj_i x2), some (sj_i x3), some (sj_j x4), none, some (sj_i x6), some (sj_i w), none]) (pc := 61) h dX9_findsWorst_61 (Nat.le_of_ble_eq_true rfl) (fun _ => rfl) (fun v6 h => ?_)
      exact sj_weak (l2 := [some (sj_r (some a0)), none, some (sj_i x2), none, some (sj_j x4), none, some (sj_i x6), some (sj_i v6), none]) (⟨rfl, ⟨rfl, ⟨rfl, ⟨rfl, ⟨rfl, trivial⟩⟩⟩⟩⟩) (t_X9_findsWorst_63 N a0 x2 x4 x6 v6 s4 h)
    · refine r_goto (pc := 54) (tgt := 161) dX9_findsWorst_54 (by decide) ?_
      refine r_iinc (ln := fun w => [some (sj_r (some a0)), some (sj_i x1), some (sj_i x2), some (sj_i x3), some (sj_j x4), none, some (sj_i w), none, none]) (pc := 161) h dX9_findsWorst_161 rfl (Nat.le_of_ble_eq_true rfl) (fun _ => rfl) (fun v7 h => ?_)
      refine r_goto (pc := 164) (tgt := 25) dX9_findsWorst_164 (by decide) ?_
      exact sj_weak (l2 := [some (sj_r (some a0)), some (sj_i x1), some (sj_i x2), some (sj_i x3), some (sj_j x4), none, some (sj_i v7), none, none]) (⟨rfl, ⟨rfl, ⟨rfl, ⟨rfl, ⟨rfl, ⟨rfl, trivial⟩⟩⟩⟩⟩⟩) (hk25 a0 x1 x2 x3 x4 v7 s4 h)
set_option maxHeartbeats 4000000 in
theorem t_X9_findsWorst_25 {X : sj_X} {s0 : sj_Mem} {N : Nat} {q : Int × sj_Mem} :
    ∀ (n : Nat) (a0 : Nat) (x1 : Int) (x2 : Int) (x3 : Int) (x4 : Int) (x6 : Int) (s : sj_Mem), f_X9_findsWorst_25 N n a0 x1 x2 x3 x4 x6 s = some q → sj_T X m_X9_findsWorst s0 (some (sj_i q.1), q.2) 25 [some (sj_r (some a0)), some (sj_i x1), some (sj_i x2), some (sj_i x3), some (sj_j x4), none, some (sj_i x6), none, none] [] s := by
  intro n
  induction n with
  | zero => intro a0 x1 x2 x3 x4 x6 s h; exact nomatch h
  | succ n ih => intro a0 x1 x2 x3 x4 x6 s h; exact t_X9_findsWorst_25_b (N := N) ih a0 x1 x2 x3 x4 x6 s h
set_option maxHeartbeats 4000000 in
theorem t_X9_findsWorst_0 {X : sj_X} {s0 : sj_Mem} {N : Nat} {q : Int × sj_Mem} :
    ∀ (a0 : Nat) (x1 : Int) (x2 : Int) (x3 : Int) (s : sj_Mem), f_X9_findsWorst N a0 x1 x2 x3 s = some q → sj_T X m_X9_findsWorst s0 (some (sj_i q.1), q.2) 0 [some (sj_r (some a0)), some (sj_i x1), some (sj_i x2), some (sj_i x3), none, none, none, none, none] [] s := by
  intro a0 x1 x2 x3 s h
  unfold f_X9_findsWorst at h
  refine r_iload_n (pc := 0) dX9_findsWorst_0 rfl rfl ?_
  refine r_sipush (pc := 1) dX9_findsWorst_1 ⟨by decide, by decide⟩ ?_
  refine r_icmp_ne (pc := 4) (tgt := 9) h dX9_findsWorst_4 (by decide) (fun h => ?_) (fun h => ?_)
  · refine r_iconst (pc := 7) dX9_findsWorst_7 ?_
    exact r_zret (pc := 8) h rfl dX9_findsWorst_8
  · refine r_aload_n (pc := 9) dX9_findsWorst_9 rfl rfl ?_
    refine r_iconst (pc := 10) dX9_findsWorst_10 ?_
    refine r_iconst (pc := 11) dX9_findsWorst_11 ?_
    refine r_iload_n (pc := 12) dX9_findsWorst_12 rfl rfl ?_
    refine r_iload_n (pc := 13) dX9_findsWorst_13 rfl rfl ?_
    refine r_iload_n (pc := 14) dX9_findsWorst_14 rfl rfl ?_
    refine r_iconst (pc := 15) dX9_findsWorst_15 ?_
    refine r_iadd (pc := 16) dX9_findsWorst_16 ?_
    refine r_callV (pc := 17) (fun v => some (sj_j v)) (As := [sj_i 0, sj_i 1, sj_i x1, sj_i x2, sj_i (x3 + 1)]) (rest := []) h dX9_findsWorst_17 mw_X9_259 vw_X9_goes (fun _ _ hc => c_X9_goes hc) rfl ⟨(Nat.le_of_ble_eq_true rfl), (Nat.le_of_ble_eq_true rfl)⟩ (Nat.le_of_ble_eq_true rfl) rfl (fun v2 s1 h => ?_)
    refine r_lstore (ln := [some (sj_r (some a0)), some (sj_i x1), some (sj_i x2), some (sj_i x3), some (sj_j v2), none, none, none, none]) (pc := 20) dX9_findsWorst_20 (Nat.le_of_ble_eq_true rfl) rfl ?_
    refine r_iconst (pc := 22) dX9_findsWorst_22 ?_
    refine r_istore (ln := [some (sj_r (some a0)), some (sj_i x1), some (sj_i x2), some (sj_i x3), some (sj_j v2), none, some (sj_i 0), none, none]) (pc := 23) dX9_findsWorst_23 (Nat.le_of_ble_eq_true rfl) rfl ?_
    exact sj_weak (l2 := [some (sj_r (some a0)), some (sj_i x1), some (sj_i x2), some (sj_i x3), some (sj_j v2), none, some (sj_i 0), none, none]) (⟨rfl, ⟨rfl, ⟨rfl, ⟨rfl, ⟨rfl, ⟨rfl, trivial⟩⟩⟩⟩⟩⟩) (t_X9_findsWorst_25 N a0 x1 x2 x3 v2 0 s1 h)
set_option maxHeartbeats 4000000 in
theorem c_X9_findsWorst {X : sj_X} {N : Nat} {a0 : Nat} {x1 : Int} {x2 : Int} {x3 : Int} {s : sj_Mem} {q : Int × sj_Mem} (h : f_X9_findsWorst N a0 x1 x2 x3 s = some q) : sj_C X m_X9_findsWorst [sj_r (some a0), sj_i x1, sj_i x2, sj_i x3] s (some (sj_i q.1), q.2) :=
  sj_C_of (by decide +kernel) (Nat.le_of_ble_eq_true rfl) (lo := [some (sj_r (some a0)), some (sj_i x1), some (sj_i x2), some (sj_i x3), none, none, none, none, none]) rfl (sj_weak (l2 := [some (sj_r (some a0)), some (sj_i x1), some (sj_i x2), some (sj_i x3), none, none, none, none, none]) (⟨rfl, ⟨rfl, ⟨rfl, ⟨rfl, trivial⟩⟩⟩⟩) (t_X9_findsWorst_0 a0 x1 x2 x3 s h))
theorem dX9_tables_0 : decode cX9_tables 0 = .ok (.iload_n 1, 1) := by decide +kernel
theorem dX9_tables_1 : decode cX9_tables 1 = .ok (.i2l, 1) := by decide +kernel
theorem dX9_tables_2 : decode cX9_tables 2 = .ok (.lconst 1, 1) := by decide +kernel
theorem dX9_tables_3 : decode cX9_tables 3 = .ok (.ldc2_w 263, 3) := by decide +kernel
theorem dX9_tables_6 : decode cX9_tables 6 = .ok (.invokestatic 57, 3) := by decide +kernel
theorem dX9_tables_9 : decode cX9_tables 9 = .ok (.ifCond .eq 29, 3) := by decide +kernel
theorem dX9_tables_12 : decode cX9_tables 12 = .ok (.iload_n 3, 1) := by decide +kernel
theorem dX9_tables_13 : decode cX9_tables 13 = .ok (.i2l, 1) := by decide +kernel
theorem dX9_tables_14 : decode cX9_tables 14 = .ok (.lconst 0, 1) := by decide +kernel
theorem dX9_tables_15 : decode cX9_tables 15 = .ok (.ldc2_w 265, 3) := by decide +kernel
theorem dX9_tables_18 : decode cX9_tables 18 = .ok (.invokestatic 57, 3) := by decide +kernel
theorem dX9_tables_21 : decode cX9_tables 21 = .ok (.ifCond .ne 19, 3) := by decide +kernel
theorem dX9_tables_24 : decode cX9_tables 24 = .ok (.iload_n 3, 1) := by decide +kernel
theorem dX9_tables_25 : decode cX9_tables 25 = .ok (.i2l, 1) := by decide +kernel
theorem dX9_tables_26 : decode cX9_tables 26 = .ok (.ldc2_w 68, 3) := by decide +kernel
theorem dX9_tables_29 : decode cX9_tables 29 = .ok (.ldc2_w 267, 3) := by decide +kernel
theorem dX9_tables_32 : decode cX9_tables 32 = .ok (.invokestatic 57, 3) := by decide +kernel
theorem dX9_tables_35 : decode cX9_tables 35 = .ok (.ifCond .ne 5, 3) := by decide +kernel
theorem dX9_tables_38 : decode cX9_tables 38 = .ok (.iconst (-1), 1) := by decide +kernel
theorem dX9_tables_39 : decode cX9_tables 39 = .ok (.ireturn, 1) := by decide +kernel
theorem dX9_tables_40 : decode cX9_tables 40 = .ok (.aload_n 0, 1) := by decide +kernel
theorem dX9_tables_41 : decode cX9_tables 41 = .ok (.iload_n 1, 1) := by decide +kernel
theorem dX9_tables_42 : decode cX9_tables 42 = .ok (.iload_n 2, 1) := by decide +kernel
theorem dX9_tables_43 : decode cX9_tables 43 = .ok (.invokevirtual 269, 3) := by decide +kernel
theorem dX9_tables_46 : decode cX9_tables 46 = .ok (.istore 4, 2) := by decide +kernel
theorem dX9_tables_48 : decode cX9_tables 48 = .ok (.iload_n 3, 1) := by decide +kernel
theorem dX9_tables_49 : decode cX9_tables 49 = .ok (.ifCond .ne 6, 3) := by decide +kernel
theorem dX9_tables_52 : decode cX9_tables 52 = .ok (.iload 4, 2) := by decide +kernel
theorem dX9_tables_54 : decode cX9_tables 54 = .ok (.ireturn, 1) := by decide +kernel
theorem dX9_tables_55 : decode cX9_tables 55 = .ok (.aload_n 0, 1) := by decide +kernel
theorem dX9_tables_56 : decode cX9_tables 56 = .ok (.iload_n 1, 1) := by decide +kernel
theorem dX9_tables_57 : decode cX9_tables 57 = .ok (.iload_n 2, 1) := by decide +kernel
theorem dX9_tables_58 : decode cX9_tables 58 = .ok (.iload 4, 2) := by decide +kernel
theorem dX9_tables_60 : decode cX9_tables 60 = .ok (.invokevirtual 273, 3) := by decide +kernel
theorem dX9_tables_63 : decode cX9_tables 63 = .ok (.ifCond .ne 5, 3) := by decide +kernel
theorem dX9_tables_66 : decode cX9_tables 66 = .ok (.iconst (-1), 1) := by decide +kernel
theorem dX9_tables_67 : decode cX9_tables 67 = .ok (.ireturn, 1) := by decide +kernel
theorem dX9_tables_68 : decode cX9_tables 68 = .ok (.iload_n 3, 1) := by decide +kernel
theorem dX9_tables_69 : decode cX9_tables 69 = .ok (.iconst 1, 1) := by decide +kernel
theorem dX9_tables_70 : decode cX9_tables 70 = .ok (.if_icmp .ne 10, 3) := by decide +kernel
theorem dX9_tables_73 : decode cX9_tables 73 = .ok (.aload_n 0, 1) := by decide +kernel
theorem dX9_tables_74 : decode cX9_tables 74 = .ok (.getfield 22, 3) := by decide +kernel
theorem dX9_tables_77 : decode cX9_tables 77 = .ok (.goto 49, 3) := by decide +kernel
theorem dX9_tables_80 : decode cX9_tables 80 = .ok (.iload_n 3, 1) := by decide +kernel
theorem dX9_tables_81 : decode cX9_tables 81 = .ok (.iconst 2, 1) := by decide +kernel
theorem dX9_tables_82 : decode cX9_tables 82 = .ok (.if_icmp .ne 10, 3) := by decide +kernel
theorem dX9_tables_85 : decode cX9_tables 85 = .ok (.aload_n 0, 1) := by decide +kernel
theorem dX9_tables_86 : decode cX9_tables 86 = .ok (.getfield 150, 3) := by decide +kernel
theorem dX9_tables_89 : decode cX9_tables 89 = .ok (.goto 37, 3) := by decide +kernel
theorem dX9_tables_92 : decode cX9_tables 92 = .ok (.iload_n 3, 1) := by decide +kernel
theorem dX9_tables_93 : decode cX9_tables 93 = .ok (.bipush 10, 2) := by decide +kernel
theorem dX9_tables_95 : decode cX9_tables 95 = .ok (.isub, 1) := by decide +kernel
theorem dX9_tables_96 : decode cX9_tables 96 = .ok (.i2l, 1) := by decide +kernel
theorem dX9_tables_97 : decode cX9_tables 97 = .ok (.aload_n 0, 1) := by decide +kernel
theorem dX9_tables_98 : decode cX9_tables 98 = .ok (.getfield 22, 3) := by decide +kernel
theorem dX9_tables_101 : decode cX9_tables 101 = .ok (.i2l, 1) := by decide +kernel
theorem dX9_tables_102 : decode cX9_tables 102 = .ok (.aload_n 0, 1) := by decide +kernel
theorem dX9_tables_103 : decode cX9_tables 103 = .ok (.getfield 150, 3) := by decide +kernel
theorem dX9_tables_106 : decode cX9_tables 106 = .ok (.i2l, 1) := by decide +kernel
theorem dX9_tables_107 : decode cX9_tables 107 = .ok (.invokestatic 57, 3) := by decide +kernel
theorem dX9_tables_110 : decode cX9_tables 110 = .ok (.ifCond .eq 15, 3) := by decide +kernel
theorem dX9_tables_113 : decode cX9_tables 113 = .ok (.aload_n 0, 1) := by decide +kernel
theorem dX9_tables_114 : decode cX9_tables 114 = .ok (.getfield 26, 3) := by decide +kernel
theorem dX9_tables_117 : decode cX9_tables 117 = .ok (.iload_n 3, 1) := by decide +kernel
theorem dX9_tables_118 : decode cX9_tables 118 = .ok (.bipush 10, 2) := by decide +kernel
theorem dX9_tables_120 : decode cX9_tables 120 = .ok (.isub, 1) := by decide +kernel
theorem dX9_tables_121 : decode cX9_tables 121 = .ok (.iaload, 1) := by decide +kernel
theorem dX9_tables_122 : decode cX9_tables 122 = .ok (.goto 4, 3) := by decide +kernel
theorem dX9_tables_125 : decode cX9_tables 125 = .ok (.iconst (-1), 1) := by decide +kernel
theorem dX9_tables_126 : decode cX9_tables 126 = .ok (.ireturn, 1) := by decide +kernel
set_option maxHeartbeats 4000000 in
theorem t_X9_tables_40 {X : sj_X} {s0 : sj_Mem} {N : Nat} {q : Int × sj_Mem} :
    ∀ (a0 : Nat) (x1 : Int) (x2 : Int) (x3 : Int) (s : sj_Mem), f_X9_tables_40 N a0 x1 x2 x3 s = some q → sj_T X m_X9_tables s0 (some (sj_i q.1), q.2) 40 [some (sj_r (some a0)), some (sj_i x1), some (sj_i x2), some (sj_i x3), none] [] s := by
  intro a0 x1 x2 x3 s h
  unfold f_X9_tables_40 at h
  refine r_aload_n (pc := 40) dX9_tables_40 rfl rfl ?_
  refine r_iload_n (pc := 41) dX9_tables_41 rfl rfl ?_
  refine r_iload_n (pc := 42) dX9_tables_42 rfl rfl ?_
  refine r_callV (pc := 43) (fun v => some (sj_i v)) (As := [sj_i x1, sj_i x2]) (rest := []) h dX9_tables_43 mw_X9_269 vw_X9_tableK (fun _ _ hc => c_X9_tableK hc) rfl ⟨(Nat.le_of_ble_eq_true rfl), (Nat.le_of_ble_eq_true rfl)⟩ (Nat.le_of_ble_eq_true rfl) rfl (fun v2 s1 h => ?_)
  refine r_istore (ln := [some (sj_r (some a0)), some (sj_i x1), some (sj_i x2), some (sj_i x3), some (sj_i v2)]) (pc := 46) dX9_tables_46 (Nat.le_of_ble_eq_true rfl) rfl ?_
  refine r_iload_n (pc := 48) dX9_tables_48 rfl rfl ?_
  refine r_if_ne (pc := 49) (tgt := 55) h dX9_tables_49 (by decide) (fun h => ?_) (fun h => ?_)
  · refine r_iload (pc := 52) dX9_tables_52 rfl ?_
    exact r_iret (pc := 54) h rfl dX9_tables_54
  · refine r_aload_n (pc := 55) dX9_tables_55 rfl rfl ?_
    refine r_iload_n (pc := 56) dX9_tables_56 rfl rfl ?_
    refine r_iload_n (pc := 57) dX9_tables_57 rfl rfl ?_
    refine r_iload (pc := 58) dX9_tables_58 rfl ?_
    refine r_callV (pc := 60) (fun v => some (sj_i v)) (As := [sj_i x1, sj_i x2, sj_i v2]) (rest := []) h dX9_tables_60 mw_X9_273 vw_X9_findsWorst (fun _ _ hc => c_X9_findsWorst hc) rfl ⟨(Nat.le_of_ble_eq_true rfl), (Nat.le_of_ble_eq_true rfl)⟩ (Nat.le_of_ble_eq_true rfl) rfl (fun v4 s3 h => ?_)
    refine r_if_ne (pc := 63) (tgt := 68) h dX9_tables_63 (by decide) (fun h => ?_) (fun h => ?_)
    · refine r_iconst (pc := 66) dX9_tables_66 ?_
      exact r_iret (pc := 67) h rfl dX9_tables_67
    · refine r_iload_n (pc := 68) dX9_tables_68 rfl rfl ?_
      refine r_iconst (pc := 69) dX9_tables_69 ?_
      refine r_icmp_ne (pc := 70) (tgt := 80) h dX9_tables_70 (by decide) (fun h => ?_) (fun h => ?_)
      · refine r_aload_n (pc := 73) dX9_tables_73 rfl rfl ?_
        refine r_gI (pc := 74) h dX9_tables_74 fw_X9_22 rfl (fun v16 h => ?_)
        refine r_goto (pc := 77) (tgt := 126) dX9_tables_77 (by decide) ?_
        exact r_iret (pc := 126) h rfl dX9_tables_126
      · refine r_iload_n (pc := 80) dX9_tables_80 rfl rfl ?_
        refine r_iconst (pc := 81) dX9_tables_81 ?_
        refine r_icmp_ne (pc := 82) (tgt := 92) h dX9_tables_82 (by decide) (fun h => ?_) (fun h => ?_)
        · refine r_aload_n (pc := 85) dX9_tables_85 rfl rfl ?_
          refine r_gI (pc := 86) h dX9_tables_86 fw_X9_150 rfl (fun v15 h => ?_)
          refine r_goto (pc := 89) (tgt := 126) dX9_tables_89 (by decide) ?_
          exact r_iret (pc := 126) h rfl dX9_tables_126
        · refine r_iload_n (pc := 92) dX9_tables_92 rfl rfl ?_
          refine r_bipush (pc := 93) dX9_tables_93 ⟨by decide, by decide⟩ ?_
          refine r_isub (pc := 95) dX9_tables_95 ?_
          refine r_i2l (pc := 96) h dX9_tables_96 (fun v5 h => ?_)
          refine r_aload_n (pc := 97) dX9_tables_97 rfl rfl ?_
          refine r_gI (pc := 98) h dX9_tables_98 fw_X9_22 rfl (fun v6 h => ?_)
          refine r_i2l (pc := 101) h dX9_tables_101 (fun v7 h => ?_)
          refine r_aload_n (pc := 102) dX9_tables_102 rfl rfl ?_
          refine r_gI (pc := 103) h dX9_tables_103 fw_X9_150 rfl (fun v8 h => ?_)
          refine r_i2l (pc := 106) h dX9_tables_106 (fun v9 h => ?_)
          refine r_callS (pc := 107) (fun v => some (sj_i v)) (As := [sj_j v5, sj_j v7, sj_j v9]) (rest := []) h dX9_tables_107 mw_X9_57 kw_1225 (fun _ _ hc => c_X9_isIn hc) rfl ⟨(Nat.le_of_ble_eq_true rfl), (Nat.le_of_ble_eq_true rfl)⟩ (Nat.le_of_ble_eq_true rfl) rfl (fun v11 s10 h => ?_)
          refine r_if_eq (pc := 110) (tgt := 125) h dX9_tables_110 (by decide) (fun h => ?_) (fun h => ?_)
          · refine r_iconst (pc := 125) dX9_tables_125 ?_
            exact r_iret (pc := 126) h rfl dX9_tables_126
          · refine r_aload_n (pc := 113) dX9_tables_113 rfl rfl ?_
            refine r_gR (pc := 114) h dX9_tables_114 fw_X9_26 rfl (fun r12 h => ?_)
            refine r_iload_n (pc := 117) dX9_tables_117 rfl rfl ?_
            refine r_bipush (pc := 118) dX9_tables_118 ⟨by decide, by decide⟩ ?_
            refine r_isub (pc := 120) dX9_tables_120 ?_
            obtain ⟨a13, ea13, g⟩ := e_nn_some h
            clear h
            subst ea13
            have h := g
            clear g
            refine r_iaload (pc := 121) h dX9_tables_121 (fun v14 h => ?_)
            refine r_goto (pc := 122) (tgt := 126) dX9_tables_122 (by decide) ?_
            exact r_iret (pc := 126) h rfl dX9_tables_126
set_option maxHeartbeats 4000000 in
theorem t_X9_tables_0 {X : sj_X} {s0 : sj_Mem} {N : Nat} {q : Int × sj_Mem} :
    ∀ (a0 : Nat) (x1 : Int) (x2 : Int) (x3 : Int) (s : sj_Mem), f_X9_tables N a0 x1 x2 x3 s = some q → sj_T X m_X9_tables s0 (some (sj_i q.1), q.2) 0 [some (sj_r (some a0)), some (sj_i x1), some (sj_i x2), some (sj_i x3), none] [] s := by
  intro a0 x1 x2 x3 s h
  unfold f_X9_tables at h
  refine r_iload_n (pc := 0) dX9_tables_0 rfl rfl ?_
  refine r_i2l (pc := 1) h dX9_tables_1 (fun v1 h => ?_)
  refine r_lconst1 (pc := 2) dX9_tables_2 ?_
  refine r_ldc2 (n := 12) (pc := 3) dX9_tables_3 kc_X9_263 ?_
  refine r_callS (pc := 6) (fun v => some (sj_i v)) (As := [sj_j v1, sj_j 1, sj_j 12]) (rest := []) h dX9_tables_6 mw_X9_57 kw_1225 (fun _ _ hc => c_X9_isIn hc) rfl ⟨(Nat.le_of_ble_eq_true rfl), (Nat.le_of_ble_eq_true rfl)⟩ (Nat.le_of_ble_eq_true rfl) rfl (fun v3 s2 h => ?_)
  refine r_if_eq (pc := 9) (tgt := 38) h dX9_tables_9 (by decide) (fun h => ?_) (fun h => ?_)
  · refine r_iconst (pc := 38) dX9_tables_38 ?_
    exact r_iret (pc := 39) h rfl dX9_tables_39
  · refine r_iload_n (pc := 12) dX9_tables_12 rfl rfl ?_
    refine r_i2l (pc := 13) h dX9_tables_13 (fun v4 h => ?_)
    refine r_lconst0 (pc := 14) dX9_tables_14 ?_
    refine r_ldc2 (n := 2) (pc := 15) dX9_tables_15 kc_X9_265 ?_
    refine r_callS (pc := 18) (fun v => some (sj_i v)) (As := [sj_j v4, sj_j 0, sj_j 2]) (rest := []) h dX9_tables_18 mw_X9_57 kw_1225 (fun _ _ hc => c_X9_isIn hc) rfl ⟨(Nat.le_of_ble_eq_true rfl), (Nat.le_of_ble_eq_true rfl)⟩ (Nat.le_of_ble_eq_true rfl) rfl (fun v6 s5 h => ?_)
    refine r_if_ne (pc := 21) (tgt := 40) h dX9_tables_21 (by decide) (fun h => ?_) (fun h => ?_)
    · refine r_iload_n (pc := 24) dX9_tables_24 rfl rfl ?_
      refine r_i2l (pc := 25) h dX9_tables_25 (fun v7 h => ?_)
      refine r_ldc2 (n := 10) (pc := 26) dX9_tables_26 kc_X9_68 ?_
      refine r_ldc2 (n := 50) (pc := 29) dX9_tables_29 kc_X9_267 ?_
      refine r_callS (pc := 32) (fun v => some (sj_i v)) (As := [sj_j v7, sj_j 10, sj_j 50]) (rest := []) h dX9_tables_32 mw_X9_57 kw_1225 (fun _ _ hc => c_X9_isIn hc) rfl ⟨(Nat.le_of_ble_eq_true rfl), (Nat.le_of_ble_eq_true rfl)⟩ (Nat.le_of_ble_eq_true rfl) rfl (fun v9 s8 h => ?_)
      refine r_if_ne (pc := 35) (tgt := 40) h dX9_tables_35 (by decide) (fun h => ?_) (fun h => ?_)
      · refine r_iconst (pc := 38) dX9_tables_38 ?_
        exact r_iret (pc := 39) h rfl dX9_tables_39
      · exact sj_weak (l2 := [some (sj_r (some a0)), some (sj_i x1), some (sj_i x2), some (sj_i x3), none]) (⟨rfl, ⟨rfl, ⟨rfl, ⟨rfl, trivial⟩⟩⟩⟩) (t_X9_tables_40 a0 x1 x2 x3 s8 h)
    · exact sj_weak (l2 := [some (sj_r (some a0)), some (sj_i x1), some (sj_i x2), some (sj_i x3), none]) (⟨rfl, ⟨rfl, ⟨rfl, ⟨rfl, trivial⟩⟩⟩⟩) (t_X9_tables_40 a0 x1 x2 x3 s5 h)
set_option maxHeartbeats 4000000 in
theorem c_X9_tables {X : sj_X} {N : Nat} {a0 : Nat} {x1 : Int} {x2 : Int} {x3 : Int} {s : sj_Mem} {q : Int × sj_Mem} (h : f_X9_tables N a0 x1 x2 x3 s = some q) : sj_C X m_X9_tables [sj_r (some a0), sj_i x1, sj_i x2, sj_i x3] s (some (sj_i q.1), q.2) :=
  sj_C_of (by decide +kernel) (Nat.le_of_ble_eq_true rfl) (lo := [some (sj_r (some a0)), some (sj_i x1), some (sj_i x2), some (sj_i x3), none]) rfl (sj_weak (l2 := [some (sj_r (some a0)), some (sj_i x1), some (sj_i x2), some (sj_i x3), none]) (⟨rfl, ⟨rfl, ⟨rfl, ⟨rfl, trivial⟩⟩⟩⟩) (t_X9_tables_0 a0 x1 x2 x3 s h))
theorem dX9_boxes_0 : decode cX9_boxes 0 = .ok (.iload_n 1, 1) := by decide +kernel
theorem dX9_boxes_1 : decode cX9_boxes 1 = .ok (.iload_n 2, 1) := by decide +kernel
theorem dX9_boxes_2 : decode cX9_boxes 2 = .ok (.iload_n 3, 1) := by decide +kernel
theorem dX9_boxes_3 : decode cX9_boxes 3 = .ok (.invokestatic 197, 3) := by decide +kernel
theorem dX9_boxes_6 : decode cX9_boxes 6 = .ok (.ifCond .eq 44, 3) := by decide +kernel
theorem dX9_boxes_9 : decode cX9_boxes 9 = .ok (.iload 4, 2) := by decide +kernel
theorem dX9_boxes_11 : decode cX9_boxes 11 = .ok (.i2l, 1) := by decide +kernel
theorem dX9_boxes_12 : decode cX9_boxes 12 = .ok (.lconst 1, 1) := by decide +kernel
theorem dX9_boxes_13 : decode cX9_boxes 13 = .ok (.ldc2_w 241, 3) := by decide +kernel
theorem dX9_boxes_16 : decode cX9_boxes 16 = .ok (.invokestatic 57, 3) := by decide +kernel
theorem dX9_boxes_19 : decode cX9_boxes 19 = .ok (.ifCond .eq 31, 3) := by decide +kernel
theorem dX9_boxes_22 : decode cX9_boxes 22 = .ok (.iload 6, 2) := by decide +kernel
theorem dX9_boxes_24 : decode cX9_boxes 24 = .ok (.i2l, 1) := by decide +kernel
theorem dX9_boxes_25 : decode cX9_boxes 25 = .ok (.lconst 0, 1) := by decide +kernel
theorem dX9_boxes_26 : decode cX9_boxes 26 = .ok (.ldc2_w 64, 3) := by decide +kernel
theorem dX9_boxes_29 : decode cX9_boxes 29 = .ok (.invokestatic 57, 3) := by decide +kernel
theorem dX9_boxes_32 : decode cX9_boxes 32 = .ok (.ifCond .eq 18, 3) := by decide +kernel
theorem dX9_boxes_35 : decode cX9_boxes 35 = .ok (.aload_n 0, 1) := by decide +kernel
theorem dX9_boxes_36 : decode cX9_boxes 36 = .ok (.iload_n 1, 1) := by decide +kernel
theorem dX9_boxes_37 : decode cX9_boxes 37 = .ok (.iload_n 2, 1) := by decide +kernel
theorem dX9_boxes_38 : decode cX9_boxes 38 = .ok (.iload_n 3, 1) := by decide +kernel
theorem dX9_boxes_39 : decode cX9_boxes 39 = .ok (.iload 4, 2) := by decide +kernel
theorem dX9_boxes_41 : decode cX9_boxes 41 = .ok (.iload 5, 2) := by decide +kernel
theorem dX9_boxes_43 : decode cX9_boxes 43 = .ok (.invokevirtual 243, 3) := by decide +kernel
theorem dX9_boxes_46 : decode cX9_boxes 46 = .ok (.iconst (-1), 1) := by decide +kernel
theorem dX9_boxes_47 : decode cX9_boxes 47 = .ok (.if_icmp .ne 6, 3) := by decide +kernel
theorem dX9_boxes_50 : decode cX9_boxes 50 = .ok (.bipush (-100), 2) := by decide +kernel
theorem dX9_boxes_52 : decode cX9_boxes 52 = .ok (.ireturn, 1) := by decide +kernel
theorem dX9_boxes_53 : decode cX9_boxes 53 = .ok (.iload 6, 2) := by decide +kernel
theorem dX9_boxes_55 : decode cX9_boxes 55 = .ok (.ifCond .ne 10, 3) := by decide +kernel
theorem dX9_boxes_58 : decode cX9_boxes 58 = .ok (.aload_n 0, 1) := by decide +kernel
theorem dX9_boxes_59 : decode cX9_boxes 59 = .ok (.getfield 231, 3) := by decide +kernel
theorem dX9_boxes_62 : decode cX9_boxes 62 = .ok (.goto 46, 3) := by decide +kernel
theorem dX9_boxes_65 : decode cX9_boxes 65 = .ok (.iload 6, 2) := by decide +kernel
theorem dX9_boxes_67 : decode cX9_boxes 67 = .ok (.iconst 1, 1) := by decide +kernel
theorem dX9_boxes_68 : decode cX9_boxes 68 = .ok (.if_icmp .ne 10, 3) := by decide +kernel
theorem dX9_boxes_71 : decode cX9_boxes 71 = .ok (.aload_n 0, 1) := by decide +kernel
theorem dX9_boxes_72 : decode cX9_boxes 72 = .ok (.getfield 222, 3) := by decide +kernel
theorem dX9_boxes_75 : decode cX9_boxes 75 = .ok (.goto 33, 3) := by decide +kernel
theorem dX9_boxes_78 : decode cX9_boxes 78 = .ok (.iload 6, 2) := by decide +kernel
theorem dX9_boxes_80 : decode cX9_boxes 80 = .ok (.iconst 2, 1) := by decide +kernel
theorem dX9_boxes_81 : decode cX9_boxes 81 = .ok (.if_icmp .ne 10, 3) := by decide +kernel
theorem dX9_boxes_84 : decode cX9_boxes 84 = .ok (.aload_n 0, 1) := by decide +kernel
theorem dX9_boxes_85 : decode cX9_boxes 85 = .ok (.getfield 225, 3) := by decide +kernel
theorem dX9_boxes_88 : decode cX9_boxes 88 = .ok (.goto 20, 3) := by decide +kernel
theorem dX9_boxes_91 : decode cX9_boxes 91 = .ok (.iload 6, 2) := by decide +kernel
theorem dX9_boxes_93 : decode cX9_boxes 93 = .ok (.iconst 3, 1) := by decide +kernel
theorem dX9_boxes_94 : decode cX9_boxes 94 = .ok (.if_icmp .ne 10, 3) := by decide +kernel
theorem dX9_boxes_97 : decode cX9_boxes 97 = .ok (.aload_n 0, 1) := by decide +kernel
theorem dX9_boxes_98 : decode cX9_boxes 98 = .ok (.getfield 228, 3) := by decide +kernel
theorem dX9_boxes_101 : decode cX9_boxes 101 = .ok (.goto 7, 3) := by decide +kernel
theorem dX9_boxes_104 : decode cX9_boxes 104 = .ok (.aload_n 0, 1) := by decide +kernel
theorem dX9_boxes_105 : decode cX9_boxes 105 = .ok (.getfield 234, 3) := by decide +kernel
theorem dX9_boxes_108 : decode cX9_boxes 108 = .ok (.ireturn, 1) := by decide +kernel
set_option maxHeartbeats 4000000 in
theorem t_X9_boxes_0 {X : sj_X} {s0 : sj_Mem} {N : Nat} {q : Int × sj_Mem} :
    ∀ (a0 : Nat) (x1 : Int) (x2 : Int) (x3 : Int) (x4 : Int) (x5 : Int) (x6 : Int) (s : sj_Mem), f_X9_boxes N a0 x1 x2 x3 x4 x5 x6 s = some q → sj_T X m_X9_boxes s0 (some (sj_i q.1), q.2) 0 [some (sj_r (some a0)), some (sj_i x1), some (sj_i x2), some (sj_i x3), some (sj_i x4), some (sj_i x5), some (sj_i x6)] [] s := by
  intro a0 x1 x2 x3 x4 x5 x6 s h
  unfold f_X9_boxes at h
  refine r_iload_n (pc := 0) dX9_boxes_0 rfl rfl ?_
  refine r_iload_n (pc := 1) dX9_boxes_1 rfl rfl ?_
  refine r_iload_n (pc := 2) dX9_boxes_2 rfl rfl ?_
  refine r_callS (pc := 3) (fun v => some (sj_i v)) (As := [sj_i x1, sj_i x2, sj_i x3]) (rest := []) h dX9_boxes_3 mw_X9_197 kw_1284 (fun _ _ hc => c_X9_isCircle hc) rfl ⟨(Nat.le_of_ble_eq_true rfl), (Nat.le_of_ble_eq_true rfl)⟩ (Nat.le_of_ble_eq_true rfl) rfl (fun v2 s1 h => ?_)
  refine r_if_eq (pc := 6) (tgt := 50) h dX9_boxes_6 (by decide) (fun h => ?_) (fun h => ?_)
  · refine r_bipush (pc := 50) dX9_boxes_50 ⟨by decide, by decide⟩ ?_
    exact r_iret (pc := 52) h rfl dX9_boxes_52
  · refine r_iload (pc := 9) dX9_boxes_9 rfl ?_
    refine r_i2l (pc := 11) h dX9_boxes_11 (fun v3 h => ?_)
    refine r_lconst1 (pc := 12) dX9_boxes_12 ?_
    refine r_ldc2 (n := 64) (pc := 13) dX9_boxes_13 kc_X9_241 ?_
    refine r_callS (pc := 16) (fun v => some (sj_i v)) (As := [sj_j v3, sj_j 1, sj_j 64]) (rest := []) h dX9_boxes_16 mw_X9_57 kw_1225 (fun _ _ hc => c_X9_isIn hc) rfl ⟨(Nat.le_of_ble_eq_true rfl), (Nat.le_of_ble_eq_true rfl)⟩ (Nat.le_of_ble_eq_true rfl) rfl (fun v5 s4 h => ?_)
    refine r_if_eq (pc := 19) (tgt := 50) h dX9_boxes_19 (by decide) (fun h => ?_) (fun h => ?_)
    · refine r_bipush (pc := 50) dX9_boxes_50 ⟨by decide, by decide⟩ ?_
      exact r_iret (pc := 52) h rfl dX9_boxes_52
    · refine r_iload (pc := 22) dX9_boxes_22 rfl ?_
      refine r_i2l (pc := 24) h dX9_boxes_24 (fun v6 h => ?_)
      refine r_lconst0 (pc := 25) dX9_boxes_25 ?_
      refine r_ldc2 (n := 4) (pc := 26) dX9_boxes_26 kc_X9_64 ?_
      refine r_callS (pc := 29) (fun v => some (sj_i v)) (As := [sj_j v6, sj_j 0, sj_j 4]) (rest := []) h dX9_boxes_29 mw_X9_57 kw_1225 (fun _ _ hc => c_X9_isIn hc) rfl ⟨(Nat.le_of_ble_eq_true rfl), (Nat.le_of_ble_eq_true rfl)⟩ (Nat.le_of_ble_eq_true rfl) rfl (fun v8 s7 h => ?_)
      refine r_if_eq (pc := 32) (tgt := 50) h dX9_boxes_32 (by decide) (fun h => ?_) (fun h => ?_)
      · refine r_bipush (pc := 50) dX9_boxes_50 ⟨by decide, by decide⟩ ?_
        exact r_iret (pc := 52) h rfl dX9_boxes_52
      · refine r_aload_n (pc := 35) dX9_boxes_35 rfl rfl ?_
        refine r_iload_n (pc := 36) dX9_boxes_36 rfl rfl ?_
        refine r_iload_n (pc := 37) dX9_boxes_37 rfl rfl ?_
        refine r_iload_n (pc := 38) dX9_boxes_38 rfl rfl ?_
        refine r_iload (pc := 39) dX9_boxes_39 rfl ?_
        refine r_iload (pc := 41) dX9_boxes_41 rfl ?_
        refine r_callV (pc := 43) (fun v => some (sj_i v)) (As := [sj_i x1, sj_i x2, sj_i x3, sj_i x4, sj_i x5]) (rest := []) h dX9_boxes_43 mw_X9_243 vw_X9_searches (fun _ _ hc => c_X9_searches hc) rfl ⟨(Nat.le_of_ble_eq_true rfl), (Nat.le_of_ble_eq_true rfl)⟩ (Nat.le_of_ble_eq_true rfl) rfl (fun v10 s9 h => ?_)
        refine r_iconst (pc := 46) dX9_boxes_46 ?_
        refine r_icmp_ne (pc := 47) (tgt := 53) h dX9_boxes_47 (by decide) (fun h => ?_) (fun h => ?_)
        · refine r_bipush (pc := 50) dX9_boxes_50 ⟨by decide, by decide⟩ ?_
          exact r_iret (pc := 52) h rfl dX9_boxes_52
        · refine r_iload (pc := 53) dX9_boxes_53 rfl ?_
          refine r_if_ne (pc := 55) (tgt := 65) h dX9_boxes_55 (by decide) (fun h => ?_) (fun h => ?_)
          · refine r_aload_n (pc := 58) dX9_boxes_58 rfl rfl ?_
            refine r_gI (pc := 59) h dX9_boxes_59 fw_X9_231 rfl (fun v15 h => ?_)
            refine r_goto (pc := 62) (tgt := 108) dX9_boxes_62 (by decide) ?_
            exact r_iret (pc := 108) h rfl dX9_boxes_108
          · refine r_iload (pc := 65) dX9_boxes_65 rfl ?_
            refine r_iconst (pc := 67) dX9_boxes_67 ?_
            refine r_icmp_ne (pc := 68) (tgt := 78) h dX9_boxes_68 (by decide) (fun h => ?_) (fun h => ?_)
            · refine r_aload_n (pc := 71) dX9_boxes_71 rfl rfl ?_
              refine r_gI (pc := 72) h dX9_boxes_72 fw_X9_222 rfl (fun v14 h => ?_)
              refine r_goto (pc := 75) (tgt := 108) dX9_boxes_75 (by decide) ?_
              exact r_iret (pc := 108) h rfl dX9_boxes_108
            · refine r_iload (pc := 78) dX9_boxes_78 rfl ?_
              refine r_iconst (pc := 80) dX9_boxes_80 ?_
              refine r_icmp_ne (pc := 81) (tgt := 91) h dX9_boxes_81 (by decide) (fun h => ?_) (fun h => ?_)
              · refine r_aload_n (pc := 84) dX9_boxes_84 rfl rfl ?_
                refine r_gI (pc := 85) h dX9_boxes_85 fw_X9_225 rfl (fun v13 h => ?_)
                refine r_goto (pc := 88) (tgt := 108) dX9_boxes_88 (by decide) ?_
                exact r_iret (pc := 108) h rfl dX9_boxes_108
              · refine r_iload (pc := 91) dX9_boxes_91 rfl ?_
                refine r_iconst (pc := 93) dX9_boxes_93 ?_
                refine r_icmp_ne (pc := 94) (tgt := 104) h dX9_boxes_94 (by decide) (fun h => ?_) (fun h => ?_)
                · refine r_aload_n (pc := 97) dX9_boxes_97 rfl rfl ?_
                  refine r_gI (pc := 98) h dX9_boxes_98 fw_X9_228 rfl (fun v12 h => ?_)
                  refine r_goto (pc := 101) (tgt := 108) dX9_boxes_101 (by decide) ?_
                  exact r_iret (pc := 108) h rfl dX9_boxes_108
                · refine r_aload_n (pc := 104) dX9_boxes_104 rfl rfl ?_
                  refine r_gI (pc := 105) h dX9_boxes_105 fw_X9_234 rfl (fun v11 h => ?_)
                  exact r_iret (pc := 108) h rfl dX9_boxes_108
set_option maxHeartbeats 4000000 in
theorem c_X9_boxes {X : sj_X} {N : Nat} {a0 : Nat} {x1 : Int} {x2 : Int} {x3 : Int} {x4 : Int} {x5 : Int} {x6 : Int} {s : sj_Mem} {q : Int × sj_Mem} (h : f_X9_boxes N a0 x1 x2 x3 x4 x5 x6 s = some q) : sj_C X m_X9_boxes [sj_r (some a0), sj_i x1, sj_i x2, sj_i x3, sj_i x4, sj_i x5, sj_i x6] s (some (sj_i q.1), q.2) :=
  sj_C_of (by decide +kernel) (Nat.le_of_ble_eq_true rfl) (lo := [some (sj_r (some a0)), some (sj_i x1), some (sj_i x2), some (sj_i x3), some (sj_i x4), some (sj_i x5), some (sj_i x6)]) rfl (sj_weak (l2 := [some (sj_r (some a0)), some (sj_i x1), some (sj_i x2), some (sj_i x3), some (sj_i x4), some (sj_i x5), some (sj_i x6)]) (⟨rfl, ⟨rfl, ⟨rfl, ⟨rfl, ⟨rfl, ⟨rfl, ⟨rfl, trivial⟩⟩⟩⟩⟩⟩⟩) (t_X9_boxes_0 a0 x1 x2 x3 x4 x5 x6 s h))
theorem dX9_tried_0 : decode cX9_tried 0 = .ok (.aload_n 0, 1) := by decide +kernel
theorem dX9_tried_1 : decode cX9_tried 1 = .ok (.iload_n 1, 1) := by decide +kernel
theorem dX9_tried_2 : decode cX9_tried 2 = .ok (.iload_n 2, 1) := by decide +kernel
theorem dX9_tried_3 : decode cX9_tried 3 = .ok (.iload_n 3, 1) := by decide +kernel
theorem dX9_tried_4 : decode cX9_tried 4 = .ok (.iload 4, 2) := by decide +kernel
theorem dX9_tried_6 : decode cX9_tried 6 = .ok (.invokevirtual 212, 3) := by decide +kernel
theorem dX9_tried_9 : decode cX9_tried 9 = .ok (.ireturn, 1) := by decide +kernel
set_option maxHeartbeats 4000000 in
theorem t_X9_tried_0 {X : sj_X} {s0 : sj_Mem} {N : Nat} {q : Int × sj_Mem} :
    ∀ (a0 : Nat) (x1 : Int) (x2 : Int) (x3 : Int) (x4 : Int) (s : sj_Mem), f_X9_tried N a0 x1 x2 x3 x4 s = some q → sj_T X m_X9_tried s0 (some (sj_i q.1), q.2) 0 [some (sj_r (some a0)), some (sj_i x1), some (sj_i x2), some (sj_i x3), some (sj_i x4)] [] s := by
  intro a0 x1 x2 x3 x4 s h
  unfold f_X9_tried at h
  refine r_aload_n (pc := 0) dX9_tried_0 rfl rfl ?_
  refine r_iload_n (pc := 1) dX9_tried_1 rfl rfl ?_
  refine r_iload_n (pc := 2) dX9_tried_2 rfl rfl ?_
  refine r_iload_n (pc := 3) dX9_tried_3 rfl rfl ?_
  refine r_iload (pc := 4) dX9_tried_4 rfl ?_
  refine r_callV (pc := 6) (fun v => some (sj_i v)) (As := [sj_i x1, sj_i x2, sj_i x3, sj_i x4]) (rest := []) h dX9_tried_6 mw_X9_212 vw_X9_factorBy (fun _ _ hc => c_X9_factorBy hc) rfl ⟨(Nat.le_of_ble_eq_true rfl), (Nat.le_of_ble_eq_true rfl)⟩ (Nat.le_of_ble_eq_true rfl) rfl (fun v2 s1 h => ?_)
  exact r_iret (pc := 9) h rfl dX9_tried_9
set_option maxHeartbeats 4000000 in
theorem c_X9_tried {X : sj_X} {N : Nat} {a0 : Nat} {x1 : Int} {x2 : Int} {x3 : Int} {x4 : Int} {s : sj_Mem} {q : Int × sj_Mem} (h : f_X9_tried N a0 x1 x2 x3 x4 s = some q) : sj_C X m_X9_tried [sj_r (some a0), sj_i x1, sj_i x2, sj_i x3, sj_i x4] s (some (sj_i q.1), q.2) :=
  sj_C_of (by decide +kernel) (Nat.le_of_ble_eq_true rfl) (lo := [some (sj_r (some a0)), some (sj_i x1), some (sj_i x2), some (sj_i x3), some (sj_i x4)]) rfl (sj_weak (l2 := [some (sj_r (some a0)), some (sj_i x1), some (sj_i x2), some (sj_i x3), some (sj_i x4)]) (⟨rfl, ⟨rfl, ⟨rfl, ⟨rfl, ⟨rfl, trivial⟩⟩⟩⟩⟩) (t_X9_tried_0 a0 x1 x2 x3 x4 s h))
theorem dX9_pull_0 : decode cX9_pull 0 = .ok (.iload_n 1, 1) := by decide +kernel
theorem dX9_pull_1 : decode cX9_pull 1 = .ok (.invokestatic 287, 3) := by decide +kernel
theorem dX9_pull_4 : decode cX9_pull 4 = .ok (.ifCond .eq 33, 3) := by decide +kernel
theorem dX9_pull_7 : decode cX9_pull 7 = .ok (.aload_n 0, 1) := by decide +kernel
theorem dX9_pull_8 : decode cX9_pull 8 = .ok (.invokevirtual 277, 3) := by decide +kernel
theorem dX9_pull_11 : decode cX9_pull 11 = .ok (.ifCond .eq 26, 3) := by decide +kernel
theorem dX9_pull_14 : decode cX9_pull 14 = .ok (.aload_n 0, 1) := by decide +kernel
theorem dX9_pull_15 : decode cX9_pull 15 = .ok (.iload_n 1, 1) := by decide +kernel
theorem dX9_pull_16 : decode cX9_pull 16 = .ok (.ldc2_w 138, 3) := by decide +kernel
theorem dX9_pull_19 : decode cX9_pull 19 = .ok (.aload_n 0, 1) := by decide +kernel
theorem dX9_pull_20 : decode cX9_pull 20 = .ok (.getfield 9, 3) := by decide +kernel
theorem dX9_pull_23 : decode cX9_pull 23 = .ok (.iconst 1, 1) := by decide +kernel
theorem dX9_pull_24 : decode cX9_pull 24 = .ok (.iaload, 1) := by decide +kernel
theorem dX9_pull_25 : decode cX9_pull 25 = .ok (.i2l, 1) := by decide +kernel
theorem dX9_pull_26 : decode cX9_pull 26 = .ok (.lmul, 1) := by decide +kernel
theorem dX9_pull_27 : decode cX9_pull 27 = .ok (.ldc2_w 285, 3) := by decide +kernel
theorem dX9_pull_30 : decode cX9_pull 30 = .ok (.lmul, 1) := by decide +kernel
theorem dX9_pull_31 : decode cX9_pull 31 = .ok (.invokevirtual 179, 3) := by decide +kernel
theorem dX9_pull_34 : decode cX9_pull 34 = .ok (.ifCond .ne 5, 3) := by decide +kernel
theorem dX9_pull_37 : decode cX9_pull 37 = .ok (.iconst (-1), 1) := by decide +kernel
theorem dX9_pull_38 : decode cX9_pull 38 = .ok (.ireturn, 1) := by decide +kernel
theorem dX9_pull_39 : decode cX9_pull 39 = .ok (.iconst (-1), 1) := by decide +kernel
theorem dX9_pull_40 : decode cX9_pull 40 = .ok (.istore_n 2, 1) := by decide +kernel
theorem dX9_pull_41 : decode cX9_pull 41 = .ok (.sipush 20000, 3) := by decide +kernel
theorem dX9_pull_44 : decode cX9_pull 44 = .ok (.istore_n 3, 1) := by decide +kernel
theorem dX9_pull_45 : decode cX9_pull 45 = .ok (.iload_n 3, 1) := by decide +kernel
theorem dX9_pull_46 : decode cX9_pull 46 = .ok (.iload_n 2, 1) := by decide +kernel
theorem dX9_pull_47 : decode cX9_pull 47 = .ok (.isub, 1) := by decide +kernel
theorem dX9_pull_48 : decode cX9_pull 48 = .ok (.iconst 1, 1) := by decide +kernel
theorem dX9_pull_49 : decode cX9_pull 49 = .ok (.if_icmp .le 45, 3) := by decide +kernel
theorem dX9_pull_52 : decode cX9_pull 52 = .ok (.iload_n 2, 1) := by decide +kernel
theorem dX9_pull_53 : decode cX9_pull 53 = .ok (.iload_n 3, 1) := by decide +kernel
theorem dX9_pull_54 : decode cX9_pull 54 = .ok (.iadd, 1) := by decide +kernel
theorem dX9_pull_55 : decode cX9_pull 55 = .ok (.iconst 2, 1) := by decide +kernel
theorem dX9_pull_56 : decode cX9_pull 56 = .ok (.idiv, 1) := by decide +kernel
theorem dX9_pull_57 : decode cX9_pull 57 = .ok (.istore 4, 2) := by decide +kernel
theorem dX9_pull_59 : decode cX9_pull 59 = .ok (.aload_n 0, 1) := by decide +kernel
theorem dX9_pull_60 : decode cX9_pull 60 = .ok (.iload_n 1, 1) := by decide +kernel
theorem dX9_pull_61 : decode cX9_pull 61 = .ok (.ldc2_w 138, 3) := by decide +kernel
theorem dX9_pull_64 : decode cX9_pull 64 = .ok (.aload_n 0, 1) := by decide +kernel
theorem dX9_pull_65 : decode cX9_pull 65 = .ok (.getfield 9, 3) := by decide +kernel
theorem dX9_pull_68 : decode cX9_pull 68 = .ok (.iconst 1, 1) := by decide +kernel
theorem dX9_pull_69 : decode cX9_pull 69 = .ok (.iaload, 1) := by decide +kernel
theorem dX9_pull_70 : decode cX9_pull 70 = .ok (.i2l, 1) := by decide +kernel
theorem dX9_pull_71 : decode cX9_pull 71 = .ok (.lmul, 1) := by decide +kernel
theorem dX9_pull_72 : decode cX9_pull 72 = .ok (.iload 4, 2) := by decide +kernel
theorem dX9_pull_74 : decode cX9_pull 74 = .ok (.i2l, 1) := by decide +kernel
theorem dX9_pull_75 : decode cX9_pull 75 = .ok (.lmul, 1) := by decide +kernel
theorem dX9_pull_76 : decode cX9_pull 76 = .ok (.invokevirtual 179, 3) := by decide +kernel
theorem dX9_pull_79 : decode cX9_pull 79 = .ok (.ifCond .eq 9, 3) := by decide +kernel
theorem dX9_pull_82 : decode cX9_pull 82 = .ok (.iload 4, 2) := by decide +kernel
theorem dX9_pull_84 : decode cX9_pull 84 = .ok (.istore_n 3, 1) := by decide +kernel
theorem dX9_pull_85 : decode cX9_pull 85 = .ok (.goto 6, 3) := by decide +kernel
theorem dX9_pull_88 : decode cX9_pull 88 = .ok (.iload 4, 2) := by decide +kernel
theorem dX9_pull_90 : decode cX9_pull 90 = .ok (.istore_n 2, 1) := by decide +kernel
theorem dX9_pull_91 : decode cX9_pull 91 = .ok (.goto (-46), 3) := by decide +kernel
theorem dX9_pull_94 : decode cX9_pull 94 = .ok (.iload_n 3, 1) := by decide +kernel
theorem dX9_pull_95 : decode cX9_pull 95 = .ok (.ireturn, 1) := by decide +kernel
set_option maxHeartbeats 4000000 in
theorem t_X9_pull_91 {X : sj_X} {s0 : sj_Mem} {N : Nat} {q : Int × sj_Mem} {k45 : Nat → Int → Int → Int → sj_Mem → Option (Int × sj_Mem)} (hk45 : ∀ (a0 : Nat) (x1 : Int) (x2 : Int) (x3 : Int) (s : sj_Mem), k45 a0 x1 x2 x3 s = some q → sj_T X m_X9_pull s0 (some (sj_i q.1), q.2) 45 [some (sj_r (some a0)), some (sj_i x1), some (sj_i x2), some (sj_i x3), none] [] s) :
    ∀ (a0 : Nat) (x1 : Int) (x2 : Int) (x3 : Int) (s : sj_Mem), f_X9_pull_91 N k45 a0 x1 x2 x3 s = some q → sj_T X m_X9_pull s0 (some (sj_i q.1), q.2) 91 [some (sj_r (some a0)), some (sj_i x1), some (sj_i x2), some (sj_i x3), none] [] s := by
  intro a0 x1 x2 x3 s h
  unfold f_X9_pull_91 at h
  refine r_goto (pc := 91) (tgt := 45) dX9_pull_91 (by decide) ?_
  exact sj_weak (l2 := [some (sj_r (some a0)), some (sj_i x1), some (sj_i x2), some (sj_i x3), none]) (⟨rfl, ⟨rfl, ⟨rfl, ⟨rfl, trivial⟩⟩⟩⟩) (hk45 a0 x1 x2 x3 s h)
set_option maxHeartbeats 4000000 in
theorem t_X9_pull_45_b {X : sj_X} {s0 : sj_Mem} {N : Nat} {q : Int × sj_Mem} {k45 : Nat → Int → Int → Int → sj_Mem → Option (Int × sj_Mem)} (hk45 : ∀ (a0 : Nat) (x1 : Int) (x2 : Int) (x3 : Int) (s : sj_Mem), k45 a0 x1 x2 x3 s = some q → sj_T X m_X9_pull s0 (some (sj_i q.1), q.2) 45 [some (sj_r (some a0)), some (sj_i x1), some (sj_i x2), some (sj_i x3), none] [] s) :
    ∀ (a0 : Nat) (x1 : Int) (x2 : Int) (x3 : Int) (s : sj_Mem), f_X9_pull_45_b N k45 a0 x1 x2 x3 s = some q → sj_T X m_X9_pull s0 (some (sj_i q.1), q.2) 45 [some (sj_r (some a0)), some (sj_i x1), some (sj_i x2), some (sj_i x3), none] [] s := by
  intro a0 x1 x2 x3 s h
  unfold f_X9_pull_45_b at h
  refine r_iload_n (pc := 45) dX9_pull_45 rfl rfl ?_
  refine r_iload_n (pc := 46) dX9_pull_46 rfl rfl ?_
  refine r_isub (pc := 47) dX9_pull_47 ?_
  refine r_iconst (pc := 48) dX9_pull_48 ?_
  refine r_icmp_le (pc := 49) (tgt := 94) h dX9_pull_49 (by decide) (fun h => ?_) (fun h => ?_)
  · refine r_iload_n (pc := 94) dX9_pull_94 rfl rfl ?_
    exact r_iret (pc := 95) h rfl dX9_pull_95
  · refine r_iload_n (pc := 52) dX9_pull_52 rfl rfl ?_
    refine r_iload_n (pc := 53) dX9_pull_53 rfl rfl ?_
    refine r_iadd (pc := 54) dX9_pull_54 ?_
    refine r_iconst (pc := 55) dX9_pull_55 ?_
    refine r_idiv (pc := 56) h dX9_pull_56 (fun v1 h => ?_)
    refine r_istore (ln := [some (sj_r (some a0)), some (sj_i x1), some (sj_i x2), some (sj_i x3), some (sj_i v1)]) (pc := 57) dX9_pull_57 (Nat.le_of_ble_eq_true rfl) rfl ?_
    refine r_aload_n (pc := 59) dX9_pull_59 rfl rfl ?_
    refine r_iload_n (pc := 60) dX9_pull_60 rfl rfl ?_
    refine r_ldc2 (n := 2000) (pc := 61) dX9_pull_61 kc_X9_138 ?_
    refine r_aload_n (pc := 64) dX9_pull_64 rfl rfl ?_
    refine r_gR (pc := 65) h dX9_pull_65 fw_X9_9 rfl (fun r2 h => ?_)
    refine r_iconst (pc := 68) dX9_pull_68 ?_
    obtain ⟨a3, ea3, g⟩ := e_nn_some h
    clear h
    subst ea3
    have h := g
    clear g
    refine r_iaload (pc := 69) h dX9_pull_69 (fun v4 h => ?_)
    refine r_i2l (pc := 70) h dX9_pull_70 (fun v5 h => ?_)
    refine r_lmul (pc := 71) dX9_pull_71 ?_
    refine r_iload (pc := 72) dX9_pull_72 rfl ?_
    refine r_i2l (pc := 74) h dX9_pull_74 (fun v6 h => ?_)
    refine r_lmul (pc := 75) dX9_pull_75 ?_
    refine r_callV (pc := 76) (fun v => some (sj_i v)) (As := [sj_i x1, sj_j ((2000 * v5) * v6)]) (rest := []) h dX9_pull_76 mw_X9_179 vw_X9_standsWith (fun _ _ hc => c_X9_standsWith hc) rfl ⟨(Nat.le_of_ble_eq_true rfl), (Nat.le_of_ble_eq_true rfl)⟩ (Nat.le_of_ble_eq_true rfl) rfl (fun v8 s7 h => ?_)
    refine r_if_eq (pc := 79) (tgt := 88) h dX9_pull_79 (by decide) (fun h => ?_) (fun h => ?_)
    · refine r_iload (pc := 88) dX9_pull_88 rfl ?_
      refine r_istore_n (ln := [some (sj_r (some a0)), some (sj_i x1), some (sj_i v1), some (sj_i x3), some (sj_i v1)]) (pc := 90) dX9_pull_90 rfl (Nat.le_of_ble_eq_true rfl) rfl ?_
      exact sj_weak (l2 := [some (sj_r (some a0)), some (sj_i x1), some (sj_i v1), some (sj_i x3), none]) (⟨rfl, ⟨rfl, ⟨rfl, ⟨rfl, trivial⟩⟩⟩⟩) (t_X9_pull_91 hk45 a0 x1 v1 x3 s7 h)
    · refine r_iload (pc := 82) dX9_pull_82 rfl ?_
      refine r_istore_n (ln := [some (sj_r (some a0)), some (sj_i x1), some (sj_i x2), some (sj_i v1), some (sj_i v1)]) (pc := 84) dX9_pull_84 rfl (Nat.le_of_ble_eq_true rfl) rfl ?_
      refine r_goto (pc := 85) (tgt := 91) dX9_pull_85 (by decide) ?_
      exact sj_weak (l2 := [some (sj_r (some a0)), some (sj_i x1), some (sj_i x2), some (sj_i v1), none]) (⟨rfl, ⟨rfl, ⟨rfl, ⟨rfl, trivial⟩⟩⟩⟩) (t_X9_pull_91 hk45 a0 x1 x2 v1 s7 h)
set_option maxHeartbeats 4000000 in
theorem t_X9_pull_45 {X : sj_X} {s0 : sj_Mem} {N : Nat} {q : Int × sj_Mem} :
    ∀ (n : Nat) (a0 : Nat) (x1 : Int) (x2 : Int) (x3 : Int) (s : sj_Mem), f_X9_pull_45 N n a0 x1 x2 x3 s = some q → sj_T X m_X9_pull s0 (some (sj_i q.1), q.2) 45 [some (sj_r (some a0)), some (sj_i x1), some (sj_i x2), some (sj_i x3), none] [] s := by
  intro n
  induction n with
  | zero => intro a0 x1 x2 x3 s h; exact nomatch h
  | succ n ih => intro a0 x1 x2 x3 s h; exact t_X9_pull_45_b (N := N) ih a0 x1 x2 x3 s h
set_option maxHeartbeats 4000000 in
theorem t_X9_pull_0 {X : sj_X} {s0 : sj_Mem} {N : Nat} {q : Int × sj_Mem} :
    ∀ (a0 : Nat) (x1 : Int) (s : sj_Mem), f_X9_pull N a0 x1 s = some q → sj_T X m_X9_pull s0 (some (sj_i q.1), q.2) 0 [some (sj_r (some a0)), some (sj_i x1), none, none, none] [] s := by
  intro a0 x1 s h
  unfold f_X9_pull at h
  refine r_iload_n (pc := 0) dX9_pull_0 rfl rfl ?_
  refine r_callS (pc := 1) (fun v => some (sj_i v)) (As := [sj_i x1]) (rest := []) h dX9_pull_1 mw_X9_287 kw_1446 (fun _ _ hc => c_X9_isK hc) rfl ⟨(Nat.le_of_ble_eq_true rfl), (Nat.le_of_ble_eq_true rfl)⟩ (Nat.le_of_ble_eq_true rfl) rfl (fun v2 s1 h => ?_)
  refine r_if_eq (pc := 4) (tgt := 37) h dX9_pull_4 (by decide) (fun h => ?_) (fun h => ?_)
  · refine r_iconst (pc := 37) dX9_pull_37 ?_
    exact r_iret (pc := 38) h rfl dX9_pull_38
  · refine r_aload_n (pc := 7) dX9_pull_7 rfl rfl ?_
    refine r_callV (pc := 8) (fun v => some (sj_i v)) (As := []) (rest := []) h dX9_pull_8 mw_X9_277 vw_X9_takesSlip (fun _ _ hc => c_X9_takesSlip hc) rfl ⟨(Nat.le_of_ble_eq_true rfl), (Nat.le_of_ble_eq_true rfl)⟩ (Nat.le_of_ble_eq_true rfl) rfl (fun v4 s3 h => ?_)
    refine r_if_eq (pc := 11) (tgt := 37) h dX9_pull_11 (by decide) (fun h => ?_) (fun h => ?_)
    · refine r_iconst (pc := 37) dX9_pull_37 ?_
      exact r_iret (pc := 38) h rfl dX9_pull_38
    · refine r_aload_n (pc := 14) dX9_pull_14 rfl rfl ?_
      refine r_iload_n (pc := 15) dX9_pull_15 rfl rfl ?_
      refine r_ldc2 (n := 2000) (pc := 16) dX9_pull_16 kc_X9_138 ?_
      refine r_aload_n (pc := 19) dX9_pull_19 rfl rfl ?_
      refine r_gR (pc := 20) h dX9_pull_20 fw_X9_9 rfl (fun r5 h => ?_)
      refine r_iconst (pc := 23) dX9_pull_23 ?_
      obtain ⟨a6, ea6, g⟩ := e_nn_some h
      clear h
      subst ea6
      have h := g
      clear g
      refine r_iaload (pc := 24) h dX9_pull_24 (fun v7 h => ?_)
      refine r_i2l (pc := 25) h dX9_pull_25 (fun v8 h => ?_)
      refine r_lmul (pc := 26) dX9_pull_26 ?_
      refine r_ldc2 (n := 20000) (pc := 27) dX9_pull_27 kc_X9_285 ?_
      refine r_lmul (pc := 30) dX9_pull_30 ?_
      refine r_callV (pc := 31) (fun v => some (sj_i v)) (As := [sj_i x1, sj_j ((2000 * v8) * 20000)]) (rest := []) h dX9_pull_31 mw_X9_179 vw_X9_standsWith (fun _ _ hc => c_X9_standsWith hc) rfl ⟨(Nat.le_of_ble_eq_true rfl), (Nat.le_of_ble_eq_true rfl)⟩ (Nat.le_of_ble_eq_true rfl) rfl (fun v10 s9 h => ?_)
      refine r_if_ne (pc := 34) (tgt := 39) h dX9_pull_34 (by decide) (fun h => ?_) (fun h => ?_)
      · refine r_iconst (pc := 37) dX9_pull_37 ?_
        exact r_iret (pc := 38) h rfl dX9_pull_38
      · refine r_iconst (pc := 39) dX9_pull_39 ?_
        refine r_istore_n (ln := [some (sj_r (some a0)), some (sj_i x1), some (sj_i ((-1))), none, none]) (pc := 40) dX9_pull_40 rfl (Nat.le_of_ble_eq_true rfl) rfl ?_
        refine r_sipush (pc := 41) dX9_pull_41 ⟨by decide, by decide⟩ ?_
        refine r_istore_n (ln := [some (sj_r (some a0)), some (sj_i x1), some (sj_i ((-1))), some (sj_i 20000), none]) (pc := 44) dX9_pull_44 rfl (Nat.le_of_ble_eq_true rfl) rfl ?_
        exact sj_weak (l2 := [some (sj_r (some a0)), some (sj_i x1), some (sj_i ((-1))), some (sj_i 20000), none]) (⟨rfl, ⟨rfl, ⟨rfl, ⟨rfl, trivial⟩⟩⟩⟩) (t_X9_pull_45 N a0 x1 ((-1)) 20000 s9 h)
set_option maxHeartbeats 4000000 in
theorem c_X9_pull {X : sj_X} {N : Nat} {a0 : Nat} {x1 : Int} {s : sj_Mem} {q : Int × sj_Mem} (h : f_X9_pull N a0 x1 s = some q) : sj_C X m_X9_pull [sj_r (some a0), sj_i x1] s (some (sj_i q.1), q.2) :=
  sj_C_of (by decide +kernel) (Nat.le_of_ble_eq_true rfl) (lo := [some (sj_r (some a0)), some (sj_i x1), none, none, none]) rfl (sj_weak (l2 := [some (sj_r (some a0)), some (sj_i x1), none, none, none]) (⟨rfl, ⟨rfl, trivial⟩⟩) (t_X9_pull_0 a0 x1 s h))
theorem dX9_needs_0 : decode cX9_needs 0 = .ok (.iload_n 1, 1) := by decide +kernel
theorem dX9_needs_1 : decode cX9_needs 1 = .ok (.invokestatic 287, 3) := by decide +kernel
theorem dX9_needs_4 : decode cX9_needs 4 = .ok (.ifCond .eq 10, 3) := by decide +kernel
theorem dX9_needs_7 : decode cX9_needs 7 = .ok (.aload_n 0, 1) := by decide +kernel
theorem dX9_needs_8 : decode cX9_needs 8 = .ok (.invokevirtual 277, 3) := by decide +kernel
theorem dX9_needs_11 : decode cX9_needs 11 = .ok (.ifCond .ne 5, 3) := by decide +kernel
theorem dX9_needs_14 : decode cX9_needs 14 = .ok (.iconst (-1), 1) := by decide +kernel
theorem dX9_needs_15 : decode cX9_needs 15 = .ok (.ireturn, 1) := by decide +kernel
theorem dX9_needs_16 : decode cX9_needs 16 = .ok (.aload_n 0, 1) := by decide +kernel
theorem dX9_needs_17 : decode cX9_needs 17 = .ok (.invokevirtual 301, 3) := by decide +kernel
theorem dX9_needs_20 : decode cX9_needs 20 = .ok (.iconst 0, 1) := by decide +kernel
theorem dX9_needs_21 : decode cX9_needs 21 = .ok (.istore_n 2, 1) := by decide +kernel
theorem dX9_needs_22 : decode cX9_needs 22 = .ok (.iload_n 2, 1) := by decide +kernel
theorem dX9_needs_23 : decode cX9_needs 23 = .ok (.sipush 500, 3) := by decide +kernel
theorem dX9_needs_26 : decode cX9_needs 26 = .ok (.if_icmp .gt 60, 3) := by decide +kernel
theorem dX9_needs_29 : decode cX9_needs 29 = .ok (.aload_n 0, 1) := by decide +kernel
theorem dX9_needs_30 : decode cX9_needs 30 = .ok (.iload_n 1, 1) := by decide +kernel
theorem dX9_needs_31 : decode cX9_needs 31 = .ok (.invokevirtual 183, 3) := by decide +kernel
theorem dX9_needs_34 : decode cX9_needs 34 = .ok (.ifCond .ne 52, 3) := by decide +kernel
theorem dX9_needs_37 : decode cX9_needs 37 = .ok (.iinc 2 1, 3) := by decide +kernel
theorem dX9_needs_40 : decode cX9_needs 40 = .ok (.iconst 0, 1) := by decide +kernel
theorem dX9_needs_41 : decode cX9_needs 41 = .ok (.istore_n 3, 1) := by decide +kernel
theorem dX9_needs_42 : decode cX9_needs 42 = .ok (.iload_n 3, 1) := by decide +kernel
theorem dX9_needs_43 : decode cX9_needs 43 = .ok (.iconst 4, 1) := by decide +kernel
theorem dX9_needs_44 : decode cX9_needs 44 = .ok (.if_icmp .ge 39, 3) := by decide +kernel
theorem dX9_needs_47 : decode cX9_needs 47 = .ok (.aload_n 0, 1) := by decide +kernel
theorem dX9_needs_48 : decode cX9_needs 48 = .ok (.getfield 9, 3) := by decide +kernel
theorem dX9_needs_51 : decode cX9_needs 51 = .ok (.sipush 290, 3) := by decide +kernel
theorem dX9_needs_54 : decode cX9_needs 54 = .ok (.iconst 3, 1) := by decide +kernel
theorem dX9_needs_55 : decode cX9_needs 55 = .ok (.iload_n 3, 1) := by decide +kernel
theorem dX9_needs_56 : decode cX9_needs 56 = .ok (.imul, 1) := by decide +kernel
theorem dX9_needs_57 : decode cX9_needs 57 = .ok (.iadd, 1) := by decide +kernel
theorem dX9_needs_58 : decode cX9_needs 58 = .ok (.iconst 1, 1) := by decide +kernel
theorem dX9_needs_59 : decode cX9_needs 59 = .ok (.iadd, 1) := by decide +kernel
theorem dX9_needs_60 : decode cX9_needs 60 = .ok (.aload_n 0, 1) := by decide +kernel
theorem dX9_needs_61 : decode cX9_needs 61 = .ok (.getfield 13, 3) := by decide +kernel
theorem dX9_needs_64 : decode cX9_needs 64 = .ok (.sipush 290, 3) := by decide +kernel
theorem dX9_needs_67 : decode cX9_needs 67 = .ok (.iconst 3, 1) := by decide +kernel
theorem dX9_needs_68 : decode cX9_needs 68 = .ok (.iload_n 3, 1) := by decide +kernel
theorem dX9_needs_69 : decode cX9_needs 69 = .ok (.imul, 1) := by decide +kernel
theorem dX9_needs_70 : decode cX9_needs 70 = .ok (.iadd, 1) := by decide +kernel
theorem dX9_needs_71 : decode cX9_needs 71 = .ok (.iconst 1, 1) := by decide +kernel
theorem dX9_needs_72 : decode cX9_needs 72 = .ok (.iadd, 1) := by decide +kernel
theorem dX9_needs_73 : decode cX9_needs 73 = .ok (.iaload, 1) := by decide +kernel
theorem dX9_needs_74 : decode cX9_needs 74 = .ok (.iload_n 2, 1) := by decide +kernel
theorem dX9_needs_75 : decode cX9_needs 75 = .ok (.iadd, 1) := by decide +kernel
theorem dX9_needs_76 : decode cX9_needs 76 = .ok (.iastore, 1) := by decide +kernel
theorem dX9_needs_77 : decode cX9_needs 77 = .ok (.iinc 3 1, 3) := by decide +kernel
theorem dX9_needs_80 : decode cX9_needs 80 = .ok (.goto (-38), 3) := by decide +kernel
theorem dX9_needs_83 : decode cX9_needs 83 = .ok (.goto (-61), 3) := by decide +kernel
theorem dX9_needs_86 : decode cX9_needs 86 = .ok (.aload_n 0, 1) := by decide +kernel
theorem dX9_needs_87 : decode cX9_needs 87 = .ok (.invokevirtual 304, 3) := by decide +kernel
theorem dX9_needs_90 : decode cX9_needs 90 = .ok (.iload_n 2, 1) := by decide +kernel
theorem dX9_needs_91 : decode cX9_needs 91 = .ok (.sipush 500, 3) := by decide +kernel
theorem dX9_needs_94 : decode cX9_needs 94 = .ok (.if_icmp .le 7, 3) := by decide +kernel
theorem dX9_needs_97 : decode cX9_needs 97 = .ok (.iconst (-1), 1) := by decide +kernel
theorem dX9_needs_98 : decode cX9_needs 98 = .ok (.goto 4, 3) := by decide +kernel
theorem dX9_needs_101 : decode cX9_needs 101 = .ok (.iload_n 2, 1) := by decide +kernel
theorem dX9_needs_102 : decode cX9_needs 102 = .ok (.ireturn, 1) := by decide +kernel
set_option maxHeartbeats 4000000 in
theorem t_X9_needs_42_b {X : sj_X} {s0 : sj_Mem} {N : Nat} {q : Int × sj_Mem} {k22 : Nat → Int → Int → sj_Mem → Option (Int × sj_Mem)} {k42 : Nat → Int → Int → Int → sj_Mem → Option (Int × sj_Mem)} (hk22 : ∀ (a0 : Nat) (x1 : Int) (x2 : Int) (s : sj_Mem), k22 a0 x1 x2 s = some q → sj_T X m_X9_needs s0 (some (sj_i q.1), q.2) 22 [some (sj_r (some a0)), some (sj_i x1), some (sj_i x2), none] [] s) (hk42 : ∀ (a0 : Nat) (x1 : Int) (x2 : Int) (x3 : Int) (s : sj_Mem), k42 a0 x1 x2 x3 s = some q → sj_T X m_X9_needs s0 (some (sj_i q.1), q.2) 42 [some (sj_r (some a0)), some (sj_i x1), some (sj_i x2), some (sj_i x3)] [] s) :
    ∀ (a0 : Nat) (x1 : Int) (x2 : Int) (x3 : Int) (s : sj_Mem), f_X9_needs_42_b N k22 k42 a0 x1 x2 x3 s = some q → sj_T X m_X9_needs s0 (some (sj_i q.1), q.2) 42 [some (sj_r (some a0)), some (sj_i x1), some (sj_i x2), some (sj_i x3)] [] s := by
  intro a0 x1 x2 x3 s h
  unfold f_X9_needs_42_b at h
  refine r_iload_n (pc := 42) dX9_needs_42 rfl rfl ?_
  refine r_iconst (pc := 43) dX9_needs_43 ?_
  refine r_icmp_ge (pc := 44) (tgt := 83) h dX9_needs_44 (by decide) (fun h => ?_) (fun h => ?_)
  · refine r_goto (pc := 83) (tgt := 22) dX9_needs_83 (by decide) ?_
    exact sj_weak (l2 := [some (sj_r (some a0)), some (sj_i x1), some (sj_i x2), none]) (⟨rfl, ⟨rfl, ⟨rfl, trivial⟩⟩⟩) (hk22 a0 x1 x2 s h)
  · refine r_aload_n (pc := 47) dX9_needs_47 rfl rfl ?_
    refine r_gR (pc := 48) h dX9_needs_48 fw_X9_9 rfl (fun r1 h => ?_)
    refine r_sipush (pc := 51) dX9_needs_51 ⟨by decide, by decide⟩ ?_
    refine r_iconst (pc := 54) dX9_needs_54 ?_
    refine r_iload_n (pc := 55) dX9_needs_55 rfl rfl ?_
    refine r_imul (pc := 56) dX9_needs_56 ?_
    refine r_iadd (pc := 57) dX9_needs_57 ?_
    refine r_iconst (pc := 58) dX9_needs_58 ?_
    refine r_iadd (pc := 59) dX9_needs_59 ?_
    refine r_aload_n (pc := 60) dX9_needs_60 rfl rfl ?_
    refine r_gR (pc := 61) h dX9_needs_61 fw_X9_13 rfl (fun r2 h => ?_)
    refine r_sipush (pc := 64) dX9_needs_64 ⟨by decide, by decide⟩ ?_
    refine r_iconst (pc := 67) dX9_needs_67 ?_
    refine r_iload_n (pc := 68) dX9_needs_68 rfl rfl ?_
    refine r_imul (pc := 69) dX9_needs_69 ?_
    refine r_iadd (pc := 70) dX9_needs_70 ?_
    refine r_iconst (pc := 71) dX9_needs_71 ?_
    refine r_iadd (pc := 72) dX9_needs_72 ?_
    obtain ⟨a3, ea3, g⟩ := e_nn_some h
    clear h
    subst ea3
    have h := g
    clear g
    refine r_iaload (pc := 73) h dX9_needs_73 (fun v4 h => ?_)
    refine r_iload_n (pc := 74) dX9_needs_74 rfl rfl ?_
    refine r_iadd (pc := 75) dX9_needs_75 ?_
    obtain ⟨a5, ea5, g⟩ := e_nn_some h
    clear h
    subst ea5
    have h := g
    clear g
    refine r_iastore (pc := 76) h dX9_needs_76 (fun s6 h => ?_)
    refine r_iinc (ln := fun w => [some (sj_r (some a0)), some (sj_i x1), some (sj_i x2), some (sj_i w)]) (pc := 77) h dX9_needs_77 rfl (Nat.le_of_ble_eq_true rfl) (fun _ => rfl) (fun v7 h => ?_)
    refine r_goto (pc := 80) (tgt := 42) dX9_needs_80 (by decide) ?_
    exact sj_weak (l2 := [some (sj_r (some a0)), some (sj_i x1), some (sj_i x2), some (sj_i v7)]) (⟨rfl, ⟨rfl, ⟨rfl, ⟨rfl, trivial⟩⟩⟩⟩) (hk42 a0 x1 x2 v7 s6 h)
set_option maxHeartbeats 4000000 in
theorem t_X9_needs_42 {X : sj_X} {s0 : sj_Mem} {N : Nat} {q : Int × sj_Mem} {k22 : Nat → Int → Int → sj_Mem → Option (Int × sj_Mem)} (hk22 : ∀ (a0 : Nat) (x1 : Int) (x2 : Int) (s : sj_Mem), k22 a0 x1 x2 s = some q → sj_T X m_X9_needs s0 (some (sj_i q.1), q.2) 22 [some (sj_r (some a0)), some (sj_i x1), some (sj_i x2), none] [] s) :
    ∀ (n : Nat) (a0 : Nat) (x1 : Int) (x2 : Int) (x3 : Int) (s : sj_Mem), f_X9_needs_42 N k22 n a0 x1 x2 x3 s = some q → sj_T X m_X9_needs s0 (some (sj_i q.1), q.2) 42 [some (sj_r (some a0)), some (sj_i x1), some (sj_i x2), some (sj_i x3)] [] s := by
  intro n
  induction n with
  | zero => intro a0 x1 x2 x3 s h; exact nomatch h
  | succ n ih => intro a0 x1 x2 x3 s h; exact t_X9_needs_42_b (N := N) hk22 ih a0 x1 x2 x3 s h
set_option maxHeartbeats 4000000 in
theorem t_X9_needs_86 {X : sj_X} {s0 : sj_Mem} {N : Nat} {q : Int × sj_Mem} :
    ∀ (a0 : Nat) (x2 : Int) (s : sj_Mem), f_X9_needs_86 N a0 x2 s = some q → sj_T X m_X9_needs s0 (some (sj_i q.1), q.2) 86 [some (sj_r (some a0)), none, some (sj_i x2), none] [] s := by
  intro a0 x2 s h
  unfold f_X9_needs_86 at h
  refine r_aload_n (pc := 86) dX9_needs_86 rfl rfl ?_
  refine r_callV (pc := 87) (fun _ => none) (As := []) (rest := []) h dX9_needs_87 mw_X9_304 vw_X9_comesBack (fun _ _ hc => c_X9_comesBack hc) rfl ⟨(Nat.le_of_ble_eq_true rfl), (Nat.le_of_ble_eq_true rfl)⟩ (Nat.le_of_ble_eq_true rfl) rfl (fun _u s1 h => ?_)
  refine r_iload_n (pc := 90) dX9_needs_90 rfl rfl ?_
  refine r_sipush (pc := 91) dX9_needs_91 ⟨by decide, by decide⟩ ?_
  refine r_icmp_le (pc := 94) (tgt := 101) h dX9_needs_94 (by decide) (fun h => ?_) (fun h => ?_)
  · refine r_iload_n (pc := 101) dX9_needs_101 rfl rfl ?_
    exact r_iret (pc := 102) h rfl dX9_needs_102
  · refine r_iconst (pc := 97) dX9_needs_97 ?_
    refine r_goto (pc := 98) (tgt := 102) dX9_needs_98 (by decide) ?_
    exact r_iret (pc := 102) h rfl dX9_needs_102
set_option maxHeartbeats 4000000 in
theorem t_X9_needs_22_b {X : sj_X} {s0 : sj_Mem} {N : Nat} {q : Int × sj_Mem} {k22 : Nat → Int → Int → sj_Mem → Option (Int × sj_Mem)} (hk22 : ∀ (a0 : Nat) (x1 : Int) (x2 : Int) (s : sj_Mem), k22 a0 x1 x2 s = some q → sj_T X m_X9_needs s0 (some (sj_i q.1), q.2) 22 [some (sj_r (some a0)), some (sj_i x1), some (sj_i x2), none] [] s) :
    ∀ (a0 : Nat) (x1 : Int) (x2 : Int) (s : sj_Mem), f_X9_needs_22_b N k22 a0 x1 x2 s = some q → sj_T X m_X9_needs s0 (some (sj_i q.1), q.2) 22 [some (sj_r (some a0)), some (sj_i x1), some (sj_i x2), none] [] s := by
  intro a0 x1 x2 s h
  unfold f_X9_needs_22_b at h
  refine r_iload_n (pc := 22) dX9_needs_22 rfl rfl ?_
  refine r_sipush (pc := 23) dX9_needs_23 ⟨by decide, by decide⟩ ?_
  refine r_icmp_gt (pc := 26) (tgt := 86) h dX9_needs_26 (by decide) (fun h => ?_) (fun h => ?_)
  · exact sj_weak (l2 := [some (sj_r (some a0)), none, some (sj_i x2), none]) (⟨rfl, ⟨rfl, trivial⟩⟩) (t_X9_needs_86 a0 x2 s h)
  · refine r_aload_n (pc := 29) dX9_needs_29 rfl rfl ?_
    refine r_iload_n (pc := 30) dX9_needs_30 rfl rfl ?_
    refine r_callV (pc := 31) (fun v => some (sj_i v)) (As := [sj_i x1]) (rest := []) h dX9_needs_31 mw_X9_183 vw_X9_isStanding (fun _ _ hc => c_X9_isStanding hc) rfl ⟨(Nat.le_of_ble_eq_true rfl), (Nat.le_of_ble_eq_true rfl)⟩ (Nat.le_of_ble_eq_true rfl) rfl (fun v2 s1 h => ?_)
    refine r_if_ne (pc := 34) (tgt := 86) h dX9_needs_34 (by decide) (fun h => ?_) (fun h => ?_)
    · refine r_iinc (ln := fun w => [some (sj_r (some a0)), some (sj_i x1), some (sj_i w), none]) (pc := 37) h dX9_needs_37 rfl (Nat.le_of_ble_eq_true rfl) (fun _ => rfl) (fun v3 h => ?_)
      refine r_iconst (pc := 40) dX9_needs_40 ?_
      refine r_istore_n (ln := [some (sj_r (some a0)), some (sj_i x1), some (sj_i v3), some (sj_i 0)]) (pc := 41) dX9_needs_41 rfl (Nat.le_of_ble_eq_true rfl) rfl ?_
      exact sj_weak (l2 := [some (sj_r (some a0)), some (sj_i x1), some (sj_i v3), some (sj_i 0)]) (⟨rfl, ⟨rfl, ⟨rfl, ⟨rfl, trivial⟩⟩⟩⟩) (t_X9_needs_42 hk22 N a0 x1 v3 0 s1 h)
    · exact sj_weak (l2 := [some (sj_r (some a0)), none, some (sj_i x2), none]) (⟨rfl, ⟨rfl, trivial⟩⟩) (t_X9_needs_86 a0 x2 s1 h)
set_option maxHeartbeats 4000000 in
theorem t_X9_needs_22 {X : sj_X} {s0 : sj_Mem} {N : Nat} {q : Int × sj_Mem} :
    ∀ (n : Nat) (a0 : Nat) (x1 : Int) (x2 : Int) (s : sj_Mem), f_X9_needs_22 N n a0 x1 x2 s = some q → sj_T X m_X9_needs s0 (some (sj_i q.1), q.2) 22 [some (sj_r (some a0)), some (sj_i x1), some (sj_i x2), none] [] s := by
  intro n
  induction n with
  | zero => intro a0 x1 x2 s h; exact nomatch h
  | succ n ih => intro a0 x1 x2 s h; exact t_X9_needs_22_b (N := N) ih a0 x1 x2 s h
set_option maxHeartbeats 4000000 in
theorem t_X9_needs_0 {X : sj_X} {s0 : sj_Mem} {N : Nat} {q : Int × sj_Mem} :
    ∀ (a0 : Nat) (x1 : Int) (s : sj_Mem), f_X9_needs N a0 x1 s = some q → sj_T X m_X9_needs s0 (some (sj_i q.1), q.2) 0 [some (sj_r (some a0)), some (sj_i x1), none, none] [] s := by
  intro a0 x1 s h
  unfold f_X9_needs at h
  refine r_iload_n (pc := 0) dX9_needs_0 rfl rfl ?_
  refine r_callS (pc := 1) (fun v => some (sj_i v)) (As := [sj_i x1]) (rest := []) h dX9_needs_1 mw_X9_287 kw_1446 (fun _ _ hc => c_X9_isK hc) rfl ⟨(Nat.le_of_ble_eq_true rfl), (Nat.le_of_ble_eq_true rfl)⟩ (Nat.le_of_ble_eq_true rfl) rfl (fun v2 s1 h => ?_)
  refine r_if_eq (pc := 4) (tgt := 14) h dX9_needs_4 (by decide) (fun h => ?_) (fun h => ?_)
  · refine r_iconst (pc := 14) dX9_needs_14 ?_
    exact r_iret (pc := 15) h rfl dX9_needs_15
  · refine r_aload_n (pc := 7) dX9_needs_7 rfl rfl ?_
    refine r_callV (pc := 8) (fun v => some (sj_i v)) (As := []) (rest := []) h dX9_needs_8 mw_X9_277 vw_X9_takesSlip (fun _ _ hc => c_X9_takesSlip hc) rfl ⟨(Nat.le_of_ble_eq_true rfl), (Nat.le_of_ble_eq_true rfl)⟩ (Nat.le_of_ble_eq_true rfl) rfl (fun v4 s3 h => ?_)
    refine r_if_ne (pc := 11) (tgt := 16) h dX9_needs_11 (by decide) (fun h => ?_) (fun h => ?_)
    · refine r_iconst (pc := 14) dX9_needs_14 ?_
      exact r_iret (pc := 15) h rfl dX9_needs_15
    · refine r_aload_n (pc := 16) dX9_needs_16 rfl rfl ?_
      refine r_callV (pc := 17) (fun _ => none) (As := []) (rest := []) h dX9_needs_17 mw_X9_301 vw_X9_laysAside (fun _ _ hc => c_X9_laysAside hc) rfl ⟨(Nat.le_of_ble_eq_true rfl), (Nat.le_of_ble_eq_true rfl)⟩ (Nat.le_of_ble_eq_true rfl) rfl (fun _u s5 h => ?_)
      refine r_iconst (pc := 20) dX9_needs_20 ?_
      refine r_istore_n (ln := [some (sj_r (some a0)), some (sj_i x1), some (sj_i 0), none]) (pc := 21) dX9_needs_21 rfl (Nat.le_of_ble_eq_true rfl) rfl ?_
      exact sj_weak (l2 := [some (sj_r (some a0)), some (sj_i x1), some (sj_i 0), none]) (⟨rfl, ⟨rfl, ⟨rfl, trivial⟩⟩⟩) (t_X9_needs_22 N a0 x1 0 s5 h)
set_option maxHeartbeats 4000000 in
theorem c_X9_needs {X : sj_X} {N : Nat} {a0 : Nat} {x1 : Int} {s : sj_Mem} {q : Int × sj_Mem} (h : f_X9_needs N a0 x1 s = some q) : sj_C X m_X9_needs [sj_r (some a0), sj_i x1] s (some (sj_i q.1), q.2) :=
  sj_C_of (by decide +kernel) (Nat.le_of_ble_eq_true rfl) (lo := [some (sj_r (some a0)), some (sj_i x1), none, none]) rfl (sj_weak (l2 := [some (sj_r (some a0)), some (sj_i x1), none, none]) (⟨rfl, ⟨rfl, trivial⟩⟩) (t_X9_needs_0 a0 x1 s h))
