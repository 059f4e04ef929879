theorem dX5_init_0 : decode cX5_init 0 = .ok (.aload_n 0, 1) := by decide +kernel
theorem dX5_init_1 : decode cX5_init 1 = .ok (.invokespecial 3, 3) := by decide +kernel
theorem dX5_init_4 : decode cX5_init 4 = .ok (.aload_n 0, 1) := by decide +kernel
theorem dX5_init_5 : decode cX5_init 5 = .ok (.bipush 41, 2) := by decide +kernel
theorem dX5_init_7 : decode cX5_init 7 = .ok (.newarray .int, 2) := by decide +kernel
theorem dX5_init_9 : decode cX5_init 9 = .ok (.putfield 9, 3) := by decide +kernel
theorem dX5_init_12 : decode cX5_init 12 = .ok (.aload_n 0, 1) := by decide +kernel
theorem dX5_init_13 : decode cX5_init 13 = .ok (.iconst (-1), 1) := by decide +kernel
theorem dX5_init_14 : decode cX5_init 14 = .ok (.putfield 15, 3) := by decide +kernel
theorem dX5_init_17 : decode cX5_init 17 = .ok (.aload_n 0, 1) := by decide +kernel
theorem dX5_init_18 : decode cX5_init 18 = .ok (.iconst (-1), 1) := by decide +kernel
theorem dX5_init_19 : decode cX5_init 19 = .ok (.putfield 19, 3) := by decide +kernel
theorem dX5_init_22 : decode cX5_init 22 = .ok (.return_, 1) := by decide +kernel
set_option maxHeartbeats 4000000 in
theorem t_X5_init_0 {X : sj_X} {s0 : sj_Mem} {N : Nat} {q : Unit × sj_Mem} :
    ∀ (a0 : Nat) (s : sj_Mem), f_X5_init N a0 s = some q → sj_T X m_X5_init s0 (none, q.2) 0 [some (sj_r (some a0))] [] s := by
  intro a0 s h
  unfold f_X5_init at h
  refine r_aload_n (pc := 0) dX5_init_0 rfl rfl ?_
  refine r_oinit (pc := 1) dX5_init_1 ow_X5_3 (Nat.le_of_ble_eq_true rfl) (Nat.le_of_ble_eq_true rfl) ?_
  refine r_aload_n (pc := 4) dX5_init_4 rfl rfl ?_
  refine r_bipush (pc := 5) dX5_init_5 ⟨by decide, by decide⟩ ?_
  refine r_nA_I (pc := 7) h dX5_init_7 kw_62 (fun a1 s2 h => ?_)
  refine r_pF (pc := 9) h dX5_init_9 ff_X5_9 rfl rfl (Or.inr ⟨_, rfl⟩) (fun s3 h => ?_)
  refine r_aload_n (pc := 12) dX5_init_12 rfl rfl ?_
  refine r_iconst (pc := 13) dX5_init_13 ?_
  refine r_pI (pc := 14) h dX5_init_14 fw_X5_15 rfl rfl (fun _ hq => by cases hq; rfl) (fun s4 h => ?_)
  refine r_aload_n (pc := 17) dX5_init_17 rfl rfl ?_
  refine r_iconst (pc := 18) dX5_init_18 ?_
  refine r_pI (pc := 19) h dX5_init_19 fw_X5_19 rfl rfl (fun _ hq => by cases hq; rfl) (fun s5 h => ?_)
  exact r_vret (pc := 22) h rfl dX5_init_22
set_option maxHeartbeats 4000000 in
theorem c_X5_init {X : sj_X} {N : Nat} {a0 : Nat} {s : sj_Mem} {q : Unit × sj_Mem} (h : f_X5_init N a0 s = some q) : sj_C X m_X5_init [sj_r (some a0)] s (none, q.2) :=
  sj_C_of (by decide +kernel) (Nat.le_of_ble_eq_true rfl) (lo := [some (sj_r (some a0))]) rfl (sj_weak (l2 := [some (sj_r (some a0))]) (⟨rfl, trivial⟩) (t_X5_init_0 a0 s h))
theorem dX0_init_0 : decode cX0_init 0 = .ok (.aload_n 0, 1) := by decide +kernel
theorem dX0_init_1 : decode cX0_init 1 = .ok (.invokespecial 3, 3) := by decide +kernel
theorem dX0_init_4 : decode cX0_init 4 = .ok (.aload_n 0, 1) := by decide +kernel
theorem dX0_init_5 : decode cX0_init 5 = .ok (.bipush 41, 2) := by decide +kernel
theorem dX0_init_7 : decode cX0_init 7 = .ok (.newarray .int, 2) := by decide +kernel
theorem dX0_init_9 : decode cX0_init 9 = .ok (.putfield 9, 3) := by decide +kernel
theorem dX0_init_12 : decode cX0_init 12 = .ok (.aload_n 0, 1) := by decide +kernel
theorem dX0_init_13 : decode cX0_init 13 = .ok (.bipush 41, 2) := by decide +kernel
theorem dX0_init_15 : decode cX0_init 15 = .ok (.newarray .int, 2) := by decide +kernel
theorem dX0_init_17 : decode cX0_init 17 = .ok (.putfield 15, 3) := by decide +kernel
theorem dX0_init_20 : decode cX0_init 20 = .ok (.aload_n 0, 1) := by decide +kernel
theorem dX0_init_21 : decode cX0_init 21 = .ok (.bipush 41, 2) := by decide +kernel
theorem dX0_init_23 : decode cX0_init 23 = .ok (.newarray .int, 2) := by decide +kernel
theorem dX0_init_25 : decode cX0_init 25 = .ok (.putfield 18, 3) := by decide +kernel
theorem dX0_init_28 : decode cX0_init 28 = .ok (.aload_n 0, 1) := by decide +kernel
theorem dX0_init_29 : decode cX0_init 29 = .ok (.bipush 41, 2) := by decide +kernel
theorem dX0_init_31 : decode cX0_init 31 = .ok (.newarray .int, 2) := by decide +kernel
theorem dX0_init_33 : decode cX0_init 33 = .ok (.putfield 21, 3) := by decide +kernel
theorem dX0_init_36 : decode cX0_init 36 = .ok (.aload_n 0, 1) := by decide +kernel
theorem dX0_init_37 : decode cX0_init 37 = .ok (.bipush 123, 2) := by decide +kernel
theorem dX0_init_39 : decode cX0_init 39 = .ok (.newarray .int, 2) := by decide +kernel
theorem dX0_init_41 : decode cX0_init 41 = .ok (.putfield 24, 3) := by decide +kernel
theorem dX0_init_44 : decode cX0_init 44 = .ok (.aload_n 0, 1) := by decide +kernel
theorem dX0_init_45 : decode cX0_init 45 = .ok (.iconst 4, 1) := by decide +kernel
theorem dX0_init_46 : decode cX0_init 46 = .ok (.newarray .int, 2) := by decide +kernel
theorem dX0_init_48 : decode cX0_init 48 = .ok (.putfield 27, 3) := by decide +kernel
theorem dX0_init_51 : decode cX0_init 51 = .ok (.aload_n 0, 1) := by decide +kernel
theorem dX0_init_52 : decode cX0_init 52 = .ok (.iconst 4, 1) := by decide +kernel
theorem dX0_init_53 : decode cX0_init 53 = .ok (.newarray .int, 2) := by decide +kernel
theorem dX0_init_55 : decode cX0_init 55 = .ok (.putfield 30, 3) := by decide +kernel
theorem dX0_init_58 : decode cX0_init 58 = .ok (.aload_n 0, 1) := by decide +kernel
theorem dX0_init_59 : decode cX0_init 59 = .ok (.iconst 4, 1) := by decide +kernel
theorem dX0_init_60 : decode cX0_init 60 = .ok (.newarray .int, 2) := by decide +kernel
theorem dX0_init_62 : decode cX0_init 62 = .ok (.putfield 33, 3) := by decide +kernel
theorem dX0_init_65 : decode cX0_init 65 = .ok (.aload_n 0, 1) := by decide +kernel
theorem dX0_init_66 : decode cX0_init 66 = .ok (.bipush 6, 2) := by decide +kernel
theorem dX0_init_68 : decode cX0_init 68 = .ok (.newarray .int, 2) := by decide +kernel
theorem dX0_init_70 : decode cX0_init 70 = .ok (.putfield 36, 3) := by decide +kernel
theorem dX0_init_73 : decode cX0_init 73 = .ok (.aload_n 0, 1) := by decide +kernel
theorem dX0_init_74 : decode cX0_init 74 = .ok (.bipush 6, 2) := by decide +kernel
theorem dX0_init_76 : decode cX0_init 76 = .ok (.newarray .int, 2) := by decide +kernel
theorem dX0_init_78 : decode cX0_init 78 = .ok (.putfield 39, 3) := by decide +kernel
theorem dX0_init_81 : decode cX0_init 81 = .ok (.aload_n 0, 1) := by decide +kernel
theorem dX0_init_82 : decode cX0_init 82 = .ok (.bipush 6, 2) := by decide +kernel
theorem dX0_init_84 : decode cX0_init 84 = .ok (.newarray .int, 2) := by decide +kernel
theorem dX0_init_86 : decode cX0_init 86 = .ok (.putfield 42, 3) := by decide +kernel
theorem dX0_init_89 : decode cX0_init 89 = .ok (.aload_n 0, 1) := by decide +kernel
theorem dX0_init_90 : decode cX0_init 90 = .ok (.new 45, 3) := by decide +kernel
theorem dX0_init_93 : decode cX0_init 93 = .ok (.dup, 1) := by decide +kernel
theorem dX0_init_94 : decode cX0_init 94 = .ok (.invokespecial 47, 3) := by decide +kernel
theorem dX0_init_97 : decode cX0_init 97 = .ok (.putfield 48, 3) := by decide +kernel
theorem dX0_init_100 : decode cX0_init 100 = .ok (.return_, 1) := by decide +kernel
set_option maxHeartbeats 4000000 in
theorem t_X0_init_0 {X : sj_X} {s0 : sj_Mem} {N : Nat} {q : Unit × sj_Mem} :
    ∀ (a0 : Nat) (s : sj_Mem), f_X0_init N a0 s = some q → sj_T X m_X0_init s0 (none, q.2) 0 [some (sj_r (some a0))] [] s := by
  intro a0 s h
  unfold f_X0_init at h
  refine r_aload_n (pc := 0) dX0_init_0 rfl rfl ?_
  refine r_oinit (pc := 1) dX0_init_1 ow_X0_3 (Nat.le_of_ble_eq_true rfl) (Nat.le_of_ble_eq_true rfl) ?_
  refine r_aload_n (pc := 4) dX0_init_4 rfl rfl ?_
  refine r_bipush (pc := 5) dX0_init_5 ⟨by decide, by decide⟩ ?_
  refine r_nA_I (pc := 7) h dX0_init_7 kw_62 (fun a1 s2 h => ?_)
  refine r_pF (pc := 9) h dX0_init_9 ff_X0_9 rfl rfl (Or.inr ⟨_, rfl⟩) (fun s3 h => ?_)
  refine r_aload_n (pc := 12) dX0_init_12 rfl rfl ?_
  refine r_bipush (pc := 13) dX0_init_13 ⟨by decide, by decide⟩ ?_
  refine r_nA_I (pc := 15) h dX0_init_15 kw_62 (fun a4 s5 h => ?_)
  refine r_pF (pc := 17) h dX0_init_17 ff_X0_15 rfl rfl (Or.inr ⟨_, rfl⟩) (fun s6 h => ?_)
  refine r_aload_n (pc := 20) dX0_init_20 rfl rfl ?_
  refine r_bipush (pc := 21) dX0_init_21 ⟨by decide, by decide⟩ ?_
  refine r_nA_I (pc := 23) h dX0_init_23 kw_62 (fun a7 s8 h => ?_)
  refine r_pF (pc := 25) h dX0_init_25 ff_X0_18 rfl rfl (Or.inr ⟨_, rfl⟩) (fun s9 h => ?_)
  refine r_aload_n (pc := 28) dX0_init_28 rfl rfl ?_
  refine r_bipush (pc := 29) dX0_init_29 ⟨by decide, by decide⟩ ?_
  refine r_nA_I (pc := 31) h dX0_init_31 kw_62 (fun a10 s11 h => ?_)
  refine r_pF (pc := 33) h dX0_init_33 ff_X0_21 rfl rfl (Or.inr ⟨_, rfl⟩) (fun s12 h => ?_)
  refine r_aload_n (pc := 36) dX0_init_36 rfl rfl ?_
  refine r_bipush (pc := 37) dX0_init_37 ⟨by decide, by decide⟩ ?_
  refine r_nA_I (pc := 39) h dX0_init_39 kw_62 (fun a13 s14 h => ?_)
  refine r_pF (pc := 41) h dX0_init_41 ff_X0_24 rfl rfl (Or.inr ⟨_, rfl⟩) (fun s15 h => ?_)
  refine r_aload_n (pc := 44) dX0_init_44 rfl rfl ?_
  refine r_iconst (pc := 45) dX0_init_45 ?_
  refine r_nA_I (pc := 46) h dX0_init_46 kw_62 (fun a16 s17 h => ?_)
  refine r_pF (pc := 48) h dX0_init_48 ff_X0_27 rfl rfl (Or.inr ⟨_, rfl⟩) (fun s18 h => ?_)
  refine r_aload_n (pc := 51) dX0_init_51 rfl rfl ?_
  refine r_iconst (pc := 52) dX0_init_52 ?_
  refine r_nA_I (pc := 53) h dX0_init_53 kw_62 (fun a19 s20 h => ?_)
  refine r_pF (pc := 55) h dX0_init_55 ff_X0_30 rfl rfl (Or.inr ⟨_, rfl⟩) (fun s21 h => ?_)
  refine r_aload_n (pc := 58) dX0_init_58 rfl rfl ?_
  refine r_iconst (pc := 59) dX0_init_59 ?_
  refine r_nA_I (pc := 60) h dX0_init_60 kw_62 (fun a22 s23 h => ?_)
  refine r_pF (pc := 62) h dX0_init_62 ff_X0_33 rfl rfl (Or.inr ⟨_, rfl⟩) (fun s24 h => ?_)
  refine r_aload_n (pc := 65) dX0_init_65 rfl rfl ?_
  refine r_bipush (pc := 66) dX0_init_66 ⟨by decide, by decide⟩ ?_
  refine r_nA_I (pc := 68) h dX0_init_68 kw_62 (fun a25 s26 h => ?_)
  refine r_pF (pc := 70) h dX0_init_70 ff_X0_36 rfl rfl (Or.inr ⟨_, rfl⟩) (fun s27 h => ?_)
  refine r_aload_n (pc := 73) dX0_init_73 rfl rfl ?_
  refine r_bipush (pc := 74) dX0_init_74 ⟨by decide, by decide⟩ ?_
  refine r_nA_I (pc := 76) h dX0_init_76 kw_62 (fun a28 s29 h => ?_)
  refine r_pF (pc := 78) h dX0_init_78 ff_X0_39 rfl rfl (Or.inr ⟨_, rfl⟩) (fun s30 h => ?_)
  refine r_aload_n (pc := 81) dX0_init_81 rfl rfl ?_
  refine r_bipush (pc := 82) dX0_init_82 ⟨by decide, by decide⟩ ?_
  refine r_nA_I (pc := 84) h dX0_init_84 kw_62 (fun a31 s32 h => ?_)
  refine r_pF (pc := 86) h dX0_init_86 ff_X0_42 rfl rfl (Or.inr ⟨_, rfl⟩) (fun s33 h => ?_)
  refine r_aload_n (pc := 89) dX0_init_89 rfl rfl ?_
  refine r_new (pc := 90) h dX0_init_90 nw_X0_45 (fun a34 s35 h => ?_)
  refine r_dup (pc := 93) dX0_init_93 rfl ?_
  refine r_callI (pc := 94) (fun _ => none) (As := []) (rest := [(sj_r (some a34)), (sj_r (some a0))]) (b := a34) h dX0_init_94 mw_X0_47 ⟨kw_35, rfl, rfl⟩ (fun _ _ hc => c_X5_init hc) rfl ⟨(Nat.le_of_ble_eq_true rfl), (Nat.le_of_ble_eq_true rfl)⟩ (Nat.le_of_ble_eq_true rfl) rfl (fun _u s36 h => ?_)
  refine r_pF (pc := 97) h dX0_init_97 ff_X0_48 rfl rfl (Or.inl ⟨_, rfl⟩) (fun s37 h => ?_)
  exact r_vret (pc := 100) h rfl dX0_init_100
set_option maxHeartbeats 4000000 in
theorem c_X0_init {X : sj_X} {N : Nat} {a0 : Nat} {s : sj_Mem} {q : Unit × sj_Mem} (h : f_X0_init N a0 s = some q) : sj_C X m_X0_init [sj_r (some a0)] s (none, q.2) :=
  sj_C_of (by decide +kernel) (Nat.le_of_ble_eq_true rfl) (lo := [some (sj_r (some a0))]) rfl (sj_weak (l2 := [some (sj_r (some a0))]) (⟨rfl, trivial⟩) (t_X0_init_0 a0 s h))
theorem dJ7_fill_53178_0 : decode cJ7_fill_53178 0 = .ok (.iconst 0, 1) := by decide +kernel
theorem dJ7_fill_53178_1 : decode cJ7_fill_53178 1 = .ok (.istore_n 2, 1) := by decide +kernel
theorem dJ7_fill_53178_2 : decode cJ7_fill_53178 2 = .ok (.aload_n 0, 1) := by decide +kernel
theorem dJ7_fill_53178_3 : decode cJ7_fill_53178 3 = .ok (.arraylength, 1) := by decide +kernel
theorem dJ7_fill_53178_4 : decode cJ7_fill_53178 4 = .ok (.istore_n 3, 1) := by decide +kernel
theorem dJ7_fill_53178_5 : decode cJ7_fill_53178 5 = .ok (.iload_n 2, 1) := by decide +kernel
theorem dJ7_fill_53178_6 : decode cJ7_fill_53178 6 = .ok (.iload_n 3, 1) := by decide +kernel
theorem dJ7_fill_53178_7 : decode cJ7_fill_53178 7 = .ok (.if_icmp .ge 13, 3) := by decide +kernel
theorem dJ7_fill_53178_10 : decode cJ7_fill_53178 10 = .ok (.aload_n 0, 1) := by decide +kernel
theorem dJ7_fill_53178_11 : decode cJ7_fill_53178 11 = .ok (.iload_n 2, 1) := by decide +kernel
theorem dJ7_fill_53178_12 : decode cJ7_fill_53178 12 = .ok (.iload_n 1, 1) := by decide +kernel
theorem dJ7_fill_53178_13 : decode cJ7_fill_53178 13 = .ok (.iastore, 1) := by decide +kernel
theorem dJ7_fill_53178_14 : decode cJ7_fill_53178 14 = .ok (.iinc 2 1, 3) := by decide +kernel
theorem dJ7_fill_53178_17 : decode cJ7_fill_53178 17 = .ok (.goto (-12), 3) := by decide +kernel
theorem dJ7_fill_53178_20 : decode cJ7_fill_53178 20 = .ok (.return_, 1) := by decide +kernel
set_option maxHeartbeats 4000000 in
theorem t_J7_fill_53178_5_b {X : sj_X} {s0 : sj_Mem} {N : Nat} {q : Unit × sj_Mem} {k5 : Option Nat → Int → Int → Int → sj_Mem → Option (Unit × sj_Mem)} (hk5 : ∀ (x0 : Option Nat) (x1 : Int) (x2 : Int) (x3 : Int) (s : sj_Mem), k5 x0 x1 x2 x3 s = some q → sj_T X m_J7_fill_53178 s0 (none, q.2) 5 [some (sj_r x0), some (sj_i x1), some (sj_i x2), some (sj_i x3)] [] s) :
    ∀ (x0 : Option Nat) (x1 : Int) (x2 : Int) (x3 : Int) (s : sj_Mem), f_J7_fill_53178_5_b N k5 x0 x1 x2 x3 s = some q → sj_T X m_J7_fill_53178 s0 (none, q.2) 5 [some (sj_r x0), some (sj_i x1), some (sj_i x2), some (sj_i x3)] [] s := by
  intro x0 x1 x2 x3 s h
  unfold f_J7_fill_53178_5_b at h
  refine r_iload_n (pc := 5) dJ7_fill_53178_5 rfl rfl ?_
  refine r_iload_n (pc := 6) dJ7_fill_53178_6 rfl rfl ?_
  refine r_icmp_ge (pc := 7) (tgt := 20) h dJ7_fill_53178_7 (by decide) (fun h => ?_) (fun h => ?_)
  · exact r_vret (pc := 20) h rfl dJ7_fill_53178_20
  · refine r_aload_n (pc := 10) dJ7_fill_53178_10 rfl rfl ?_
    refine r_iload_n (pc := 11) dJ7_fill_53178_11 rfl rfl ?_
    refine r_iload_n (pc := 12) dJ7_fill_53178_12 rfl rfl ?_
    obtain ⟨a1, ea1, g⟩ := e_nn_some h
    clear h
    subst ea1
    have h := g
    clear g
    refine r_iastore (pc := 13) h dJ7_fill_53178_13 (fun s2 h => ?_)
    refine r_iinc (ln := fun w => [some (sj_r (some a1)), some (sj_i x1), some (sj_i w), some (sj_i x3)]) (pc := 14) h dJ7_fill_53178_14 rfl (Nat.le_of_ble_eq_true rfl) (fun _ => rfl) (fun v3 h => ?_)
    refine r_goto (pc := 17) (tgt := 5) dJ7_fill_53178_17 (by decide) ?_
    exact sj_weak (l2 := [some (sj_r (some a1)), some (sj_i x1), some (sj_i v3), some (sj_i x3)]) (⟨rfl, ⟨rfl, ⟨rfl, ⟨rfl, trivial⟩⟩⟩⟩) (hk5 (some a1) x1 v3 x3 s2 h)
set_option maxHeartbeats 4000000 in
theorem t_J7_fill_53178_5 {X : sj_X} {s0 : sj_Mem} {N : Nat} {q : Unit × sj_Mem} :
    ∀ (n : Nat) (x0 : Option Nat) (x1 : Int) (x2 : Int) (x3 : Int) (s : sj_Mem), f_J7_fill_53178_5 N n x0 x1 x2 x3 s = some q → sj_T X m_J7_fill_53178 s0 (none, q.2) 5 [some (sj_r x0), some (sj_i x1), some (sj_i x2), some (sj_i x3)] [] s := by
  intro n
  induction n with
  | zero => intro x0 x1 x2 x3 s h; exact nomatch h
  | succ n ih => intro x0 x1 x2 x3 s h; exact t_J7_fill_53178_5_b (N := N) ih x0 x1 x2 x3 s h
set_option maxHeartbeats 4000000 in
theorem t_J7_fill_53178_0 {X : sj_X} {s0 : sj_Mem} {N : Nat} {q : Unit × sj_Mem} :
    ∀ (x0 : Option Nat) (x1 : Int) (s : sj_Mem), f_J7_fill_53178 N x0 x1 s = some q → sj_T X m_J7_fill_53178 s0 (none, q.2) 0 [some (sj_r x0), some (sj_i x1), none, none] [] s := by
  intro x0 x1 s h
  unfold f_J7_fill_53178 at h
  refine r_iconst (pc := 0) dJ7_fill_53178_0 ?_
  refine r_istore_n (ln := [some (sj_r x0), some (sj_i x1), some (sj_i 0), none]) (pc := 1) dJ7_fill_53178_1 rfl (Nat.le_of_ble_eq_true rfl) rfl ?_
  refine r_aload_n (pc := 2) dJ7_fill_53178_2 rfl rfl ?_
  obtain ⟨a1, ea1, g⟩ := e_nn_some h
  clear h
  subst ea1
  have h := g
  clear g
  refine r_al (pc := 3) h dJ7_fill_53178_3 (fun v2 h => ?_)
  refine r_istore_n (ln := [some (sj_r (some a1)), some (sj_i x1), some (sj_i 0), some (sj_i v2)]) (pc := 4) dJ7_fill_53178_4 rfl (Nat.le_of_ble_eq_true rfl) rfl ?_
  exact sj_weak (l2 := [some (sj_r (some a1)), some (sj_i x1), some (sj_i 0), some (sj_i v2)]) (⟨rfl, ⟨rfl, ⟨rfl, ⟨rfl, trivial⟩⟩⟩⟩) (t_J7_fill_53178_5 N (some a1) x1 0 v2 s h)
set_option maxHeartbeats 4000000 in
theorem c_J7_fill_53178 {X : sj_X} {N : Nat} {x0 : Option Nat} {x1 : Int} {s : sj_Mem} {q : Unit × sj_Mem} (h : f_J7_fill_53178 N x0 x1 s = some q) : sj_C X m_J7_fill_53178 [sj_r x0, sj_i x1] s (none, q.2) :=
  sj_C_of (by decide +kernel) (Nat.le_of_ble_eq_true rfl) (lo := [some (sj_r x0), some (sj_i x1), none, none]) rfl (sj_weak (l2 := [some (sj_r x0), some (sj_i x1), none, none]) (⟨rfl, ⟨rfl, trivial⟩⟩) (t_J7_fill_53178_0 x0 x1 s h))
theorem dX5_drop_0 : decode cX5_drop 0 = .ok (.aload_n 0, 1) := by decide +kernel
theorem dX5_drop_1 : decode cX5_drop 1 = .ok (.iconst (-1), 1) := by decide +kernel
theorem dX5_drop_2 : decode cX5_drop 2 = .ok (.putfield 15, 3) := by decide +kernel
theorem dX5_drop_5 : decode cX5_drop 5 = .ok (.aload_n 0, 1) := by decide +kernel
theorem dX5_drop_6 : decode cX5_drop 6 = .ok (.iconst (-1), 1) := by decide +kernel
theorem dX5_drop_7 : decode cX5_drop 7 = .ok (.putfield 19, 3) := by decide +kernel
theorem dX5_drop_10 : decode cX5_drop 10 = .ok (.return_, 1) := by decide +kernel
set_option maxHeartbeats 4000000 in
theorem t_X5_drop_0 {X : sj_X} {s0 : sj_Mem} {N : Nat} {q : Unit × sj_Mem} :
    ∀ (a0 : Nat) (s : sj_Mem), f_X5_drop N a0 s = some q → sj_T X m_X5_drop s0 (none, q.2) 0 [some (sj_r (some a0))] [] s := by
  intro a0 s h
  unfold f_X5_drop at h
  refine r_aload_n (pc := 0) dX5_drop_0 rfl rfl ?_
  refine r_iconst (pc := 1) dX5_drop_1 ?_
  refine r_pI (pc := 2) h dX5_drop_2 fw_X5_15 rfl rfl (fun _ hq => by cases hq; rfl) (fun s1 h => ?_)
  refine r_aload_n (pc := 5) dX5_drop_5 rfl rfl ?_
  refine r_iconst (pc := 6) dX5_drop_6 ?_
  refine r_pI (pc := 7) h dX5_drop_7 fw_X5_19 rfl rfl (fun _ hq => by cases hq; rfl) (fun s2 h => ?_)
  exact r_vret (pc := 10) h rfl dX5_drop_10
set_option maxHeartbeats 4000000 in
theorem c_X5_drop {X : sj_X} {N : Nat} {a0 : Nat} {s : sj_Mem} {q : Unit × sj_Mem} (h : f_X5_drop N a0 s = some q) : sj_C X m_X5_drop [sj_r (some a0)] s (none, q.2) :=
  sj_C_of (by decide +kernel) (Nat.le_of_ble_eq_true rfl) (lo := [some (sj_r (some a0))]) rfl (sj_weak (l2 := [some (sj_r (some a0))]) (⟨rfl, trivial⟩) (t_X5_drop_0 a0 s h))
theorem dX0_begin_0 : decode cX0_begin 0 = .ok (.aload_n 0, 1) := by decide +kernel
theorem dX0_begin_1 : decode cX0_begin 1 = .ok (.iload_n 1, 1) := by decide +kernel
theorem dX0_begin_2 : decode cX0_begin 2 = .ok (.putfield 52, 3) := by decide +kernel
theorem dX0_begin_5 : decode cX0_begin 5 = .ok (.aload_n 0, 1) := by decide +kernel
theorem dX0_begin_6 : decode cX0_begin 6 = .ok (.iload_n 2, 1) := by decide +kernel
theorem dX0_begin_7 : decode cX0_begin 7 = .ok (.putfield 56, 3) := by decide +kernel
theorem dX0_begin_10 : decode cX0_begin 10 = .ok (.aload_n 0, 1) := by decide +kernel
theorem dX0_begin_11 : decode cX0_begin 11 = .ok (.iconst 0, 1) := by decide +kernel
theorem dX0_begin_12 : decode cX0_begin 12 = .ok (.putfield 59, 3) := by decide +kernel
theorem dX0_begin_15 : decode cX0_begin 15 = .ok (.aload_n 0, 1) := by decide +kernel
theorem dX0_begin_16 : decode cX0_begin 16 = .ok (.getfield 9, 3) := by decide +kernel
theorem dX0_begin_19 : decode cX0_begin 19 = .ok (.bipush 20, 2) := by decide +kernel
theorem dX0_begin_21 : decode cX0_begin 21 = .ok (.invokestatic 62, 3) := by decide +kernel
theorem dX0_begin_24 : decode cX0_begin 24 = .ok (.aload_n 0, 1) := by decide +kernel
theorem dX0_begin_25 : decode cX0_begin 25 = .ok (.getfield 15, 3) := by decide +kernel
theorem dX0_begin_28 : decode cX0_begin 28 = .ok (.iconst 0, 1) := by decide +kernel
theorem dX0_begin_29 : decode cX0_begin 29 = .ok (.invokestatic 62, 3) := by decide +kernel
theorem dX0_begin_32 : decode cX0_begin 32 = .ok (.aload_n 0, 1) := by decide +kernel
theorem dX0_begin_33 : decode cX0_begin 33 = .ok (.getfield 18, 3) := by decide +kernel
theorem dX0_begin_36 : decode cX0_begin 36 = .ok (.iconst 0, 1) := by decide +kernel
theorem dX0_begin_37 : decode cX0_begin 37 = .ok (.invokestatic 62, 3) := by decide +kernel
theorem dX0_begin_40 : decode cX0_begin 40 = .ok (.aload_n 0, 1) := by decide +kernel
theorem dX0_begin_41 : decode cX0_begin 41 = .ok (.getfield 21, 3) := by decide +kernel
theorem dX0_begin_44 : decode cX0_begin 44 = .ok (.iconst 0, 1) := by decide +kernel
theorem dX0_begin_45 : decode cX0_begin 45 = .ok (.invokestatic 62, 3) := by decide +kernel
theorem dX0_begin_48 : decode cX0_begin 48 = .ok (.aload_n 0, 1) := by decide +kernel
theorem dX0_begin_49 : decode cX0_begin 49 = .ok (.getfield 24, 3) := by decide +kernel
theorem dX0_begin_52 : decode cX0_begin 52 = .ok (.iconst 0, 1) := by decide +kernel
theorem dX0_begin_53 : decode cX0_begin 53 = .ok (.invokestatic 62, 3) := by decide +kernel
theorem dX0_begin_56 : decode cX0_begin 56 = .ok (.aload_n 0, 1) := by decide +kernel
theorem dX0_begin_57 : decode cX0_begin 57 = .ok (.getfield 27, 3) := by decide +kernel
theorem dX0_begin_60 : decode cX0_begin 60 = .ok (.bipush 20, 2) := by decide +kernel
theorem dX0_begin_62 : decode cX0_begin 62 = .ok (.invokestatic 62, 3) := by decide +kernel
theorem dX0_begin_65 : decode cX0_begin 65 = .ok (.aload_n 0, 1) := by decide +kernel
theorem dX0_begin_66 : decode cX0_begin 66 = .ok (.getfield 30, 3) := by decide +kernel
theorem dX0_begin_69 : decode cX0_begin 69 = .ok (.bipush 10, 2) := by decide +kernel
theorem dX0_begin_71 : decode cX0_begin 71 = .ok (.invokestatic 62, 3) := by decide +kernel
theorem dX0_begin_74 : decode cX0_begin 74 = .ok (.aload_n 0, 1) := by decide +kernel
theorem dX0_begin_75 : decode cX0_begin 75 = .ok (.getfield 33, 3) := by decide +kernel
theorem dX0_begin_78 : decode cX0_begin 78 = .ok (.sipush 300, 3) := by decide +kernel
theorem dX0_begin_81 : decode cX0_begin 81 = .ok (.invokestatic 62, 3) := by decide +kernel
theorem dX0_begin_84 : decode cX0_begin 84 = .ok (.aload_n 0, 1) := by decide +kernel
theorem dX0_begin_85 : decode cX0_begin 85 = .ok (.getfield 42, 3) := by decide +kernel
theorem dX0_begin_88 : decode cX0_begin 88 = .ok (.iconst 0, 1) := by decide +kernel
theorem dX0_begin_89 : decode cX0_begin 89 = .ok (.invokestatic 62, 3) := by decide +kernel
theorem dX0_begin_92 : decode cX0_begin 92 = .ok (.aload_n 0, 1) := by decide +kernel
theorem dX0_begin_93 : decode cX0_begin 93 = .ok (.getfield 48, 3) := by decide +kernel
theorem dX0_begin_96 : decode cX0_begin 96 = .ok (.invokevirtual 68, 3) := by decide +kernel
theorem dX0_begin_99 : decode cX0_begin 99 = .ok (.return_, 1) := by decide +kernel
set_option maxHeartbeats 4000000 in
theorem t_X0_begin_0 {X : sj_X} {s0 : sj_Mem} {N : Nat} {q : Unit × sj_Mem} :
    ∀ (a0 : Nat) (x1 : Int) (x2 : Int) (s : sj_Mem), f_X0_begin N a0 x1 x2 s = some q → sj_T X m_X0_begin s0 (none, q.2) 0 [some (sj_r (some a0)), some (sj_i x1), some (sj_i x2)] [] s := by
  intro a0 x1 x2 s h
  unfold f_X0_begin at h
  refine r_aload_n (pc := 0) dX0_begin_0 rfl rfl ?_
  refine r_iload_n (pc := 1) dX0_begin_1 rfl rfl ?_
  refine r_pI (pc := 2) h dX0_begin_2 fw_X0_52 rfl rfl (fun _ hq => by cases hq; rfl) (fun s1 h => ?_)
  refine r_aload_n (pc := 5) dX0_begin_5 rfl rfl ?_
  refine r_iload_n (pc := 6) dX0_begin_6 rfl rfl ?_
  refine r_pI (pc := 7) h dX0_begin_7 fw_X0_56 rfl rfl (fun _ hq => by cases hq; rfl) (fun s2 h => ?_)
  refine r_aload_n (pc := 10) dX0_begin_10 rfl rfl ?_
  refine r_iconst (pc := 11) dX0_begin_11 ?_
  refine r_pI (pc := 12) h dX0_begin_12 fw_X0_59 rfl rfl (fun _ hq => by cases hq; rfl) (fun s3 h => ?_)
  refine r_aload_n (pc := 15) dX0_begin_15 rfl rfl ?_
  refine r_gR (pc := 16) h dX0_begin_16 fw_X0_9 rfl (fun r4 h => ?_)
  refine r_bipush (pc := 19) dX0_begin_19 ⟨by decide, by decide⟩ ?_
  refine r_callS (pc := 21) (fun _ => none) (As := [sj_r r4, sj_i 20]) (rest := []) h dX0_begin_21 mw_X0_62 kw_321 (fun _ _ hc => c_J7_fill_53178 hc) rfl ⟨(Nat.le_of_ble_eq_true rfl), (Nat.le_of_ble_eq_true rfl)⟩ (Nat.le_of_ble_eq_true rfl) rfl (fun _u s5 h => ?_)
  refine r_aload_n (pc := 24) dX0_begin_24 rfl rfl ?_
  refine r_gR (pc := 25) h dX0_begin_25 fw_X0_15 rfl (fun r6 h => ?_)
  refine r_iconst (pc := 28) dX0_begin_28 ?_
  refine r_callS (pc := 29) (fun _ => none) (As := [sj_r r6, sj_i 0]) (rest := []) h dX0_begin_29 mw_X0_62 kw_321 (fun _ _ hc => c_J7_fill_53178 hc) rfl ⟨(Nat.le_of_ble_eq_true rfl), (Nat.le_of_ble_eq_true rfl)⟩ (Nat.le_of_ble_eq_true rfl) rfl (fun _u s7 h => ?_)
  refine r_aload_n (pc := 32) dX0_begin_32 rfl rfl ?_
  refine r_gR (pc := 33) h dX0_begin_33 fw_X0_18 rfl (fun r8 h => ?_)
  refine r_iconst (pc := 36) dX0_begin_36 ?_
  refine r_callS (pc := 37) (fun _ => none) (As := [sj_r r8, sj_i 0]) (rest := []) h dX0_begin_37 mw_X0_62 kw_321 (fun _ _ hc => c_J7_fill_53178 hc) rfl ⟨(Nat.le_of_ble_eq_true rfl), (Nat.le_of_ble_eq_true rfl)⟩ (Nat.le_of_ble_eq_true rfl) rfl (fun _u s9 h => ?_)
  refine r_aload_n (pc := 40) dX0_begin_40 rfl rfl ?_
  refine r_gR (pc := 41) h dX0_begin_41 fw_X0_21 rfl (fun r10 h => ?_)
  refine r_iconst (pc := 44) dX0_begin_44 ?_
  refine r_callS (pc := 45) (fun _ => none) (As := [sj_r r10, sj_i 0]) (rest := []) h dX0_begin_45 mw_X0_62 kw_321 (fun _ _ hc => c_J7_fill_53178 hc) rfl ⟨(Nat.le_of_ble_eq_true rfl), (Nat.le_of_ble_eq_true rfl)⟩ (Nat.le_of_ble_eq_true rfl) rfl (fun _u s11 h => ?_)
  refine r_aload_n (pc := 48) dX0_begin_48 rfl rfl ?_
  refine r_gR (pc := 49) h dX0_begin_49 fw_X0_24 rfl (fun r12 h => ?_)
  refine r_iconst (pc := 52) dX0_begin_52 ?_
  refine r_callS (pc := 53) (fun _ => none) (As := [sj_r r12, sj_i 0]) (rest := []) h dX0_begin_53 mw_X0_62 kw_321 (fun _ _ hc => c_J7_fill_53178 hc) rfl ⟨(Nat.le_of_ble_eq_true rfl), (Nat.le_of_ble_eq_true rfl)⟩ (Nat.le_of_ble_eq_true rfl) rfl (fun _u s13 h => ?_)
  refine r_aload_n (pc := 56) dX0_begin_56 rfl rfl ?_
  refine r_gR (pc := 57) h dX0_begin_57 fw_X0_27 rfl (fun r14 h => ?_)
  refine r_bipush (pc := 60) dX0_begin_60 ⟨by decide, by decide⟩ ?_
  refine r_callS (pc := 62) (fun _ => none) (As := [sj_r r14, sj_i 20]) (rest := []) h dX0_begin_62 mw_X0_62 kw_321 (fun _ _ hc => c_J7_fill_53178 hc) rfl ⟨(Nat.le_of_ble_eq_true rfl), (Nat.le_of_ble_eq_true rfl)⟩ (Nat.le_of_ble_eq_true rfl) rfl (fun _u s15 h => ?_)
  refine r_aload_n (pc := 65) dX0_begin_65 rfl rfl ?_
  refine r_gR (pc := 66) h dX0_begin_66 fw_X0_30 rfl (fun r16 h => ?_)
  refine r_bipush (pc := 69) dX0_begin_69 ⟨by decide, by decide⟩ ?_
  refine r_callS (pc := 71) (fun _ => none) (As := [sj_r r16, sj_i 10]) (rest := []) h dX0_begin_71 mw_X0_62 kw_321 (fun _ _ hc => c_J7_fill_53178 hc) rfl ⟨(Nat.le_of_ble_eq_true rfl), (Nat.le_of_ble_eq_true rfl)⟩ (Nat.le_of_ble_eq_true rfl) rfl (fun _u s17 h => ?_)
  refine r_aload_n (pc := 74) dX0_begin_74 rfl rfl ?_
  refine r_gR (pc := 75) h dX0_begin_75 fw_X0_33 rfl (fun r18 h => ?_)
  refine r_sipush (pc := 78) dX0_begin_78 ⟨by decide, by decide⟩ ?_
  refine r_callS (pc := 81) (fun _ => none) (As := [sj_r r18, sj_i 300]) (rest := []) h dX0_begin_81 mw_X0_62 kw_321 (fun _ _ hc => c_J7_fill_53178 hc) rfl ⟨(Nat.le_of_ble_eq_true rfl), (Nat.le_of_ble_eq_true rfl)⟩ (Nat.le_of_ble_eq_true rfl) rfl (fun _u s19 h => ?_)
  refine r_aload_n (pc := 84) dX0_begin_84 rfl rfl ?_
  refine r_gR (pc := 85) h dX0_begin_85 fw_X0_42 rfl (fun r20 h => ?_)
  refine r_iconst (pc := 88) dX0_begin_88 ?_
  refine r_callS (pc := 89) (fun _ => none) (As := [sj_r r20, sj_i 0]) (rest := []) h dX0_begin_89 mw_X0_62 kw_321 (fun _ _ hc => c_J7_fill_53178 hc) rfl ⟨(Nat.le_of_ble_eq_true rfl), (Nat.le_of_ble_eq_true rfl)⟩ (Nat.le_of_ble_eq_true rfl) rfl (fun _u s21 h => ?_)
  refine r_aload_n (pc := 92) dX0_begin_92 rfl rfl ?_
  refine r_gR (pc := 93) h dX0_begin_93 fw_X0_48 rfl (fun r22 h => ?_)
  obtain ⟨a23, ea23, g⟩ := e_nn_some h
  clear h
  subst ea23
  have h := g
  clear g
  refine r_callV (pc := 96) (fun _ => none) (As := []) (rest := []) h dX0_begin_96 mw_X0_68 vw_X5_drop (fun _ _ hc => c_X5_drop hc) rfl ⟨(Nat.le_of_ble_eq_true rfl), (Nat.le_of_ble_eq_true rfl)⟩ (Nat.le_of_ble_eq_true rfl) rfl (fun _u s24 h => ?_)
  exact r_vret (pc := 99) h rfl dX0_begin_99
set_option maxHeartbeats 4000000 in
theorem c_X0_begin {X : sj_X} {N : Nat} {a0 : Nat} {x1 : Int} {x2 : Int} {s : sj_Mem} {q : Unit × sj_Mem} (h : f_X0_begin N a0 x1 x2 s = some q) : sj_C X m_X0_begin [sj_r (some a0), sj_i x1, sj_i x2] s (none, q.2) :=
  sj_C_of (by decide +kernel) (Nat.le_of_ble_eq_true rfl) (lo := [some (sj_r (some a0)), some (sj_i x1), some (sj_i x2)]) rfl (sj_weak (l2 := [some (sj_r (some a0)), some (sj_i x1), some (sj_i x2)]) (⟨rfl, ⟨rfl, ⟨rfl, trivial⟩⟩⟩) (t_X0_begin_0 a0 x1 x2 s h))
theorem dX5_copy_0 : decode cX5_copy 0 = .ok (.aload_n 1, 1) := by decide +kernel
theorem dX5_copy_1 : decode cX5_copy 1 = .ok (.getfield 9, 3) := by decide +kernel
theorem dX5_copy_4 : decode cX5_copy 4 = .ok (.iconst 0, 1) := by decide +kernel
theorem dX5_copy_5 : decode cX5_copy 5 = .ok (.aload_n 0, 1) := by decide +kernel
theorem dX5_copy_6 : decode cX5_copy 6 = .ok (.getfield 9, 3) := by decide +kernel
theorem dX5_copy_9 : decode cX5_copy 9 = .ok (.iconst 0, 1) := by decide +kernel
theorem dX5_copy_10 : decode cX5_copy 10 = .ok (.bipush 41, 2) := by decide +kernel
theorem dX5_copy_12 : decode cX5_copy 12 = .ok (.invokestatic 22, 3) := by decide +kernel
theorem dX5_copy_15 : decode cX5_copy 15 = .ok (.aload_n 0, 1) := by decide +kernel
theorem dX5_copy_16 : decode cX5_copy 16 = .ok (.aload_n 1, 1) := by decide +kernel
theorem dX5_copy_17 : decode cX5_copy 17 = .ok (.getfield 15, 3) := by decide +kernel
theorem dX5_copy_20 : decode cX5_copy 20 = .ok (.putfield 15, 3) := by decide +kernel
theorem dX5_copy_23 : decode cX5_copy 23 = .ok (.aload_n 0, 1) := by decide +kernel
theorem dX5_copy_24 : decode cX5_copy 24 = .ok (.aload_n 1, 1) := by decide +kernel
theorem dX5_copy_25 : decode cX5_copy 25 = .ok (.getfield 19, 3) := by decide +kernel
theorem dX5_copy_28 : decode cX5_copy 28 = .ok (.putfield 19, 3) := by decide +kernel
theorem dX5_copy_31 : decode cX5_copy 31 = .ok (.aload_n 0, 1) := by decide +kernel
theorem dX5_copy_32 : decode cX5_copy 32 = .ok (.aload_n 1, 1) := by decide +kernel
theorem dX5_copy_33 : decode cX5_copy 33 = .ok (.getfield 28, 3) := by decide +kernel
theorem dX5_copy_36 : decode cX5_copy 36 = .ok (.putfield 28, 3) := by decide +kernel
theorem dX5_copy_39 : decode cX5_copy 39 = .ok (.return_, 1) := by decide +kernel
set_option maxHeartbeats 4000000 in
theorem t_X5_copy_0 {X : sj_X} {s0 : sj_Mem} {N : Nat} {q : Unit × sj_Mem} :
    ∀ (a0 : Nat) (x1 : Option Nat) (s : sj_Mem), f_X5_copy N a0 x1 s = some q → sj_T X m_X5_copy s0 (none, q.2) 0 [some (sj_r (some a0)), some (sj_r x1)] [] s := by
  intro a0 x1 s h
  unfold f_X5_copy at h
  refine r_aload_n (pc := 0) dX5_copy_0 rfl rfl ?_
  obtain ⟨a1, ea1, g⟩ := e_nn_some h
  clear h
  subst ea1
  have h := g
  clear g
  refine r_gR (pc := 1) h dX5_copy_1 fw_X5_9 rfl (fun r2 h => ?_)
  refine r_iconst (pc := 4) dX5_copy_4 ?_
  refine r_aload_n (pc := 5) dX5_copy_5 rfl rfl ?_
  refine r_gR (pc := 6) h dX5_copy_6 fw_X5_9 rfl (fun r3 h => ?_)
  refine r_iconst (pc := 9) dX5_copy_9 ?_
  refine r_bipush (pc := 10) dX5_copy_10 ⟨by decide, by decide⟩ ?_
  obtain ⟨a4, ea4, g⟩ := e_nn_some h
  clear h
  subst ea4
  have h := g
  clear g
  obtain ⟨a5, ea5, g⟩ := e_nn_some h
  clear h
  subst ea5
  have h := g
  clear g
  refine r_copy (pc := 12) h dX5_copy_12 yw_X5_22 (Nat.le_of_ble_eq_true rfl) (Nat.le_of_ble_eq_true rfl) (fun s6 h => ?_)
  refine r_aload_n (pc := 15) dX5_copy_15 rfl rfl ?_
  refine r_aload_n (pc := 16) dX5_copy_16 rfl rfl ?_
  refine r_gI (pc := 17) h dX5_copy_17 fw_X5_15 rfl (fun v7 h => ?_)
  refine r_pI (pc := 20) h dX5_copy_20 fw_X5_15 rfl rfl (fun _ hq => by cases hq; rfl) (fun s8 h => ?_)
  refine r_aload_n (pc := 23) dX5_copy_23 rfl rfl ?_
  refine r_aload_n (pc := 24) dX5_copy_24 rfl rfl ?_
  refine r_gI (pc := 25) h dX5_copy_25 fw_X5_19 rfl (fun v9 h => ?_)
  refine r_pI (pc := 28) h dX5_copy_28 fw_X5_19 rfl rfl (fun _ hq => by cases hq; rfl) (fun s10 h => ?_)
  refine r_aload_n (pc := 31) dX5_copy_31 rfl rfl ?_
  refine r_aload_n (pc := 32) dX5_copy_32 rfl rfl ?_
  refine r_gI (pc := 33) h dX5_copy_33 fw_X5_28 rfl (fun v11 h => ?_)
  refine r_pZ (pc := 36) h dX5_copy_36 fw_X5_28 rfl rfl (fun _ hq => by cases hq; rfl) (fun s12 h => ?_)
  exact r_vret (pc := 39) h rfl dX5_copy_39
set_option maxHeartbeats 4000000 in
theorem c_X5_copy {X : sj_X} {N : Nat} {a0 : Nat} {x1 : Option Nat} {s : sj_Mem} {q : Unit × sj_Mem} (h : f_X5_copy N a0 x1 s = some q) : sj_C X m_X5_copy [sj_r (some a0), sj_r x1] s (none, q.2) :=
  sj_C_of (by decide +kernel) (Nat.le_of_ble_eq_true rfl) (lo := [some (sj_r (some a0)), some (sj_r x1)]) rfl (sj_weak (l2 := [some (sj_r (some a0)), some (sj_r x1)]) (⟨rfl, ⟨rfl, trivial⟩⟩) (t_X5_copy_0 a0 x1 s h))
theorem dX0_copy_0 : decode cX0_copy 0 = .ok (.aload_n 0, 1) := by decide +kernel
theorem dX0_copy_1 : decode cX0_copy 1 = .ok (.aload_n 1, 1) := by decide +kernel
theorem dX0_copy_2 : decode cX0_copy 2 = .ok (.getfield 52, 3) := by decide +kernel
theorem dX0_copy_5 : decode cX0_copy 5 = .ok (.putfield 52, 3) := by decide +kernel
theorem dX0_copy_8 : decode cX0_copy 8 = .ok (.aload_n 0, 1) := by decide +kernel
theorem dX0_copy_9 : decode cX0_copy 9 = .ok (.aload_n 1, 1) := by decide +kernel
theorem dX0_copy_10 : decode cX0_copy 10 = .ok (.getfield 56, 3) := by decide +kernel
theorem dX0_copy_13 : decode cX0_copy 13 = .ok (.putfield 56, 3) := by decide +kernel
theorem dX0_copy_16 : decode cX0_copy 16 = .ok (.aload_n 0, 1) := by decide +kernel
theorem dX0_copy_17 : decode cX0_copy 17 = .ok (.aload_n 1, 1) := by decide +kernel
theorem dX0_copy_18 : decode cX0_copy 18 = .ok (.getfield 59, 3) := by decide +kernel
theorem dX0_copy_21 : decode cX0_copy 21 = .ok (.putfield 59, 3) := by decide +kernel
theorem dX0_copy_24 : decode cX0_copy 24 = .ok (.aload_n 1, 1) := by decide +kernel
theorem dX0_copy_25 : decode cX0_copy 25 = .ok (.getfield 9, 3) := by decide +kernel
theorem dX0_copy_28 : decode cX0_copy 28 = .ok (.iconst 0, 1) := by decide +kernel
theorem dX0_copy_29 : decode cX0_copy 29 = .ok (.aload_n 0, 1) := by decide +kernel
theorem dX0_copy_30 : decode cX0_copy 30 = .ok (.getfield 9, 3) := by decide +kernel
theorem dX0_copy_33 : decode cX0_copy 33 = .ok (.iconst 0, 1) := by decide +kernel
theorem dX0_copy_34 : decode cX0_copy 34 = .ok (.bipush 41, 2) := by decide +kernel
theorem dX0_copy_36 : decode cX0_copy 36 = .ok (.invokestatic 71, 3) := by decide +kernel
theorem dX0_copy_39 : decode cX0_copy 39 = .ok (.aload_n 1, 1) := by decide +kernel
theorem dX0_copy_40 : decode cX0_copy 40 = .ok (.getfield 15, 3) := by decide +kernel
theorem dX0_copy_43 : decode cX0_copy 43 = .ok (.iconst 0, 1) := by decide +kernel
theorem dX0_copy_44 : decode cX0_copy 44 = .ok (.aload_n 0, 1) := by decide +kernel
theorem dX0_copy_45 : decode cX0_copy 45 = .ok (.getfield 15, 3) := by decide +kernel
theorem dX0_copy_48 : decode cX0_copy 48 = .ok (.iconst 0, 1) := by decide +kernel
theorem dX0_copy_49 : decode cX0_copy 49 = .ok (.bipush 41, 2) := by decide +kernel
theorem dX0_copy_51 : decode cX0_copy 51 = .ok (.invokestatic 71, 3) := by decide +kernel
theorem dX0_copy_54 : decode cX0_copy 54 = .ok (.aload_n 1, 1) := by decide +kernel
theorem dX0_copy_55 : decode cX0_copy 55 = .ok (.getfield 18, 3) := by decide +kernel
theorem dX0_copy_58 : decode cX0_copy 58 = .ok (.iconst 0, 1) := by decide +kernel
theorem dX0_copy_59 : decode cX0_copy 59 = .ok (.aload_n 0, 1) := by decide +kernel
theorem dX0_copy_60 : decode cX0_copy 60 = .ok (.getfield 18, 3) := by decide +kernel
theorem dX0_copy_63 : decode cX0_copy 63 = .ok (.iconst 0, 1) := by decide +kernel
theorem dX0_copy_64 : decode cX0_copy 64 = .ok (.bipush 41, 2) := by decide +kernel
theorem dX0_copy_66 : decode cX0_copy 66 = .ok (.invokestatic 71, 3) := by decide +kernel
theorem dX0_copy_69 : decode cX0_copy 69 = .ok (.aload_n 1, 1) := by decide +kernel
theorem dX0_copy_70 : decode cX0_copy 70 = .ok (.getfield 21, 3) := by decide +kernel
theorem dX0_copy_73 : decode cX0_copy 73 = .ok (.iconst 0, 1) := by decide +kernel
theorem dX0_copy_74 : decode cX0_copy 74 = .ok (.aload_n 0, 1) := by decide +kernel
theorem dX0_copy_75 : decode cX0_copy 75 = .ok (.getfield 21, 3) := by decide +kernel
theorem dX0_copy_78 : decode cX0_copy 78 = .ok (.iconst 0, 1) := by decide +kernel
theorem dX0_copy_79 : decode cX0_copy 79 = .ok (.bipush 41, 2) := by decide +kernel
theorem dX0_copy_81 : decode cX0_copy 81 = .ok (.invokestatic 71, 3) := by decide +kernel
theorem dX0_copy_84 : decode cX0_copy 84 = .ok (.aload_n 1, 1) := by decide +kernel
theorem dX0_copy_85 : decode cX0_copy 85 = .ok (.getfield 24, 3) := by decide +kernel
theorem dX0_copy_88 : decode cX0_copy 88 = .ok (.iconst 0, 1) := by decide +kernel
theorem dX0_copy_89 : decode cX0_copy 89 = .ok (.aload_n 0, 1) := by decide +kernel
theorem dX0_copy_90 : decode cX0_copy 90 = .ok (.getfield 24, 3) := by decide +kernel
theorem dX0_copy_93 : decode cX0_copy 93 = .ok (.iconst 0, 1) := by decide +kernel
theorem dX0_copy_94 : decode cX0_copy 94 = .ok (.bipush 123, 2) := by decide +kernel
theorem dX0_copy_96 : decode cX0_copy 96 = .ok (.invokestatic 71, 3) := by decide +kernel
theorem dX0_copy_99 : decode cX0_copy 99 = .ok (.aload_n 1, 1) := by decide +kernel
theorem dX0_copy_100 : decode cX0_copy 100 = .ok (.getfield 27, 3) := by decide +kernel
theorem dX0_copy_103 : decode cX0_copy 103 = .ok (.iconst 0, 1) := by decide +kernel
theorem dX0_copy_104 : decode cX0_copy 104 = .ok (.aload_n 0, 1) := by decide +kernel
theorem dX0_copy_105 : decode cX0_copy 105 = .ok (.getfield 27, 3) := by decide +kernel
theorem dX0_copy_108 : decode cX0_copy 108 = .ok (.iconst 0, 1) := by decide +kernel
theorem dX0_copy_109 : decode cX0_copy 109 = .ok (.iconst 4, 1) := by decide +kernel
theorem dX0_copy_110 : decode cX0_copy 110 = .ok (.invokestatic 71, 3) := by decide +kernel
theorem dX0_copy_113 : decode cX0_copy 113 = .ok (.aload_n 1, 1) := by decide +kernel
theorem dX0_copy_114 : decode cX0_copy 114 = .ok (.getfield 30, 3) := by decide +kernel
theorem dX0_copy_117 : decode cX0_copy 117 = .ok (.iconst 0, 1) := by decide +kernel
theorem dX0_copy_118 : decode cX0_copy 118 = .ok (.aload_n 0, 1) := by decide +kernel
theorem dX0_copy_119 : decode cX0_copy 119 = .ok (.getfield 30, 3) := by decide +kernel
theorem dX0_copy_122 : decode cX0_copy 122 = .ok (.iconst 0, 1) := by decide +kernel
theorem dX0_copy_123 : decode cX0_copy 123 = .ok (.iconst 4, 1) := by decide +kernel
theorem dX0_copy_124 : decode cX0_copy 124 = .ok (.invokestatic 71, 3) := by decide +kernel
theorem dX0_copy_127 : decode cX0_copy 127 = .ok (.aload_n 1, 1) := by decide +kernel
theorem dX0_copy_128 : decode cX0_copy 128 = .ok (.getfield 33, 3) := by decide +kernel
theorem dX0_copy_131 : decode cX0_copy 131 = .ok (.iconst 0, 1) := by decide +kernel
theorem dX0_copy_132 : decode cX0_copy 132 = .ok (.aload_n 0, 1) := by decide +kernel
theorem dX0_copy_133 : decode cX0_copy 133 = .ok (.getfield 33, 3) := by decide +kernel
theorem dX0_copy_136 : decode cX0_copy 136 = .ok (.iconst 0, 1) := by decide +kernel
theorem dX0_copy_137 : decode cX0_copy 137 = .ok (.iconst 4, 1) := by decide +kernel
theorem dX0_copy_138 : decode cX0_copy 138 = .ok (.invokestatic 71, 3) := by decide +kernel
theorem dX0_copy_141 : decode cX0_copy 141 = .ok (.aload_n 1, 1) := by decide +kernel
theorem dX0_copy_142 : decode cX0_copy 142 = .ok (.getfield 36, 3) := by decide +kernel
theorem dX0_copy_145 : decode cX0_copy 145 = .ok (.iconst 0, 1) := by decide +kernel
theorem dX0_copy_146 : decode cX0_copy 146 = .ok (.aload_n 0, 1) := by decide +kernel
theorem dX0_copy_147 : decode cX0_copy 147 = .ok (.getfield 36, 3) := by decide +kernel
theorem dX0_copy_150 : decode cX0_copy 150 = .ok (.iconst 0, 1) := by decide +kernel
theorem dX0_copy_151 : decode cX0_copy 151 = .ok (.bipush 6, 2) := by decide +kernel
theorem dX0_copy_153 : decode cX0_copy 153 = .ok (.invokestatic 71, 3) := by decide +kernel
theorem dX0_copy_156 : decode cX0_copy 156 = .ok (.aload_n 1, 1) := by decide +kernel
theorem dX0_copy_157 : decode cX0_copy 157 = .ok (.getfield 39, 3) := by decide +kernel
theorem dX0_copy_160 : decode cX0_copy 160 = .ok (.iconst 0, 1) := by decide +kernel
theorem dX0_copy_161 : decode cX0_copy 161 = .ok (.aload_n 0, 1) := by decide +kernel
theorem dX0_copy_162 : decode cX0_copy 162 = .ok (.getfield 39, 3) := by decide +kernel
theorem dX0_copy_165 : decode cX0_copy 165 = .ok (.iconst 0, 1) := by decide +kernel
theorem dX0_copy_166 : decode cX0_copy 166 = .ok (.bipush 6, 2) := by decide +kernel
theorem dX0_copy_168 : decode cX0_copy 168 = .ok (.invokestatic 71, 3) := by decide +kernel
theorem dX0_copy_171 : decode cX0_copy 171 = .ok (.aload_n 1, 1) := by decide +kernel
theorem dX0_copy_172 : decode cX0_copy 172 = .ok (.getfield 42, 3) := by decide +kernel
theorem dX0_copy_175 : decode cX0_copy 175 = .ok (.iconst 0, 1) := by decide +kernel
theorem dX0_copy_176 : decode cX0_copy 176 = .ok (.aload_n 0, 1) := by decide +kernel
theorem dX0_copy_177 : decode cX0_copy 177 = .ok (.getfield 42, 3) := by decide +kernel
theorem dX0_copy_180 : decode cX0_copy 180 = .ok (.iconst 0, 1) := by decide +kernel
theorem dX0_copy_181 : decode cX0_copy 181 = .ok (.bipush 6, 2) := by decide +kernel
theorem dX0_copy_183 : decode cX0_copy 183 = .ok (.invokestatic 71, 3) := by decide +kernel
theorem dX0_copy_186 : decode cX0_copy 186 = .ok (.aload_n 0, 1) := by decide +kernel
theorem dX0_copy_187 : decode cX0_copy 187 = .ok (.getfield 48, 3) := by decide +kernel
theorem dX0_copy_190 : decode cX0_copy 190 = .ok (.aload_n 1, 1) := by decide +kernel
theorem dX0_copy_191 : decode cX0_copy 191 = .ok (.getfield 48, 3) := by decide +kernel
theorem dX0_copy_194 : decode cX0_copy 194 = .ok (.invokevirtual 77, 3) := by decide +kernel
theorem dX0_copy_197 : decode cX0_copy 197 = .ok (.return_, 1) := by decide +kernel
set_option maxHeartbeats 4000000 in
theorem t_X0_copy_0 {X : sj_X} {s0 : sj_Mem} {N : Nat} {q : Unit × sj_Mem} :
    ∀ (a0 : Nat) (x1 : Option Nat) (s : sj_Mem), f_X0_copy N a0 x1 s = some q → sj_T X m_X0_copy s0 (none, q.2) 0 [some (sj_r (some a0)), some (sj_r x1)] [] s := by
  intro a0 x1 s h
  unfold f_X0_copy at h
  refine r_aload_n (pc := 0) dX0_copy_0 rfl rfl ?_
  refine r_aload_n (pc := 1) dX0_copy_1 rfl rfl ?_
  obtain ⟨a1, ea1, g⟩ := e_nn_some h
  clear h
  subst ea1
  have h := g
  clear g
  refine r_gI (pc := 2) h dX0_copy_2 fw_X0_52 rfl (fun v2 h => ?_)
  refine r_pI (pc := 5) h dX0_copy_5 fw_X0_52 rfl rfl (fun _ hq => by cases hq; rfl) (fun s3 h => ?_)
  refine r_aload_n (pc := 8) dX0_copy_8 rfl rfl ?_
  refine r_aload_n (pc := 9) dX0_copy_9 rfl rfl ?_
  refine r_gI (pc := 10) h dX0_copy_10 fw_X0_56 rfl (fun v4 h => ?_)
  refine r_pI (pc := 13) h dX0_copy_13 fw_X0_56 rfl rfl (fun _ hq => by cases hq; rfl) (fun s5 h => ?_)
  refine r_aload_n (pc := 16) dX0_copy_16 rfl rfl ?_
  refine r_aload_n (pc := 17) dX0_copy_17 rfl rfl ?_
  refine r_gI (pc := 18) h dX0_copy_18 fw_X0_59 rfl (fun v6 h => ?_)
  refine r_pI (pc := 21) h dX0_copy_21 fw_X0_59 rfl rfl (fun _ hq => by cases hq; rfl) (fun s7 h => ?_)
  refine r_aload_n (pc := 24) dX0_copy_24 rfl rfl ?_
  refine r_gR (pc := 25) h dX0_copy_25 fw_X0_9 rfl (fun r8 h => ?_)
  refine r_iconst (pc := 28) dX0_copy_28 ?_
  refine r_aload_n (pc := 29) dX0_copy_29 rfl rfl ?_
  refine r_gR (pc := 30) h dX0_copy_30 fw_X0_9 rfl (fun r9 h => ?_)
  refine r_iconst (pc := 33) dX0_copy_33 ?_
  refine r_bipush (pc := 34) dX0_copy_34 ⟨by decide, by decide⟩ ?_
  obtain ⟨a10, ea10, g⟩ := e_nn_some h
  clear h
  subst ea10
  have h := g
  clear g
  obtain ⟨a11, ea11, g⟩ := e_nn_some h
  clear h
  subst ea11
  have h := g
  clear g
  refine r_copy (pc := 36) h dX0_copy_36 yw_X0_71 (Nat.le_of_ble_eq_true rfl) (Nat.le_of_ble_eq_true rfl) (fun s12 h => ?_)
  refine r_aload_n (pc := 39) dX0_copy_39 rfl rfl ?_
  refine r_gR (pc := 40) h dX0_copy_40 fw_X0_15 rfl (fun r13 h => ?_)
  refine r_iconst (pc := 43) dX0_copy_43 ?_
  refine r_aload_n (pc := 44) dX0_copy_44 rfl rfl ?_
  refine r_gR (pc := 45) h dX0_copy_45 fw_X0_15 rfl (fun r14 h => ?_)
  refine r_iconst (pc := 48) dX0_copy_48 ?_
  refine r_bipush (pc := 49) dX0_copy_49 ⟨by decide, by decide⟩ ?_
  obtain ⟨a15, ea15, g⟩ := e_nn_some h
  clear h
  subst ea15
  have h := g
  clear g
  obtain ⟨a16, ea16, g⟩ := e_nn_some h
  clear h
  subst ea16
  have h := g
  clear g
  refine r_copy (pc := 51) h dX0_copy_51 yw_X0_71 (Nat.le_of_ble_eq_true rfl) (Nat.le_of_ble_eq_true rfl) (fun s17 h => ?_)
  refine r_aload_n (pc := 54) dX0_copy_54 rfl rfl ?_
  refine r_gR (pc := 55) h dX0_copy_55 fw_X0_18 rfl (fun r18 h => ?_)
  refine r_iconst (pc := 58) dX0_copy_58 ?_
  refine r_aload_n (pc := 59) dX0_copy_59 rfl rfl ?_
  refine r_gR (pc := 60) h dX0_copy_60 fw_X0_18 rfl (fun r19 h => ?_)
  refine r_iconst (pc := 63) dX0_copy_63 ?_
  refine r_bipush (pc := 64) dX0_copy_64 ⟨by decide, by decide⟩ ?_
  obtain ⟨a20, ea20, g⟩ := e_nn_some h
  clear h
  subst ea20
  have h := g
  clear g
  obtain ⟨a21, ea21, g⟩ := e_nn_some h
  clear h
  subst ea21
  have h := g
  clear g
  refine r_copy (pc := 66) h dX0_copy_66 yw_X0_71 (Nat.le_of_ble_eq_true rfl) (Nat.le_of_ble_eq_true rfl) (fun s22 h => ?_)
  refine r_aload_n (pc := 69) dX0_copy_69 rfl rfl ?_
  refine r_gR (pc := 70) h dX0_copy_70 fw_X0_21 rfl (fun r23 h => ?_)
  refine r_iconst (pc := 73) dX0_copy_73 ?_
  refine r_aload_n (pc := 74) dX0_copy_74 rfl rfl ?_
  refine r_gR (pc := 75) h dX0_copy_75 fw_X0_21 rfl (fun r24 h => ?_)
  refine r_iconst (pc := 78) dX0_copy_78 ?_
  refine r_bipush (pc := 79) dX0_copy_79 ⟨by decide, by decide⟩ ?_
  obtain ⟨a25, ea25, g⟩ := e_nn_some h
  clear h
  subst ea25
  have h := g
  clear g
  obtain ⟨a26, ea26, g⟩ := e_nn_some h
  clear h
  subst ea26
  have h := g
  clear g
  refine r_copy (pc := 81) h dX0_copy_81 yw_X0_71 (Nat.le_of_ble_eq_true rfl) (Nat.le_of_ble_eq_true rfl) (fun s27 h => ?_)
  refine r_aload_n (pc := 84) dX0_copy_84 rfl rfl ?_
  refine r_gR (pc := 85) h dX0_copy_85 fw_X0_24 rfl (fun r28 h => ?_)
  refine r_iconst (pc := 88) dX0_copy_88 ?_
  refine r_aload_n (pc := 89) dX0_copy_89 rfl rfl ?_
  refine r_gR (pc := 90) h dX0_copy_90 fw_X0_24 rfl (fun r29 h => ?_)
  refine r_iconst (pc := 93) dX0_copy_93 ?_
  refine r_bipush (pc := 94) dX0_copy_94 ⟨by decide, by decide⟩ ?_
  obtain ⟨a30, ea30, g⟩ := e_nn_some h
  clear h
  subst ea30
  have h := g
  clear g
  obtain ⟨a31, ea31, g⟩ := e_nn_some h
  clear h
  subst ea31
  have h := g
  clear g
  refine r_copy (pc := 96) h dX0_copy_96 yw_X0_71 (Nat.le_of_ble_eq_true rfl) (Nat.le_of_ble_eq_true rfl) (fun s32 h => ?_)
  refine r_aload_n (pc := 99) dX0_copy_99 rfl rfl ?_
  refine r_gR (pc := 100) h dX0_copy_100 fw_X0_27 rfl (fun r33 h => ?_)
  refine r_iconst (pc := 103) dX0_copy_103 ?_
  refine r_aload_n (pc := 104) dX0_copy_104 rfl rfl ?_
  refine r_gR (pc := 105) h dX0_copy_105 fw_X0_27 rfl (fun r34 h => ?_)
  refine r_iconst (pc := 108) dX0_copy_108 ?_
  refine r_iconst (pc := 109) dX0_copy_109 ?_
  obtain ⟨a35, ea35, g⟩ := e_nn_some h
  clear h
  subst ea35
  have h := g
  clear g
  obtain ⟨a36, ea36, g⟩ := e_nn_some h
  clear h
  subst ea36
  have h := g
  clear g
  refine r_copy (pc := 110) h dX0_copy_110 yw_X0_71 (Nat.le_of_ble_eq_true rfl) (Nat.le_of_ble_eq_true rfl) (fun s37 h => ?_)
  refine r_aload_n (pc := 113) dX0_copy_113 rfl rfl ?_
  refine r_gR (pc := 114) h dX0_copy_114 fw_X0_30 rfl (fun r38 h => ?_)
  refine r_iconst (pc := 117) dX0_copy_117 ?_
  refine r_aload_n (pc := 118) dX0_copy_118 rfl rfl ?_
  refine r_gR (pc := 119) h dX0_copy_119 fw_X0_30 rfl (fun r39 h => ?_)
  refine r_iconst (pc := 122) dX0_copy_122 ?_
  refine r_iconst (pc := 123) dX0_copy_123 ?_
  obtain ⟨a40, ea40, g⟩ := e_nn_some h
  clear h
  subst ea40
  have h := g
  clear g
  obtain ⟨a41, ea41, g⟩ := e_nn_some h
  clear h
  subst ea41
  have h := g
  clear g
  refine r_copy (pc := 124) h dX0_copy_124 yw_X0_71 (Nat.le_of_ble_eq_true rfl) (Nat.le_of_ble_eq_true rfl) (fun s42 h => ?_)
  refine r_aload_n (pc := 127) dX0_copy_127 rfl rfl ?_
  refine r_gR (pc := 128) h dX0_copy_128 fw_X0_33 rfl (fun r43 h => ?_)
  refine r_iconst (pc := 131) dX0_copy_131 ?_
  refine r_aload_n (pc := 132) dX0_copy_132 rfl rfl ?_
  refine r_gR (pc := 133) h dX0_copy_133 fw_X0_33 rfl (fun r44 h => ?_)
  refine r_iconst (pc := 136) dX0_copy_136 ?_
  refine r_iconst (pc := 137) dX0_copy_137 ?_
  obtain ⟨a45, ea45, g⟩ := e_nn_some h
  clear h
  subst ea45
  have h := g
  clear g
  obtain ⟨a46, ea46, g⟩ := e_nn_some h
  clear h
  subst ea46
  have h := g
  clear g
  refine r_copy (pc := 138) h dX0_copy_138 yw_X0_71 (Nat.le_of_ble_eq_true rfl) (Nat.le_of_ble_eq_true rfl) (fun s47 h => ?_)
  refine r_aload_n (pc := 141) dX0_copy_141 rfl rfl ?_
  refine r_gR (pc := 142) h dX0_copy_142 fw_X0_36 rfl (fun r48 h => ?_)
  refine r_iconst (pc := 145) dX0_copy_145 ?_
  refine r_aload_n (pc := 146) dX0_copy_146 rfl rfl ?_
  refine r_gR (pc := 147) h dX0_copy_147 fw_X0_36 rfl (fun r49 h => ?_)
  refine r_iconst (pc := 150) dX0_copy_150 ?_
  refine r_bipush (pc := 151) dX0_copy_151 ⟨by decide, by decide⟩ ?_
  obtain ⟨a50, ea50, g⟩ := e_nn_some h
  clear h
  subst ea50
  have h := g
  clear g
  obtain ⟨a51, ea51, g⟩ := e_nn_some h
  clear h
  subst ea51
  have h := g
  clear g
  refine r_copy (pc := 153) h dX0_copy_153 yw_X0_71 (Nat.le_of_ble_eq_true rfl) (Nat.le_of_ble_eq_true rfl) (fun s52 h => ?_)
  refine r_aload_n (pc := 156) dX0_copy_156 rfl rfl ?_
  refine r_gR (pc := 157) h dX0_copy_157 fw_X0_39 rfl (fun r53 h => ?_)
  refine r_iconst (pc := 160) dX0_copy_160 ?_
  refine r_aload_n (pc := 161) dX0_copy_161 rfl rfl ?_
  refine r_gR (pc := 162) h dX0_copy_162 fw_X0_39 rfl (fun r54 h => ?_)
  refine r_iconst (pc := 165) dX0_copy_165 ?_
  refine r_bipush (pc := 166) dX0_copy_166 ⟨by decide, by decide⟩ ?_
  obtain ⟨a55, ea55, g⟩ := e_nn_some h
  clear h
  subst ea55
  have h := g
  clear g
  obtain ⟨a56, ea56, g⟩ := e_nn_some h
  clear h
  subst ea56
  have h := g
  clear g
  refine r_copy (pc := 168) h dX0_copy_168 yw_X0_71 (Nat.le_of_ble_eq_true rfl) (Nat.le_of_ble_eq_true rfl) (fun s57 h => ?_)
  refine r_aload_n (pc := 171) dX0_copy_171 rfl rfl ?_
  refine r_gR (pc := 172) h dX0_copy_172 fw_X0_42 rfl (fun r58 h => ?_)
  refine r_iconst (pc := 175) dX0_copy_175 ?_
  refine r_aload_n (pc := 176) dX0_copy_176 rfl rfl ?_
  refine r_gR (pc := 177) h dX0_copy_177 fw_X0_42 rfl (fun r59 h => ?_)
  refine r_iconst (pc := 180) dX0_copy_180 ?_
  refine r_bipush (pc := 181) dX0_copy_181 ⟨by decide, by decide⟩ ?_
  obtain ⟨a60, ea60, g⟩ := e_nn_some h
  clear h
  subst ea60
  have h := g
  clear g
  obtain ⟨a61, ea61, g⟩ := e_nn_some h
  clear h
  subst ea61
  have h := g
  clear g
  refine r_copy (pc := 183) h dX0_copy_183 yw_X0_71 (Nat.le_of_ble_eq_true rfl) (Nat.le_of_ble_eq_true rfl) (fun s62 h => ?_)
  refine r_aload_n (pc := 186) dX0_copy_186 rfl rfl ?_
  refine r_gR (pc := 187) h dX0_copy_187 fw_X0_48 rfl (fun r63 h => ?_)
  refine r_aload_n (pc := 190) dX0_copy_190 rfl rfl ?_
  refine r_gR (pc := 191) h dX0_copy_191 fw_X0_48 rfl (fun r64 h => ?_)
  obtain ⟨a65, ea65, g⟩ := e_nn_some h
  clear h
  subst ea65
  have h := g
  clear g
  refine r_callV (pc := 194) (fun _ => none) (As := [sj_r r64]) (rest := []) h dX0_copy_194 mw_X0_77 vw_X5_copy (fun _ _ hc => c_X5_copy hc) rfl ⟨(Nat.le_of_ble_eq_true rfl), (Nat.le_of_ble_eq_true rfl)⟩ (Nat.le_of_ble_eq_true rfl) rfl (fun _u s66 h => ?_)
  exact r_vret (pc := 197) h rfl dX0_copy_197
set_option maxHeartbeats 4000000 in
theorem c_X0_copy {X : sj_X} {N : Nat} {a0 : Nat} {x1 : Option Nat} {s : sj_Mem} {q : Unit × sj_Mem} (h : f_X0_copy N a0 x1 s = some q) : sj_C X m_X0_copy [sj_r (some a0), sj_r x1] s (none, q.2) :=
  sj_C_of (by decide +kernel) (Nat.le_of_ble_eq_true rfl) (lo := [some (sj_r (some a0)), some (sj_r x1)]) rfl (sj_weak (l2 := [some (sj_r (some a0)), some (sj_r x1)]) (⟨rfl, ⟨rfl, trivial⟩⟩) (t_X0_copy_0 a0 x1 s h))
theorem dX0_hasColumn_0 : decode cX0_hasColumn 0 = .ok (.iload_n 1, 1) := by decide +kernel
theorem dX0_hasColumn_1 : decode cX0_hasColumn 1 = .ok (.ifCond .lt 15, 3) := by decide +kernel
theorem dX0_hasColumn_4 : decode cX0_hasColumn 4 = .ok (.iload_n 1, 1) := by decide +kernel
theorem dX0_hasColumn_5 : decode cX0_hasColumn 5 = .ok (.aload_n 0, 1) := by decide +kernel
theorem dX0_hasColumn_6 : decode cX0_hasColumn 6 = .ok (.getfield 52, 3) := by decide +kernel
theorem dX0_hasColumn_9 : decode cX0_hasColumn 9 = .ok (.if_icmp .gt 7, 3) := by decide +kernel
theorem dX0_hasColumn_12 : decode cX0_hasColumn 12 = .ok (.iconst 1, 1) := by decide +kernel
theorem dX0_hasColumn_13 : decode cX0_hasColumn 13 = .ok (.goto 4, 3) := by decide +kernel
theorem dX0_hasColumn_16 : decode cX0_hasColumn 16 = .ok (.iconst 0, 1) := by decide +kernel
theorem dX0_hasColumn_17 : decode cX0_hasColumn 17 = .ok (.ireturn, 1) := by decide +kernel
set_option maxHeartbeats 4000000 in
theorem t_X0_hasColumn_0 {X : sj_X} {s0 : sj_Mem} {N : Nat} {q : Int × sj_Mem} :
    ∀ (a0 : Nat) (x1 : Int) (s : sj_Mem), f_X0_hasColumn N a0 x1 s = some q → sj_T X m_X0_hasColumn s0 (some (sj_i q.1), q.2) 0 [some (sj_r (some a0)), some (sj_i x1)] [] s := by
  intro a0 x1 s h
  unfold f_X0_hasColumn at h
  refine r_iload_n (pc := 0) dX0_hasColumn_0 rfl rfl ?_
  refine r_if_lt (pc := 1) (tgt := 16) h dX0_hasColumn_1 (by decide) (fun h => ?_) (fun h => ?_)
  · refine r_iconst (pc := 16) dX0_hasColumn_16 ?_
    exact r_zret (pc := 17) h rfl dX0_hasColumn_17
  · refine r_iload_n (pc := 4) dX0_hasColumn_4 rfl rfl ?_
    refine r_aload_n (pc := 5) dX0_hasColumn_5 rfl rfl ?_
    refine r_gI (pc := 6) h dX0_hasColumn_6 fw_X0_52 rfl (fun v1 h => ?_)
    refine r_icmp_gt (pc := 9) (tgt := 16) h dX0_hasColumn_9 (by decide) (fun h => ?_) (fun h => ?_)
    · refine r_iconst (pc := 16) dX0_hasColumn_16 ?_
      exact r_zret (pc := 17) h rfl dX0_hasColumn_17
    · refine r_iconst (pc := 12) dX0_hasColumn_12 ?_
      refine r_goto (pc := 13) (tgt := 17) dX0_hasColumn_13 (by decide) ?_
      exact r_zret (pc := 17) h rfl dX0_hasColumn_17
set_option maxHeartbeats 4000000 in
theorem c_X0_hasColumn {X : sj_X} {N : Nat} {a0 : Nat} {x1 : Int} {s : sj_Mem} {q : Int × sj_Mem} (h : f_X0_hasColumn N a0 x1 s = some q) : sj_C X m_X0_hasColumn [sj_r (some a0), sj_i x1] s (some (sj_i q.1), q.2) :=
  sj_C_of (by decide +kernel) (Nat.le_of_ble_eq_true rfl) (lo := [some (sj_r (some a0)), some (sj_i x1)]) rfl (sj_weak (l2 := [some (sj_r (some a0)), some (sj_i x1)]) (⟨rfl, ⟨rfl, trivial⟩⟩) (t_X0_hasColumn_0 a0 x1 s h))
theorem dX0_canLower_0 : decode cX0_canLower 0 = .ok (.aload_n 0, 1) := by decide +kernel
theorem dX0_canLower_1 : decode cX0_canLower 1 = .ok (.iload_n 1, 1) := by decide +kernel
theorem dX0_canLower_2 : decode cX0_canLower 2 = .ok (.invokevirtual 81, 3) := by decide +kernel
theorem dX0_canLower_5 : decode cX0_canLower 5 = .ok (.ifCond .eq 7, 3) := by decide +kernel
theorem dX0_canLower_8 : decode cX0_canLower 8 = .ok (.iload_n 2, 1) := by decide +kernel
theorem dX0_canLower_9 : decode cX0_canLower 9 = .ok (.ifCond .ne 5, 3) := by decide +kernel
theorem dX0_canLower_12 : decode cX0_canLower 12 = .ok (.iconst 0, 1) := by decide +kernel
theorem dX0_canLower_13 : decode cX0_canLower 13 = .ok (.ireturn, 1) := by decide +kernel
theorem dX0_canLower_14 : decode cX0_canLower 14 = .ok (.aload_n 0, 1) := by decide +kernel
theorem dX0_canLower_15 : decode cX0_canLower 15 = .ok (.getfield 9, 3) := by decide +kernel
theorem dX0_canLower_18 : decode cX0_canLower 18 = .ok (.iload_n 1, 1) := by decide +kernel
theorem dX0_canLower_19 : decode cX0_canLower 19 = .ok (.iaload, 1) := by decide +kernel
theorem dX0_canLower_20 : decode cX0_canLower 20 = .ok (.i2l, 1) := by decide +kernel
theorem dX0_canLower_21 : decode cX0_canLower 21 = .ok (.iload_n 2, 1) := by decide +kernel
theorem dX0_canLower_22 : decode cX0_canLower 22 = .ok (.i2l, 1) := by decide +kernel
theorem dX0_canLower_23 : decode cX0_canLower 23 = .ok (.lsub, 1) := by decide +kernel
theorem dX0_canLower_24 : decode cX0_canLower 24 = .ok (.lstore_n 3, 1) := by decide +kernel
theorem dX0_canLower_25 : decode cX0_canLower 25 = .ok (.lload_n 3, 1) := by decide +kernel
theorem dX0_canLower_26 : decode cX0_canLower 26 = .ok (.aload_n 0, 1) := by decide +kernel
theorem dX0_canLower_27 : decode cX0_canLower 27 = .ok (.getfield 15, 3) := by decide +kernel
theorem dX0_canLower_30 : decode cX0_canLower 30 = .ok (.iload_n 1, 1) := by decide +kernel
theorem dX0_canLower_31 : decode cX0_canLower 31 = .ok (.iaload, 1) := by decide +kernel
theorem dX0_canLower_32 : decode cX0_canLower 32 = .ok (.i2l, 1) := by decide +kernel
theorem dX0_canLower_33 : decode cX0_canLower 33 = .ok (.lcmp, 1) := by decide +kernel
theorem dX0_canLower_34 : decode cX0_canLower 34 = .ok (.ifCond .lt 15, 3) := by decide +kernel
theorem dX0_canLower_37 : decode cX0_canLower 37 = .ok (.lload_n 3, 1) := by decide +kernel
theorem dX0_canLower_38 : decode cX0_canLower 38 = .ok (.ldc2_w 85, 3) := by decide +kernel
theorem dX0_canLower_41 : decode cX0_canLower 41 = .ok (.lcmp, 1) := by decide +kernel
theorem dX0_canLower_42 : decode cX0_canLower 42 = .ok (.ifCond .gt 7, 3) := by decide +kernel
theorem dX0_canLower_45 : decode cX0_canLower 45 = .ok (.iconst 1, 1) := by decide +kernel
theorem dX0_canLower_46 : decode cX0_canLower 46 = .ok (.goto 4, 3) := by decide +kernel
theorem dX0_canLower_49 : decode cX0_canLower 49 = .ok (.iconst 0, 1) := by decide +kernel
theorem dX0_canLower_50 : decode cX0_canLower 50 = .ok (.ireturn, 1) := by decide +kernel
set_option maxHeartbeats 4000000 in
theorem t_X0_canLower_0 {X : sj_X} {s0 : sj_Mem} {N : Nat} {q : Int × sj_Mem} :
    ∀ (a0 : Nat) (x1 : Int) (x2 : Int) (s : sj_Mem), f_X0_canLower N a0 x1 x2 s = some q → sj_T X m_X0_canLower s0 (some (sj_i q.1), q.2) 0 [some (sj_r (some a0)), some (sj_i x1), some (sj_i x2), none, none] [] s := by
  intro a0 x1 x2 s h
  unfold f_X0_canLower at h
  refine r_aload_n (pc := 0) dX0_canLower_0 rfl rfl ?_
  refine r_iload_n (pc := 1) dX0_canLower_1 rfl rfl ?_
  refine r_callV (pc := 2) (fun v => some (sj_i v)) (As := [sj_i x1]) (rest := []) h dX0_canLower_2 mw_X0_81 vw_X0_hasColumn (fun _ _ hc => c_X0_hasColumn hc) rfl ⟨(Nat.le_of_ble_eq_true rfl), (Nat.le_of_ble_eq_true rfl)⟩ (Nat.le_of_ble_eq_true rfl) rfl (fun v2 s1 h => ?_)
  refine r_if_eq (pc := 5) (tgt := 12) h dX0_canLower_5 (by decide) (fun h => ?_) (fun h => ?_)
  · refine r_iconst (pc := 12) dX0_canLower_12 ?_
    exact r_zret (pc := 13) h rfl dX0_canLower_13
  · refine r_iload_n (pc := 8) dX0_canLower_8 rfl rfl ?_
    refine r_if_ne (pc := 9) (tgt := 14) h dX0_canLower_9 (by decide) (fun h => ?_) (fun h => ?_)
    · refine r_iconst (pc := 12) dX0_canLower_12 ?_
      exact r_zret (pc := 13) h rfl dX0_canLower_13
    · refine r_aload_n (pc := 14) dX0_canLower_14 rfl rfl ?_
      refine r_gR (pc := 15) h dX0_canLower_15 fw_X0_9 rfl (fun r3 h => ?_)
      refine r_iload_n (pc := 18) dX0_canLower_18 rfl rfl ?_
      obtain ⟨a4, ea4, g⟩ := e_nn_some h
      clear h
      subst ea4
      have h := g
      clear g
      refine r_iaload (pc := 19) h dX0_canLower_19 (fun v5 h => ?_)
      refine r_i2l (pc := 20) h dX0_canLower_20 (fun v6 h => ?_)
      refine r_iload_n (pc := 21) dX0_canLower_21 rfl rfl ?_
      refine r_i2l (pc := 22) h dX0_canLower_22 (fun v7 h => ?_)
      refine r_lsub (pc := 23) dX0_canLower_23 ?_
      refine r_lstore_nL (ln := fun w => [some (sj_r (some a0)), some (sj_i x1), some (sj_i x2), some (sj_j w), none]) (pc := 24) h dX0_canLower_24 rfl (Nat.le_of_ble_eq_true rfl) (fun _ => rfl) (fun v8 h => ?_)
      refine r_lload_n (pc := 25) dX0_canLower_25 rfl rfl ?_
      refine r_aload_n (pc := 26) dX0_canLower_26 rfl rfl ?_
      refine r_gR (pc := 27) h dX0_canLower_27 fw_X0_15 rfl (fun r9 h => ?_)
      refine r_iload_n (pc := 30) dX0_canLower_30 rfl rfl ?_
      obtain ⟨a10, ea10, g⟩ := e_nn_some h
      clear h
      subst ea10
      have h := g
      clear g
      refine r_iaload (pc := 31) h dX0_canLower_31 (fun v11 h => ?_)
      refine r_i2l (pc := 32) h dX0_canLower_32 (fun v12 h => ?_)
      refine r_llt (pc := 33) (tgt := 49) h dX0_canLower_33 rfl dX0_canLower_34 (by decide) (fun h => ?_) (fun h => ?_)
      · refine r_iconst (pc := 49) dX0_canLower_49 ?_
        exact r_zret (pc := 50) h rfl dX0_canLower_50
      · refine r_lload_n (pc := 37) dX0_canLower_37 rfl rfl ?_
        refine r_ldc2 (n := 100) (pc := 38) dX0_canLower_38 kc_X0_85 ?_
        refine r_lgt (pc := 41) (tgt := 49) h dX0_canLower_41 rfl dX0_canLower_42 (by decide) (fun h => ?_) (fun h => ?_)
        · refine r_iconst (pc := 49) dX0_canLower_49 ?_
          exact r_zret (pc := 50) h rfl dX0_canLower_50
        · refine r_iconst (pc := 45) dX0_canLower_45 ?_
          refine r_goto (pc := 46) (tgt := 50) dX0_canLower_46 (by decide) ?_
          exact r_zret (pc := 50) h rfl dX0_canLower_50
set_option maxHeartbeats 4000000 in
theorem c_X0_canLower {X : sj_X} {N : Nat} {a0 : Nat} {x1 : Int} {x2 : Int} {s : sj_Mem} {q : Int × sj_Mem} (h : f_X0_canLower N a0 x1 x2 s = some q) : sj_C X m_X0_canLower [sj_r (some a0), sj_i x1, sj_i x2] s (some (sj_i q.1), q.2) :=
  sj_C_of (by decide +kernel) (Nat.le_of_ble_eq_true rfl) (lo := [some (sj_r (some a0)), some (sj_i x1), some (sj_i x2), none, none]) rfl (sj_weak (l2 := [some (sj_r (some a0)), some (sj_i x1), some (sj_i x2), none, none]) (⟨rfl, ⟨rfl, ⟨rfl, trivial⟩⟩⟩) (t_X0_canLower_0 a0 x1 x2 s h))
theorem dX0_rockIsBelow_0 : decode cX0_rockIsBelow 0 = .ok (.iconst 0, 1) := by decide +kernel
theorem dX0_rockIsBelow_1 : decode cX0_rockIsBelow 1 = .ok (.istore_n 1, 1) := by decide +kernel
theorem dX0_rockIsBelow_2 : decode cX0_rockIsBelow 2 = .ok (.iload_n 1, 1) := by decide +kernel
theorem dX0_rockIsBelow_3 : decode cX0_rockIsBelow 3 = .ok (.aload_n 0, 1) := by decide +kernel
theorem dX0_rockIsBelow_4 : decode cX0_rockIsBelow 4 = .ok (.getfield 52, 3) := by decide +kernel
theorem dX0_rockIsBelow_7 : decode cX0_rockIsBelow 7 = .ok (.if_icmp .gt 26, 3) := by decide +kernel
theorem dX0_rockIsBelow_10 : decode cX0_rockIsBelow 10 = .ok (.aload_n 0, 1) := by decide +kernel
theorem dX0_rockIsBelow_11 : decode cX0_rockIsBelow 11 = .ok (.getfield 15, 3) := by decide +kernel
theorem dX0_rockIsBelow_14 : decode cX0_rockIsBelow 14 = .ok (.iload_n 1, 1) := by decide +kernel
theorem dX0_rockIsBelow_15 : decode cX0_rockIsBelow 15 = .ok (.iaload, 1) := by decide +kernel
theorem dX0_rockIsBelow_16 : decode cX0_rockIsBelow 16 = .ok (.aload_n 0, 1) := by decide +kernel
theorem dX0_rockIsBelow_17 : decode cX0_rockIsBelow 17 = .ok (.getfield 9, 3) := by decide +kernel
theorem dX0_rockIsBelow_20 : decode cX0_rockIsBelow 20 = .ok (.iload_n 1, 1) := by decide +kernel
theorem dX0_rockIsBelow_21 : decode cX0_rockIsBelow 21 = .ok (.iaload, 1) := by decide +kernel
theorem dX0_rockIsBelow_22 : decode cX0_rockIsBelow 22 = .ok (.if_icmp .le 5, 3) := by decide +kernel
theorem dX0_rockIsBelow_25 : decode cX0_rockIsBelow 25 = .ok (.iconst 0, 1) := by decide +kernel
theorem dX0_rockIsBelow_26 : decode cX0_rockIsBelow 26 = .ok (.ireturn, 1) := by decide +kernel
theorem dX0_rockIsBelow_27 : decode cX0_rockIsBelow 27 = .ok (.iinc 1 1, 3) := by decide +kernel
theorem dX0_rockIsBelow_30 : decode cX0_rockIsBelow 30 = .ok (.goto (-28), 3) := by decide +kernel
theorem dX0_rockIsBelow_33 : decode cX0_rockIsBelow 33 = .ok (.iconst 1, 1) := by decide +kernel
theorem dX0_rockIsBelow_34 : decode cX0_rockIsBelow 34 = .ok (.ireturn, 1) := by decide +kernel
set_option maxHeartbeats 4000000 in
theorem t_X0_rockIsBelow_2_b {X : sj_X} {s0 : sj_Mem} {N : Nat} {q : Int × sj_Mem} {k2 : Nat → Int → sj_Mem → Option (Int × sj_Mem)} (hk2 : ∀ (a0 : Nat) (x1 : Int) (s : sj_Mem), k2 a0 x1 s = some q → sj_T X m_X0_rockIsBelow s0 (some (sj_i q.1), q.2) 2 [some (sj_r (some a0)), some (sj_i x1)] [] s) :
    ∀ (a0 : Nat) (x1 : Int) (s : sj_Mem), f_X0_rockIsBelow_2_b N k2 a0 x1 s = some q → sj_T X m_X0_rockIsBelow s0 (some (sj_i q.1), q.2) 2 [some (sj_r (some a0)), some (sj_i x1)] [] s := by
  intro a0 x1 s h
  unfold f_X0_rockIsBelow_2_b at h
  refine r_iload_n (pc := 2) dX0_rockIsBelow_2 rfl rfl ?_
  refine r_aload_n (pc := 3) dX0_rockIsBelow_3 rfl rfl ?_
  refine r_gI (pc := 4) h dX0_rockIsBelow_4 fw_X0_52 rfl (fun v1 h => ?_)
  refine r_icmp_gt (pc := 7) (tgt := 33) h dX0_rockIsBelow_7 (by decide) (fun h => ?_) (fun h => ?_)
  · refine r_iconst (pc := 33) dX0_rockIsBelow_33 ?_
    exact r_zret (pc := 34) h rfl dX0_rockIsBelow_34
  · refine r_aload_n (pc := 10) dX0_rockIsBelow_10 rfl rfl ?_
    refine r_gR (pc := 11) h dX0_rockIsBelow_11 fw_X0_15 rfl (fun r2 h => ?_)
    refine r_iload_n (pc := 14) dX0_rockIsBelow_14 rfl rfl ?_
    obtain ⟨a3, ea3, g⟩ := e_nn_some h
    clear h
    subst ea3
    have h := g
    clear g
    refine r_iaload (pc := 15) h dX0_rockIsBelow_15 (fun v4 h => ?_)
    refine r_aload_n (pc := 16) dX0_rockIsBelow_16 rfl rfl ?_
    refine r_gR (pc := 17) h dX0_rockIsBelow_17 fw_X0_9 rfl (fun r5 h => ?_)
    refine r_iload_n (pc := 20) dX0_rockIsBelow_20 rfl rfl ?_
    obtain ⟨a6, ea6, g⟩ := e_nn_some h
    clear h
    subst ea6
    have h := g
    clear g
    refine r_iaload (pc := 21) h dX0_rockIsBelow_21 (fun v7 h => ?_)
    refine r_icmp_le (pc := 22) (tgt := 27) h dX0_rockIsBelow_22 (by decide) (fun h => ?_) (fun h => ?_)
    · refine r_iinc (ln := fun w => [some (sj_r (some a0)), some (sj_i w)]) (pc := 27) h dX0_rockIsBelow_27 rfl (Nat.le_of_ble_eq_true rfl) (fun _ => rfl) (fun v8 h => ?_)
      refine r_goto (pc := 30) (tgt := 2) dX0_rockIsBelow_30 (by decide) ?_
      exact sj_weak (l2 := [some (sj_r (some a0)), some (sj_i v8)]) (⟨rfl, ⟨rfl, trivial⟩⟩) (hk2 a0 v8 s h)
    · refine r_iconst (pc := 25) dX0_rockIsBelow_25 ?_
      exact r_zret (pc := 26) h rfl dX0_rockIsBelow_26
set_option maxHeartbeats 4000000 in
theorem t_X0_rockIsBelow_2 {X : sj_X} {s0 : sj_Mem} {N : Nat} {q : Int × sj_Mem} :
    ∀ (n : Nat) (a0 : Nat) (x1 : Int) (s : sj_Mem), f_X0_rockIsBelow_2 N n a0 x1 s = some q → sj_T X m_X0_rockIsBelow s0 (some (sj_i q.1), q.2) 2 [some (sj_r (some a0)), some (sj_i x1)] [] s := by
  intro n
  induction n with
  | zero => intro a0 x1 s h; exact nomatch h
  | succ n ih => intro a0 x1 s h; exact t_X0_rockIsBelow_2_b (N := N) ih a0 x1 s h
set_option maxHeartbeats 4000000 in
theorem t_X0_rockIsBelow_0 {X : sj_X} {s0 : sj_Mem} {N : Nat} {q : Int × sj_Mem} :
    ∀ (a0 : Nat) (s : sj_Mem), f_X0_rockIsBelow N a0 s = some q → sj_T X m_X0_rockIsBelow s0 (some (sj_i q.1), q.2) 0 [some (sj_r (some a0)), none] [] s := by
  intro a0 s h
  unfold f_X0_rockIsBelow at h
  refine r_iconst (pc := 0) dX0_rockIsBelow_0 ?_
  refine r_istore_n (ln := [some (sj_r (some a0)), some (sj_i 0)]) (pc := 1) dX0_rockIsBelow_1 rfl (Nat.le_of_ble_eq_true rfl) rfl ?_
  exact sj_weak (l2 := [some (sj_r (some a0)), some (sj_i 0)]) (⟨rfl, ⟨rfl, trivial⟩⟩) (t_X0_rockIsBelow_2 N a0 0 s h)
set_option maxHeartbeats 4000000 in
theorem c_X0_rockIsBelow {X : sj_X} {N : Nat} {a0 : Nat} {s : sj_Mem} {q : Int × sj_Mem} (h : f_X0_rockIsBelow N a0 s = some q) : sj_C X m_X0_rockIsBelow [sj_r (some a0)] s (some (sj_i q.1), q.2) :=
  sj_C_of (by decide +kernel) (Nat.le_of_ble_eq_true rfl) (lo := [some (sj_r (some a0)), none]) rfl (sj_weak (l2 := [some (sj_r (some a0)), none]) (⟨rfl, trivial⟩) (t_X0_rockIsBelow_0 a0 s h))
theorem dX0_waterAt_0 : decode cX0_waterAt 0 = .ok (.aload_n 0, 1) := by decide +kernel
theorem dX0_waterAt_1 : decode cX0_waterAt 1 = .ok (.getfield 18, 3) := by decide +kernel
theorem dX0_waterAt_4 : decode cX0_waterAt 4 = .ok (.iload_n 1, 1) := by decide +kernel
theorem dX0_waterAt_5 : decode cX0_waterAt 5 = .ok (.iaload, 1) := by decide +kernel
theorem dX0_waterAt_6 : decode cX0_waterAt 6 = .ok (.aload_n 0, 1) := by decide +kernel
theorem dX0_waterAt_7 : decode cX0_waterAt 7 = .ok (.getfield 9, 3) := by decide +kernel
theorem dX0_waterAt_10 : decode cX0_waterAt 10 = .ok (.iload_n 1, 1) := by decide +kernel
theorem dX0_waterAt_11 : decode cX0_waterAt 11 = .ok (.iaload, 1) := by decide +kernel
theorem dX0_waterAt_12 : decode cX0_waterAt 12 = .ok (.invokestatic 87, 3) := by decide +kernel
theorem dX0_waterAt_15 : decode cX0_waterAt 15 = .ok (.ireturn, 1) := by decide +kernel
set_option maxHeartbeats 4000000 in
theorem t_X0_waterAt_0 {X : sj_X} {s0 : sj_Mem} {N : Nat} {q : Int × sj_Mem} :
    ∀ (a0 : Nat) (x1 : Int) (s : sj_Mem), f_X0_waterAt N a0 x1 s = some q → sj_T X m_X0_waterAt s0 (some (sj_i q.1), q.2) 0 [some (sj_r (some a0)), some (sj_i x1)] [] s := by
  intro a0 x1 s h
  unfold f_X0_waterAt at h
  refine r_aload_n (pc := 0) dX0_waterAt_0 rfl rfl ?_
  refine r_gR (pc := 1) h dX0_waterAt_1 fw_X0_18 rfl (fun r1 h => ?_)
  refine r_iload_n (pc := 4) dX0_waterAt_4 rfl rfl ?_
  obtain ⟨a2, ea2, g⟩ := e_nn_some h
  clear h
  subst ea2
  have h := g
  clear g
  refine r_iaload (pc := 5) h dX0_waterAt_5 (fun v3 h => ?_)
  refine r_aload_n (pc := 6) dX0_waterAt_6 rfl rfl ?_
  refine r_gR (pc := 7) h dX0_waterAt_7 fw_X0_9 rfl (fun r4 h => ?_)
  refine r_iload_n (pc := 10) dX0_waterAt_10 rfl rfl ?_
  obtain ⟨a5, ea5, g⟩ := e_nn_some h
  clear h
  subst ea5
  have h := g
  clear g
  refine r_iaload (pc := 11) h dX0_waterAt_11 (fun v6 h => ?_)
  refine r_mmin (pc := 12) h dX0_waterAt_12 mx_X0_87 (Nat.le_of_ble_eq_true rfl) (Nat.le_of_ble_eq_true rfl) (fun v7 h => ?_)
  exact r_iret (pc := 15) h rfl dX0_waterAt_15
set_option maxHeartbeats 4000000 in
theorem c_X0_waterAt {X : sj_X} {N : Nat} {a0 : Nat} {x1 : Int} {s : sj_Mem} {q : Int × sj_Mem} (h : f_X0_waterAt N a0 x1 s = some q) : sj_C X m_X0_waterAt [sj_r (some a0), sj_i x1] s (some (sj_i q.1), q.2) :=
  sj_C_of (by decide +kernel) (Nat.le_of_ble_eq_true rfl) (lo := [some (sj_r (some a0)), some (sj_i x1)]) rfl (sj_weak (l2 := [some (sj_r (some a0)), some (sj_i x1)]) (⟨rfl, ⟨rfl, trivial⟩⟩) (t_X0_waterAt_0 a0 x1 s h))
theorem dX8_topPlace_0 : decode cX8_topPlace 0 = .ok (.iload_n 0, 1) := by decide +kernel
theorem dX8_topPlace_1 : decode cX8_topPlace 1 = .ok (.iconst 1, 1) := by decide +kernel
theorem dX8_topPlace_2 : decode cX8_topPlace 2 = .ok (.isub, 1) := by decide +kernel
theorem dX8_topPlace_3 : decode cX8_topPlace 3 = .ok (.bipush 41, 2) := by decide +kernel
theorem dX8_topPlace_5 : decode cX8_topPlace 5 = .ok (.imul, 1) := by decide +kernel
theorem dX8_topPlace_6 : decode cX8_topPlace 6 = .ok (.iload_n 1, 1) := by decide +kernel
theorem dX8_topPlace_7 : decode cX8_topPlace 7 = .ok (.iadd, 1) := by decide +kernel
theorem dX8_topPlace_8 : decode cX8_topPlace 8 = .ok (.ireturn, 1) := by decide +kernel
set_option maxHeartbeats 4000000 in
theorem t_X8_topPlace_0 {X : sj_X} {s0 : sj_Mem} {N : Nat} {q : Int × sj_Mem} :
    ∀ (x0 : Int) (x1 : Int) (s : sj_Mem), f_X8_topPlace N x0 x1 s = some q → sj_T X m_X8_topPlace s0 (some (sj_i q.1), q.2) 0 [some (sj_i x0), some (sj_i x1)] [] s := by
  intro x0 x1 s h
  unfold f_X8_topPlace at h
  refine r_iload_n (pc := 0) dX8_topPlace_0 rfl rfl ?_
  refine r_iconst (pc := 1) dX8_topPlace_1 ?_
  refine r_isub (pc := 2) dX8_topPlace_2 ?_
  refine r_bipush (pc := 3) dX8_topPlace_3 ⟨by decide, by decide⟩ ?_
  refine r_imul (pc := 5) dX8_topPlace_5 ?_
  refine r_iload_n (pc := 6) dX8_topPlace_6 rfl rfl ?_
  refine r_iadd (pc := 7) dX8_topPlace_7 ?_
  exact r_iret (pc := 8) h rfl dX8_topPlace_8
set_option maxHeartbeats 4000000 in
theorem c_X8_topPlace {X : sj_X} {N : Nat} {x0 : Int} {x1 : Int} {s : sj_Mem} {q : Int × sj_Mem} (h : f_X8_topPlace N x0 x1 s = some q) : sj_C X m_X8_topPlace [sj_i x0, sj_i x1] s (some (sj_i q.1), q.2) :=
  sj_C_of (by decide +kernel) (Nat.le_of_ble_eq_true rfl) (lo := [some (sj_i x0), some (sj_i x1)]) rfl (sj_weak (l2 := [some (sj_i x0), some (sj_i x1)]) (⟨rfl, ⟨rfl, trivial⟩⟩) (t_X8_topPlace_0 x0 x1 s h))
theorem dX0_topAt_0 : decode cX0_topAt 0 = .ok (.aload_n 0, 1) := by decide +kernel
theorem dX0_topAt_1 : decode cX0_topAt 1 = .ok (.getfield 9, 3) := by decide +kernel
theorem dX0_topAt_4 : decode cX0_topAt 4 = .ok (.iload_n 2, 1) := by decide +kernel
theorem dX0_topAt_5 : decode cX0_topAt 5 = .ok (.iaload, 1) := by decide +kernel
theorem dX0_topAt_6 : decode cX0_topAt 6 = .ok (.istore_n 3, 1) := by decide +kernel
theorem dX0_topAt_7 : decode cX0_topAt 7 = .ok (.iconst 1, 1) := by decide +kernel
theorem dX0_topAt_8 : decode cX0_topAt 8 = .ok (.istore 4, 2) := by decide +kernel
theorem dX0_topAt_10 : decode cX0_topAt 10 = .ok (.iload 4, 2) := by decide +kernel
theorem dX0_topAt_12 : decode cX0_topAt 12 = .ok (.iload_n 1, 1) := by decide +kernel
theorem dX0_topAt_13 : decode cX0_topAt 13 = .ok (.if_icmp .gt 25, 3) := by decide +kernel
theorem dX0_topAt_16 : decode cX0_topAt 16 = .ok (.iload_n 3, 1) := by decide +kernel
theorem dX0_topAt_17 : decode cX0_topAt 17 = .ok (.aload_n 0, 1) := by decide +kernel
theorem dX0_topAt_18 : decode cX0_topAt 18 = .ok (.getfield 24, 3) := by decide +kernel
theorem dX0_topAt_21 : decode cX0_topAt 21 = .ok (.iload 4, 2) := by decide +kernel
theorem dX0_topAt_23 : decode cX0_topAt 23 = .ok (.iload_n 2, 1) := by decide +kernel
theorem dX0_topAt_24 : decode cX0_topAt 24 = .ok (.invokestatic 93, 3) := by decide +kernel
theorem dX0_topAt_27 : decode cX0_topAt 27 = .ok (.iaload, 1) := by decide +kernel
theorem dX0_topAt_28 : decode cX0_topAt 28 = .ok (.invokestatic 87, 3) := by decide +kernel
theorem dX0_topAt_31 : decode cX0_topAt 31 = .ok (.istore_n 3, 1) := by decide +kernel
theorem dX0_topAt_32 : decode cX0_topAt 32 = .ok (.iinc 4 1, 3) := by decide +kernel
theorem dX0_topAt_35 : decode cX0_topAt 35 = .ok (.goto (-25), 3) := by decide +kernel
theorem dX0_topAt_38 : decode cX0_topAt 38 = .ok (.iload_n 3, 1) := by decide +kernel
theorem dX0_topAt_39 : decode cX0_topAt 39 = .ok (.ireturn, 1) := by decide +kernel
set_option maxHeartbeats 4000000 in
theorem t_X0_topAt_10_b {X : sj_X} {s0 : sj_Mem} {N : Nat} {q : Int × sj_Mem} {k10 : Nat → Int → Int → Int → Int → sj_Mem → Option (Int × sj_Mem)} (hk10 : ∀ (a0 : Nat) (x1 : Int) (x2 : Int) (x3 : Int) (x4 : Int) (s : sj_Mem), k10 a0 x1 x2 x3 x4 s = some q → sj_T X m_X0_topAt s0 (some (sj_i q.1), q.2) 10 [some (sj_r (some a0)), some (sj_i x1), some (sj_i x2), some (sj_i x3), some (sj_i x4)] [] s) :
    ∀ (a0 : Nat) (x1 : Int) (x2 : Int) (x3 : Int) (x4 : Int) (s : sj_Mem), f_X0_topAt_10_b N k10 a0 x1 x2 x3 x4 s = some q → sj_T X m_X0_topAt s0 (some (sj_i q.1), q.2) 10 [some (sj_r (some a0)), some (sj_i x1), some (sj_i x2), some (sj_i x3), some (sj_i x4)] [] s := by
  intro a0 x1 x2 x3 x4 s h
  unfold f_X0_topAt_10_b at h
  refine r_iload (pc := 10) dX0_topAt_10 rfl ?_
  refine r_iload_n (pc := 12) dX0_topAt_12 rfl rfl ?_
  refine r_icmp_gt (pc := 13) (tgt := 38) h dX0_topAt_13 (by decide) (fun h => ?_) (fun h => ?_)
  · refine r_iload_n (pc := 38) dX0_topAt_38 rfl rfl ?_
    exact r_iret (pc := 39) h rfl dX0_topAt_39
  · refine r_iload_n (pc := 16) dX0_topAt_16 rfl rfl ?_
    refine r_aload_n (pc := 17) dX0_topAt_17 rfl rfl ?_
    refine r_gR (pc := 18) h dX0_topAt_18 fw_X0_24 rfl (fun r1 h => ?_)
    refine r_iload (pc := 21) dX0_topAt_21 rfl ?_
    refine r_iload_n (pc := 23) dX0_topAt_23 rfl rfl ?_
    refine r_callS (pc := 24) (fun v => some (sj_i v)) (As := [sj_i x4, sj_i x2]) (rest := [(sj_r r1), (sj_i x3)]) h dX0_topAt_24 mw_X0_93 kw_407 (fun _ _ hc => c_X8_topPlace hc) rfl ⟨(Nat.le_of_ble_eq_true rfl), (Nat.le_of_ble_eq_true rfl)⟩ (Nat.le_of_ble_eq_true rfl) rfl (fun v3 s2 h => ?_)
    obtain ⟨a4, ea4, g⟩ := e_nn_some h
    clear h
    subst ea4
    have h := g
    clear g
    refine r_iaload (pc := 27) h dX0_topAt_27 (fun v5 h => ?_)
    refine r_mmin (pc := 28) h dX0_topAt_28 mx_X0_87 (Nat.le_of_ble_eq_true rfl) (Nat.le_of_ble_eq_true rfl) (fun v6 h => ?_)
    refine r_istore_n (ln := [some (sj_r (some a0)), some (sj_i x1), some (sj_i x2), some (sj_i v6), some (sj_i x4)]) (pc := 31) dX0_topAt_31 rfl (Nat.le_of_ble_eq_true rfl) rfl ?_
    refine r_iinc (ln := fun w => [some (sj_r (some a0)), some (sj_i x1), some (sj_i x2), some (sj_i v6), some (sj_i w)]) (pc := 32) h dX0_topAt_32 rfl (Nat.le_of_ble_eq_true rfl) (fun _ => rfl) (fun v7 h => ?_)
    refine r_goto (pc := 35) (tgt := 10) dX0_topAt_35 (by decide) ?_
    exact sj_weak (l2 := [some (sj_r (some a0)), some (sj_i x1), some (sj_i x2), some (sj_i v6), some (sj_i v7)]) (⟨rfl, ⟨rfl, ⟨rfl, ⟨rfl, ⟨rfl, trivial⟩⟩⟩⟩⟩) (hk10 a0 x1 x2 v6 v7 s2 h)
set_option maxHeartbeats 4000000 in
theorem t_X0_topAt_10 {X : sj_X} {s0 : sj_Mem} {N : Nat} {q : Int × sj_Mem} :
    ∀ (n : Nat) (a0 : Nat) (x1 : Int) (x2 : Int) (x3 : Int) (x4 : Int) (s : sj_Mem), f_X0_topAt_10 N n a0 x1 x2 x3 x4 s = some q → sj_T X m_X0_topAt s0 (some (sj_i q.1), q.2) 10 [some (sj_r (some a0)), some (sj_i x1), some (sj_i x2), some (sj_i x3), some (sj_i x4)] [] s := by
  intro n
  induction n with
  | zero => intro a0 x1 x2 x3 x4 s h; exact nomatch h
  | succ n ih => intro a0 x1 x2 x3 x4 s h; exact t_X0_topAt_10_b (N := N) ih a0 x1 x2 x3 x4 s h
set_option maxHeartbeats 4000000 in
theorem t_X0_topAt_0 {X : sj_X} {s0 : sj_Mem} {N : Nat} {q : Int × sj_Mem} :
    ∀ (a0 : Nat) (x1 : Int) (x2 : Int) (s : sj_Mem), f_X0_topAt N a0 x1 x2 s = some q → sj_T X m_X0_topAt s0 (some (sj_i q.1), q.2) 0 [some (sj_r (some a0)), some (sj_i x1), some (sj_i x2), none, none] [] s := by
  intro a0 x1 x2 s h
  unfold f_X0_topAt at h
  refine r_aload_n (pc := 0) dX0_topAt_0 rfl rfl ?_
  refine r_gR (pc := 1) h dX0_topAt_1 fw_X0_9 rfl (fun r1 h => ?_)
  refine r_iload_n (pc := 4) dX0_topAt_4 rfl rfl ?_
  obtain ⟨a2, ea2, g⟩ := e_nn_some h
  clear h
  subst ea2
  have h := g
  clear g
  refine r_iaload (pc := 5) h dX0_topAt_5 (fun v3 h => ?_)
  refine r_istore_n (ln := [some (sj_r (some a0)), some (sj_i x1), some (sj_i x2), some (sj_i v3), none]) (pc := 6) dX0_topAt_6 rfl (Nat.le_of_ble_eq_true rfl) rfl ?_
  refine r_iconst (pc := 7) dX0_topAt_7 ?_
  refine r_istore (ln := [some (sj_r (some a0)), some (sj_i x1), some (sj_i x2), some (sj_i v3), some (sj_i 1)]) (pc := 8) dX0_topAt_8 (Nat.le_of_ble_eq_true rfl) rfl ?_
  exact sj_weak (l2 := [some (sj_r (some a0)), some (sj_i x1), some (sj_i x2), some (sj_i v3), some (sj_i 1)]) (⟨rfl, ⟨rfl, ⟨rfl, ⟨rfl, ⟨rfl, trivial⟩⟩⟩⟩⟩) (t_X0_topAt_10 N a0 x1 x2 v3 1 s h)
set_option maxHeartbeats 4000000 in
theorem c_X0_topAt {X : sj_X} {N : Nat} {a0 : Nat} {x1 : Int} {x2 : Int} {s : sj_Mem} {q : Int × sj_Mem} (h : f_X0_topAt N a0 x1 x2 s = some q) : sj_C X m_X0_topAt [sj_r (some a0), sj_i x1, sj_i x2] s (some (sj_i q.1), q.2) :=
  sj_C_of (by decide +kernel) (Nat.le_of_ble_eq_true rfl) (lo := [some (sj_r (some a0)), some (sj_i x1), some (sj_i x2), none, none]) rfl (sj_weak (l2 := [some (sj_r (some a0)), some (sj_i x1), some (sj_i x2), none, none]) (⟨rfl, ⟨rfl, ⟨rfl, trivial⟩⟩⟩) (t_X0_topAt_0 a0 x1 x2 s h))
theorem dX0_weightOn_0 : decode cX0_weightOn 0 = .ok (.aload_n 0, 1) := by decide +kernel
theorem dX0_weightOn_1 : decode cX0_weightOn 1 = .ok (.getfield 21, 3) := by decide +kernel
theorem dX0_weightOn_4 : decode cX0_weightOn 4 = .ok (.iload_n 1, 1) := by decide +kernel
theorem dX0_weightOn_5 : decode cX0_weightOn 5 = .ok (.iaload, 1) := by decide +kernel
theorem dX0_weightOn_6 : decode cX0_weightOn 6 = .ok (.istore_n 3, 1) := by decide +kernel
theorem dX0_weightOn_7 : decode cX0_weightOn 7 = .ok (.aload_n 0, 1) := by decide +kernel
theorem dX0_weightOn_8 : decode cX0_weightOn 8 = .ok (.getfield 9, 3) := by decide +kernel
theorem dX0_weightOn_11 : decode cX0_weightOn 11 = .ok (.iload_n 1, 1) := by decide +kernel
theorem dX0_weightOn_12 : decode cX0_weightOn 12 = .ok (.iaload, 1) := by decide +kernel
theorem dX0_weightOn_13 : decode cX0_weightOn 13 = .ok (.istore 4, 2) := by decide +kernel
theorem dX0_weightOn_15 : decode cX0_weightOn 15 = .ok (.iconst 0, 1) := by decide +kernel
theorem dX0_weightOn_16 : decode cX0_weightOn 16 = .ok (.istore 5, 2) := by decide +kernel
theorem dX0_weightOn_18 : decode cX0_weightOn 18 = .ok (.iload 5, 2) := by decide +kernel
theorem dX0_weightOn_20 : decode cX0_weightOn 20 = .ok (.iconst 4, 1) := by decide +kernel
theorem dX0_weightOn_21 : decode cX0_weightOn 21 = .ok (.if_icmp .ge 71, 3) := by decide +kernel
theorem dX0_weightOn_24 : decode cX0_weightOn 24 = .ok (.iload 4, 2) := by decide +kernel
theorem dX0_weightOn_26 : decode cX0_weightOn 26 = .ok (.iload_n 2, 1) := by decide +kernel
theorem dX0_weightOn_27 : decode cX0_weightOn 27 = .ok (.if_icmp .le 65, 3) := by decide +kernel
theorem dX0_weightOn_30 : decode cX0_weightOn 30 = .ok (.iload 5, 2) := by decide +kernel
theorem dX0_weightOn_32 : decode cX0_weightOn 32 = .ok (.iconst 1, 1) := by decide +kernel
theorem dX0_weightOn_33 : decode cX0_weightOn 33 = .ok (.iadd, 1) := by decide +kernel
theorem dX0_weightOn_34 : decode cX0_weightOn 34 = .ok (.iconst 4, 1) := by decide +kernel
theorem dX0_weightOn_35 : decode cX0_weightOn 35 = .ok (.if_icmp .ge 24, 3) := by decide +kernel
theorem dX0_weightOn_38 : decode cX0_weightOn 38 = .ok (.iload 4, 2) := by decide +kernel
theorem dX0_weightOn_40 : decode cX0_weightOn 40 = .ok (.aload_n 0, 1) := by decide +kernel
theorem dX0_weightOn_41 : decode cX0_weightOn 41 = .ok (.getfield 24, 3) := by decide +kernel
theorem dX0_weightOn_44 : decode cX0_weightOn 44 = .ok (.iload 5, 2) := by decide +kernel
theorem dX0_weightOn_46 : decode cX0_weightOn 46 = .ok (.iconst 1, 1) := by decide +kernel
theorem dX0_weightOn_47 : decode cX0_weightOn 47 = .ok (.iadd, 1) := by decide +kernel
theorem dX0_weightOn_48 : decode cX0_weightOn 48 = .ok (.iload_n 1, 1) := by decide +kernel
theorem dX0_weightOn_49 : decode cX0_weightOn 49 = .ok (.invokestatic 93, 3) := by decide +kernel
theorem dX0_weightOn_52 : decode cX0_weightOn 52 = .ok (.iaload, 1) := by decide +kernel
theorem dX0_weightOn_53 : decode cX0_weightOn 53 = .ok (.invokestatic 87, 3) := by decide +kernel
theorem dX0_weightOn_56 : decode cX0_weightOn 56 = .ok (.goto 4, 3) := by decide +kernel
theorem dX0_weightOn_59 : decode cX0_weightOn 59 = .ok (.iload_n 2, 1) := by decide +kernel
theorem dX0_weightOn_60 : decode cX0_weightOn 60 = .ok (.istore 6, 2) := by decide +kernel
theorem dX0_weightOn_62 : decode cX0_weightOn 62 = .ok (.iload_n 3, 1) := by decide +kernel
theorem dX0_weightOn_63 : decode cX0_weightOn 63 = .ok (.aload_n 0, 1) := by decide +kernel
theorem dX0_weightOn_64 : decode cX0_weightOn 64 = .ok (.getfield 27, 3) := by decide +kernel
theorem dX0_weightOn_67 : decode cX0_weightOn 67 = .ok (.iload 5, 2) := by decide +kernel
theorem dX0_weightOn_69 : decode cX0_weightOn 69 = .ok (.iaload, 1) := by decide +kernel
theorem dX0_weightOn_70 : decode cX0_weightOn 70 = .ok (.iload 4, 2) := by decide +kernel
theorem dX0_weightOn_72 : decode cX0_weightOn 72 = .ok (.iload 6, 2) := by decide +kernel
theorem dX0_weightOn_74 : decode cX0_weightOn 74 = .ok (.iload_n 2, 1) := by decide +kernel
theorem dX0_weightOn_75 : decode cX0_weightOn 75 = .ok (.invokestatic 96, 3) := by decide +kernel
theorem dX0_weightOn_78 : decode cX0_weightOn 78 = .ok (.isub, 1) := by decide +kernel
theorem dX0_weightOn_79 : decode cX0_weightOn 79 = .ok (.imul, 1) := by decide +kernel
theorem dX0_weightOn_80 : decode cX0_weightOn 80 = .ok (.iadd, 1) := by decide +kernel
theorem dX0_weightOn_81 : decode cX0_weightOn 81 = .ok (.istore_n 3, 1) := by decide +kernel
theorem dX0_weightOn_82 : decode cX0_weightOn 82 = .ok (.iload 6, 2) := by decide +kernel
theorem dX0_weightOn_84 : decode cX0_weightOn 84 = .ok (.istore 4, 2) := by decide +kernel
theorem dX0_weightOn_86 : decode cX0_weightOn 86 = .ok (.iinc 5 1, 3) := by decide +kernel
theorem dX0_weightOn_89 : decode cX0_weightOn 89 = .ok (.goto (-71), 3) := by decide +kernel
theorem dX0_weightOn_92 : decode cX0_weightOn 92 = .ok (.iload_n 3, 1) := by decide +kernel
theorem dX0_weightOn_93 : decode cX0_weightOn 93 = .ok (.ireturn, 1) := by decide +kernel
set_option maxHeartbeats 4000000 in
theorem t_X0_weightOn_60 {X : sj_X} {s0 : sj_Mem} {N : Nat} {q : Int × sj_Mem} {k18 : Nat → Int → Int → Int → Int → Int → sj_Mem → Option (Int × sj_Mem)} (hk18 : ∀ (a0 : Nat) (x1 : Int) (x2 : Int) (x3 : Int) (x4 : Int) (x5 : Int) (s : sj_Mem), k18 a0 x1 x2 x3 x4 x5 s = some q → sj_T X m_X0_weightOn s0 (some (sj_i q.1), q.2) 18 [some (sj_r (some a0)), some (sj_i x1), some (sj_i x2), some (sj_i x3), some (sj_i x4), some (sj_i x5), none] [] s) :
    ∀ (a0 : Nat) (x1 : Int) (x2 : Int) (x3 : Int) (x4 : Int) (x5 : Int) (y0 : Int) (s : sj_Mem), f_X0_weightOn_60 N k18 a0 x1 x2 x3 x4 x5 y0 s = some q → sj_T X m_X0_weightOn s0 (some (sj_i q.1), q.2) 60 [some (sj_r (some a0)), some (sj_i x1), some (sj_i x2), some (sj_i x3), some (sj_i x4), some (sj_i x5), none] [(sj_i y0)] s := by
  intro a0 x1 x2 x3 x4 x5 y0 s h
  unfold f_X0_weightOn_60 at h
  refine r_istore (ln := [some (sj_r (some a0)), some (sj_i x1), some (sj_i x2), some (sj_i x3), some (sj_i x4), some (sj_i x5), some (sj_i y0)]) (pc := 60) dX0_weightOn_60 (Nat.le_of_ble_eq_true rfl) rfl ?_
  refine r_iload_n (pc := 62) dX0_weightOn_62 rfl rfl ?_
  refine r_aload_n (pc := 63) dX0_weightOn_63 rfl rfl ?_
  refine r_gR (pc := 64) h dX0_weightOn_64 fw_X0_27 rfl (fun r1 h => ?_)
  refine r_iload (pc := 67) dX0_weightOn_67 rfl ?_
  obtain ⟨a2, ea2, g⟩ := e_nn_some h
  clear h
  subst ea2
  have h := g
  clear g
  refine r_iaload (pc := 69) h dX0_weightOn_69 (fun v3 h => ?_)
  refine r_iload (pc := 70) dX0_weightOn_70 rfl ?_
  refine r_iload (pc := 72) dX0_weightOn_72 rfl ?_
  refine r_iload_n (pc := 74) dX0_weightOn_74 rfl rfl ?_
  refine r_mmax (pc := 75) h dX0_weightOn_75 mx_X0_96 (Nat.le_of_ble_eq_true rfl) (Nat.le_of_ble_eq_true rfl) (fun v4 h => ?_)
  refine r_isub (pc := 78) dX0_weightOn_78 ?_
  refine r_imul (pc := 79) dX0_weightOn_79 ?_
  refine r_iadd (pc := 80) dX0_weightOn_80 ?_
  refine r_istore_nL (ln := fun w => [some (sj_r (some a0)), some (sj_i x1), some (sj_i x2), some (sj_i w), some (sj_i x4), some (sj_i x5), some (sj_i y0)]) (pc := 81) h dX0_weightOn_81 rfl (Nat.le_of_ble_eq_true rfl) (fun _ => rfl) (fun v5 h => ?_)
  refine r_iload (pc := 82) dX0_weightOn_82 rfl ?_
  refine r_istore (ln := [some (sj_r (some a0)), some (sj_i x1), some (sj_i x2), some (sj_i v5), some (sj_i y0), some (sj_i x5), some (sj_i y0)]) (pc := 84) dX0_weightOn_84 (Nat.le_of_ble_eq_true rfl) rfl ?_
  refine r_iinc (ln := fun w => [some (sj_r (some a0)), some (sj_i x1), some (sj_i x2), some (sj_i v5), some (sj_i y0), some (sj_i w), some (sj_i y0)]) (pc := 86) h dX0_weightOn_86 rfl (Nat.le_of_ble_eq_true rfl) (fun _ => rfl) (fun v6 h => ?_)
  refine r_goto (pc := 89) (tgt := 18) dX0_weightOn_89 (by decide) ?_
  exact sj_weak (l2 := [some (sj_r (some a0)), some (sj_i x1), some (sj_i x2), some (sj_i v5), some (sj_i y0), some (sj_i v6), none]) (⟨rfl, ⟨rfl, ⟨rfl, ⟨rfl, ⟨rfl, ⟨rfl, trivial⟩⟩⟩⟩⟩⟩) (hk18 a0 x1 x2 v5 y0 v6 s h)
set_option maxHeartbeats 4000000 in
theorem t_X0_weightOn_18_b {X : sj_X} {s0 : sj_Mem} {N : Nat} {q : Int × sj_Mem} {k18 : Nat → Int → Int → Int → Int → Int → sj_Mem → Option (Int × sj_Mem)} (hk18 : ∀ (a0 : Nat) (x1 : Int) (x2 : Int) (x3 : Int) (x4 : Int) (x5 : Int) (s : sj_Mem), k18 a0 x1 x2 x3 x4 x5 s = some q → sj_T X m_X0_weightOn s0 (some (sj_i q.1), q.2) 18 [some (sj_r (some a0)), some (sj_i x1), some (sj_i x2), some (sj_i x3), some (sj_i x4), some (sj_i x5), none] [] s) :
    ∀ (a0 : Nat) (x1 : Int) (x2 : Int) (x3 : Int) (x4 : Int) (x5 : Int) (s : sj_Mem), f_X0_weightOn_18_b N k18 a0 x1 x2 x3 x4 x5 s = some q → sj_T X m_X0_weightOn s0 (some (sj_i q.1), q.2) 18 [some (sj_r (some a0)), some (sj_i x1), some (sj_i x2), some (sj_i x3), some (sj_i x4), some (sj_i x5), none] [] s := by
  intro a0 x1 x2 x3 x4 x5 s h
  unfold f_X0_weightOn_18_b at h
  refine r_iload (pc := 18) dX0_weightOn_18 rfl ?_
  refine r_iconst (pc := 20) dX0_weightOn_20 ?_
  refine r_icmp_ge (pc := 21) (tgt := 92) h dX0_weightOn_21 (by decide) (fun h => ?_) (fun h => ?_)
  · refine r_iload_n (pc := 92) dX0_weightOn_92 rfl rfl ?_
    exact r_iret (pc := 93) h rfl dX0_weightOn_93
  · refine r_iload (pc := 24) dX0_weightOn_24 rfl ?_
    refine r_iload_n (pc := 26) dX0_weightOn_26 rfl rfl ?_
    refine r_icmp_le (pc := 27) (tgt := 92) h dX0_weightOn_27 (by decide) (fun h => ?_) (fun h => ?_)
    · refine r_iload_n (pc := 92) dX0_weightOn_92 rfl rfl ?_
      exact r_iret (pc := 93) h rfl dX0_weightOn_93
    · refine r_iload (pc := 30) dX0_weightOn_30 rfl ?_
      refine r_iconst (pc := 32) dX0_weightOn_32 ?_
      refine r_iadd (pc := 33) dX0_weightOn_33 ?_
      refine r_iconst (pc := 34) dX0_weightOn_34 ?_
      refine r_icmp_ge (pc := 35) (tgt := 59) h dX0_weightOn_35 (by decide) (fun h => ?_) (fun h => ?_)
      · refine r_iload_n (pc := 59) dX0_weightOn_59 rfl rfl ?_
        exact sj_weak (l2 := [some (sj_r (some a0)), some (sj_i x1), some (sj_i x2), some (sj_i x3), some (sj_i x4), some (sj_i x5), none]) (⟨rfl, ⟨rfl, ⟨rfl, ⟨rfl, ⟨rfl, ⟨rfl, trivial⟩⟩⟩⟩⟩⟩) (t_X0_weightOn_60 hk18 a0 x1 x2 x3 x4 x5 x2 s h)
      · refine r_iload (pc := 38) dX0_weightOn_38 rfl ?_
        refine r_aload_n (pc := 40) dX0_weightOn_40 rfl rfl ?_
        refine r_gR (pc := 41) h dX0_weightOn_41 fw_X0_24 rfl (fun r1 h => ?_)
        refine r_iload (pc := 44) dX0_weightOn_44 rfl ?_
        refine r_iconst (pc := 46) dX0_weightOn_46 ?_
        refine r_iadd (pc := 47) dX0_weightOn_47 ?_
        refine r_iload_n (pc := 48) dX0_weightOn_48 rfl rfl ?_
        refine r_callS (pc := 49) (fun v => some (sj_i v)) (As := [sj_i (x5 + 1), sj_i x1]) (rest := [(sj_r r1), (sj_i x4)]) h dX0_weightOn_49 mw_X0_93 kw_407 (fun _ _ hc => c_X8_topPlace hc) rfl ⟨(Nat.le_of_ble_eq_true rfl), (Nat.le_of_ble_eq_true rfl)⟩ (Nat.le_of_ble_eq_true rfl) rfl (fun v3 s2 h => ?_)
        obtain ⟨a4, ea4, g⟩ := e_nn_some h
        clear h
        subst ea4
        have h := g
        clear g
        refine r_iaload (pc := 52) h dX0_weightOn_52 (fun v5 h => ?_)
        refine r_mmin (pc := 53) h dX0_weightOn_53 mx_X0_87 (Nat.le_of_ble_eq_true rfl) (Nat.le_of_ble_eq_true rfl) (fun v6 h => ?_)
        refine r_goto (pc := 56) (tgt := 60) dX0_weightOn_56 (by decide) ?_
        exact sj_weak (l2 := [some (sj_r (some a0)), some (sj_i x1), some (sj_i x2), some (sj_i x3), some (sj_i x4), some (sj_i x5), none]) (⟨rfl, ⟨rfl, ⟨rfl, ⟨rfl, ⟨rfl, ⟨rfl, trivial⟩⟩⟩⟩⟩⟩) (t_X0_weightOn_60 hk18 a0 x1 x2 x3 x4 x5 v6 s2 h)
set_option maxHeartbeats 4000000 in
theorem t_X0_weightOn_18 {X : sj_X} {s0 : sj_Mem} {N : Nat} {q : Int × sj_Mem} :
    ∀ (n : Nat) (a0 : Nat) (x1 : Int) (x2 : Int) (x3 : Int) (x4 : Int) (x5 : Int) (s : sj_Mem), f_X0_weightOn_18 N n a0 x1 x2 x3 x4 x5 s = some q → sj_T X m_X0_weightOn s0 (some (sj_i q.1), q.2) 18 [some (sj_r (some a0)), some (sj_i x1), some (sj_i x2), some (sj_i x3), some (sj_i x4), some (sj_i x5), none] [] s := by
  intro n
  induction n with
  | zero => intro a0 x1 x2 x3 x4 x5 s h; exact nomatch h
  | succ n ih => intro a0 x1 x2 x3 x4 x5 s h; exact t_X0_weightOn_18_b (N := N) ih a0 x1 x2 x3 x4 x5 s h
set_option maxHeartbeats 4000000 in
theorem t_X0_weightOn_0 {X : sj_X} {s0 : sj_Mem} {N : Nat} {q : Int × sj_Mem} :
    ∀ (a0 : Nat) (x1 : Int) (x2 : Int) (s : sj_Mem), f_X0_weightOn N a0 x1 x2 s = some q → sj_T X m_X0_weightOn s0 (some (sj_i q.1), q.2) 0 [some (sj_r (some a0)), some (sj_i x1), some (sj_i x2), none, none, none, none] [] s := by
  intro a0 x1 x2 s h
  unfold f_X0_weightOn at h
  refine r_aload_n (pc := 0) dX0_weightOn_0 rfl rfl ?_
  refine r_gR (pc := 1) h dX0_weightOn_1 fw_X0_21 rfl (fun r1 h => ?_)
  refine r_iload_n (pc := 4) dX0_weightOn_4 rfl rfl ?_
  obtain ⟨a2, ea2, g⟩ := e_nn_some h
  clear h
  subst ea2
  have h := g
  clear g
  refine r_iaload (pc := 5) h dX0_weightOn_5 (fun v3 h => ?_)
  refine r_istore_n (ln := [some (sj_r (some a0)), some (sj_i x1), some (sj_i x2), some (sj_i v3), none, none, none]) (pc := 6) dX0_weightOn_6 rfl (Nat.le_of_ble_eq_true rfl) rfl ?_
  refine r_aload_n (pc := 7) dX0_weightOn_7 rfl rfl ?_
  refine r_gR (pc := 8) h dX0_weightOn_8 fw_X0_9 rfl (fun r4 h => ?_)
  refine r_iload_n (pc := 11) dX0_weightOn_11 rfl rfl ?_
  obtain ⟨a5, ea5, g⟩ := e_nn_some h
  clear h
  subst ea5
  have h := g
  clear g
  refine r_iaload (pc := 12) h dX0_weightOn_12 (fun v6 h => ?_)
  refine r_istore (ln := [some (sj_r (some a0)), some (sj_i x1), some (sj_i x2), some (sj_i v3), some (sj_i v6), none, none]) (pc := 13) dX0_weightOn_13 (Nat.le_of_ble_eq_true rfl) rfl ?_
  refine r_iconst (pc := 15) dX0_weightOn_15 ?_
  refine r_istore (ln := [some (sj_r (some a0)), some (sj_i x1), some (sj_i x2), some (sj_i v3), some (sj_i v6), some (sj_i 0), none]) (pc := 16) dX0_weightOn_16 (Nat.le_of_ble_eq_true rfl) rfl ?_
  exact sj_weak (l2 := [some (sj_r (some a0)), some (sj_i x1), some (sj_i x2), some (sj_i v3), some (sj_i v6), some (sj_i 0), none]) (⟨rfl, ⟨rfl, ⟨rfl, ⟨rfl, ⟨rfl, ⟨rfl, trivial⟩⟩⟩⟩⟩⟩) (t_X0_weightOn_18 N a0 x1 x2 v3 v6 0 s h)
set_option maxHeartbeats 4000000 in
theorem c_X0_weightOn {X : sj_X} {N : Nat} {a0 : Nat} {x1 : Int} {x2 : Int} {s : sj_Mem} {q : Int × sj_Mem} (h : f_X0_weightOn N a0 x1 x2 s = some q) : sj_C X m_X0_weightOn [sj_r (some a0), sj_i x1, sj_i x2] s (some (sj_i q.1), q.2) :=
  sj_C_of (by decide +kernel) (Nat.le_of_ble_eq_true rfl) (lo := [some (sj_r (some a0)), some (sj_i x1), some (sj_i x2), none, none, none, none]) rfl (sj_weak (l2 := [some (sj_r (some a0)), some (sj_i x1), some (sj_i x2), none, none, none, none]) (⟨rfl, ⟨rfl, ⟨rfl, trivial⟩⟩⟩) (t_X0_weightOn_0 a0 x1 x2 s h))
theorem dX0_headOn_0 : decode cX0_headOn 0 = .ok (.iconst 0, 1) := by decide +kernel
theorem dX0_headOn_1 : decode cX0_headOn 1 = .ok (.aload_n 0, 1) := by decide +kernel
theorem dX0_headOn_2 : decode cX0_headOn 2 = .ok (.getfield 18, 3) := by decide +kernel
theorem dX0_headOn_5 : decode cX0_headOn 5 = .ok (.iload_n 1, 1) := by decide +kernel
theorem dX0_headOn_6 : decode cX0_headOn 6 = .ok (.iaload, 1) := by decide +kernel
theorem dX0_headOn_7 : decode cX0_headOn 7 = .ok (.aload_n 0, 1) := by decide +kernel
theorem dX0_headOn_8 : decode cX0_headOn 8 = .ok (.getfield 9, 3) := by decide +kernel
theorem dX0_headOn_11 : decode cX0_headOn 11 = .ok (.iload_n 1, 1) := by decide +kernel
theorem dX0_headOn_12 : decode cX0_headOn 12 = .ok (.iaload, 1) := by decide +kernel
theorem dX0_headOn_13 : decode cX0_headOn 13 = .ok (.invokestatic 87, 3) := by decide +kernel
theorem dX0_headOn_16 : decode cX0_headOn 16 = .ok (.iload_n 2, 1) := by decide +kernel
theorem dX0_headOn_17 : decode cX0_headOn 17 = .ok (.isub, 1) := by decide +kernel
theorem dX0_headOn_18 : decode cX0_headOn 18 = .ok (.invokestatic 96, 3) := by decide +kernel
theorem dX0_headOn_21 : decode cX0_headOn 21 = .ok (.ireturn, 1) := by decide +kernel
set_option maxHeartbeats 4000000 in
theorem t_X0_headOn_0 {X : sj_X} {s0 : sj_Mem} {N : Nat} {q : Int × sj_Mem} :
    ∀ (a0 : Nat) (x1 : Int) (x2 : Int) (s : sj_Mem), f_X0_headOn N a0 x1 x2 s = some q → sj_T X m_X0_headOn s0 (some (sj_i q.1), q.2) 0 [some (sj_r (some a0)), some (sj_i x1), some (sj_i x2)] [] s := by
  intro a0 x1 x2 s h
  unfold f_X0_headOn at h
  refine r_iconst (pc := 0) dX0_headOn_0 ?_
  refine r_aload_n (pc := 1) dX0_headOn_1 rfl rfl ?_
  refine r_gR (pc := 2) h dX0_headOn_2 fw_X0_18 rfl (fun r1 h => ?_)
  refine r_iload_n (pc := 5) dX0_headOn_5 rfl rfl ?_
  obtain ⟨a2, ea2, g⟩ := e_nn_some h
  clear h
  subst ea2
  have h := g
  clear g
  refine r_iaload (pc := 6) h dX0_headOn_6 (fun v3 h => ?_)
  refine r_aload_n (pc := 7) dX0_headOn_7 rfl rfl ?_
  refine r_gR (pc := 8) h dX0_headOn_8 fw_X0_9 rfl (fun r4 h => ?_)
  refine r_iload_n (pc := 11) dX0_headOn_11 rfl rfl ?_
  obtain ⟨a5, ea5, g⟩ := e_nn_some h
  clear h
  subst ea5
  have h := g
  clear g
  refine r_iaload (pc := 12) h dX0_headOn_12 (fun v6 h => ?_)
  refine r_mmin (pc := 13) h dX0_headOn_13 mx_X0_87 (Nat.le_of_ble_eq_true rfl) (Nat.le_of_ble_eq_true rfl) (fun v7 h => ?_)
  refine r_iload_n (pc := 16) dX0_headOn_16 rfl rfl ?_
  refine r_isub (pc := 17) dX0_headOn_17 ?_
  refine r_mmax (pc := 18) h dX0_headOn_18 mx_X0_96 (Nat.le_of_ble_eq_true rfl) (Nat.le_of_ble_eq_true rfl) (fun v8 h => ?_)
  exact r_iret (pc := 21) h rfl dX0_headOn_21
set_option maxHeartbeats 4000000 in
theorem c_X0_headOn {X : sj_X} {N : Nat} {a0 : Nat} {x1 : Int} {x2 : Int} {s : sj_Mem} {q : Int × sj_Mem} (h : f_X0_headOn N a0 x1 x2 s = some q) : sj_C X m_X0_headOn [sj_r (some a0), sj_i x1, sj_i x2] s (some (sj_i q.1), q.2) :=
  sj_C_of (by decide +kernel) (Nat.le_of_ble_eq_true rfl) (lo := [some (sj_r (some a0)), some (sj_i x1), some (sj_i x2)]) rfl (sj_weak (l2 := [some (sj_r (some a0)), some (sj_i x1), some (sj_i x2)]) (⟨rfl, ⟨rfl, ⟨rfl, trivial⟩⟩⟩) (t_X0_headOn_0 a0 x1 x2 s h))
theorem dX0_layerUnder_0 : decode cX0_layerUnder 0 = .ok (.iconst 3, 1) := by decide +kernel
theorem dX0_layerUnder_1 : decode cX0_layerUnder 1 = .ok (.istore_n 3, 1) := by decide +kernel
theorem dX0_layerUnder_2 : decode cX0_layerUnder 2 = .ok (.iload_n 3, 1) := by decide +kernel
theorem dX0_layerUnder_3 : decode cX0_layerUnder 3 = .ok (.ifCond .le 30, 3) := by decide +kernel
theorem dX0_layerUnder_6 : decode cX0_layerUnder 6 = .ok (.aload_n 0, 1) := by decide +kernel
theorem dX0_layerUnder_7 : decode cX0_layerUnder 7 = .ok (.iload_n 3, 1) := by decide +kernel
theorem dX0_layerUnder_8 : decode cX0_layerUnder 8 = .ok (.iload_n 1, 1) := by decide +kernel
theorem dX0_layerUnder_9 : decode cX0_layerUnder 9 = .ok (.invokevirtual 99, 3) := by decide +kernel
theorem dX0_layerUnder_12 : decode cX0_layerUnder 12 = .ok (.aload_n 0, 1) := by decide +kernel
theorem dX0_layerUnder_13 : decode cX0_layerUnder 13 = .ok (.iload_n 3, 1) := by decide +kernel
theorem dX0_layerUnder_14 : decode cX0_layerUnder 14 = .ok (.iload_n 1, 1) := by decide +kernel
theorem dX0_layerUnder_15 : decode cX0_layerUnder 15 = .ok (.iconst 1, 1) := by decide +kernel
theorem dX0_layerUnder_16 : decode cX0_layerUnder 16 = .ok (.iadd, 1) := by decide +kernel
theorem dX0_layerUnder_17 : decode cX0_layerUnder 17 = .ok (.invokevirtual 99, 3) := by decide +kernel
theorem dX0_layerUnder_20 : decode cX0_layerUnder 20 = .ok (.iadd, 1) := by decide +kernel
theorem dX0_layerUnder_21 : decode cX0_layerUnder 21 = .ok (.iload_n 2, 1) := by decide +kernel
theorem dX0_layerUnder_22 : decode cX0_layerUnder 22 = .ok (.if_icmp .le 5, 3) := by decide +kernel
theorem dX0_layerUnder_25 : decode cX0_layerUnder 25 = .ok (.iload_n 3, 1) := by decide +kernel
theorem dX0_layerUnder_26 : decode cX0_layerUnder 26 = .ok (.ireturn, 1) := by decide +kernel
theorem dX0_layerUnder_27 : decode cX0_layerUnder 27 = .ok (.iinc 3 (-1), 3) := by decide +kernel
theorem dX0_layerUnder_30 : decode cX0_layerUnder 30 = .ok (.goto (-28), 3) := by decide +kernel
theorem dX0_layerUnder_33 : decode cX0_layerUnder 33 = .ok (.iconst 0, 1) := by decide +kernel
theorem dX0_layerUnder_34 : decode cX0_layerUnder 34 = .ok (.ireturn, 1) := by decide +kernel
set_option maxHeartbeats 4000000 in
theorem t_X0_layerUnder_2_b {X : sj_X} {s0 : sj_Mem} {N : Nat} {q : Int × sj_Mem} {k2 : Nat → Int → Int → Int → sj_Mem → Option (Int × sj_Mem)} (hk2 : ∀ (a0 : Nat) (x1 : Int) (x2 : Int) (x3 : Int) (s : sj_Mem), k2 a0 x1 x2 x3 s = some q → sj_T X m_X0_layerUnder s0 (some (sj_i q.1), q.2) 2 [some (sj_r (some a0)), some (sj_i x1), some (sj_i x2), some (sj_i x3)] [] s) :
    ∀ (a0 : Nat) (x1 : Int) (x2 : Int) (x3 : Int) (s : sj_Mem), f_X0_layerUnder_2_b N k2 a0 x1 x2 x3 s = some q → sj_T X m_X0_layerUnder s0 (some (sj_i q.1), q.2) 2 [some (sj_r (some a0)), some (sj_i x1), some (sj_i x2), some (sj_i x3)] [] s := by
  intro a0 x1 x2 x3 s h
  unfold f_X0_layerUnder_2_b at h
  refine r_iload_n (pc := 2) dX0_layerUnder_2 rfl rfl ?_
  refine r_if_le (pc := 3) (tgt := 33) h dX0_layerUnder_3 (by decide) (fun h => ?_) (fun h => ?_)
  · refine r_iconst (pc := 33) dX0_layerUnder_33 ?_
    exact r_iret (pc := 34) h rfl dX0_layerUnder_34
  · refine r_aload_n (pc := 6) dX0_layerUnder_6 rfl rfl ?_
    refine r_iload_n (pc := 7) dX0_layerUnder_7 rfl rfl ?_
    refine r_iload_n (pc := 8) dX0_layerUnder_8 rfl rfl ?_
    refine r_callV (pc := 9) (fun v => some (sj_i v)) (As := [sj_i x3, sj_i x1]) (rest := []) h dX0_layerUnder_9 mw_X0_99 vw_X0_topAt (fun _ _ hc => c_X0_topAt hc) rfl ⟨(Nat.le_of_ble_eq_true rfl), (Nat.le_of_ble_eq_true rfl)⟩ (Nat.le_of_ble_eq_true rfl) rfl (fun v2 s1 h => ?_)
    refine r_aload_n (pc := 12) dX0_layerUnder_12 rfl rfl ?_
    refine r_iload_n (pc := 13) dX0_layerUnder_13 rfl rfl ?_
    refine r_iload_n (pc := 14) dX0_layerUnder_14 rfl rfl ?_
    refine r_iconst (pc := 15) dX0_layerUnder_15 ?_
    refine r_iadd (pc := 16) dX0_layerUnder_16 ?_
    refine r_callV (pc := 17) (fun v => some (sj_i v)) (As := [sj_i x3, sj_i (x1 + 1)]) (rest := [(sj_i v2)]) h dX0_layerUnder_17 mw_X0_99 vw_X0_topAt (fun _ _ hc => c_X0_topAt hc) rfl ⟨(Nat.le_of_ble_eq_true rfl), (Nat.le_of_ble_eq_true rfl)⟩ (Nat.le_of_ble_eq_true rfl) rfl (fun v4 s3 h => ?_)
    refine r_iadd (pc := 20) dX0_layerUnder_20 ?_
    refine r_iload_n (pc := 21) dX0_layerUnder_21 rfl rfl ?_
    refine r_icmp_le (pc := 22) (tgt := 27) h dX0_layerUnder_22 (by decide) (fun h => ?_) (fun h => ?_)
    · refine r_iinc (ln := fun w => [some (sj_r (some a0)), some (sj_i x1), some (sj_i x2), some (sj_i w)]) (pc := 27) h dX0_layerUnder_27 rfl (Nat.le_of_ble_eq_true rfl) (fun _ => rfl) (fun v5 h => ?_)
      refine r_goto (pc := 30) (tgt := 2) dX0_layerUnder_30 (by decide) ?_
      exact sj_weak (l2 := [some (sj_r (some a0)), some (sj_i x1), some (sj_i x2), some (sj_i v5)]) (⟨rfl, ⟨rfl, ⟨rfl, ⟨rfl, trivial⟩⟩⟩⟩) (hk2 a0 x1 x2 v5 s3 h)
    · refine r_iload_n (pc := 25) dX0_layerUnder_25 rfl rfl ?_
      exact r_iret (pc := 26) h rfl dX0_layerUnder_26
set_option maxHeartbeats 4000000 in
theorem t_X0_layerUnder_2 {X : sj_X} {s0 : sj_Mem} {N : Nat} {q : Int × sj_Mem} :
    ∀ (n : Nat) (a0 : Nat) (x1 : Int) (x2 : Int) (x3 : Int) (s : sj_Mem), f_X0_layerUnder_2 N n a0 x1 x2 x3 s = some q → sj_T X m_X0_layerUnder s0 (some (sj_i q.1), q.2) 2 [some (sj_r (some a0)), some (sj_i x1), some (sj_i x2), some (sj_i x3)] [] s := by
  intro n
  induction n with
  | zero => intro a0 x1 x2 x3 s h; exact nomatch h
  | succ n ih => intro a0 x1 x2 x3 s h; exact t_X0_layerUnder_2_b (N := N) ih a0 x1 x2 x3 s h
set_option maxHeartbeats 4000000 in
theorem t_X0_layerUnder_0 {X : sj_X} {s0 : sj_Mem} {N : Nat} {q : Int × sj_Mem} :
    ∀ (a0 : Nat) (x1 : Int) (x2 : Int) (s : sj_Mem), f_X0_layerUnder N a0 x1 x2 s = some q → sj_T X m_X0_layerUnder s0 (some (sj_i q.1), q.2) 0 [some (sj_r (some a0)), some (sj_i x1), some (sj_i x2), none] [] s := by
  intro a0 x1 x2 s h
  unfold f_X0_layerUnder at h
  refine r_iconst (pc := 0) dX0_layerUnder_0 ?_
  refine r_istore_n (ln := [some (sj_r (some a0)), some (sj_i x1), some (sj_i x2), some (sj_i 3)]) (pc := 1) dX0_layerUnder_1 rfl (Nat.le_of_ble_eq_true rfl) rfl ?_
  exact sj_weak (l2 := [some (sj_r (some a0)), some (sj_i x1), some (sj_i x2), some (sj_i 3)]) (⟨rfl, ⟨rfl, ⟨rfl, ⟨rfl, trivial⟩⟩⟩⟩) (t_X0_layerUnder_2 N a0 x1 x2 3 s h)
set_option maxHeartbeats 4000000 in
theorem c_X0_layerUnder {X : sj_X} {N : Nat} {a0 : Nat} {x1 : Int} {x2 : Int} {s : sj_Mem} {q : Int × sj_Mem} (h : f_X0_layerUnder N a0 x1 x2 s = some q) : sj_C X m_X0_layerUnder [sj_r (some a0), sj_i x1, sj_i x2] s (some (sj_i q.1), q.2) :=
  sj_C_of (by decide +kernel) (Nat.le_of_ble_eq_true rfl) (lo := [some (sj_r (some a0)), some (sj_i x1), some (sj_i x2), none]) rfl (sj_weak (l2 := [some (sj_r (some a0)), some (sj_i x1), some (sj_i x2), none]) (⟨rfl, ⟨rfl, ⟨rfl, trivial⟩⟩⟩) (t_X0_layerUnder_0 a0 x1 x2 s h))
theorem dX5_isNone_0 : decode cX5_isNone 0 = .ok (.aload_n 0, 1) := by decide +kernel
theorem dX5_isNone_1 : decode cX5_isNone 1 = .ok (.getfield 15, 3) := by decide +kernel
theorem dX5_isNone_4 : decode cX5_isNone 4 = .ok (.ifCond .ge 7, 3) := by decide +kernel
theorem dX5_isNone_7 : decode cX5_isNone 7 = .ok (.iconst 1, 1) := by decide +kernel
theorem dX5_isNone_8 : decode cX5_isNone 8 = .ok (.goto 4, 3) := by decide +kernel
theorem dX5_isNone_11 : decode cX5_isNone 11 = .ok (.iconst 0, 1) := by decide +kernel
theorem dX5_isNone_12 : decode cX5_isNone 12 = .ok (.ireturn, 1) := by decide +kernel
set_option maxHeartbeats 4000000 in
theorem t_X5_isNone_0 {X : sj_X} {s0 : sj_Mem} {N : Nat} {q : Int × sj_Mem} :
    ∀ (a0 : Nat) (s : sj_Mem), f_X5_isNone N a0 s = some q → sj_T X m_X5_isNone s0 (some (sj_i q.1), q.2) 0 [some (sj_r (some a0))] [] s := by
  intro a0 s h
  unfold f_X5_isNone at h
  refine r_aload_n (pc := 0) dX5_isNone_0 rfl rfl ?_
  refine r_gI (pc := 1) h dX5_isNone_1 fw_X5_15 rfl (fun v1 h => ?_)
  refine r_if_ge (pc := 4) (tgt := 11) h dX5_isNone_4 (by decide) (fun h => ?_) (fun h => ?_)
  · refine r_iconst (pc := 11) dX5_isNone_11 ?_
    exact r_zret (pc := 12) h rfl dX5_isNone_12
  · refine r_iconst (pc := 7) dX5_isNone_7 ?_
    refine r_goto (pc := 8) (tgt := 12) dX5_isNone_8 (by decide) ?_
    exact r_zret (pc := 12) h rfl dX5_isNone_12
set_option maxHeartbeats 4000000 in
theorem c_X5_isNone {X : sj_X} {N : Nat} {a0 : Nat} {s : sj_Mem} {q : Int × sj_Mem} (h : f_X5_isNone N a0 s = some q) : sj_C X m_X5_isNone [sj_r (some a0)] s (some (sj_i q.1), q.2) :=
  sj_C_of (by decide +kernel) (Nat.le_of_ble_eq_true rfl) (lo := [some (sj_r (some a0))]) rfl (sj_weak (l2 := [some (sj_r (some a0))]) (⟨rfl, trivial⟩) (t_X5_isNone_0 a0 s h))
theorem dX0_anchorCounts_0 : decode cX0_anchorCounts 0 = .ok (.aload_n 0, 1) := by decide +kernel
theorem dX0_anchorCounts_1 : decode cX0_anchorCounts 1 = .ok (.getfield 36, 3) := by decide +kernel
theorem dX0_anchorCounts_4 : decode cX0_anchorCounts 4 = .ok (.iload_n 1, 1) := by decide +kernel
theorem dX0_anchorCounts_5 : decode cX0_anchorCounts 5 = .ok (.iaload, 1) := by decide +kernel
theorem dX0_anchorCounts_6 : decode cX0_anchorCounts 6 = .ok (.istore_n 3, 1) := by decide +kernel
theorem dX0_anchorCounts_7 : decode cX0_anchorCounts 7 = .ok (.aload_n 0, 1) := by decide +kernel
theorem dX0_anchorCounts_8 : decode cX0_anchorCounts 8 = .ok (.getfield 42, 3) := by decide +kernel
theorem dX0_anchorCounts_11 : decode cX0_anchorCounts 11 = .ok (.iload_n 1, 1) := by decide +kernel
theorem dX0_anchorCounts_12 : decode cX0_anchorCounts 12 = .ok (.iaload, 1) := by decide +kernel
theorem dX0_anchorCounts_13 : decode cX0_anchorCounts 13 = .ok (.ifCond .le 45, 3) := by decide +kernel
theorem dX0_anchorCounts_16 : decode cX0_anchorCounts 16 = .ok (.aload_n 2, 1) := by decide +kernel
theorem dX0_anchorCounts_17 : decode cX0_anchorCounts 17 = .ok (.invokevirtual 102, 3) := by decide +kernel
theorem dX0_anchorCounts_20 : decode cX0_anchorCounts 20 = .ok (.ifCond .ne 38, 3) := by decide +kernel
theorem dX0_anchorCounts_23 : decode cX0_anchorCounts 23 = .ok (.iload_n 3, 1) := by decide +kernel
theorem dX0_anchorCounts_24 : decode cX0_anchorCounts 24 = .ok (.aload_n 2, 1) := by decide +kernel
theorem dX0_anchorCounts_25 : decode cX0_anchorCounts 25 = .ok (.getfield 106, 3) := by decide +kernel
theorem dX0_anchorCounts_28 : decode cX0_anchorCounts 28 = .ok (.if_icmp .lt 30, 3) := by decide +kernel
theorem dX0_anchorCounts_31 : decode cX0_anchorCounts 31 = .ok (.iload_n 3, 1) := by decide +kernel
theorem dX0_anchorCounts_32 : decode cX0_anchorCounts 32 = .ok (.aload_n 2, 1) := by decide +kernel
theorem dX0_anchorCounts_33 : decode cX0_anchorCounts 33 = .ok (.getfield 109, 3) := by decide +kernel
theorem dX0_anchorCounts_36 : decode cX0_anchorCounts 36 = .ok (.if_icmp .ge 22, 3) := by decide +kernel
theorem dX0_anchorCounts_39 : decode cX0_anchorCounts 39 = .ok (.aload_n 0, 1) := by decide +kernel
theorem dX0_anchorCounts_40 : decode cX0_anchorCounts 40 = .ok (.getfield 39, 3) := by decide +kernel
theorem dX0_anchorCounts_43 : decode cX0_anchorCounts 43 = .ok (.iload_n 1, 1) := by decide +kernel
theorem dX0_anchorCounts_44 : decode cX0_anchorCounts 44 = .ok (.iaload, 1) := by decide +kernel
theorem dX0_anchorCounts_45 : decode cX0_anchorCounts 45 = .ok (.aload_n 2, 1) := by decide +kernel
theorem dX0_anchorCounts_46 : decode cX0_anchorCounts 46 = .ok (.getfield 112, 3) := by decide +kernel
theorem dX0_anchorCounts_49 : decode cX0_anchorCounts 49 = .ok (.iload_n 3, 1) := by decide +kernel
theorem dX0_anchorCounts_50 : decode cX0_anchorCounts 50 = .ok (.iaload, 1) := by decide +kernel
theorem dX0_anchorCounts_51 : decode cX0_anchorCounts 51 = .ok (.if_icmp .le 7, 3) := by decide +kernel
theorem dX0_anchorCounts_54 : decode cX0_anchorCounts 54 = .ok (.iconst 1, 1) := by decide +kernel
theorem dX0_anchorCounts_55 : decode cX0_anchorCounts 55 = .ok (.goto 4, 3) := by decide +kernel
theorem dX0_anchorCounts_58 : decode cX0_anchorCounts 58 = .ok (.iconst 0, 1) := by decide +kernel
theorem dX0_anchorCounts_59 : decode cX0_anchorCounts 59 = .ok (.ireturn, 1) := by decide +kernel
set_option maxHeartbeats 4000000 in
theorem t_X0_anchorCounts_0 {X : sj_X} {s0 : sj_Mem} {N : Nat} {q : Int × sj_Mem} :
    ∀ (a0 : Nat) (x1 : Int) (x2 : Option Nat) (s : sj_Mem), f_X0_anchorCounts N a0 x1 x2 s = some q → sj_T X m_X0_anchorCounts s0 (some (sj_i q.1), q.2) 0 [some (sj_r (some a0)), some (sj_i x1), some (sj_r x2), none] [] s := by
  intro a0 x1 x2 s h
  unfold f_X0_anchorCounts at h
  refine r_aload_n (pc := 0) dX0_anchorCounts_0 rfl rfl ?_
  refine r_gR (pc := 1) h dX0_anchorCounts_1 fw_X0_36 rfl (fun r1 h => ?_)
  refine r_iload_n (pc := 4) dX0_anchorCounts_4 rfl rfl ?_
  obtain ⟨a2, ea2, g⟩ := e_nn_some h
  clear h
  subst ea2
  have h := g
  clear g
  refine r_iaload (pc := 5) h dX0_anchorCounts_5 (fun v3 h => ?_)
  refine r_istore_n (ln := [some (sj_r (some a0)), some (sj_i x1), some (sj_r x2), some (sj_i v3)]) (pc := 6) dX0_anchorCounts_6 rfl (Nat.le_of_ble_eq_true rfl) rfl ?_
  refine r_aload_n (pc := 7) dX0_anchorCounts_7 rfl rfl ?_
  refine r_gR (pc := 8) h dX0_anchorCounts_8 fw_X0_42 rfl (fun r4 h => ?_)
  refine r_iload_n (pc := 11) dX0_anchorCounts_11 rfl rfl ?_
  obtain ⟨a5, ea5, g⟩ := e_nn_some h
  clear h
  subst ea5
  have h := g
  clear g
  refine r_iaload (pc := 12) h dX0_anchorCounts_12 (fun v6 h => ?_)
  refine r_if_le (pc := 13) (tgt := 58) h dX0_anchorCounts_13 (by decide) (fun h => ?_) (fun h => ?_)
  · refine r_iconst (pc := 58) dX0_anchorCounts_58 ?_
    exact r_zret (pc := 59) h rfl dX0_anchorCounts_59
  · refine r_aload_n (pc := 16) dX0_anchorCounts_16 rfl rfl ?_
    obtain ⟨a7, ea7, g⟩ := e_nn_some h
    clear h
    subst ea7
    have h := g
    clear g
    refine r_callV (pc := 17) (fun v => some (sj_i v)) (As := []) (rest := []) h dX0_anchorCounts_17 mw_X0_102 vw_X5_isNone (fun _ _ hc => c_X5_isNone hc) rfl ⟨(Nat.le_of_ble_eq_true rfl), (Nat.le_of_ble_eq_true rfl)⟩ (Nat.le_of_ble_eq_true rfl) rfl (fun v9 s8 h => ?_)
    refine r_if_ne (pc := 20) (tgt := 58) h dX0_anchorCounts_20 (by decide) (fun h => ?_) (fun h => ?_)
    · refine r_iload_n (pc := 23) dX0_anchorCounts_23 rfl rfl ?_
      refine r_aload_n (pc := 24) dX0_anchorCounts_24 rfl rfl ?_
      refine r_gI (pc := 25) h dX0_anchorCounts_25 fw_X0_106 rfl (fun v10 h => ?_)
      refine r_icmp_lt (pc := 28) (tgt := 58) h dX0_anchorCounts_28 (by decide) (fun h => ?_) (fun h => ?_)
      · refine r_iconst (pc := 58) dX0_anchorCounts_58 ?_
        exact r_zret (pc := 59) h rfl dX0_anchorCounts_59
      · refine r_iload_n (pc := 31) dX0_anchorCounts_31 rfl rfl ?_
        refine r_aload_n (pc := 32) dX0_anchorCounts_32 rfl rfl ?_
        refine r_gI (pc := 33) h dX0_anchorCounts_33 fw_X0_109 rfl (fun v11 h => ?_)
        refine r_icmp_ge (pc := 36) (tgt := 58) h dX0_anchorCounts_36 (by decide) (fun h => ?_) (fun h => ?_)
        · refine r_iconst (pc := 58) dX0_anchorCounts_58 ?_
          exact r_zret (pc := 59) h rfl dX0_anchorCounts_59
        · refine r_aload_n (pc := 39) dX0_anchorCounts_39 rfl rfl ?_
          refine r_gR (pc := 40) h dX0_anchorCounts_40 fw_X0_39 rfl (fun r12 h => ?_)
          refine r_iload_n (pc := 43) dX0_anchorCounts_43 rfl rfl ?_
          obtain ⟨a13, ea13, g⟩ := e_nn_some h
          clear h
          subst ea13
          have h := g
          clear g
          refine r_iaload (pc := 44) h dX0_anchorCounts_44 (fun v14 h => ?_)
          refine r_aload_n (pc := 45) dX0_anchorCounts_45 rfl rfl ?_
          refine r_gR (pc := 46) h dX0_anchorCounts_46 fw_X0_112 rfl (fun r15 h => ?_)
          refine r_iload_n (pc := 49) dX0_anchorCounts_49 rfl rfl ?_
          obtain ⟨a16, ea16, g⟩ := e_nn_some h
          clear h
          subst ea16
          have h := g
          clear g
          refine r_iaload (pc := 50) h dX0_anchorCounts_50 (fun v17 h => ?_)
          refine r_icmp_le (pc := 51) (tgt := 58) h dX0_anchorCounts_51 (by decide) (fun h => ?_) (fun h => ?_)
          · refine r_iconst (pc := 58) dX0_anchorCounts_58 ?_
            exact r_zret (pc := 59) h rfl dX0_anchorCounts_59
          · refine r_iconst (pc := 54) dX0_anchorCounts_54 ?_
            refine r_goto (pc := 55) (tgt := 59) dX0_anchorCounts_55 (by decide) ?_
            exact r_zret (pc := 59) h rfl dX0_anchorCounts_59
    · refine r_iconst (pc := 58) dX0_anchorCounts_58 ?_
      exact r_zret (pc := 59) h rfl dX0_anchorCounts_59
set_option maxHeartbeats 4000000 in
theorem c_X0_anchorCounts {X : sj_X} {N : Nat} {a0 : Nat} {x1 : Int} {x2 : Option Nat} {s : sj_Mem} {q : Int × sj_Mem} (h : f_X0_anchorCounts N a0 x1 x2 s = some q) : sj_C X m_X0_anchorCounts [sj_r (some a0), sj_i x1, sj_r x2] s (some (sj_i q.1), q.2) :=
  sj_C_of (by decide +kernel) (Nat.le_of_ble_eq_true rfl) (lo := [some (sj_r (some a0)), some (sj_i x1), some (sj_r x2), none]) rfl (sj_weak (l2 := [some (sj_r (some a0)), some (sj_i x1), some (sj_r x2), none]) (⟨rfl, ⟨rfl, ⟨rfl, trivial⟩⟩⟩) (t_X0_anchorCounts_0 a0 x1 x2 s h))
theorem dX0_pullsOn_0 : decode cX0_pullsOn 0 = .ok (.lconst 0, 1) := by decide +kernel
theorem dX0_pullsOn_1 : decode cX0_pullsOn 1 = .ok (.lstore_n 2, 1) := by decide +kernel
theorem dX0_pullsOn_2 : decode cX0_pullsOn 2 = .ok (.iconst 0, 1) := by decide +kernel
theorem dX0_pullsOn_3 : decode cX0_pullsOn 3 = .ok (.istore 4, 2) := by decide +kernel
theorem dX0_pullsOn_5 : decode cX0_pullsOn 5 = .ok (.iload 4, 2) := by decide +kernel
theorem dX0_pullsOn_7 : decode cX0_pullsOn 7 = .ok (.bipush 6, 2) := by decide +kernel
theorem dX0_pullsOn_9 : decode cX0_pullsOn 9 = .ok (.if_icmp .ge 40, 3) := by decide +kernel
theorem dX0_pullsOn_12 : decode cX0_pullsOn 12 = .ok (.aload_n 0, 1) := by decide +kernel
theorem dX0_pullsOn_13 : decode cX0_pullsOn 13 = .ok (.iload 4, 2) := by decide +kernel
theorem dX0_pullsOn_15 : decode cX0_pullsOn 15 = .ok (.aload_n 1, 1) := by decide +kernel
theorem dX0_pullsOn_16 : decode cX0_pullsOn 16 = .ok (.invokevirtual 115, 3) := by decide +kernel
theorem dX0_pullsOn_19 : decode cX0_pullsOn 19 = .ok (.ifCond .eq 24, 3) := by decide +kernel
theorem dX0_pullsOn_22 : decode cX0_pullsOn 22 = .ok (.lload_n 2, 1) := by decide +kernel
theorem dX0_pullsOn_23 : decode cX0_pullsOn 23 = .ok (.ldc2_w 119, 3) := by decide +kernel
theorem dX0_pullsOn_26 : decode cX0_pullsOn 26 = .ok (.aload_n 0, 1) := by decide +kernel
theorem dX0_pullsOn_27 : decode cX0_pullsOn 27 = .ok (.getfield 56, 3) := by decide +kernel
theorem dX0_pullsOn_30 : decode cX0_pullsOn 30 = .ok (.i2l, 1) := by decide +kernel
theorem dX0_pullsOn_31 : decode cX0_pullsOn 31 = .ok (.lmul, 1) := by decide +kernel
theorem dX0_pullsOn_32 : decode cX0_pullsOn 32 = .ok (.aload_n 0, 1) := by decide +kernel
theorem dX0_pullsOn_33 : decode cX0_pullsOn 33 = .ok (.getfield 42, 3) := by decide +kernel
theorem dX0_pullsOn_36 : decode cX0_pullsOn 36 = .ok (.iload 4, 2) := by decide +kernel
theorem dX0_pullsOn_38 : decode cX0_pullsOn 38 = .ok (.iaload, 1) := by decide +kernel
theorem dX0_pullsOn_39 : decode cX0_pullsOn 39 = .ok (.i2l, 1) := by decide +kernel
theorem dX0_pullsOn_40 : decode cX0_pullsOn 40 = .ok (.lmul, 1) := by decide +kernel
theorem dX0_pullsOn_41 : decode cX0_pullsOn 41 = .ok (.ladd, 1) := by decide +kernel
theorem dX0_pullsOn_42 : decode cX0_pullsOn 42 = .ok (.lstore_n 2, 1) := by decide +kernel
theorem dX0_pullsOn_43 : decode cX0_pullsOn 43 = .ok (.iinc 4 1, 3) := by decide +kernel
theorem dX0_pullsOn_46 : decode cX0_pullsOn 46 = .ok (.goto (-41), 3) := by decide +kernel
theorem dX0_pullsOn_49 : decode cX0_pullsOn 49 = .ok (.lload_n 2, 1) := by decide +kernel
theorem dX0_pullsOn_50 : decode cX0_pullsOn 50 = .ok (.lreturn, 1) := by decide +kernel
set_option maxHeartbeats 4000000 in
theorem t_X0_pullsOn_43 {X : sj_X} {s0 : sj_Mem} {N : Nat} {q : Int × sj_Mem} {k5 : Nat → Option Nat → Int → Int → sj_Mem → Option (Int × sj_Mem)} (hk5 : ∀ (a0 : Nat) (x1 : Option Nat) (x2 : Int) (x4 : Int) (s : sj_Mem), k5 a0 x1 x2 x4 s = some q → sj_T X m_X0_pullsOn s0 (some (sj_j q.1), q.2) 5 [some (sj_r (some a0)), some (sj_r x1), some (sj_j x2), none, some (sj_i x4)] [] s) :
    ∀ (a0 : Nat) (x1 : Option Nat) (x2 : Int) (x4 : Int) (s : sj_Mem), f_X0_pullsOn_43 N k5 a0 x1 x2 x4 s = some q → sj_T X m_X0_pullsOn s0 (some (sj_j q.1), q.2) 43 [some (sj_r (some a0)), some (sj_r x1), some (sj_j x2), none, some (sj_i x4)] [] s := by
  intro a0 x1 x2 x4 s h
  unfold f_X0_pullsOn_43 at h
  refine r_iinc (ln := fun w => [some (sj_r (some a0)), some (sj_r x1), some (sj_j x2), none, some (sj_i w)]) (pc := 43) h dX0_pullsOn_43 rfl (Nat.le_of_ble_eq_true rfl) (fun _ => rfl) (fun v1 h => ?_)
  refine r_goto (pc := 46) (tgt := 5) dX0_pullsOn_46 (by decide) ?_
  exact sj_weak (l2 := [some (sj_r (some a0)), some (sj_r x1), some (sj_j x2), none, some (sj_i v1)]) (⟨rfl, ⟨rfl, ⟨rfl, ⟨rfl, trivial⟩⟩⟩⟩) (hk5 a0 x1 x2 v1 s h)
set_option maxHeartbeats 4000000 in
theorem t_X0_pullsOn_5_b {X : sj_X} {s0 : sj_Mem} {N : Nat} {q : Int × sj_Mem} {k5 : Nat → Option Nat → Int → Int → sj_Mem → Option (Int × sj_Mem)} (hk5 : ∀ (a0 : Nat) (x1 : Option Nat) (x2 : Int) (x4 : Int) (s : sj_Mem), k5 a0 x1 x2 x4 s = some q → sj_T X m_X0_pullsOn s0 (some (sj_j q.1), q.2) 5 [some (sj_r (some a0)), some (sj_r x1), some (sj_j x2), none, some (sj_i x4)] [] s) :
    ∀ (a0 : Nat) (x1 : Option Nat) (x2 : Int) (x4 : Int) (s : sj_Mem), f_X0_pullsOn_5_b N k5 a0 x1 x2 x4 s = some q → sj_T X m_X0_pullsOn s0 (some (sj_j q.1), q.2) 5 [some (sj_r (some a0)), some (sj_r x1), some (sj_j x2), none, some (sj_i x4)] [] s := by
  intro a0 x1 x2 x4 s h
  unfold f_X0_pullsOn_5_b at h
  refine r_iload (pc := 5) dX0_pullsOn_5 rfl ?_
  refine r_bipush (pc := 7) dX0_pullsOn_7 ⟨by decide, by decide⟩ ?_
  refine r_icmp_ge (pc := 9) (tgt := 49) h dX0_pullsOn_9 (by decide) (fun h => ?_) (fun h => ?_)
  · refine r_lload_n (pc := 49) dX0_pullsOn_49 rfl rfl ?_
    exact r_lret (pc := 50) h rfl dX0_pullsOn_50
  · refine r_aload_n (pc := 12) dX0_pullsOn_12 rfl rfl ?_
    refine r_iload (pc := 13) dX0_pullsOn_13 rfl ?_
    refine r_aload_n (pc := 15) dX0_pullsOn_15 rfl rfl ?_
    refine r_callV (pc := 16) (fun v => some (sj_i v)) (As := [sj_i x4, sj_r x1]) (rest := []) h dX0_pullsOn_16 mw_X0_115 vw_X0_anchorCounts (fun _ _ hc => c_X0_anchorCounts hc) rfl ⟨(Nat.le_of_ble_eq_true rfl), (Nat.le_of_ble_eq_true rfl)⟩ (Nat.le_of_ble_eq_true rfl) rfl (fun v2 s1 h => ?_)
    refine r_if_eq (pc := 19) (tgt := 43) h dX0_pullsOn_19 (by decide) (fun h => ?_) (fun h => ?_)
    · exact sj_weak (l2 := [some (sj_r (some a0)), some (sj_r x1), some (sj_j x2), none, some (sj_i x4)]) (⟨rfl, ⟨rfl, ⟨rfl, ⟨rfl, trivial⟩⟩⟩⟩) (t_X0_pullsOn_43 hk5 a0 x1 x2 x4 s1 h)
    · refine r_lload_n (pc := 22) dX0_pullsOn_22 rfl rfl ?_
      refine r_ldc2 (n := 2000) (pc := 23) dX0_pullsOn_23 kc_X0_119 ?_
      refine r_aload_n (pc := 26) dX0_pullsOn_26 rfl rfl ?_
      refine r_gI (pc := 27) h dX0_pullsOn_27 fw_X0_56 rfl (fun v3 h => ?_)
      refine r_i2l (pc := 30) h dX0_pullsOn_30 (fun v4 h => ?_)
      refine r_lmul (pc := 31) dX0_pullsOn_31 ?_
      refine r_aload_n (pc := 32) dX0_pullsOn_32 rfl rfl ?_
      refine r_gR (pc := 33) h dX0_pullsOn_33 fw_X0_42 rfl (fun r5 h => ?_)
      refine r_iload (pc := 36) dX0_pullsOn_36 rfl ?_
      obtain ⟨a6, ea6, g⟩ := e_nn_some h
      clear h
      subst ea6
      have h := g
      clear g
      refine r_iaload (pc := 38) h dX0_pullsOn_38 (fun v7 h => ?_)
      refine r_i2l (pc := 39) h dX0_pullsOn_39 (fun v8 h => ?_)
      refine r_lmul (pc := 40) dX0_pullsOn_40 ?_
      refine r_ladd (pc := 41) dX0_pullsOn_41 ?_
      refine r_lstore_nL (ln := fun w => [some (sj_r (some a0)), some (sj_r x1), some (sj_j w), none, some (sj_i x4)]) (pc := 42) h dX0_pullsOn_42 rfl (Nat.le_of_ble_eq_true rfl) (fun _ => rfl) (fun v9 h => ?_)
      exact sj_weak (l2 := [some (sj_r (some a0)), some (sj_r x1), some (sj_j v9), none, some (sj_i x4)]) (⟨rfl, ⟨rfl, ⟨rfl, ⟨rfl, trivial⟩⟩⟩⟩) (t_X0_pullsOn_43 hk5 a0 x1 v9 x4 s1 h)
set_option maxHeartbeats 4000000 in
theorem t_X0_pullsOn_5 {X : sj_X} {s0 : sj_Mem} {N : Nat} {q : Int × sj_Mem} :
    ∀ (n : Nat) (a0 : Nat) (x1 : Option Nat) (x2 : Int) (x4 : Int) (s : sj_Mem), f_X0_pullsOn_5 N n a0 x1 x2 x4 s = some q → sj_T X m_X0_pullsOn s0 (some (sj_j q.1), q.2) 5 [some (sj_r (some a0)), some (sj_r x1), some (sj_j x2), none, some (sj_i x4)] [] s := by
  intro n
  induction n with
  | zero => intro a0 x1 x2 x4 s h; exact nomatch h
  | succ n ih => intro a0 x1 x2 x4 s h; exact t_X0_pullsOn_5_b (N := N) ih a0 x1 x2 x4 s h
set_option maxHeartbeats 4000000 in
theorem t_X0_pullsOn_0 {X : sj_X} {s0 : sj_Mem} {N : Nat} {q : Int × sj_Mem} :
    ∀ (a0 : Nat) (x1 : Option Nat) (s : sj_Mem), f_X0_pullsOn N a0 x1 s = some q → sj_T X m_X0_pullsOn s0 (some (sj_j q.1), q.2) 0 [some (sj_r (some a0)), some (sj_r x1), none, none, none] [] s := by
  intro a0 x1 s h
  unfold f_X0_pullsOn at h
  refine r_lconst0 (pc := 0) dX0_pullsOn_0 ?_
  refine r_lstore_n (ln := [some (sj_r (some a0)), some (sj_r x1), some (sj_j 0), none, none]) (pc := 1) dX0_pullsOn_1 rfl (Nat.le_of_ble_eq_true rfl) rfl ?_
  refine r_iconst (pc := 2) dX0_pullsOn_2 ?_
  refine r_istore (ln := [some (sj_r (some a0)), some (sj_r x1), some (sj_j 0), none, some (sj_i 0)]) (pc := 3) dX0_pullsOn_3 (Nat.le_of_ble_eq_true rfl) rfl ?_
  exact sj_weak (l2 := [some (sj_r (some a0)), some (sj_r x1), some (sj_j 0), none, some (sj_i 0)]) (⟨rfl, ⟨rfl, ⟨rfl, ⟨rfl, trivial⟩⟩⟩⟩) (t_X0_pullsOn_5 N a0 x1 0 0 s h)
set_option maxHeartbeats 4000000 in
theorem c_X0_pullsOn {X : sj_X} {N : Nat} {a0 : Nat} {x1 : Option Nat} {s : sj_Mem} {q : Int × sj_Mem} (h : f_X0_pullsOn N a0 x1 s = some q) : sj_C X m_X0_pullsOn [sj_r (some a0), sj_r x1] s (some (sj_j q.1), q.2) :=
  sj_C_of (by decide +kernel) (Nat.le_of_ble_eq_true rfl) (lo := [some (sj_r (some a0)), some (sj_r x1), none, none, none]) rfl (sj_weak (l2 := [some (sj_r (some a0)), some (sj_r x1), none, none, none]) (⟨rfl, ⟨rfl, trivial⟩⟩) (t_X0_pullsOn_0 a0 x1 s h))
theorem dX0_anchorSet_0 : decode cX0_anchorSet 0 = .ok (.iconst 0, 1) := by decide +kernel
theorem dX0_anchorSet_1 : decode cX0_anchorSet 1 = .ok (.istore_n 1, 1) := by decide +kernel
theorem dX0_anchorSet_2 : decode cX0_anchorSet 2 = .ok (.iconst 0, 1) := by decide +kernel
theorem dX0_anchorSet_3 : decode cX0_anchorSet 3 = .ok (.istore_n 2, 1) := by decide +kernel
theorem dX0_anchorSet_4 : decode cX0_anchorSet 4 = .ok (.iload_n 2, 1) := by decide +kernel
theorem dX0_anchorSet_5 : decode cX0_anchorSet 5 = .ok (.bipush 6, 2) := by decide +kernel
theorem dX0_anchorSet_7 : decode cX0_anchorSet 7 = .ok (.if_icmp .ge 24, 3) := by decide +kernel
theorem dX0_anchorSet_10 : decode cX0_anchorSet 10 = .ok (.aload_n 0, 1) := by decide +kernel
theorem dX0_anchorSet_11 : decode cX0_anchorSet 11 = .ok (.getfield 42, 3) := by decide +kernel
theorem dX0_anchorSet_14 : decode cX0_anchorSet 14 = .ok (.iload_n 2, 1) := by decide +kernel
theorem dX0_anchorSet_15 : decode cX0_anchorSet 15 = .ok (.iaload, 1) := by decide +kernel
theorem dX0_anchorSet_16 : decode cX0_anchorSet 16 = .ok (.ifCond .le 9, 3) := by decide +kernel
theorem dX0_anchorSet_19 : decode cX0_anchorSet 19 = .ok (.iload_n 1, 1) := by decide +kernel
theorem dX0_anchorSet_20 : decode cX0_anchorSet 20 = .ok (.iconst 1, 1) := by decide +kernel
theorem dX0_anchorSet_21 : decode cX0_anchorSet 21 = .ok (.iload_n 2, 1) := by decide +kernel
theorem dX0_anchorSet_22 : decode cX0_anchorSet 22 = .ok (.ishl, 1) := by decide +kernel
theorem dX0_anchorSet_23 : decode cX0_anchorSet 23 = .ok (.ior, 1) := by decide +kernel
theorem dX0_anchorSet_24 : decode cX0_anchorSet 24 = .ok (.istore_n 1, 1) := by decide +kernel
theorem dX0_anchorSet_25 : decode cX0_anchorSet 25 = .ok (.iinc 2 1, 3) := by decide +kernel
theorem dX0_anchorSet_28 : decode cX0_anchorSet 28 = .ok (.goto (-24), 3) := by decide +kernel
theorem dX0_anchorSet_31 : decode cX0_anchorSet 31 = .ok (.iload_n 1, 1) := by decide +kernel
theorem dX0_anchorSet_32 : decode cX0_anchorSet 32 = .ok (.ireturn, 1) := by decide +kernel
set_option maxHeartbeats 4000000 in
theorem t_X0_anchorSet_25 {X : sj_X} {s0 : sj_Mem} {N : Nat} {q : Int × sj_Mem} {k4 : Nat → Int → Int → sj_Mem → Option (Int × sj_Mem)} (hk4 : ∀ (a0 : Nat) (x1 : Int) (x2 : Int) (s : sj_Mem), k4 a0 x1 x2 s = some q → sj_T X m_X0_anchorSet s0 (some (sj_i q.1), q.2) 4 [some (sj_r (some a0)), some (sj_i x1), some (sj_i x2)] [] s) :
    ∀ (a0 : Nat) (x1 : Int) (x2 : Int) (s : sj_Mem), f_X0_anchorSet_25 N k4 a0 x1 x2 s = some q → sj_T X m_X0_anchorSet s0 (some (sj_i q.1), q.2) 25 [some (sj_r (some a0)), some (sj_i x1), some (sj_i x2)] [] s := by
  intro a0 x1 x2 s h
  unfold f_X0_anchorSet_25 at h
  refine r_iinc (ln := fun w => [some (sj_r (some a0)), some (sj_i x1), some (sj_i w)]) (pc := 25) h dX0_anchorSet_25 rfl (Nat.le_of_ble_eq_true rfl) (fun _ => rfl) (fun v1 h => ?_)
  refine r_goto (pc := 28) (tgt := 4) dX0_anchorSet_28 (by decide) ?_
  exact sj_weak (l2 := [some (sj_r (some a0)), some (sj_i x1), some (sj_i v1)]) (⟨rfl, ⟨rfl, ⟨rfl, trivial⟩⟩⟩) (hk4 a0 x1 v1 s h)
set_option maxHeartbeats 4000000 in
theorem t_X0_anchorSet_4_b {X : sj_X} {s0 : sj_Mem} {N : Nat} {q : Int × sj_Mem} {k4 : Nat → Int → Int → sj_Mem → Option (Int × sj_Mem)} (hk4 : ∀ (a0 : Nat) (x1 : Int) (x2 : Int) (s : sj_Mem), k4 a0 x1 x2 s = some q → sj_T X m_X0_anchorSet s0 (some (sj_i q.1), q.2) 4 [some (sj_r (some a0)), some (sj_i x1), some (sj_i x2)] [] s) :
    ∀ (a0 : Nat) (x1 : Int) (x2 : Int) (s : sj_Mem), f_X0_anchorSet_4_b N k4 a0 x1 x2 s = some q → sj_T X m_X0_anchorSet s0 (some (sj_i q.1), q.2) 4 [some (sj_r (some a0)), some (sj_i x1), some (sj_i x2)] [] s := by
  intro a0 x1 x2 s h
  unfold f_X0_anchorSet_4_b at h
  refine r_iload_n (pc := 4) dX0_anchorSet_4 rfl rfl ?_
  refine r_bipush (pc := 5) dX0_anchorSet_5 ⟨by decide, by decide⟩ ?_
  refine r_icmp_ge (pc := 7) (tgt := 31) h dX0_anchorSet_7 (by decide) (fun h => ?_) (fun h => ?_)
  · refine r_iload_n (pc := 31) dX0_anchorSet_31 rfl rfl ?_
    exact r_iret (pc := 32) h rfl dX0_anchorSet_32
  · refine r_aload_n (pc := 10) dX0_anchorSet_10 rfl rfl ?_
    refine r_gR (pc := 11) h dX0_anchorSet_11 fw_X0_42 rfl (fun r1 h => ?_)
    refine r_iload_n (pc := 14) dX0_anchorSet_14 rfl rfl ?_
    obtain ⟨a2, ea2, g⟩ := e_nn_some h
    clear h
    subst ea2
    have h := g
    clear g
    refine r_iaload (pc := 15) h dX0_anchorSet_15 (fun v3 h => ?_)
    refine r_if_le (pc := 16) (tgt := 25) h dX0_anchorSet_16 (by decide) (fun h => ?_) (fun h => ?_)
    · exact sj_weak (l2 := [some (sj_r (some a0)), some (sj_i x1), some (sj_i x2)]) (⟨rfl, ⟨rfl, ⟨rfl, trivial⟩⟩⟩) (t_X0_anchorSet_25 hk4 a0 x1 x2 s h)
    · refine r_iload_n (pc := 19) dX0_anchorSet_19 rfl rfl ?_
      refine r_iconst (pc := 20) dX0_anchorSet_20 ?_
      refine r_iload_n (pc := 21) dX0_anchorSet_21 rfl rfl ?_
      refine r_ishl (pc := 22) h dX0_anchorSet_22 (fun v4 h => ?_)
      refine r_ior (pc := 23) dX0_anchorSet_23 ?_
      refine r_istore_nL (ln := fun w => [some (sj_r (some a0)), some (sj_i w), some (sj_i x2)]) (pc := 24) h dX0_anchorSet_24 rfl (Nat.le_of_ble_eq_true rfl) (fun _ => rfl) (fun v5 h => ?_)
      exact sj_weak (l2 := [some (sj_r (some a0)), some (sj_i v5), some (sj_i x2)]) (⟨rfl, ⟨rfl, ⟨rfl, trivial⟩⟩⟩) (t_X0_anchorSet_25 hk4 a0 v5 x2 s h)
set_option maxHeartbeats 4000000 in
theorem t_X0_anchorSet_4 {X : sj_X} {s0 : sj_Mem} {N : Nat} {q : Int × sj_Mem} :
    ∀ (n : Nat) (a0 : Nat) (x1 : Int) (x2 : Int) (s : sj_Mem), f_X0_anchorSet_4 N n a0 x1 x2 s = some q → sj_T X m_X0_anchorSet s0 (some (sj_i q.1), q.2) 4 [some (sj_r (some a0)), some (sj_i x1), some (sj_i x2)] [] s := by
  intro n
  induction n with
  | zero => intro a0 x1 x2 s h; exact nomatch h
  | succ n ih => intro a0 x1 x2 s h; exact t_X0_anchorSet_4_b (N := N) ih a0 x1 x2 s h
set_option maxHeartbeats 4000000 in
theorem t_X0_anchorSet_0 {X : sj_X} {s0 : sj_Mem} {N : Nat} {q : Int × sj_Mem} :
    ∀ (a0 : Nat) (s : sj_Mem), f_X0_anchorSet N a0 s = some q → sj_T X m_X0_anchorSet s0 (some (sj_i q.1), q.2) 0 [some (sj_r (some a0)), none, none] [] s := by
  intro a0 s h
  unfold f_X0_anchorSet at h
  refine r_iconst (pc := 0) dX0_anchorSet_0 ?_
  refine r_istore_n (ln := [some (sj_r (some a0)), some (sj_i 0), none]) (pc := 1) dX0_anchorSet_1 rfl (Nat.le_of_ble_eq_true rfl) rfl ?_
  refine r_iconst (pc := 2) dX0_anchorSet_2 ?_
  refine r_istore_n (ln := [some (sj_r (some a0)), some (sj_i 0), some (sj_i 0)]) (pc := 3) dX0_anchorSet_3 rfl (Nat.le_of_ble_eq_true rfl) rfl ?_
  exact sj_weak (l2 := [some (sj_r (some a0)), some (sj_i 0), some (sj_i 0)]) (⟨rfl, ⟨rfl, ⟨rfl, trivial⟩⟩⟩) (t_X0_anchorSet_4 N a0 0 0 s h)
set_option maxHeartbeats 4000000 in
theorem c_X0_anchorSet {X : sj_X} {N : Nat} {a0 : Nat} {s : sj_Mem} {q : Int × sj_Mem} (h : f_X0_anchorSet N a0 s = some q) : sj_C X m_X0_anchorSet [sj_r (some a0)] s (some (sj_i q.1), q.2) :=
  sj_C_of (by decide +kernel) (Nat.le_of_ble_eq_true rfl) (lo := [some (sj_r (some a0)), none, none]) rfl (sj_weak (l2 := [some (sj_r (some a0)), none, none]) (⟨rfl, trivial⟩) (t_X0_anchorSet_0 a0 s h))
theorem dX0_greatestGround_0 : decode cX0_greatestGround 0 = .ok (.iconst 0, 1) := by decide +kernel
theorem dX0_greatestGround_1 : decode cX0_greatestGround 1 = .ok (.istore_n 1, 1) := by decide +kernel
theorem dX0_greatestGround_2 : decode cX0_greatestGround 2 = .ok (.iconst 0, 1) := by decide +kernel
theorem dX0_greatestGround_3 : decode cX0_greatestGround 3 = .ok (.istore_n 2, 1) := by decide +kernel
theorem dX0_greatestGround_4 : decode cX0_greatestGround 4 = .ok (.iload_n 2, 1) := by decide +kernel
theorem dX0_greatestGround_5 : decode cX0_greatestGround 5 = .ok (.aload_n 0, 1) := by decide +kernel
theorem dX0_greatestGround_6 : decode cX0_greatestGround 6 = .ok (.getfield 52, 3) := by decide +kernel
theorem dX0_greatestGround_9 : decode cX0_greatestGround 9 = .ok (.if_icmp .gt 20, 3) := by decide +kernel
theorem dX0_greatestGround_12 : decode cX0_greatestGround 12 = .ok (.iload_n 1, 1) := by decide +kernel
theorem dX0_greatestGround_13 : decode cX0_greatestGround 13 = .ok (.aload_n 0, 1) := by decide +kernel
theorem dX0_greatestGround_14 : decode cX0_greatestGround 14 = .ok (.getfield 9, 3) := by decide +kernel
theorem dX0_greatestGround_17 : decode cX0_greatestGround 17 = .ok (.iload_n 2, 1) := by decide +kernel
theorem dX0_greatestGround_18 : decode cX0_greatestGround 18 = .ok (.iaload, 1) := by decide +kernel
theorem dX0_greatestGround_19 : decode cX0_greatestGround 19 = .ok (.invokestatic 96, 3) := by decide +kernel
theorem dX0_greatestGround_22 : decode cX0_greatestGround 22 = .ok (.istore_n 1, 1) := by decide +kernel
theorem dX0_greatestGround_23 : decode cX0_greatestGround 23 = .ok (.iinc 2 1, 3) := by decide +kernel
theorem dX0_greatestGround_26 : decode cX0_greatestGround 26 = .ok (.goto (-22), 3) := by decide +kernel
theorem dX0_greatestGround_29 : decode cX0_greatestGround 29 = .ok (.iload_n 1, 1) := by decide +kernel
theorem dX0_greatestGround_30 : decode cX0_greatestGround 30 = .ok (.ireturn, 1) := by decide +kernel
set_option maxHeartbeats 4000000 in
theorem t_X0_greatestGround_4_b {X : sj_X} {s0 : sj_Mem} {N : Nat} {q : Int × sj_Mem} {k4 : Nat → Int → Int → sj_Mem → Option (Int × sj_Mem)} (hk4 : ∀ (a0 : Nat) (x1 : Int) (x2 : Int) (s : sj_Mem), k4 a0 x1 x2 s = some q → sj_T X m_X0_greatestGround s0 (some (sj_i q.1), q.2) 4 [some (sj_r (some a0)), some (sj_i x1), some (sj_i x2)] [] s) :
    ∀ (a0 : Nat) (x1 : Int) (x2 : Int) (s : sj_Mem), f_X0_greatestGround_4_b N k4 a0 x1 x2 s = some q → sj_T X m_X0_greatestGround s0 (some (sj_i q.1), q.2) 4 [some (sj_r (some a0)), some (sj_i x1), some (sj_i x2)] [] s := by
  intro a0 x1 x2 s h
  unfold f_X0_greatestGround_4_b at h
  refine r_iload_n (pc := 4) dX0_greatestGround_4 rfl rfl ?_
  refine r_aload_n (pc := 5) dX0_greatestGround_5 rfl rfl ?_
  refine r_gI (pc := 6) h dX0_greatestGround_6 fw_X0_52 rfl (fun v1 h => ?_)
  refine r_icmp_gt (pc := 9) (tgt := 29) h dX0_greatestGround_9 (by decide) (fun h => ?_) (fun h => ?_)
  · refine r_iload_n (pc := 29) dX0_greatestGround_29 rfl rfl ?_
    exact r_iret (pc := 30) h rfl dX0_greatestGround_30
  · refine r_iload_n (pc := 12) dX0_greatestGround_12 rfl rfl ?_
    refine r_aload_n (pc := 13) dX0_greatestGround_13 rfl rfl ?_
    refine r_gR (pc := 14) h dX0_greatestGround_14 fw_X0_9 rfl (fun r2 h => ?_)
    refine r_iload_n (pc := 17) dX0_greatestGround_17 rfl rfl ?_
    obtain ⟨a3, ea3, g⟩ := e_nn_some h
    clear h
    subst ea3
    have h := g
    clear g
    refine r_iaload (pc := 18) h dX0_greatestGround_18 (fun v4 h => ?_)
    refine r_mmax (pc := 19) h dX0_greatestGround_19 mx_X0_96 (Nat.le_of_ble_eq_true rfl) (Nat.le_of_ble_eq_true rfl) (fun v5 h => ?_)
    refine r_istore_n (ln := [some (sj_r (some a0)), some (sj_i v5), some (sj_i x2)]) (pc := 22) dX0_greatestGround_22 rfl (Nat.le_of_ble_eq_true rfl) rfl ?_
    refine r_iinc (ln := fun w => [some (sj_r (some a0)), some (sj_i v5), some (sj_i w)]) (pc := 23) h dX0_greatestGround_23 rfl (Nat.le_of_ble_eq_true rfl) (fun _ => rfl) (fun v6 h => ?_)
    refine r_goto (pc := 26) (tgt := 4) dX0_greatestGround_26 (by decide) ?_
    exact sj_weak (l2 := [some (sj_r (some a0)), some (sj_i v5), some (sj_i v6)]) (⟨rfl, ⟨rfl, ⟨rfl, trivial⟩⟩⟩) (hk4 a0 v5 v6 s h)
set_option maxHeartbeats 4000000 in
theorem t_X0_greatestGround_4 {X : sj_X} {s0 : sj_Mem} {N : Nat} {q : Int × sj_Mem} :
    ∀ (n : Nat) (a0 : Nat) (x1 : Int) (x2 : Int) (s : sj_Mem), f_X0_greatestGround_4 N n a0 x1 x2 s = some q → sj_T X m_X0_greatestGround s0 (some (sj_i q.1), q.2) 4 [some (sj_r (some a0)), some (sj_i x1), some (sj_i x2)] [] s := by
  intro n
  induction n with
  | zero => intro a0 x1 x2 s h; exact nomatch h
  | succ n ih => intro a0 x1 x2 s h; exact t_X0_greatestGround_4_b (N := N) ih a0 x1 x2 s h
set_option maxHeartbeats 4000000 in
theorem t_X0_greatestGround_0 {X : sj_X} {s0 : sj_Mem} {N : Nat} {q : Int × sj_Mem} :
    ∀ (a0 : Nat) (s : sj_Mem), f_X0_greatestGround N a0 s = some q → sj_T X m_X0_greatestGround s0 (some (sj_i q.1), q.2) 0 [some (sj_r (some a0)), none, none] [] s := by
  intro a0 s h
  unfold f_X0_greatestGround at h
  refine r_iconst (pc := 0) dX0_greatestGround_0 ?_
  refine r_istore_n (ln := [some (sj_r (some a0)), some (sj_i 0), none]) (pc := 1) dX0_greatestGround_1 rfl (Nat.le_of_ble_eq_true rfl) rfl ?_
  refine r_iconst (pc := 2) dX0_greatestGround_2 ?_
  refine r_istore_n (ln := [some (sj_r (some a0)), some (sj_i 0), some (sj_i 0)]) (pc := 3) dX0_greatestGround_3 rfl (Nat.le_of_ble_eq_true rfl) rfl ?_
  exact sj_weak (l2 := [some (sj_r (some a0)), some (sj_i 0), some (sj_i 0)]) (⟨rfl, ⟨rfl, ⟨rfl, trivial⟩⟩⟩) (t_X0_greatestGround_4 N a0 0 0 s h)
set_option maxHeartbeats 4000000 in
theorem c_X0_greatestGround {X : sj_X} {N : Nat} {a0 : Nat} {s : sj_Mem} {q : Int × sj_Mem} (h : f_X0_greatestGround N a0 s = some q) : sj_C X m_X0_greatestGround [sj_r (some a0)] s (some (sj_i q.1), q.2) :=
  sj_C_of (by decide +kernel) (Nat.le_of_ble_eq_true rfl) (lo := [some (sj_r (some a0)), none, none]) rfl (sj_weak (l2 := [some (sj_r (some a0)), none, none]) (⟨rfl, trivial⟩) (t_X0_greatestGround_0 a0 s h))
theorem dX0_allSoil_0 : decode cX0_allSoil 0 = .ok (.iconst 0, 1) := by decide +kernel
theorem dX0_allSoil_1 : decode cX0_allSoil 1 = .ok (.istore_n 1, 1) := by decide +kernel
theorem dX0_allSoil_2 : decode cX0_allSoil 2 = .ok (.iconst 0, 1) := by decide +kernel
theorem dX0_allSoil_3 : decode cX0_allSoil 3 = .ok (.istore_n 2, 1) := by decide +kernel
theorem dX0_allSoil_4 : decode cX0_allSoil 4 = .ok (.iload_n 2, 1) := by decide +kernel
theorem dX0_allSoil_5 : decode cX0_allSoil 5 = .ok (.aload_n 0, 1) := by decide +kernel
theorem dX0_allSoil_6 : decode cX0_allSoil 6 = .ok (.getfield 52, 3) := by decide +kernel
theorem dX0_allSoil_9 : decode cX0_allSoil 9 = .ok (.if_icmp .gt 25, 3) := by decide +kernel
theorem dX0_allSoil_12 : decode cX0_allSoil 12 = .ok (.iload_n 1, 1) := by decide +kernel
theorem dX0_allSoil_13 : decode cX0_allSoil 13 = .ok (.aload_n 0, 1) := by decide +kernel
theorem dX0_allSoil_14 : decode cX0_allSoil 14 = .ok (.getfield 9, 3) := by decide +kernel
theorem dX0_allSoil_17 : decode cX0_allSoil 17 = .ok (.iload_n 2, 1) := by decide +kernel
theorem dX0_allSoil_18 : decode cX0_allSoil 18 = .ok (.iaload, 1) := by decide +kernel
theorem dX0_allSoil_19 : decode cX0_allSoil 19 = .ok (.aload_n 0, 1) := by decide +kernel
theorem dX0_allSoil_20 : decode cX0_allSoil 20 = .ok (.getfield 15, 3) := by decide +kernel
theorem dX0_allSoil_23 : decode cX0_allSoil 23 = .ok (.iload_n 2, 1) := by decide +kernel
theorem dX0_allSoil_24 : decode cX0_allSoil 24 = .ok (.iaload, 1) := by decide +kernel
theorem dX0_allSoil_25 : decode cX0_allSoil 25 = .ok (.isub, 1) := by decide +kernel
theorem dX0_allSoil_26 : decode cX0_allSoil 26 = .ok (.iadd, 1) := by decide +kernel
theorem dX0_allSoil_27 : decode cX0_allSoil 27 = .ok (.istore_n 1, 1) := by decide +kernel
theorem dX0_allSoil_28 : decode cX0_allSoil 28 = .ok (.iinc 2 1, 3) := by decide +kernel
theorem dX0_allSoil_31 : decode cX0_allSoil 31 = .ok (.goto (-27), 3) := by decide +kernel
theorem dX0_allSoil_34 : decode cX0_allSoil 34 = .ok (.iload_n 1, 1) := by decide +kernel
theorem dX0_allSoil_35 : decode cX0_allSoil 35 = .ok (.ireturn, 1) := by decide +kernel
set_option maxHeartbeats 4000000 in
theorem t_X0_allSoil_4_b {X : sj_X} {s0 : sj_Mem} {N : Nat} {q : Int × sj_Mem} {k4 : Nat → Int → Int → sj_Mem → Option (Int × sj_Mem)} (hk4 : ∀ (a0 : Nat) (x1 : Int) (x2 : Int) (s : sj_Mem), k4 a0 x1 x2 s = some q → sj_T X m_X0_allSoil s0 (some (sj_i q.1), q.2) 4 [some (sj_r (some a0)), some (sj_i x1), some (sj_i x2)] [] s) :
    ∀ (a0 : Nat) (x1 : Int) (x2 : Int) (s : sj_Mem), f_X0_allSoil_4_b N k4 a0 x1 x2 s = some q → sj_T X m_X0_allSoil s0 (some (sj_i q.1), q.2) 4 [some (sj_r (some a0)), some (sj_i x1), some (sj_i x2)] [] s := by
  intro a0 x1 x2 s h
  unfold f_X0_allSoil_4_b at h
  refine r_iload_n (pc := 4) dX0_allSoil_4 rfl rfl ?_
  refine r_aload_n (pc := 5) dX0_allSoil_5 rfl rfl ?_
  refine r_gI (pc := 6) h dX0_allSoil_6 fw_X0_52 rfl (fun v1 h => ?_)
  refine r_icmp_gt (pc := 9) (tgt := 34) h dX0_allSoil_9 (by decide) (fun h => ?_) (fun h => ?_)
  · refine r_iload_n (pc := 34) dX0_allSoil_34 rfl rfl ?_
    exact r_iret (pc := 35) h rfl dX0_allSoil_35
  · refine r_iload_n (pc := 12) dX0_allSoil_12 rfl rfl ?_
    refine r_aload_n (pc := 13) dX0_allSoil_13 rfl rfl ?_
    refine r_gR (pc := 14) h dX0_allSoil_14 fw_X0_9 rfl (fun r2 h => ?_)
    refine r_iload_n (pc := 17) dX0_allSoil_17 rfl rfl ?_
    obtain ⟨a3, ea3, g⟩ := e_nn_some h
    clear h
    subst ea3
    have h := g
    clear g
    refine r_iaload (pc := 18) h dX0_allSoil_18 (fun v4 h => ?_)
    refine r_aload_n (pc := 19) dX0_allSoil_19 rfl rfl ?_
    refine r_gR (pc := 20) h dX0_allSoil_20 fw_X0_15 rfl (fun r5 h => ?_)
    refine r_iload_n (pc := 23) dX0_allSoil_23 rfl rfl ?_
    obtain ⟨a6, ea6, g⟩ := e_nn_some h
    clear h
    subst ea6
    have h := g
    clear g
    refine r_iaload (pc := 24) h dX0_allSoil_24 (fun v7 h => ?_)
    refine r_isub (pc := 25) dX0_allSoil_25 ?_
    refine r_iadd (pc := 26) dX0_allSoil_26 ?_
    refine r_istore_nL (ln := fun w => [some (sj_r (some a0)), some (sj_i w), some (sj_i x2)]) (pc := 27) h dX0_allSoil_27 rfl (Nat.le_of_ble_eq_true rfl) (fun _ => rfl) (fun v8 h => ?_)
    refine r_iinc (ln := fun w => [some (sj_r (some a0)), some (sj_i v8), some (sj_i w)]) (pc := 28) h dX0_allSoil_28 rfl (Nat.le_of_ble_eq_true rfl) (fun _ => rfl) (fun v9 h => ?_)
    refine r_goto (pc := 31) (tgt := 4) dX0_allSoil_31 (by decide) ?_
    exact sj_weak (l2 := [some (sj_r (some a0)), some (sj_i v8), some (sj_i v9)]) (⟨rfl, ⟨rfl, ⟨rfl, trivial⟩⟩⟩) (hk4 a0 v8 v9 s h)
set_option maxHeartbeats 4000000 in
theorem t_X0_allSoil_4 {X : sj_X} {s0 : sj_Mem} {N : Nat} {q : Int × sj_Mem} :
    ∀ (n : Nat) (a0 : Nat) (x1 : Int) (x2 : Int) (s : sj_Mem), f_X0_allSoil_4 N n a0 x1 x2 s = some q → sj_T X m_X0_allSoil s0 (some (sj_i q.1), q.2) 4 [some (sj_r (some a0)), some (sj_i x1), some (sj_i x2)] [] s := by
  intro n
  induction n with
  | zero => intro a0 x1 x2 s h; exact nomatch h
  | succ n ih => intro a0 x1 x2 s h; exact t_X0_allSoil_4_b (N := N) ih a0 x1 x2 s h
set_option maxHeartbeats 4000000 in
theorem t_X0_allSoil_0 {X : sj_X} {s0 : sj_Mem} {N : Nat} {q : Int × sj_Mem} :
    ∀ (a0 : Nat) (s : sj_Mem), f_X0_allSoil N a0 s = some q → sj_T X m_X0_allSoil s0 (some (sj_i q.1), q.2) 0 [some (sj_r (some a0)), none, none] [] s := by
  intro a0 s h
  unfold f_X0_allSoil at h
  refine r_iconst (pc := 0) dX0_allSoil_0 ?_
  refine r_istore_n (ln := [some (sj_r (some a0)), some (sj_i 0), none]) (pc := 1) dX0_allSoil_1 rfl (Nat.le_of_ble_eq_true rfl) rfl ?_
  refine r_iconst (pc := 2) dX0_allSoil_2 ?_
  refine r_istore_n (ln := [some (sj_r (some a0)), some (sj_i 0), some (sj_i 0)]) (pc := 3) dX0_allSoil_3 rfl (Nat.le_of_ble_eq_true rfl) rfl ?_
  exact sj_weak (l2 := [some (sj_r (some a0)), some (sj_i 0), some (sj_i 0)]) (⟨rfl, ⟨rfl, ⟨rfl, trivial⟩⟩⟩) (t_X0_allSoil_4 N a0 0 0 s h)
set_option maxHeartbeats 4000000 in
theorem c_X0_allSoil {X : sj_X} {N : Nat} {a0 : Nat} {s : sj_Mem} {q : Int × sj_Mem} (h : f_X0_allSoil N a0 s = some q) : sj_C X m_X0_allSoil [sj_r (some a0)] s (some (sj_i q.1), q.2) :=
  sj_C_of (by decide +kernel) (Nat.le_of_ble_eq_true rfl) (lo := [some (sj_r (some a0)), none, none]) rfl (sj_weak (l2 := [some (sj_r (some a0)), none, none]) (⟨rfl, trivial⟩) (t_X0_allSoil_0 a0 s h))
theorem dX0_thickAt_0 : decode cX0_thickAt 0 = .ok (.iload_n 1, 1) := by decide +kernel
theorem dX0_thickAt_1 : decode cX0_thickAt 1 = .ok (.ifCond .lt 13, 3) := by decide +kernel
theorem dX0_thickAt_4 : decode cX0_thickAt 4 = .ok (.aload_n 0, 1) := by decide +kernel
theorem dX0_thickAt_5 : decode cX0_thickAt 5 = .ok (.getfield 48, 3) := by decide +kernel
theorem dX0_thickAt_8 : decode cX0_thickAt 8 = .ok (.invokevirtual 102, 3) := by decide +kernel
theorem dX0_thickAt_11 : decode cX0_thickAt 11 = .ok (.ifCond .eq 7, 3) := by decide +kernel
theorem dX0_thickAt_14 : decode cX0_thickAt 14 = .ok (.iconst 0, 1) := by decide +kernel
theorem dX0_thickAt_15 : decode cX0_thickAt 15 = .ok (.goto 19, 3) := by decide +kernel
theorem dX0_thickAt_18 : decode cX0_thickAt 18 = .ok (.aload_n 0, 1) := by decide +kernel
theorem dX0_thickAt_19 : decode cX0_thickAt 19 = .ok (.getfield 9, 3) := by decide +kernel
theorem dX0_thickAt_22 : decode cX0_thickAt 22 = .ok (.iload_n 1, 1) := by decide +kernel
theorem dX0_thickAt_23 : decode cX0_thickAt 23 = .ok (.iaload, 1) := by decide +kernel
theorem dX0_thickAt_24 : decode cX0_thickAt 24 = .ok (.aload_n 0, 1) := by decide +kernel
theorem dX0_thickAt_25 : decode cX0_thickAt 25 = .ok (.getfield 48, 3) := by decide +kernel
theorem dX0_thickAt_28 : decode cX0_thickAt 28 = .ok (.getfield 112, 3) := by decide +kernel
theorem dX0_thickAt_31 : decode cX0_thickAt 31 = .ok (.iload_n 1, 1) := by decide +kernel
theorem dX0_thickAt_32 : decode cX0_thickAt 32 = .ok (.iaload, 1) := by decide +kernel
theorem dX0_thickAt_33 : decode cX0_thickAt 33 = .ok (.isub, 1) := by decide +kernel
theorem dX0_thickAt_34 : decode cX0_thickAt 34 = .ok (.ireturn, 1) := by decide +kernel
set_option maxHeartbeats 4000000 in
theorem t_X0_thickAt_14 {X : sj_X} {s0 : sj_Mem} {N : Nat} {q : Int × sj_Mem} :
    ∀ (s : sj_Mem), f_X0_thickAt_14 N s = some q → sj_T X m_X0_thickAt s0 (some (sj_i q.1), q.2) 14 [none, none] [] s := by
  intro  s h
  unfold f_X0_thickAt_14 at h
  refine r_iconst (pc := 14) dX0_thickAt_14 ?_
  refine r_goto (pc := 15) (tgt := 34) dX0_thickAt_15 (by decide) ?_
  exact r_iret (pc := 34) h rfl dX0_thickAt_34
set_option maxHeartbeats 4000000 in
theorem t_X0_thickAt_0 {X : sj_X} {s0 : sj_Mem} {N : Nat} {q : Int × sj_Mem} :
    ∀ (a0 : Nat) (x1 : Int) (s : sj_Mem), f_X0_thickAt N a0 x1 s = some q → sj_T X m_X0_thickAt s0 (some (sj_i q.1), q.2) 0 [some (sj_r (some a0)), some (sj_i x1)] [] s := by
  intro a0 x1 s h
  unfold f_X0_thickAt at h
  refine r_iload_n (pc := 0) dX0_thickAt_0 rfl rfl ?_
  refine r_if_lt (pc := 1) (tgt := 14) h dX0_thickAt_1 (by decide) (fun h => ?_) (fun h => ?_)
  · exact sj_weak (l2 := [none, none]) (trivial) (t_X0_thickAt_14 s h)
  · refine r_aload_n (pc := 4) dX0_thickAt_4 rfl rfl ?_
    refine r_gR (pc := 5) h dX0_thickAt_5 fw_X0_48 rfl (fun r1 h => ?_)
    obtain ⟨a2, ea2, g⟩ := e_nn_some h
    clear h
    subst ea2
    have h := g
    clear g
    refine r_callV (pc := 8) (fun v => some (sj_i v)) (As := []) (rest := []) h dX0_thickAt_8 mw_X0_102 vw_X5_isNone (fun _ _ hc => c_X5_isNone hc) rfl ⟨(Nat.le_of_ble_eq_true rfl), (Nat.le_of_ble_eq_true rfl)⟩ (Nat.le_of_ble_eq_true rfl) rfl (fun v4 s3 h => ?_)
    refine r_if_eq (pc := 11) (tgt := 18) h dX0_thickAt_11 (by decide) (fun h => ?_) (fun h => ?_)
    · refine r_aload_n (pc := 18) dX0_thickAt_18 rfl rfl ?_
      refine r_gR (pc := 19) h dX0_thickAt_19 fw_X0_9 rfl (fun r5 h => ?_)
      refine r_iload_n (pc := 22) dX0_thickAt_22 rfl rfl ?_
      obtain ⟨a6, ea6, g⟩ := e_nn_some h
      clear h
      subst ea6
      have h := g
      clear g
      refine r_iaload (pc := 23) h dX0_thickAt_23 (fun v7 h => ?_)
      refine r_aload_n (pc := 24) dX0_thickAt_24 rfl rfl ?_
      refine r_gR (pc := 25) h dX0_thickAt_25 fw_X0_48 rfl (fun r8 h => ?_)
      obtain ⟨a9, ea9, g⟩ := e_nn_some h
      clear h
      subst ea9
      have h := g
      clear g
      refine r_gR (pc := 28) h dX0_thickAt_28 fw_X0_112 rfl (fun r10 h => ?_)
      refine r_iload_n (pc := 31) dX0_thickAt_31 rfl rfl ?_
      obtain ⟨a11, ea11, g⟩ := e_nn_some h
      clear h
      subst ea11
      have h := g
      clear g
      refine r_iaload (pc := 32) h dX0_thickAt_32 (fun v12 h => ?_)
      refine r_isub (pc := 33) dX0_thickAt_33 ?_
      exact r_iret (pc := 34) h rfl dX0_thickAt_34
    · exact sj_weak (l2 := [none, none]) (trivial) (t_X0_thickAt_14 s3 h)
set_option maxHeartbeats 4000000 in
theorem c_X0_thickAt {X : sj_X} {N : Nat} {a0 : Nat} {x1 : Int} {s : sj_Mem} {q : Int × sj_Mem} (h : f_X0_thickAt N a0 x1 s = some q) : sj_C X m_X0_thickAt [sj_r (some a0), sj_i x1] s (some (sj_i q.1), q.2) :=
  sj_C_of (by decide +kernel) (Nat.le_of_ble_eq_true rfl) (lo := [some (sj_r (some a0)), some (sj_i x1)]) rfl (sj_weak (l2 := [some (sj_r (some a0)), some (sj_i x1)]) (⟨rfl, ⟨rfl, trivial⟩⟩) (t_X0_thickAt_0 a0 x1 s h))
theorem dX0_thickest_0 : decode cX0_thickest 0 = .ok (.aload_n 0, 1) := by decide +kernel
theorem dX0_thickest_1 : decode cX0_thickest 1 = .ok (.getfield 48, 3) := by decide +kernel
theorem dX0_thickest_4 : decode cX0_thickest 4 = .ok (.getfield 106, 3) := by decide +kernel
theorem dX0_thickest_7 : decode cX0_thickest 7 = .ok (.istore_n 1, 1) := by decide +kernel
theorem dX0_thickest_8 : decode cX0_thickest 8 = .ok (.aload_n 0, 1) := by decide +kernel
theorem dX0_thickest_9 : decode cX0_thickest 9 = .ok (.getfield 48, 3) := by decide +kernel
theorem dX0_thickest_12 : decode cX0_thickest 12 = .ok (.getfield 106, 3) := by decide +kernel
theorem dX0_thickest_15 : decode cX0_thickest 15 = .ok (.iconst 0, 1) := by decide +kernel
theorem dX0_thickest_16 : decode cX0_thickest 16 = .ok (.invokestatic 96, 3) := by decide +kernel
theorem dX0_thickest_19 : decode cX0_thickest 19 = .ok (.istore_n 2, 1) := by decide +kernel
theorem dX0_thickest_20 : decode cX0_thickest 20 = .ok (.iload_n 2, 1) := by decide +kernel
theorem dX0_thickest_21 : decode cX0_thickest 21 = .ok (.aload_n 0, 1) := by decide +kernel
theorem dX0_thickest_22 : decode cX0_thickest 22 = .ok (.getfield 48, 3) := by decide +kernel
theorem dX0_thickest_25 : decode cX0_thickest 25 = .ok (.getfield 109, 3) := by decide +kernel
theorem dX0_thickest_28 : decode cX0_thickest 28 = .ok (.if_icmp .gt 24, 3) := by decide +kernel
theorem dX0_thickest_31 : decode cX0_thickest 31 = .ok (.aload_n 0, 1) := by decide +kernel
theorem dX0_thickest_32 : decode cX0_thickest 32 = .ok (.iload_n 2, 1) := by decide +kernel
theorem dX0_thickest_33 : decode cX0_thickest 33 = .ok (.invokevirtual 121, 3) := by decide +kernel
theorem dX0_thickest_36 : decode cX0_thickest 36 = .ok (.aload_n 0, 1) := by decide +kernel
theorem dX0_thickest_37 : decode cX0_thickest 37 = .ok (.iload_n 1, 1) := by decide +kernel
theorem dX0_thickest_38 : decode cX0_thickest 38 = .ok (.invokevirtual 121, 3) := by decide +kernel
theorem dX0_thickest_41 : decode cX0_thickest 41 = .ok (.if_icmp .le 5, 3) := by decide +kernel
theorem dX0_thickest_44 : decode cX0_thickest 44 = .ok (.iload_n 2, 1) := by decide +kernel
theorem dX0_thickest_45 : decode cX0_thickest 45 = .ok (.istore_n 1, 1) := by decide +kernel
theorem dX0_thickest_46 : decode cX0_thickest 46 = .ok (.iinc 2 1, 3) := by decide +kernel
theorem dX0_thickest_49 : decode cX0_thickest 49 = .ok (.goto (-29), 3) := by decide +kernel
theorem dX0_thickest_52 : decode cX0_thickest 52 = .ok (.iload_n 1, 1) := by decide +kernel
theorem dX0_thickest_53 : decode cX0_thickest 53 = .ok (.ireturn, 1) := by decide +kernel
set_option maxHeartbeats 4000000 in
theorem t_X0_thickest_46 {X : sj_X} {s0 : sj_Mem} {N : Nat} {q : Int × sj_Mem} {k20 : Nat → Int → Int → sj_Mem → Option (Int × sj_Mem)} (hk20 : ∀ (a0 : Nat) (x1 : Int) (x2 : Int) (s : sj_Mem), k20 a0 x1 x2 s = some q → sj_T X m_X0_thickest s0 (some (sj_i q.1), q.2) 20 [some (sj_r (some a0)), some (sj_i x1), some (sj_i x2)] [] s) :
    ∀ (a0 : Nat) (x1 : Int) (x2 : Int) (s : sj_Mem), f_X0_thickest_46 N k20 a0 x1 x2 s = some q → sj_T X m_X0_thickest s0 (some (sj_i q.1), q.2) 46 [some (sj_r (some a0)), some (sj_i x1), some (sj_i x2)] [] s := by
  intro a0 x1 x2 s h
  unfold f_X0_thickest_46 at h
  refine r_iinc (ln := fun w => [some (sj_r (some a0)), some (sj_i x1), some (sj_i w)]) (pc := 46) h dX0_thickest_46 rfl (Nat.le_of_ble_eq_true rfl) (fun _ => rfl) (fun v1 h => ?_)
  refine r_goto (pc := 49) (tgt := 20) dX0_thickest_49 (by decide) ?_
  exact sj_weak (l2 := [some (sj_r (some a0)), some (sj_i x1), some (sj_i v1)]) (⟨rfl, ⟨rfl, ⟨rfl, trivial⟩⟩⟩) (hk20 a0 x1 v1 s h)
set_option maxHeartbeats 4000000 in
theorem t_X0_thickest_20_b {X : sj_X} {s0 : sj_Mem} {N : Nat} {q : Int × sj_Mem} {k20 : Nat → Int → Int → sj_Mem → Option (Int × sj_Mem)} (hk20 : ∀ (a0 : Nat) (x1 : Int) (x2 : Int) (s : sj_Mem), k20 a0 x1 x2 s = some q → sj_T X m_X0_thickest s0 (some (sj_i q.1), q.2) 20 [some (sj_r (some a0)), some (sj_i x1), some (sj_i x2)] [] s) :
    ∀ (a0 : Nat) (x1 : Int) (x2 : Int) (s : sj_Mem), f_X0_thickest_20_b N k20 a0 x1 x2 s = some q → sj_T X m_X0_thickest s0 (some (sj_i q.1), q.2) 20 [some (sj_r (some a0)), some (sj_i x1), some (sj_i x2)] [] s := by
  intro a0 x1 x2 s h
  unfold f_X0_thickest_20_b at h
  refine r_iload_n (pc := 20) dX0_thickest_20 rfl rfl ?_
  refine r_aload_n (pc := 21) dX0_thickest_21 rfl rfl ?_
  refine r_gR (pc := 22) h dX0_thickest_22 fw_X0_48 rfl (fun r1 h => ?_)
  obtain ⟨a2, ea2, g⟩ := e_nn_some h
  clear h
  subst ea2
  have h := g
  clear g
  refine r_gI (pc := 25) h dX0_thickest_25 fw_X0_109 rfl (fun v3 h => ?_)
  refine r_icmp_gt (pc := 28) (tgt := 52) h dX0_thickest_28 (by decide) (fun h => ?_) (fun h => ?_)
  · refine r_iload_n (pc := 52) dX0_thickest_52 rfl rfl ?_
    exact r_iret (pc := 53) h rfl dX0_thickest_53
  · refine r_aload_n (pc := 31) dX0_thickest_31 rfl rfl ?_
    refine r_iload_n (pc := 32) dX0_thickest_32 rfl rfl ?_
    refine r_callV (pc := 33) (fun v => some (sj_i v)) (As := [sj_i x2]) (rest := []) h dX0_thickest_33 mw_X0_121 vw_X0_thickAt (fun _ _ hc => c_X0_thickAt hc) rfl ⟨(Nat.le_of_ble_eq_true rfl), (Nat.le_of_ble_eq_true rfl)⟩ (Nat.le_of_ble_eq_true rfl) rfl (fun v5 s4 h => ?_)
    refine r_aload_n (pc := 36) dX0_thickest_36 rfl rfl ?_
    refine r_iload_n (pc := 37) dX0_thickest_37 rfl rfl ?_
    refine r_callV (pc := 38) (fun v => some (sj_i v)) (As := [sj_i x1]) (rest := [(sj_i v5)]) h dX0_thickest_38 mw_X0_121 vw_X0_thickAt (fun _ _ hc => c_X0_thickAt hc) rfl ⟨(Nat.le_of_ble_eq_true rfl), (Nat.le_of_ble_eq_true rfl)⟩ (Nat.le_of_ble_eq_true rfl) rfl (fun v7 s6 h => ?_)
    refine r_icmp_le (pc := 41) (tgt := 46) h dX0_thickest_41 (by decide) (fun h => ?_) (fun h => ?_)
    · exact sj_weak (l2 := [some (sj_r (some a0)), some (sj_i x1), some (sj_i x2)]) (⟨rfl, ⟨rfl, ⟨rfl, trivial⟩⟩⟩) (t_X0_thickest_46 hk20 a0 x1 x2 s6 h)
    · refine r_iload_n (pc := 44) dX0_thickest_44 rfl rfl ?_
      refine r_istore_n (ln := [some (sj_r (some a0)), some (sj_i x2), some (sj_i x2)]) (pc := 45) dX0_thickest_45 rfl (Nat.le_of_ble_eq_true rfl) rfl ?_
      exact sj_weak (l2 := [some (sj_r (some a0)), some (sj_i x2), some (sj_i x2)]) (⟨rfl, ⟨rfl, ⟨rfl, trivial⟩⟩⟩) (t_X0_thickest_46 hk20 a0 x2 x2 s6 h)
set_option maxHeartbeats 4000000 in
theorem t_X0_thickest_20 {X : sj_X} {s0 : sj_Mem} {N : Nat} {q : Int × sj_Mem} :
    ∀ (n : Nat) (a0 : Nat) (x1 : Int) (x2 : Int) (s : sj_Mem), f_X0_thickest_20 N n a0 x1 x2 s = some q → sj_T X m_X0_thickest s0 (some (sj_i q.1), q.2) 20 [some (sj_r (some a0)), some (sj_i x1), some (sj_i x2)] [] s := by
  intro n
  induction n with
  | zero => intro a0 x1 x2 s h; exact nomatch h
  | succ n ih => intro a0 x1 x2 s h; exact t_X0_thickest_20_b (N := N) ih a0 x1 x2 s h
set_option maxHeartbeats 4000000 in
theorem t_X0_thickest_0 {X : sj_X} {s0 : sj_Mem} {N : Nat} {q : Int × sj_Mem} :
    ∀ (a0 : Nat) (s : sj_Mem), f_X0_thickest N a0 s = some q → sj_T X m_X0_thickest s0 (some (sj_i q.1), q.2) 0 [some (sj_r (some a0)), none, none] [] s := by
  intro a0 s h
  unfold f_X0_thickest at h
  refine r_aload_n (pc := 0) dX0_thickest_0 rfl rfl ?_
  refine r_gR (pc := 1) h dX0_thickest_1 fw_X0_48 rfl (fun r1 h => ?_)
  obtain ⟨a2, ea2, g⟩ := e_nn_some h
  clear h
  subst ea2
  have h := g
  clear g
  refine r_gI (pc := 4) h dX0_thickest_4 fw_X0_106 rfl (fun v3 h => ?_)
  refine r_istore_n (ln := [some (sj_r (some a0)), some (sj_i v3), none]) (pc := 7) dX0_thickest_7 rfl (Nat.le_of_ble_eq_true rfl) rfl ?_
  refine r_aload_n (pc := 8) dX0_thickest_8 rfl rfl ?_
  refine r_gR (pc := 9) h dX0_thickest_9 fw_X0_48 rfl (fun r4 h => ?_)
  obtain ⟨a5, ea5, g⟩ := e_nn_some h
  clear h
  subst ea5
  have h := g
  clear g
  refine r_gI (pc := 12) h dX0_thickest_12 fw_X0_106 rfl (fun v6 h => ?_)
  refine r_iconst (pc := 15) dX0_thickest_15 ?_
  refine r_mmax (pc := 16) h dX0_thickest_16 mx_X0_96 (Nat.le_of_ble_eq_true rfl) (Nat.le_of_ble_eq_true rfl) (fun v7 h => ?_)
  refine r_istore_n (ln := [some (sj_r (some a0)), some (sj_i v3), some (sj_i v7)]) (pc := 19) dX0_thickest_19 rfl (Nat.le_of_ble_eq_true rfl) rfl ?_
  exact sj_weak (l2 := [some (sj_r (some a0)), some (sj_i v3), some (sj_i v7)]) (⟨rfl, ⟨rfl, ⟨rfl, trivial⟩⟩⟩) (t_X0_thickest_20 N a0 v3 v7 s h)
set_option maxHeartbeats 4000000 in
theorem c_X0_thickest {X : sj_X} {N : Nat} {a0 : Nat} {s : sj_Mem} {q : Int × sj_Mem} (h : f_X0_thickest N a0 s = some q) : sj_C X m_X0_thickest [sj_r (some a0)] s (some (sj_i q.1), q.2) :=
  sj_C_of (by decide +kernel) (Nat.le_of_ble_eq_true rfl) (lo := [some (sj_r (some a0)), none, none]) rfl (sj_weak (l2 := [some (sj_r (some a0)), none, none]) (⟨rfl, trivial⟩) (t_X0_thickest_0 a0 s h))
theorem dX0_slipArea_0 : decode cX0_slipArea 0 = .ok (.iconst 0, 1) := by decide +kernel
theorem dX0_slipArea_1 : decode cX0_slipArea 1 = .ok (.istore_n 1, 1) := by decide +kernel
theorem dX0_slipArea_2 : decode cX0_slipArea 2 = .ok (.aload_n 0, 1) := by decide +kernel
theorem dX0_slipArea_3 : decode cX0_slipArea 3 = .ok (.getfield 48, 3) := by decide +kernel
theorem dX0_slipArea_6 : decode cX0_slipArea 6 = .ok (.getfield 106, 3) := by decide +kernel
theorem dX0_slipArea_9 : decode cX0_slipArea 9 = .ok (.iconst 0, 1) := by decide +kernel
theorem dX0_slipArea_10 : decode cX0_slipArea 10 = .ok (.invokestatic 96, 3) := by decide +kernel
theorem dX0_slipArea_13 : decode cX0_slipArea 13 = .ok (.istore_n 2, 1) := by decide +kernel
theorem dX0_slipArea_14 : decode cX0_slipArea 14 = .ok (.iload_n 2, 1) := by decide +kernel
theorem dX0_slipArea_15 : decode cX0_slipArea 15 = .ok (.aload_n 0, 1) := by decide +kernel
theorem dX0_slipArea_16 : decode cX0_slipArea 16 = .ok (.getfield 48, 3) := by decide +kernel
theorem dX0_slipArea_19 : decode cX0_slipArea 19 = .ok (.getfield 109, 3) := by decide +kernel
theorem dX0_slipArea_22 : decode cX0_slipArea 22 = .ok (.if_icmp .ge 30, 3) := by decide +kernel
theorem dX0_slipArea_25 : decode cX0_slipArea 25 = .ok (.iload_n 1, 1) := by decide +kernel
theorem dX0_slipArea_26 : decode cX0_slipArea 26 = .ok (.aload_n 0, 1) := by decide +kernel
theorem dX0_slipArea_27 : decode cX0_slipArea 27 = .ok (.getfield 56, 3) := by decide +kernel
theorem dX0_slipArea_30 : decode cX0_slipArea 30 = .ok (.aload_n 0, 1) := by decide +kernel
theorem dX0_slipArea_31 : decode cX0_slipArea 31 = .ok (.iload_n 2, 1) := by decide +kernel
theorem dX0_slipArea_32 : decode cX0_slipArea 32 = .ok (.invokevirtual 121, 3) := by decide +kernel
theorem dX0_slipArea_35 : decode cX0_slipArea 35 = .ok (.aload_n 0, 1) := by decide +kernel
theorem dX0_slipArea_36 : decode cX0_slipArea 36 = .ok (.iload_n 2, 1) := by decide +kernel
theorem dX0_slipArea_37 : decode cX0_slipArea 37 = .ok (.iconst 1, 1) := by decide +kernel
theorem dX0_slipArea_38 : decode cX0_slipArea 38 = .ok (.iadd, 1) := by decide +kernel
theorem dX0_slipArea_39 : decode cX0_slipArea 39 = .ok (.invokevirtual 121, 3) := by decide +kernel
theorem dX0_slipArea_42 : decode cX0_slipArea 42 = .ok (.iadd, 1) := by decide +kernel
theorem dX0_slipArea_43 : decode cX0_slipArea 43 = .ok (.imul, 1) := by decide +kernel
theorem dX0_slipArea_44 : decode cX0_slipArea 44 = .ok (.iadd, 1) := by decide +kernel
theorem dX0_slipArea_45 : decode cX0_slipArea 45 = .ok (.istore_n 1, 1) := by decide +kernel
theorem dX0_slipArea_46 : decode cX0_slipArea 46 = .ok (.iinc 2 1, 3) := by decide +kernel
theorem dX0_slipArea_49 : decode cX0_slipArea 49 = .ok (.goto (-35), 3) := by decide +kernel
theorem dX0_slipArea_52 : decode cX0_slipArea 52 = .ok (.iload_n 1, 1) := by decide +kernel
theorem dX0_slipArea_53 : decode cX0_slipArea 53 = .ok (.ireturn, 1) := by decide +kernel
set_option maxHeartbeats 4000000 in
theorem t_X0_slipArea_14_b {X : sj_X} {s0 : sj_Mem} {N : Nat} {q : Int × sj_Mem} {k14 : Nat → Int → Int → sj_Mem → Option (Int × sj_Mem)} (hk14 : ∀ (a0 : Nat) (x1 : Int) (x2 : Int) (s : sj_Mem), k14 a0 x1 x2 s = some q → sj_T X m_X0_slipArea s0 (some (sj_i q.1), q.2) 14 [some (sj_r (some a0)), some (sj_i x1), some (sj_i x2)] [] s) :
    ∀ (a0 : Nat) (x1 : Int) (x2 : Int) (s : sj_Mem), f_X0_slipArea_14_b N k14 a0 x1 x2 s = some q → sj_T X m_X0_slipArea s0 (some (sj_i q.1), q.2) 14 [some (sj_r (some a0)), some (sj_i x1), some (sj_i x2)] [] s := by
  intro a0 x1 x2 s h
  unfold f_X0_slipArea_14_b at h
  refine r_iload_n (pc := 14) dX0_slipArea_14 rfl rfl ?_
  refine r_aload_n (pc := 15) dX0_slipArea_15 rfl rfl ?_
  refine r_gR (pc := 16) h dX0_slipArea_16 fw_X0_48 rfl (fun r1 h => ?_)
  obtain ⟨a2, ea2, g⟩ := e_nn_some h
  clear h
  subst ea2
  have h := g
  clear g
  refine r_gI (pc := 19) h dX0_slipArea_19 fw_X0_109 rfl (fun v3 h => ?_)
  refine r_icmp_ge (pc := 22) (tgt := 52) h dX0_slipArea_22 (by decide) (fun h => ?_) (fun h => ?_)
  · refine r_iload_n (pc := 52) dX0_slipArea_52 rfl rfl ?_
    exact r_iret (pc := 53) h rfl dX0_slipArea_53
  · refine r_iload_n (pc := 25) dX0_slipArea_25 rfl rfl ?_
    refine r_aload_n (pc := 26) dX0_slipArea_26 rfl rfl ?_
    refine r_gI (pc := 27) h dX0_slipArea_27 fw_X0_56 rfl (fun v4 h => ?_)
    refine r_aload_n (pc := 30) dX0_slipArea_30 rfl rfl ?_
    refine r_iload_n (pc := 31) dX0_slipArea_31 rfl rfl ?_
    refine r_callV (pc := 32) (fun v => some (sj_i v)) (As := [sj_i x2]) (rest := [(sj_i v4), (sj_i x1)]) h dX0_slipArea_32 mw_X0_121 vw_X0_thickAt (fun _ _ hc => c_X0_thickAt hc) rfl ⟨(Nat.le_of_ble_eq_true rfl), (Nat.le_of_ble_eq_true rfl)⟩ (Nat.le_of_ble_eq_true rfl) rfl (fun v6 s5 h => ?_)
    refine r_aload_n (pc := 35) dX0_slipArea_35 rfl rfl ?_
    refine r_iload_n (pc := 36) dX0_slipArea_36 rfl rfl ?_
    refine r_iconst (pc := 37) dX0_slipArea_37 ?_
    refine r_iadd (pc := 38) dX0_slipArea_38 ?_
    refine r_callV (pc := 39) (fun v => some (sj_i v)) (As := [sj_i (x2 + 1)]) (rest := [(sj_i v6), (sj_i v4), (sj_i x1)]) h dX0_slipArea_39 mw_X0_121 vw_X0_thickAt (fun _ _ hc => c_X0_thickAt hc) rfl ⟨(Nat.le_of_ble_eq_true rfl), (Nat.le_of_ble_eq_true rfl)⟩ (Nat.le_of_ble_eq_true rfl) rfl (fun v8 s7 h => ?_)
    refine r_iadd (pc := 42) dX0_slipArea_42 ?_
    refine r_imul (pc := 43) dX0_slipArea_43 ?_
    refine r_iadd (pc := 44) dX0_slipArea_44 ?_
    refine r_istore_nL (ln := fun w => [some (sj_r (some a0)), some (sj_i w), some (sj_i x2)]) (pc := 45) h dX0_slipArea_45 rfl (Nat.le_of_ble_eq_true rfl) (fun _ => rfl) (fun v9 h => ?_)
    refine r_iinc (ln := fun w => [some (sj_r (some a0)), some (sj_i v9), some (sj_i w)]) (pc := 46) h dX0_slipArea_46 rfl (Nat.le_of_ble_eq_true rfl) (fun _ => rfl) (fun v10 h => ?_)
    refine r_goto (pc := 49) (tgt := 14) dX0_slipArea_49 (by decide) ?_
    exact sj_weak (l2 := [some (sj_r (some a0)), some (sj_i v9), some (sj_i v10)]) (⟨rfl, ⟨rfl, ⟨rfl, trivial⟩⟩⟩) (hk14 a0 v9 v10 s7 h)
set_option maxHeartbeats 4000000 in
theorem t_X0_slipArea_14 {X : sj_X} {s0 : sj_Mem} {N : Nat} {q : Int × sj_Mem} :
    ∀ (n : Nat) (a0 : Nat) (x1 : Int) (x2 : Int) (s : sj_Mem), f_X0_slipArea_14 N n a0 x1 x2 s = some q → sj_T X m_X0_slipArea s0 (some (sj_i q.1), q.2) 14 [some (sj_r (some a0)), some (sj_i x1), some (sj_i x2)] [] s := by
  intro n
  induction n with
  | zero => intro a0 x1 x2 s h; exact nomatch h
  | succ n ih => intro a0 x1 x2 s h; exact t_X0_slipArea_14_b (N := N) ih a0 x1 x2 s h
set_option maxHeartbeats 4000000 in
theorem t_X0_slipArea_0 {X : sj_X} {s0 : sj_Mem} {N : Nat} {q : Int × sj_Mem} :
    ∀ (a0 : Nat) (s : sj_Mem), f_X0_slipArea N a0 s = some q → sj_T X m_X0_slipArea s0 (some (sj_i q.1), q.2) 0 [some (sj_r (some a0)), none, none] [] s := by
  intro a0 s h
  unfold f_X0_slipArea at h
  refine r_iconst (pc := 0) dX0_slipArea_0 ?_
  refine r_istore_n (ln := [some (sj_r (some a0)), some (sj_i 0), none]) (pc := 1) dX0_slipArea_1 rfl (Nat.le_of_ble_eq_true rfl) rfl ?_
  refine r_aload_n (pc := 2) dX0_slipArea_2 rfl rfl ?_
  refine r_gR (pc := 3) h dX0_slipArea_3 fw_X0_48 rfl (fun r1 h => ?_)
  obtain ⟨a2, ea2, g⟩ := e_nn_some h
  clear h
  subst ea2
  have h := g
  clear g
  refine r_gI (pc := 6) h dX0_slipArea_6 fw_X0_106 rfl (fun v3 h => ?_)
  refine r_iconst (pc := 9) dX0_slipArea_9 ?_
  refine r_mmax (pc := 10) h dX0_slipArea_10 mx_X0_96 (Nat.le_of_ble_eq_true rfl) (Nat.le_of_ble_eq_true rfl) (fun v4 h => ?_)
  refine r_istore_n (ln := [some (sj_r (some a0)), some (sj_i 0), some (sj_i v4)]) (pc := 13) dX0_slipArea_13 rfl (Nat.le_of_ble_eq_true rfl) rfl ?_
  exact sj_weak (l2 := [some (sj_r (some a0)), some (sj_i 0), some (sj_i v4)]) (⟨rfl, ⟨rfl, ⟨rfl, trivial⟩⟩⟩) (t_X0_slipArea_14 N a0 0 v4 s h)
set_option maxHeartbeats 4000000 in
theorem c_X0_slipArea {X : sj_X} {N : Nat} {a0 : Nat} {s : sj_Mem} {q : Int × sj_Mem} (h : f_X0_slipArea N a0 s = some q) : sj_C X m_X0_slipArea [sj_r (some a0)] s (some (sj_i q.1), q.2) :=
  sj_C_of (by decide +kernel) (Nat.le_of_ble_eq_true rfl) (lo := [some (sj_r (some a0)), none, none]) rfl (sj_weak (l2 := [some (sj_r (some a0)), none, none]) (⟨rfl, trivial⟩) (t_X0_slipArea_0 a0 s h))
theorem dX0_dryUp_0 : decode cX0_dryUp 0 = .ok (.aload_n 0, 1) := by decide +kernel
theorem dX0_dryUp_1 : decode cX0_dryUp 1 = .ok (.getfield 18, 3) := by decide +kernel
theorem dX0_dryUp_4 : decode cX0_dryUp 4 = .ok (.iconst 0, 1) := by decide +kernel
theorem dX0_dryUp_5 : decode cX0_dryUp 5 = .ok (.invokestatic 62, 3) := by decide +kernel
theorem dX0_dryUp_8 : decode cX0_dryUp 8 = .ok (.return_, 1) := by decide +kernel
set_option maxHeartbeats 4000000 in
theorem t_X0_dryUp_0 {X : sj_X} {s0 : sj_Mem} {N : Nat} {q : Unit × sj_Mem} :
    ∀ (a0 : Nat) (s : sj_Mem), f_X0_dryUp N a0 s = some q → sj_T X m_X0_dryUp s0 (none, q.2) 0 [some (sj_r (some a0))] [] s := by
  intro a0 s h
  unfold f_X0_dryUp at h
  refine r_aload_n (pc := 0) dX0_dryUp_0 rfl rfl ?_
  refine r_gR (pc := 1) h dX0_dryUp_1 fw_X0_18 rfl (fun r1 h => ?_)
  refine r_iconst (pc := 4) dX0_dryUp_4 ?_
  refine r_callS (pc := 5) (fun _ => none) (As := [sj_r r1, sj_i 0]) (rest := []) h dX0_dryUp_5 mw_X0_62 kw_321 (fun _ _ hc => c_J7_fill_53178 hc) rfl ⟨(Nat.le_of_ble_eq_true rfl), (Nat.le_of_ble_eq_true rfl)⟩ (Nat.le_of_ble_eq_true rfl) rfl (fun _u s2 h => ?_)
  exact r_vret (pc := 8) h rfl dX0_dryUp_8
set_option maxHeartbeats 4000000 in
theorem c_X0_dryUp {X : sj_X} {N : Nat} {a0 : Nat} {s : sj_Mem} {q : Unit × sj_Mem} (h : f_X0_dryUp N a0 s = some q) : sj_C X m_X0_dryUp [sj_r (some a0)] s (none, q.2) :=
  sj_C_of (by decide +kernel) (Nat.le_of_ble_eq_true rfl) (lo := [some (sj_r (some a0))]) rfl (sj_weak (l2 := [some (sj_r (some a0))]) (⟨rfl, trivial⟩) (t_X0_dryUp_0 a0 s h))
theorem dX0_raiseWater_0 : decode cX0_raiseWater 0 = .ok (.iconst 0, 1) := by decide +kernel
theorem dX0_raiseWater_1 : decode cX0_raiseWater 1 = .ok (.istore_n 1, 1) := by decide +kernel
theorem dX0_raiseWater_2 : decode cX0_raiseWater 2 = .ok (.iload_n 1, 1) := by decide +kernel
theorem dX0_raiseWater_3 : decode cX0_raiseWater 3 = .ok (.aload_n 0, 1) := by decide +kernel
theorem dX0_raiseWater_4 : decode cX0_raiseWater 4 = .ok (.getfield 52, 3) := by decide +kernel
theorem dX0_raiseWater_7 : decode cX0_raiseWater 7 = .ok (.if_icmp .gt 28, 3) := by decide +kernel
theorem dX0_raiseWater_10 : decode cX0_raiseWater 10 = .ok (.aload_n 0, 1) := by decide +kernel
theorem dX0_raiseWater_11 : decode cX0_raiseWater 11 = .ok (.getfield 18, 3) := by decide +kernel
theorem dX0_raiseWater_14 : decode cX0_raiseWater 14 = .ok (.iload_n 1, 1) := by decide +kernel
theorem dX0_raiseWater_15 : decode cX0_raiseWater 15 = .ok (.aload_n 0, 1) := by decide +kernel
theorem dX0_raiseWater_16 : decode cX0_raiseWater 16 = .ok (.getfield 18, 3) := by decide +kernel
theorem dX0_raiseWater_19 : decode cX0_raiseWater 19 = .ok (.iload_n 1, 1) := by decide +kernel
theorem dX0_raiseWater_20 : decode cX0_raiseWater 20 = .ok (.iaload, 1) := by decide +kernel
theorem dX0_raiseWater_21 : decode cX0_raiseWater 21 = .ok (.iconst 1, 1) := by decide +kernel
theorem dX0_raiseWater_22 : decode cX0_raiseWater 22 = .ok (.iadd, 1) := by decide +kernel
theorem dX0_raiseWater_23 : decode cX0_raiseWater 23 = .ok (.bipush 100, 2) := by decide +kernel
theorem dX0_raiseWater_25 : decode cX0_raiseWater 25 = .ok (.invokestatic 87, 3) := by decide +kernel
theorem dX0_raiseWater_28 : decode cX0_raiseWater 28 = .ok (.iastore, 1) := by decide +kernel
theorem dX0_raiseWater_29 : decode cX0_raiseWater 29 = .ok (.iinc 1 1, 3) := by decide +kernel
theorem dX0_raiseWater_32 : decode cX0_raiseWater 32 = .ok (.goto (-30), 3) := by decide +kernel
theorem dX0_raiseWater_35 : decode cX0_raiseWater 35 = .ok (.return_, 1) := by decide +kernel
set_option maxHeartbeats 4000000 in
theorem t_X0_raiseWater_2_b {X : sj_X} {s0 : sj_Mem} {N : Nat} {q : Unit × sj_Mem} {k2 : Nat → Int → sj_Mem → Option (Unit × sj_Mem)} (hk2 : ∀ (a0 : Nat) (x1 : Int) (s : sj_Mem), k2 a0 x1 s = some q → sj_T X m_X0_raiseWater s0 (none, q.2) 2 [some (sj_r (some a0)), some (sj_i x1)] [] s) :
    ∀ (a0 : Nat) (x1 : Int) (s : sj_Mem), f_X0_raiseWater_2_b N k2 a0 x1 s = some q → sj_T X m_X0_raiseWater s0 (none, q.2) 2 [some (sj_r (some a0)), some (sj_i x1)] [] s := by
  intro a0 x1 s h
  unfold f_X0_raiseWater_2_b at h
  refine r_iload_n (pc := 2) dX0_raiseWater_2 rfl rfl ?_
  refine r_aload_n (pc := 3) dX0_raiseWater_3 rfl rfl ?_
  refine r_gI (pc := 4) h dX0_raiseWater_4 fw_X0_52 rfl (fun v1 h => ?_)
  refine r_icmp_gt (pc := 7) (tgt := 35) h dX0_raiseWater_7 (by decide) (fun h => ?_) (fun h => ?_)
  · exact r_vret (pc := 35) h rfl dX0_raiseWater_35
  · refine r_aload_n (pc := 10) dX0_raiseWater_10 rfl rfl ?_
    refine r_gR (pc := 11) h dX0_raiseWater_11 fw_X0_18 rfl (fun r2 h => ?_)
    refine r_iload_n (pc := 14) dX0_raiseWater_14 rfl rfl ?_
    refine r_aload_n (pc := 15) dX0_raiseWater_15 rfl rfl ?_
    refine r_gR (pc := 16) h dX0_raiseWater_16 fw_X0_18 rfl (fun r3 h => ?_)
    refine r_iload_n (pc := 19) dX0_raiseWater_19 rfl rfl ?_
    obtain ⟨a4, ea4, g⟩ := e_nn_some h
    clear h
    subst ea4
    have h := g
    clear g
    refine r_iaload (pc := 20) h dX0_raiseWater_20 (fun v5 h => ?_)
    refine r_iconst (pc := 21) dX0_raiseWater_21 ?_
    refine r_iadd (pc := 22) dX0_raiseWater_22 ?_
    refine r_bipush (pc := 23) dX0_raiseWater_23 ⟨by decide, by decide⟩ ?_
    refine r_mmin (pc := 25) h dX0_raiseWater_25 mx_X0_87 (Nat.le_of_ble_eq_true rfl) (Nat.le_of_ble_eq_true rfl) (fun v6 h => ?_)
    obtain ⟨a7, ea7, g⟩ := e_nn_some h
    clear h
    subst ea7
    have h := g
    clear g
    refine r_iastore (pc := 28) h dX0_raiseWater_28 (fun s8 h => ?_)
    refine r_iinc (ln := fun w => [some (sj_r (some a0)), some (sj_i w)]) (pc := 29) h dX0_raiseWater_29 rfl (Nat.le_of_ble_eq_true rfl) (fun _ => rfl) (fun v9 h => ?_)
    refine r_goto (pc := 32) (tgt := 2) dX0_raiseWater_32 (by decide) ?_
    exact sj_weak (l2 := [some (sj_r (some a0)), some (sj_i v9)]) (⟨rfl, ⟨rfl, trivial⟩⟩) (hk2 a0 v9 s8 h)
set_option maxHeartbeats 4000000 in
theorem t_X0_raiseWater_2 {X : sj_X} {s0 : sj_Mem} {N : Nat} {q : Unit × sj_Mem} :
    ∀ (n : Nat) (a0 : Nat) (x1 : Int) (s : sj_Mem), f_X0_raiseWater_2 N n a0 x1 s = some q → sj_T X m_X0_raiseWater s0 (none, q.2) 2 [some (sj_r (some a0)), some (sj_i x1)] [] s := by
  intro n
  induction n with
  | zero => intro a0 x1 s h; exact nomatch h
  | succ n ih => intro a0 x1 s h; exact t_X0_raiseWater_2_b (N := N) ih a0 x1 s h
set_option maxHeartbeats 4000000 in
theorem t_X0_raiseWater_0 {X : sj_X} {s0 : sj_Mem} {N : Nat} {q : Unit × sj_Mem} :
    ∀ (a0 : Nat) (s : sj_Mem), f_X0_raiseWater N a0 s = some q → sj_T X m_X0_raiseWater s0 (none, q.2) 0 [some (sj_r (some a0)), none] [] s := by
  intro a0 s h
  unfold f_X0_raiseWater at h
  refine r_iconst (pc := 0) dX0_raiseWater_0 ?_
  refine r_istore_n (ln := [some (sj_r (some a0)), some (sj_i 0)]) (pc := 1) dX0_raiseWater_1 rfl (Nat.le_of_ble_eq_true rfl) rfl ?_
  exact sj_weak (l2 := [some (sj_r (some a0)), some (sj_i 0)]) (⟨rfl, ⟨rfl, trivial⟩⟩) (t_X0_raiseWater_2 N a0 0 s h)
set_option maxHeartbeats 4000000 in
theorem c_X0_raiseWater {X : sj_X} {N : Nat} {a0 : Nat} {s : sj_Mem} {q : Unit × sj_Mem} (h : f_X0_raiseWater N a0 s = some q) : sj_C X m_X0_raiseWater [sj_r (some a0)] s (none, q.2) :=
  sj_C_of (by decide +kernel) (Nat.le_of_ble_eq_true rfl) (lo := [some (sj_r (some a0)), none]) rfl (sj_weak (l2 := [some (sj_r (some a0)), none]) (⟨rfl, trivial⟩) (t_X0_raiseWater_0 a0 s h))
theorem dX0_turnRow_0 : decode cX0_turnRow 0 = .ok (.iconst 0, 1) := by decide +kernel
theorem dX0_turnRow_1 : decode cX0_turnRow 1 = .ok (.istore_n 3, 1) := by decide +kernel
theorem dX0_turnRow_2 : decode cX0_turnRow 2 = .ok (.iload_n 3, 1) := by decide +kernel
theorem dX0_turnRow_3 : decode cX0_turnRow 3 = .ok (.aload_n 0, 1) := by decide +kernel
theorem dX0_turnRow_4 : decode cX0_turnRow 4 = .ok (.getfield 52, 3) := by decide +kernel
theorem dX0_turnRow_7 : decode cX0_turnRow 7 = .ok (.iload_n 3, 1) := by decide +kernel
theorem dX0_turnRow_8 : decode cX0_turnRow 8 = .ok (.isub, 1) := by decide +kernel
theorem dX0_turnRow_9 : decode cX0_turnRow 9 = .ok (.if_icmp .ge 43, 3) := by decide +kernel
theorem dX0_turnRow_12 : decode cX0_turnRow 12 = .ok (.aload_n 1, 1) := by decide +kernel
theorem dX0_turnRow_13 : decode cX0_turnRow 13 = .ok (.iload_n 2, 1) := by decide +kernel
theorem dX0_turnRow_14 : decode cX0_turnRow 14 = .ok (.iload_n 3, 1) := by decide +kernel
theorem dX0_turnRow_15 : decode cX0_turnRow 15 = .ok (.iadd, 1) := by decide +kernel
theorem dX0_turnRow_16 : decode cX0_turnRow 16 = .ok (.iaload, 1) := by decide +kernel
theorem dX0_turnRow_17 : decode cX0_turnRow 17 = .ok (.istore 4, 2) := by decide +kernel
theorem dX0_turnRow_19 : decode cX0_turnRow 19 = .ok (.aload_n 1, 1) := by decide +kernel
theorem dX0_turnRow_20 : decode cX0_turnRow 20 = .ok (.iload_n 2, 1) := by decide +kernel
theorem dX0_turnRow_21 : decode cX0_turnRow 21 = .ok (.iload_n 3, 1) := by decide +kernel
theorem dX0_turnRow_22 : decode cX0_turnRow 22 = .ok (.iadd, 1) := by decide +kernel
theorem dX0_turnRow_23 : decode cX0_turnRow 23 = .ok (.aload_n 1, 1) := by decide +kernel
theorem dX0_turnRow_24 : decode cX0_turnRow 24 = .ok (.iload_n 2, 1) := by decide +kernel
theorem dX0_turnRow_25 : decode cX0_turnRow 25 = .ok (.aload_n 0, 1) := by decide +kernel
theorem dX0_turnRow_26 : decode cX0_turnRow 26 = .ok (.getfield 52, 3) := by decide +kernel
theorem dX0_turnRow_29 : decode cX0_turnRow 29 = .ok (.iadd, 1) := by decide +kernel
theorem dX0_turnRow_30 : decode cX0_turnRow 30 = .ok (.iload_n 3, 1) := by decide +kernel
theorem dX0_turnRow_31 : decode cX0_turnRow 31 = .ok (.isub, 1) := by decide +kernel
theorem dX0_turnRow_32 : decode cX0_turnRow 32 = .ok (.iaload, 1) := by decide +kernel
theorem dX0_turnRow_33 : decode cX0_turnRow 33 = .ok (.iastore, 1) := by decide +kernel
theorem dX0_turnRow_34 : decode cX0_turnRow 34 = .ok (.aload_n 1, 1) := by decide +kernel
theorem dX0_turnRow_35 : decode cX0_turnRow 35 = .ok (.iload_n 2, 1) := by decide +kernel
theorem dX0_turnRow_36 : decode cX0_turnRow 36 = .ok (.aload_n 0, 1) := by decide +kernel
theorem dX0_turnRow_37 : decode cX0_turnRow 37 = .ok (.getfield 52, 3) := by decide +kernel
theorem dX0_turnRow_40 : decode cX0_turnRow 40 = .ok (.iadd, 1) := by decide +kernel
theorem dX0_turnRow_41 : decode cX0_turnRow 41 = .ok (.iload_n 3, 1) := by decide +kernel
theorem dX0_turnRow_42 : decode cX0_turnRow 42 = .ok (.isub, 1) := by decide +kernel
theorem dX0_turnRow_43 : decode cX0_turnRow 43 = .ok (.iload 4, 2) := by decide +kernel
theorem dX0_turnRow_45 : decode cX0_turnRow 45 = .ok (.iastore, 1) := by decide +kernel
theorem dX0_turnRow_46 : decode cX0_turnRow 46 = .ok (.iinc 3 1, 3) := by decide +kernel
theorem dX0_turnRow_49 : decode cX0_turnRow 49 = .ok (.goto (-47), 3) := by decide +kernel
theorem dX0_turnRow_52 : decode cX0_turnRow 52 = .ok (.return_, 1) := by decide +kernel
set_option maxHeartbeats 4000000 in
theorem t_X0_turnRow_2_b {X : sj_X} {s0 : sj_Mem} {N : Nat} {q : Unit × sj_Mem} {k2 : Nat → Option Nat → Int → Int → sj_Mem → Option (Unit × sj_Mem)} (hk2 : ∀ (a0 : Nat) (x1 : Option Nat) (x2 : Int) (x3 : Int) (s : sj_Mem), k2 a0 x1 x2 x3 s = some q → sj_T X m_X0_turnRow s0 (none, q.2) 2 [some (sj_r (some a0)), some (sj_r x1), some (sj_i x2), some (sj_i x3), none] [] s) :
    ∀ (a0 : Nat) (x1 : Option Nat) (x2 : Int) (x3 : Int) (s : sj_Mem), f_X0_turnRow_2_b N k2 a0 x1 x2 x3 s = some q → sj_T X m_X0_turnRow s0 (none, q.2) 2 [some (sj_r (some a0)), some (sj_r x1), some (sj_i x2), some (sj_i x3), none] [] s := by
  intro a0 x1 x2 x3 s h
  unfold f_X0_turnRow_2_b at h
  refine r_iload_n (pc := 2) dX0_turnRow_2 rfl rfl ?_
  refine r_aload_n (pc := 3) dX0_turnRow_3 rfl rfl ?_
  refine r_gI (pc := 4) h dX0_turnRow_4 fw_X0_52 rfl (fun v1 h => ?_)
  refine r_iload_n (pc := 7) dX0_turnRow_7 rfl rfl ?_
  refine r_isub (pc := 8) dX0_turnRow_8 ?_
  refine r_icmp_ge (pc := 9) (tgt := 52) h dX0_turnRow_9 (by decide) (fun h => ?_) (fun h => ?_)
  · exact r_vret (pc := 52) h rfl dX0_turnRow_52
  · refine r_aload_n (pc := 12) dX0_turnRow_12 rfl rfl ?_
    refine r_iload_n (pc := 13) dX0_turnRow_13 rfl rfl ?_
    refine r_iload_n (pc := 14) dX0_turnRow_14 rfl rfl ?_
    refine r_iadd (pc := 15) dX0_turnRow_15 ?_
    obtain ⟨a2, ea2, g⟩ := e_nn_some h
    clear h
    subst ea2
    have h := g
    clear g
    refine r_iaload (pc := 16) h dX0_turnRow_16 (fun v3 h => ?_)
    refine r_istore (ln := [some (sj_r (some a0)), some (sj_r (some a2)), some (sj_i x2), some (sj_i x3), some (sj_i v3)]) (pc := 17) dX0_turnRow_17 (Nat.le_of_ble_eq_true rfl) rfl ?_
    refine r_aload_n (pc := 19) dX0_turnRow_19 rfl rfl ?_
    refine r_iload_n (pc := 20) dX0_turnRow_20 rfl rfl ?_
    refine r_iload_n (pc := 21) dX0_turnRow_21 rfl rfl ?_
    refine r_iadd (pc := 22) dX0_turnRow_22 ?_
    refine r_aload_n (pc := 23) dX0_turnRow_23 rfl rfl ?_
    refine r_iload_n (pc := 24) dX0_turnRow_24 rfl rfl ?_
    refine r_aload_n (pc := 25) dX0_turnRow_25 rfl rfl ?_
    refine r_gI (pc := 26) h dX0_turnRow_26 fw_X0_52 rfl (fun v4 h => ?_)
    refine r_iadd (pc := 29) dX0_turnRow_29 ?_
    refine r_iload_n (pc := 30) dX0_turnRow_30 rfl rfl ?_
    refine r_isub (pc := 31) dX0_turnRow_31 ?_
    refine r_iaload (pc := 32) h dX0_turnRow_32 (fun v5 h => ?_)
    refine r_iastore (pc := 33) h dX0_turnRow_33 (fun s6 h => ?_)
    refine r_aload_n (pc := 34) dX0_turnRow_34 rfl rfl ?_
    refine r_iload_n (pc := 35) dX0_turnRow_35 rfl rfl ?_
    refine r_aload_n (pc := 36) dX0_turnRow_36 rfl rfl ?_
    refine r_gI (pc := 37) h dX0_turnRow_37 fw_X0_52 rfl (fun v7 h => ?_)
    refine r_iadd (pc := 40) dX0_turnRow_40 ?_
    refine r_iload_n (pc := 41) dX0_turnRow_41 rfl rfl ?_
    refine r_isub (pc := 42) dX0_turnRow_42 ?_
    refine r_iload (pc := 43) dX0_turnRow_43 rfl ?_
    refine r_iastore (pc := 45) h dX0_turnRow_45 (fun s8 h => ?_)
    refine r_iinc (ln := fun w => [some (sj_r (some a0)), some (sj_r (some a2)), some (sj_i x2), some (sj_i w), some (sj_i v3)]) (pc := 46) h dX0_turnRow_46 rfl (Nat.le_of_ble_eq_true rfl) (fun _ => rfl) (fun v9 h => ?_)
    refine r_goto (pc := 49) (tgt := 2) dX0_turnRow_49 (by decide) ?_
    exact sj_weak (l2 := [some (sj_r (some a0)), some (sj_r (some a2)), some (sj_i x2), some (sj_i v9), none]) (⟨rfl, ⟨rfl, ⟨rfl, ⟨rfl, trivial⟩⟩⟩⟩) (hk2 a0 (some a2) x2 v9 s8 h)
set_option maxHeartbeats 4000000 in
theorem t_X0_turnRow_2 {X : sj_X} {s0 : sj_Mem} {N : Nat} {q : Unit × sj_Mem} :
    ∀ (n : Nat) (a0 : Nat) (x1 : Option Nat) (x2 : Int) (x3 : Int) (s : sj_Mem), f_X0_turnRow_2 N n a0 x1 x2 x3 s = some q → sj_T X m_X0_turnRow s0 (none, q.2) 2 [some (sj_r (some a0)), some (sj_r x1), some (sj_i x2), some (sj_i x3), none] [] s := by
  intro n
  induction n with
  | zero => intro a0 x1 x2 x3 s h; exact nomatch h
  | succ n ih => intro a0 x1 x2 x3 s h; exact t_X0_turnRow_2_b (N := N) ih a0 x1 x2 x3 s h
set_option maxHeartbeats 4000000 in
theorem t_X0_turnRow_0 {X : sj_X} {s0 : sj_Mem} {N : Nat} {q : Unit × sj_Mem} :
    ∀ (a0 : Nat) (x1 : Option Nat) (x2 : Int) (s : sj_Mem), f_X0_turnRow N a0 x1 x2 s = some q → sj_T X m_X0_turnRow s0 (none, q.2) 0 [some (sj_r (some a0)), some (sj_r x1), some (sj_i x2), none, none] [] s := by
  intro a0 x1 x2 s h
  unfold f_X0_turnRow at h
  refine r_iconst (pc := 0) dX0_turnRow_0 ?_
  refine r_istore_n (ln := [some (sj_r (some a0)), some (sj_r x1), some (sj_i x2), some (sj_i 0), none]) (pc := 1) dX0_turnRow_1 rfl (Nat.le_of_ble_eq_true rfl) rfl ?_
  exact sj_weak (l2 := [some (sj_r (some a0)), some (sj_r x1), some (sj_i x2), some (sj_i 0), none]) (⟨rfl, ⟨rfl, ⟨rfl, ⟨rfl, trivial⟩⟩⟩⟩) (t_X0_turnRow_2 N a0 x1 x2 0 s h)
set_option maxHeartbeats 4000000 in
theorem c_X0_turnRow {X : sj_X} {N : Nat} {a0 : Nat} {x1 : Option Nat} {x2 : Int} {s : sj_Mem} {q : Unit × sj_Mem} (h : f_X0_turnRow N a0 x1 x2 s = some q) : sj_C X m_X0_turnRow [sj_r (some a0), sj_r x1, sj_i x2] s (none, q.2) :=
  sj_C_of (by decide +kernel) (Nat.le_of_ble_eq_true rfl) (lo := [some (sj_r (some a0)), some (sj_r x1), some (sj_i x2), none, none]) rfl (sj_weak (l2 := [some (sj_r (some a0)), some (sj_r x1), some (sj_i x2), none, none]) (⟨rfl, ⟨rfl, ⟨rfl, trivial⟩⟩⟩) (t_X0_turnRow_0 a0 x1 x2 s h))
theorem dX0_turn_0 : decode cX0_turn 0 = .ok (.aload_n 0, 1) := by decide +kernel
theorem dX0_turn_1 : decode cX0_turn 1 = .ok (.aload_n 0, 1) := by decide +kernel
theorem dX0_turn_2 : decode cX0_turn 2 = .ok (.getfield 9, 3) := by decide +kernel
theorem dX0_turn_5 : decode cX0_turn 5 = .ok (.iconst 0, 1) := by decide +kernel
theorem dX0_turn_6 : decode cX0_turn 6 = .ok (.invokevirtual 125, 3) := by decide +kernel
theorem dX0_turn_9 : decode cX0_turn 9 = .ok (.aload_n 0, 1) := by decide +kernel
theorem dX0_turn_10 : decode cX0_turn 10 = .ok (.aload_n 0, 1) := by decide +kernel
theorem dX0_turn_11 : decode cX0_turn 11 = .ok (.getfield 15, 3) := by decide +kernel
theorem dX0_turn_14 : decode cX0_turn 14 = .ok (.iconst 0, 1) := by decide +kernel
theorem dX0_turn_15 : decode cX0_turn 15 = .ok (.invokevirtual 125, 3) := by decide +kernel
theorem dX0_turn_18 : decode cX0_turn 18 = .ok (.aload_n 0, 1) := by decide +kernel
theorem dX0_turn_19 : decode cX0_turn 19 = .ok (.aload_n 0, 1) := by decide +kernel
theorem dX0_turn_20 : decode cX0_turn 20 = .ok (.getfield 18, 3) := by decide +kernel
theorem dX0_turn_23 : decode cX0_turn 23 = .ok (.iconst 0, 1) := by decide +kernel
theorem dX0_turn_24 : decode cX0_turn 24 = .ok (.invokevirtual 125, 3) := by decide +kernel
theorem dX0_turn_27 : decode cX0_turn 27 = .ok (.aload_n 0, 1) := by decide +kernel
theorem dX0_turn_28 : decode cX0_turn 28 = .ok (.aload_n 0, 1) := by decide +kernel
theorem dX0_turn_29 : decode cX0_turn 29 = .ok (.getfield 21, 3) := by decide +kernel
theorem dX0_turn_32 : decode cX0_turn 32 = .ok (.iconst 0, 1) := by decide +kernel
theorem dX0_turn_33 : decode cX0_turn 33 = .ok (.invokevirtual 125, 3) := by decide +kernel
theorem dX0_turn_36 : decode cX0_turn 36 = .ok (.iconst 1, 1) := by decide +kernel
theorem dX0_turn_37 : decode cX0_turn 37 = .ok (.istore_n 1, 1) := by decide +kernel
theorem dX0_turn_38 : decode cX0_turn 38 = .ok (.iload_n 1, 1) := by decide +kernel
theorem dX0_turn_39 : decode cX0_turn 39 = .ok (.iconst 4, 1) := by decide +kernel
theorem dX0_turn_40 : decode cX0_turn 40 = .ok (.if_icmp .ge 22, 3) := by decide +kernel
theorem dX0_turn_43 : decode cX0_turn 43 = .ok (.aload_n 0, 1) := by decide +kernel
theorem dX0_turn_44 : decode cX0_turn 44 = .ok (.aload_n 0, 1) := by decide +kernel
theorem dX0_turn_45 : decode cX0_turn 45 = .ok (.getfield 24, 3) := by decide +kernel
theorem dX0_turn_48 : decode cX0_turn 48 = .ok (.iload_n 1, 1) := by decide +kernel
theorem dX0_turn_49 : decode cX0_turn 49 = .ok (.iconst 0, 1) := by decide +kernel
theorem dX0_turn_50 : decode cX0_turn 50 = .ok (.invokestatic 93, 3) := by decide +kernel
theorem dX0_turn_53 : decode cX0_turn 53 = .ok (.invokevirtual 125, 3) := by decide +kernel
theorem dX0_turn_56 : decode cX0_turn 56 = .ok (.iinc 1 1, 3) := by decide +kernel
theorem dX0_turn_59 : decode cX0_turn 59 = .ok (.goto (-21), 3) := by decide +kernel
theorem dX0_turn_62 : decode cX0_turn 62 = .ok (.iconst 0, 1) := by decide +kernel
theorem dX0_turn_63 : decode cX0_turn 63 = .ok (.istore_n 1, 1) := by decide +kernel
theorem dX0_turn_64 : decode cX0_turn 64 = .ok (.iload_n 1, 1) := by decide +kernel
theorem dX0_turn_65 : decode cX0_turn 65 = .ok (.bipush 6, 2) := by decide +kernel
theorem dX0_turn_67 : decode cX0_turn 67 = .ok (.if_icmp .ge 26, 3) := by decide +kernel
theorem dX0_turn_70 : decode cX0_turn 70 = .ok (.aload_n 0, 1) := by decide +kernel
theorem dX0_turn_71 : decode cX0_turn 71 = .ok (.getfield 36, 3) := by decide +kernel
theorem dX0_turn_74 : decode cX0_turn 74 = .ok (.iload_n 1, 1) := by decide +kernel
theorem dX0_turn_75 : decode cX0_turn 75 = .ok (.aload_n 0, 1) := by decide +kernel
theorem dX0_turn_76 : decode cX0_turn 76 = .ok (.getfield 52, 3) := by decide +kernel
theorem dX0_turn_79 : decode cX0_turn 79 = .ok (.aload_n 0, 1) := by decide +kernel
theorem dX0_turn_80 : decode cX0_turn 80 = .ok (.getfield 36, 3) := by decide +kernel
theorem dX0_turn_83 : decode cX0_turn 83 = .ok (.iload_n 1, 1) := by decide +kernel
theorem dX0_turn_84 : decode cX0_turn 84 = .ok (.iaload, 1) := by decide +kernel
theorem dX0_turn_85 : decode cX0_turn 85 = .ok (.isub, 1) := by decide +kernel
theorem dX0_turn_86 : decode cX0_turn 86 = .ok (.iastore, 1) := by decide +kernel
theorem dX0_turn_87 : decode cX0_turn 87 = .ok (.iinc 1 1, 3) := by decide +kernel
theorem dX0_turn_90 : decode cX0_turn 90 = .ok (.goto (-26), 3) := by decide +kernel
theorem dX0_turn_93 : decode cX0_turn 93 = .ok (.aload_n 0, 1) := by decide +kernel
theorem dX0_turn_94 : decode cX0_turn 94 = .ok (.aload_n 0, 1) := by decide +kernel
theorem dX0_turn_95 : decode cX0_turn 95 = .ok (.getfield 48, 3) := by decide +kernel
theorem dX0_turn_98 : decode cX0_turn 98 = .ok (.getfield 112, 3) := by decide +kernel
theorem dX0_turn_101 : decode cX0_turn 101 = .ok (.iconst 0, 1) := by decide +kernel
theorem dX0_turn_102 : decode cX0_turn 102 = .ok (.invokevirtual 125, 3) := by decide +kernel
theorem dX0_turn_105 : decode cX0_turn 105 = .ok (.aload_n 0, 1) := by decide +kernel
theorem dX0_turn_106 : decode cX0_turn 106 = .ok (.getfield 48, 3) := by decide +kernel
theorem dX0_turn_109 : decode cX0_turn 109 = .ok (.invokevirtual 102, 3) := by decide +kernel
theorem dX0_turn_112 : decode cX0_turn 112 = .ok (.ifCond .ne 65, 3) := by decide +kernel
theorem dX0_turn_115 : decode cX0_turn 115 = .ok (.aload_n 0, 1) := by decide +kernel
theorem dX0_turn_116 : decode cX0_turn 116 = .ok (.getfield 52, 3) := by decide +kernel
theorem dX0_turn_119 : decode cX0_turn 119 = .ok (.aload_n 0, 1) := by decide +kernel
theorem dX0_turn_120 : decode cX0_turn 120 = .ok (.getfield 48, 3) := by decide +kernel
theorem dX0_turn_123 : decode cX0_turn 123 = .ok (.getfield 109, 3) := by decide +kernel
theorem dX0_turn_126 : decode cX0_turn 126 = .ok (.isub, 1) := by decide +kernel
theorem dX0_turn_127 : decode cX0_turn 127 = .ok (.istore_n 1, 1) := by decide +kernel
theorem dX0_turn_128 : decode cX0_turn 128 = .ok (.aload_n 0, 1) := by decide +kernel
theorem dX0_turn_129 : decode cX0_turn 129 = .ok (.getfield 48, 3) := by decide +kernel
theorem dX0_turn_132 : decode cX0_turn 132 = .ok (.aload_n 0, 1) := by decide +kernel
theorem dX0_turn_133 : decode cX0_turn 133 = .ok (.getfield 52, 3) := by decide +kernel
theorem dX0_turn_136 : decode cX0_turn 136 = .ok (.aload_n 0, 1) := by decide +kernel
theorem dX0_turn_137 : decode cX0_turn 137 = .ok (.getfield 48, 3) := by decide +kernel
theorem dX0_turn_140 : decode cX0_turn 140 = .ok (.getfield 106, 3) := by decide +kernel
theorem dX0_turn_143 : decode cX0_turn 143 = .ok (.isub, 1) := by decide +kernel
theorem dX0_turn_144 : decode cX0_turn 144 = .ok (.putfield 109, 3) := by decide +kernel
theorem dX0_turn_147 : decode cX0_turn 147 = .ok (.aload_n 0, 1) := by decide +kernel
theorem dX0_turn_148 : decode cX0_turn 148 = .ok (.getfield 48, 3) := by decide +kernel
theorem dX0_turn_151 : decode cX0_turn 151 = .ok (.iload_n 1, 1) := by decide +kernel
theorem dX0_turn_152 : decode cX0_turn 152 = .ok (.putfield 106, 3) := by decide +kernel
theorem dX0_turn_155 : decode cX0_turn 155 = .ok (.aload_n 0, 1) := by decide +kernel
theorem dX0_turn_156 : decode cX0_turn 156 = .ok (.getfield 48, 3) := by decide +kernel
theorem dX0_turn_159 : decode cX0_turn 159 = .ok (.aload_n 0, 1) := by decide +kernel
theorem dX0_turn_160 : decode cX0_turn 160 = .ok (.getfield 48, 3) := by decide +kernel
theorem dX0_turn_163 : decode cX0_turn 163 = .ok (.getfield 128, 3) := by decide +kernel
theorem dX0_turn_166 : decode cX0_turn 166 = .ok (.ifCond .ne 7, 3) := by decide +kernel
theorem dX0_turn_169 : decode cX0_turn 169 = .ok (.iconst 1, 1) := by decide +kernel
theorem dX0_turn_170 : decode cX0_turn 170 = .ok (.goto 4, 3) := by decide +kernel
theorem dX0_turn_173 : decode cX0_turn 173 = .ok (.iconst 0, 1) := by decide +kernel
theorem dX0_turn_174 : decode cX0_turn 174 = .ok (.putfield 128, 3) := by decide +kernel
theorem dX0_turn_177 : decode cX0_turn 177 = .ok (.return_, 1) := by decide +kernel
set_option maxHeartbeats 4000000 in
theorem t_X0_turn_64_b {X : sj_X} {s0 : sj_Mem} {N : Nat} {q : Unit × sj_Mem} {k64 : Nat → Int → sj_Mem → Option (Unit × sj_Mem)} (hk64 : ∀ (a0 : Nat) (x1 : Int) (s : sj_Mem), k64 a0 x1 s = some q → sj_T X m_X0_turn s0 (none, q.2) 64 [some (sj_r (some a0)), some (sj_i x1)] [] s) :
    ∀ (a0 : Nat) (x1 : Int) (s : sj_Mem), f_X0_turn_64_b N k64 a0 x1 s = some q → sj_T X m_X0_turn s0 (none, q.2) 64 [some (sj_r (some a0)), some (sj_i x1)] [] s := by
  intro a0 x1 s h
  unfold f_X0_turn_64_b at h
  refine r_iload_n (pc := 64) dX0_turn_64 rfl rfl ?_
  refine r_bipush (pc := 65) dX0_turn_65 ⟨by decide, by decide⟩ ?_
  refine r_icmp_ge (pc := 67) (tgt := 93) h dX0_turn_67 (by decide) (fun h => ?_) (fun h => ?_)
  · refine r_aload_n (pc := 93) dX0_turn_93 rfl rfl ?_
    refine r_aload_n (pc := 94) dX0_turn_94 rfl rfl ?_
    refine r_gR (pc := 95) h dX0_turn_95 fw_X0_48 rfl (fun r1 h => ?_)
    obtain ⟨a2, ea2, g⟩ := e_nn_some h
    clear h
    subst ea2
    have h := g
    clear g
    refine r_gR (pc := 98) h dX0_turn_98 fw_X0_112 rfl (fun r3 h => ?_)
    refine r_iconst (pc := 101) dX0_turn_101 ?_
    refine r_callV (pc := 102) (fun _ => none) (As := [sj_r r3, sj_i 0]) (rest := []) h dX0_turn_102 mw_X0_125 vw_X0_turnRow (fun _ _ hc => c_X0_turnRow hc) rfl ⟨(Nat.le_of_ble_eq_true rfl), (Nat.le_of_ble_eq_true rfl)⟩ (Nat.le_of_ble_eq_true rfl) rfl (fun _u s4 h => ?_)
    refine r_aload_n (pc := 105) dX0_turn_105 rfl rfl ?_
    refine r_gR (pc := 106) h dX0_turn_106 fw_X0_48 rfl (fun r5 h => ?_)
    obtain ⟨a6, ea6, g⟩ := e_nn_some h
    clear h
    subst ea6
    have h := g
    clear g
    refine r_callV (pc := 109) (fun v => some (sj_i v)) (As := []) (rest := []) h dX0_turn_109 mw_X0_102 vw_X5_isNone (fun _ _ hc => c_X5_isNone hc) rfl ⟨(Nat.le_of_ble_eq_true rfl), (Nat.le_of_ble_eq_true rfl)⟩ (Nat.le_of_ble_eq_true rfl) rfl (fun v8 s7 h => ?_)
    refine r_if_ne (pc := 112) (tgt := 177) h dX0_turn_112 (by decide) (fun h => ?_) (fun h => ?_)
    · refine r_aload_n (pc := 115) dX0_turn_115 rfl rfl ?_
      refine r_gI (pc := 116) h dX0_turn_116 fw_X0_52 rfl (fun v9 h => ?_)
      refine r_aload_n (pc := 119) dX0_turn_119 rfl rfl ?_
      refine r_gR (pc := 120) h dX0_turn_120 fw_X0_48 rfl (fun r10 h => ?_)
      obtain ⟨a11, ea11, g⟩ := e_nn_some h
      clear h
      subst ea11
      have h := g
      clear g
      refine r_gI (pc := 123) h dX0_turn_123 fw_X0_109 rfl (fun v12 h => ?_)
      refine r_isub (pc := 126) dX0_turn_126 ?_
      refine r_istore_nL (ln := fun w => [some (sj_r (some a0)), some (sj_i w)]) (pc := 127) h dX0_turn_127 rfl (Nat.le_of_ble_eq_true rfl) (fun _ => rfl) (fun v13 h => ?_)
      refine r_aload_n (pc := 128) dX0_turn_128 rfl rfl ?_
      refine r_gR (pc := 129) h dX0_turn_129 fw_X0_48 rfl (fun r14 h => ?_)
      refine r_aload_n (pc := 132) dX0_turn_132 rfl rfl ?_
      refine r_gI (pc := 133) h dX0_turn_133 fw_X0_52 rfl (fun v15 h => ?_)
      refine r_aload_n (pc := 136) dX0_turn_136 rfl rfl ?_
      refine r_gR (pc := 137) h dX0_turn_137 fw_X0_48 rfl (fun r16 h => ?_)
      obtain ⟨a17, ea17, g⟩ := e_nn_some h
      clear h
      subst ea17
      have h := g
      clear g
      refine r_gI (pc := 140) h dX0_turn_140 fw_X0_106 rfl (fun v18 h => ?_)
      refine r_isub (pc := 143) dX0_turn_143 ?_
      obtain ⟨a19, ea19, g⟩ := e_nn_some h
      clear h
      subst ea19
      have h := g
      clear g
      refine r_pI (pc := 144) h dX0_turn_144 fw_X0_109 rfl rfl (fun _ hq => by cases hq; rfl) (fun s20 h => ?_)
      refine r_aload_n (pc := 147) dX0_turn_147 rfl rfl ?_
      refine r_gR (pc := 148) h dX0_turn_148 fw_X0_48 rfl (fun r21 h => ?_)
      refine r_iload_n (pc := 151) dX0_turn_151 rfl rfl ?_
      obtain ⟨a22, ea22, g⟩ := e_nn_some h
      clear h
      subst ea22
      have h := g
      clear g
      refine r_pI (pc := 152) h dX0_turn_152 fw_X0_106 rfl rfl (fun _ hq => by cases hq; rfl) (fun s23 h => ?_)
      refine r_aload_n (pc := 155) dX0_turn_155 rfl rfl ?_
      refine r_gR (pc := 156) h dX0_turn_156 fw_X0_48 rfl (fun r24 h => ?_)
      refine r_aload_n (pc := 159) dX0_turn_159 rfl rfl ?_
      refine r_gR (pc := 160) h dX0_turn_160 fw_X0_48 rfl (fun r25 h => ?_)
      obtain ⟨a26, ea26, g⟩ := e_nn_some h
      clear h
      subst ea26
      have h := g
      clear g
      refine r_gI (pc := 163) h dX0_turn_163 fw_X0_128 rfl (fun v27 h => ?_)
      refine r_if_ne (pc := 166) (tgt := 173) h dX0_turn_166 (by decide) (fun h => ?_) (fun h => ?_)
      · refine r_iconst (pc := 169) dX0_turn_169 ?_
        refine r_goto (pc := 170) (tgt := 174) dX0_turn_170 (by decide) ?_
        obtain ⟨a30, ea30, g⟩ := e_nn_some h
        clear h
        subst ea30
        have h := g
        clear g
        refine r_pZ (pc := 174) h dX0_turn_174 fw_X0_128 rfl rfl (fun _ hq => by cases hq; rfl) (fun s31 h => ?_)
        exact r_vret (pc := 177) h rfl dX0_turn_177
      · refine r_iconst (pc := 173) dX0_turn_173 ?_
        obtain ⟨a28, ea28, g⟩ := e_nn_some h
        clear h
        subst ea28
        have h := g
        clear g
        refine r_pZ (pc := 174) h dX0_turn_174 fw_X0_128 rfl rfl (fun _ hq => by cases hq; rfl) (fun s29 h => ?_)
        exact r_vret (pc := 177) h rfl dX0_turn_177
    · exact r_vret (pc := 177) h rfl dX0_turn_177
  · refine r_aload_n (pc := 70) dX0_turn_70 rfl rfl ?_
    refine r_gR (pc := 71) h dX0_turn_71 fw_X0_36 rfl (fun r32 h => ?_)
    refine r_iload_n (pc := 74) dX0_turn_74 rfl rfl ?_
    refine r_aload_n (pc := 75) dX0_turn_75 rfl rfl ?_
    refine r_gI (pc := 76) h dX0_turn_76 fw_X0_52 rfl (fun v33 h => ?_)
    refine r_aload_n (pc := 79) dX0_turn_79 rfl rfl ?_
    refine r_gR (pc := 80) h dX0_turn_80 fw_X0_36 rfl (fun r34 h => ?_)
    refine r_iload_n (pc := 83) dX0_turn_83 rfl rfl ?_
    obtain ⟨a35, ea35, g⟩ := e_nn_some h
    clear h
    subst ea35
    have h := g
    clear g
    refine r_iaload (pc := 84) h dX0_turn_84 (fun v36 h => ?_)
    refine r_isub (pc := 85) dX0_turn_85 ?_
    obtain ⟨a37, ea37, g⟩ := e_nn_some h
    clear h
    subst ea37
    have h := g
    clear g
    refine r_iastore (pc := 86) h dX0_turn_86 (fun s38 h => ?_)
    refine r_iinc (ln := fun w => [some (sj_r (some a0)), some (sj_i w)]) (pc := 87) h dX0_turn_87 rfl (Nat.le_of_ble_eq_true rfl) (fun _ => rfl) (fun v39 h => ?_)
    refine r_goto (pc := 90) (tgt := 64) dX0_turn_90 (by decide) ?_
    exact sj_weak (l2 := [some (sj_r (some a0)), some (sj_i v39)]) (⟨rfl, ⟨rfl, trivial⟩⟩) (hk64 a0 v39 s38 h)
set_option maxHeartbeats 4000000 in
theorem t_X0_turn_64 {X : sj_X} {s0 : sj_Mem} {N : Nat} {q : Unit × sj_Mem} :
    ∀ (n : Nat) (a0 : Nat) (x1 : Int) (s : sj_Mem), f_X0_turn_64 N n a0 x1 s = some q → sj_T X m_X0_turn s0 (none, q.2) 64 [some (sj_r (some a0)), some (sj_i x1)] [] s := by
  intro n
  induction n with
  | zero => intro a0 x1 s h; exact nomatch h
  | succ n ih => intro a0 x1 s h; exact t_X0_turn_64_b (N := N) ih a0 x1 s h
set_option maxHeartbeats 4000000 in
theorem t_X0_turn_38_b {X : sj_X} {s0 : sj_Mem} {N : Nat} {q : Unit × sj_Mem} {k38 : Nat → Int → sj_Mem → Option (Unit × sj_Mem)} (hk38 : ∀ (a0 : Nat) (x1 : Int) (s : sj_Mem), k38 a0 x1 s = some q → sj_T X m_X0_turn s0 (none, q.2) 38 [some (sj_r (some a0)), some (sj_i x1)] [] s) :
    ∀ (a0 : Nat) (x1 : Int) (s : sj_Mem), f_X0_turn_38_b N k38 a0 x1 s = some q → sj_T X m_X0_turn s0 (none, q.2) 38 [some (sj_r (some a0)), some (sj_i x1)] [] s := by
  intro a0 x1 s h
  unfold f_X0_turn_38_b at h
  refine r_iload_n (pc := 38) dX0_turn_38 rfl rfl ?_
  refine r_iconst (pc := 39) dX0_turn_39 ?_
  refine r_icmp_ge (pc := 40) (tgt := 62) h dX0_turn_40 (by decide) (fun h => ?_) (fun h => ?_)
  · refine r_iconst (pc := 62) dX0_turn_62 ?_
    refine r_istore_n (ln := [some (sj_r (some a0)), some (sj_i 0)]) (pc := 63) dX0_turn_63 rfl (Nat.le_of_ble_eq_true rfl) rfl ?_
    exact sj_weak (l2 := [some (sj_r (some a0)), some (sj_i 0)]) (⟨rfl, ⟨rfl, trivial⟩⟩) (t_X0_turn_64 N a0 0 s h)
  · refine r_aload_n (pc := 43) dX0_turn_43 rfl rfl ?_
    refine r_aload_n (pc := 44) dX0_turn_44 rfl rfl ?_
    refine r_gR (pc := 45) h dX0_turn_45 fw_X0_24 rfl (fun r1 h => ?_)
    refine r_iload_n (pc := 48) dX0_turn_48 rfl rfl ?_
    refine r_iconst (pc := 49) dX0_turn_49 ?_
    refine r_callS (pc := 50) (fun v => some (sj_i v)) (As := [sj_i x1, sj_i 0]) (rest := [(sj_r r1), (sj_r (some a0))]) h dX0_turn_50 mw_X0_93 kw_407 (fun _ _ hc => c_X8_topPlace hc) rfl ⟨(Nat.le_of_ble_eq_true rfl), (Nat.le_of_ble_eq_true rfl)⟩ (Nat.le_of_ble_eq_true rfl) rfl (fun v3 s2 h => ?_)
    refine r_callV (pc := 53) (fun _ => none) (As := [sj_r r1, sj_i v3]) (rest := []) h dX0_turn_53 mw_X0_125 vw_X0_turnRow (fun _ _ hc => c_X0_turnRow hc) rfl ⟨(Nat.le_of_ble_eq_true rfl), (Nat.le_of_ble_eq_true rfl)⟩ (Nat.le_of_ble_eq_true rfl) rfl (fun _u s4 h => ?_)
    refine r_iinc (ln := fun w => [some (sj_r (some a0)), some (sj_i w)]) (pc := 56) h dX0_turn_56 rfl (Nat.le_of_ble_eq_true rfl) (fun _ => rfl) (fun v5 h => ?_)
    refine r_goto (pc := 59) (tgt := 38) dX0_turn_59 (by decide) ?_
    exact sj_weak (l2 := [some (sj_r (some a0)), some (sj_i v5)]) (⟨rfl, ⟨rfl, trivial⟩⟩) (hk38 a0 v5 s4 h)
set_option maxHeartbeats 4000000 in
theorem t_X0_turn_38 {X : sj_X} {s0 : sj_Mem} {N : Nat} {q : Unit × sj_Mem} :
    ∀ (n : Nat) (a0 : Nat) (x1 : Int) (s : sj_Mem), f_X0_turn_38 N n a0 x1 s = some q → sj_T X m_X0_turn s0 (none, q.2) 38 [some (sj_r (some a0)), some (sj_i x1)] [] s := by
  intro n
  induction n with
  | zero => intro a0 x1 s h; exact nomatch h
  | succ n ih => intro a0 x1 s h; exact t_X0_turn_38_b (N := N) ih a0 x1 s h
set_option maxHeartbeats 4000000 in
theorem t_X0_turn_0 {X : sj_X} {s0 : sj_Mem} {N : Nat} {q : Unit × sj_Mem} :
    ∀ (a0 : Nat) (s : sj_Mem), f_X0_turn N a0 s = some q → sj_T X m_X0_turn s0 (none, q.2) 0 [some (sj_r (some a0)), none] [] s := by
  intro a0 s h
  unfold f_X0_turn at h
  refine r_aload_n (pc := 0) dX0_turn_0 rfl rfl ?_
  refine r_aload_n (pc := 1) dX0_turn_1 rfl rfl ?_
  refine r_gR (pc := 2) h dX0_turn_2 fw_X0_9 rfl (fun r1 h => ?_)
  refine r_iconst (pc := 5) dX0_turn_5 ?_
  refine r_callV (pc := 6) (fun _ => none) (As := [sj_r r1, sj_i 0]) (rest := []) h dX0_turn_6 mw_X0_125 vw_X0_turnRow (fun _ _ hc => c_X0_turnRow hc) rfl ⟨(Nat.le_of_ble_eq_true rfl), (Nat.le_of_ble_eq_true rfl)⟩ (Nat.le_of_ble_eq_true rfl) rfl (fun _u s2 h => ?_)
  refine r_aload_n (pc := 9) dX0_turn_9 rfl rfl ?_
  refine r_aload_n (pc := 10) dX0_turn_10 rfl rfl ?_
  refine r_gR (pc := 11) h dX0_turn_11 fw_X0_15 rfl (fun r3 h => ?_)
  refine r_iconst (pc := 14) dX0_turn_14 ?_
  refine r_callV (pc := 15) (fun _ => none) (As := [sj_r r3, sj_i 0]) (rest := []) h dX0_turn_15 mw_X0_125 vw_X0_turnRow (fun _ _ hc => c_X0_turnRow hc) rfl ⟨(Nat.le_of_ble_eq_true rfl), (Nat.le_of_ble_eq_true rfl)⟩ (Nat.le_of_ble_eq_true rfl) rfl (fun _u s4 h => ?_)
  refine r_aload_n (pc := 18) dX0_turn_18 rfl rfl ?_
  refine r_aload_n (pc := 19) dX0_turn_19 rfl rfl ?_
  refine r_gR (pc := 20) h dX0_turn_20 fw_X0_18 rfl (fun r5 h => ?_)
  refine r_iconst (pc := 23) dX0_turn_23 ?_
  refine r_callV (pc := 24) (fun _ => none) (As := [sj_r r5, sj_i 0]) (rest := []) h dX0_turn_24 mw_X0_125 vw_X0_turnRow (fun _ _ hc => c_X0_turnRow hc) rfl ⟨(Nat.le_of_ble_eq_true rfl), (Nat.le_of_ble_eq_true rfl)⟩ (Nat.le_of_ble_eq_true rfl) rfl (fun _u s6 h => ?_)
  refine r_aload_n (pc := 27) dX0_turn_27 rfl rfl ?_
  refine r_aload_n (pc := 28) dX0_turn_28 rfl rfl ?_
  refine r_gR (pc := 29) h dX0_turn_29 fw_X0_21 rfl (fun r7 h => ?_)
  refine r_iconst (pc := 32) dX0_turn_32 ?_
  refine r_callV (pc := 33) (fun _ => none) (As := [sj_r r7, sj_i 0]) (rest := []) h dX0_turn_33 mw_X0_125 vw_X0_turnRow (fun _ _ hc => c_X0_turnRow hc) rfl ⟨(Nat.le_of_ble_eq_true rfl), (Nat.le_of_ble_eq_true rfl)⟩ (Nat.le_of_ble_eq_true rfl) rfl (fun _u s8 h => ?_)
  refine r_iconst (pc := 36) dX0_turn_36 ?_
  refine r_istore_n (ln := [some (sj_r (some a0)), some (sj_i 1)]) (pc := 37) dX0_turn_37 rfl (Nat.le_of_ble_eq_true rfl) rfl ?_
  exact sj_weak (l2 := [some (sj_r (some a0)), some (sj_i 1)]) (⟨rfl, ⟨rfl, trivial⟩⟩) (t_X0_turn_38 N a0 1 s8 h)
set_option maxHeartbeats 4000000 in
theorem c_X0_turn {X : sj_X} {N : Nat} {a0 : Nat} {s : sj_Mem} {q : Unit × sj_Mem} (h : f_X0_turn N a0 s = some q) : sj_C X m_X0_turn [sj_r (some a0)] s (none, q.2) :=
  sj_C_of (by decide +kernel) (Nat.le_of_ble_eq_true rfl) (lo := [some (sj_r (some a0)), none]) rfl (sj_weak (l2 := [some (sj_r (some a0)), none]) (⟨rfl, trivial⟩) (t_X0_turn_0 a0 s h))
theorem dX1_init_0 : decode cX1_init 0 = .ok (.aload_n 0, 1) := by decide +kernel
theorem dX1_init_1 : decode cX1_init 1 = .ok (.invokespecial 3, 3) := by decide +kernel
theorem dX1_init_4 : decode cX1_init 4 = .ok (.aload_n 0, 1) := by decide +kernel
theorem dX1_init_5 : decode cX1_init 5 = .ok (.bipush 12, 2) := by decide +kernel
theorem dX1_init_7 : decode cX1_init 7 = .ok (.newarray .int, 2) := by decide +kernel
theorem dX1_init_9 : decode cX1_init 9 = .ok (.putfield 9, 3) := by decide +kernel
theorem dX1_init_12 : decode cX1_init 12 = .ok (.aload_n 0, 1) := by decide +kernel
theorem dX1_init_13 : decode cX1_init 13 = .ok (.bipush 12, 2) := by decide +kernel
theorem dX1_init_15 : decode cX1_init 15 = .ok (.newarray .int, 2) := by decide +kernel
theorem dX1_init_17 : decode cX1_init 17 = .ok (.putfield 15, 3) := by decide +kernel
theorem dX1_init_20 : decode cX1_init 20 = .ok (.return_, 1) := by decide +kernel
set_option maxHeartbeats 4000000 in
theorem t_X1_init_0 {X : sj_X} {s0 : sj_Mem} {N : Nat} {q : Unit × sj_Mem} :
    ∀ (a0 : Nat) (s : sj_Mem), f_X1_init N a0 s = some q → sj_T X m_X1_init s0 (none, q.2) 0 [some (sj_r (some a0))] [] s := by
  intro a0 s h
  unfold f_X1_init at h
  refine r_aload_n (pc := 0) dX1_init_0 rfl rfl ?_
  refine r_oinit (pc := 1) dX1_init_1 ow_X1_3 (Nat.le_of_ble_eq_true rfl) (Nat.le_of_ble_eq_true rfl) ?_
  refine r_aload_n (pc := 4) dX1_init_4 rfl rfl ?_
  refine r_bipush (pc := 5) dX1_init_5 ⟨by decide, by decide⟩ ?_
  refine r_nA_I (pc := 7) h dX1_init_7 kw_62 (fun a1 s2 h => ?_)
  refine r_pF (pc := 9) h dX1_init_9 ff_X1_9 rfl rfl (Or.inr ⟨_, rfl⟩) (fun s3 h => ?_)
  refine r_aload_n (pc := 12) dX1_init_12 rfl rfl ?_
  refine r_bipush (pc := 13) dX1_init_13 ⟨by decide, by decide⟩ ?_
  refine r_nA_I (pc := 15) h dX1_init_15 kw_62 (fun a4 s5 h => ?_)
  refine r_pF (pc := 17) h dX1_init_17 ff_X1_15 rfl rfl (Or.inr ⟨_, rfl⟩) (fun s6 h => ?_)
  exact r_vret (pc := 20) h rfl dX1_init_20
set_option maxHeartbeats 4000000 in
theorem c_X1_init {X : sj_X} {N : Nat} {a0 : Nat} {s : sj_Mem} {q : Unit × sj_Mem} (h : f_X1_init N a0 s = some q) : sj_C X m_X1_init [sj_r (some a0)] s (none, q.2) :=
  sj_C_of (by decide +kernel) (Nat.le_of_ble_eq_true rfl) (lo := [some (sj_r (some a0))]) rfl (sj_weak (l2 := [some (sj_r (some a0))]) (⟨rfl, trivial⟩) (t_X1_init_0 a0 s h))
theorem dX1_copy_0 : decode cX1_copy 0 = .ok (.aload_n 1, 1) := by decide +kernel
theorem dX1_copy_1 : decode cX1_copy 1 = .ok (.getfield 9, 3) := by decide +kernel
theorem dX1_copy_4 : decode cX1_copy 4 = .ok (.iconst 0, 1) := by decide +kernel
theorem dX1_copy_5 : decode cX1_copy 5 = .ok (.aload_n 0, 1) := by decide +kernel
theorem dX1_copy_6 : decode cX1_copy 6 = .ok (.getfield 9, 3) := by decide +kernel
theorem dX1_copy_9 : decode cX1_copy 9 = .ok (.iconst 0, 1) := by decide +kernel
theorem dX1_copy_10 : decode cX1_copy 10 = .ok (.bipush 12, 2) := by decide +kernel
theorem dX1_copy_12 : decode cX1_copy 12 = .ok (.invokestatic 18, 3) := by decide +kernel
theorem dX1_copy_15 : decode cX1_copy 15 = .ok (.aload_n 1, 1) := by decide +kernel
theorem dX1_copy_16 : decode cX1_copy 16 = .ok (.getfield 15, 3) := by decide +kernel
theorem dX1_copy_19 : decode cX1_copy 19 = .ok (.iconst 0, 1) := by decide +kernel
theorem dX1_copy_20 : decode cX1_copy 20 = .ok (.aload_n 0, 1) := by decide +kernel
theorem dX1_copy_21 : decode cX1_copy 21 = .ok (.getfield 15, 3) := by decide +kernel
theorem dX1_copy_24 : decode cX1_copy 24 = .ok (.iconst 0, 1) := by decide +kernel
theorem dX1_copy_25 : decode cX1_copy 25 = .ok (.bipush 12, 2) := by decide +kernel
theorem dX1_copy_27 : decode cX1_copy 27 = .ok (.invokestatic 18, 3) := by decide +kernel
theorem dX1_copy_30 : decode cX1_copy 30 = .ok (.aload_n 0, 1) := by decide +kernel
theorem dX1_copy_31 : decode cX1_copy 31 = .ok (.aload_n 1, 1) := by decide +kernel
theorem dX1_copy_32 : decode cX1_copy 32 = .ok (.getfield 24, 3) := by decide +kernel
theorem dX1_copy_35 : decode cX1_copy 35 = .ok (.putfield 24, 3) := by decide +kernel
theorem dX1_copy_38 : decode cX1_copy 38 = .ok (.aload_n 0, 1) := by decide +kernel
theorem dX1_copy_39 : decode cX1_copy 39 = .ok (.aload_n 1, 1) := by decide +kernel
theorem dX1_copy_40 : decode cX1_copy 40 = .ok (.getfield 28, 3) := by decide +kernel
theorem dX1_copy_43 : decode cX1_copy 43 = .ok (.putfield 28, 3) := by decide +kernel
theorem dX1_copy_46 : decode cX1_copy 46 = .ok (.return_, 1) := by decide +kernel
set_option maxHeartbeats 4000000 in
theorem t_X1_copy_0 {X : sj_X} {s0 : sj_Mem} {N : Nat} {q : Unit × sj_Mem} :
    ∀ (a0 : Nat) (x1 : Option Nat) (s : sj_Mem), f_X1_copy N a0 x1 s = some q → sj_T X m_X1_copy s0 (none, q.2) 0 [some (sj_r (some a0)), some (sj_r x1)] [] s := by
  intro a0 x1 s h
  unfold f_X1_copy at h
  refine r_aload_n (pc := 0) dX1_copy_0 rfl rfl ?_
  obtain ⟨a1, ea1, g⟩ := e_nn_some h
  clear h
  subst ea1
  have h := g
  clear g
  refine r_gR (pc := 1) h dX1_copy_1 fw_X1_9 rfl (fun r2 h => ?_)
  refine r_iconst (pc := 4) dX1_copy_4 ?_
  refine r_aload_n (pc := 5) dX1_copy_5 rfl rfl ?_
  refine r_gR (pc := 6) h dX1_copy_6 fw_X1_9 rfl (fun r3 h => ?_)
  refine r_iconst (pc := 9) dX1_copy_9 ?_
  refine r_bipush (pc := 10) dX1_copy_10 ⟨by decide, by decide⟩ ?_
  obtain ⟨a4, ea4, g⟩ := e_nn_some h
  clear h
  subst ea4
  have h := g
  clear g
  obtain ⟨a5, ea5, g⟩ := e_nn_some h
  clear h
  subst ea5
  have h := g
  clear g
  refine r_copy (pc := 12) h dX1_copy_12 yw_X1_18 (Nat.le_of_ble_eq_true rfl) (Nat.le_of_ble_eq_true rfl) (fun s6 h => ?_)
  refine r_aload_n (pc := 15) dX1_copy_15 rfl rfl ?_
  refine r_gR (pc := 16) h dX1_copy_16 fw_X1_15 rfl (fun r7 h => ?_)
  refine r_iconst (pc := 19) dX1_copy_19 ?_
  refine r_aload_n (pc := 20) dX1_copy_20 rfl rfl ?_
  refine r_gR (pc := 21) h dX1_copy_21 fw_X1_15 rfl (fun r8 h => ?_)
  refine r_iconst (pc := 24) dX1_copy_24 ?_
  refine r_bipush (pc := 25) dX1_copy_25 ⟨by decide, by decide⟩ ?_
  obtain ⟨a9, ea9, g⟩ := e_nn_some h
  clear h
  subst ea9
  have h := g
  clear g
  obtain ⟨a10, ea10, g⟩ := e_nn_some h
  clear h
  subst ea10
  have h := g
  clear g
  refine r_copy (pc := 27) h dX1_copy_27 yw_X1_18 (Nat.le_of_ble_eq_true rfl) (Nat.le_of_ble_eq_true rfl) (fun s11 h => ?_)
  refine r_aload_n (pc := 30) dX1_copy_30 rfl rfl ?_
  refine r_aload_n (pc := 31) dX1_copy_31 rfl rfl ?_
  refine r_gI (pc := 32) h dX1_copy_32 fw_X1_24 rfl (fun v12 h => ?_)
  refine r_pI (pc := 35) h dX1_copy_35 fw_X1_24 rfl rfl (fun _ hq => by cases hq; rfl) (fun s13 h => ?_)
  refine r_aload_n (pc := 38) dX1_copy_38 rfl rfl ?_
  refine r_aload_n (pc := 39) dX1_copy_39 rfl rfl ?_
  refine r_gI (pc := 40) h dX1_copy_40 fw_X1_28 rfl (fun v14 h => ?_)
  refine r_pI (pc := 43) h dX1_copy_43 fw_X1_28 rfl rfl (fun _ hq => by cases hq; rfl) (fun s15 h => ?_)
  exact r_vret (pc := 46) h rfl dX1_copy_46
set_option maxHeartbeats 4000000 in
theorem c_X1_copy {X : sj_X} {N : Nat} {a0 : Nat} {x1 : Option Nat} {s : sj_Mem} {q : Unit × sj_Mem} (h : f_X1_copy N a0 x1 s = some q) : sj_C X m_X1_copy [sj_r (some a0), sj_r x1] s (none, q.2) :=
  sj_C_of (by decide +kernel) (Nat.le_of_ble_eq_true rfl) (lo := [some (sj_r (some a0)), some (sj_r x1)]) rfl (sj_weak (l2 := [some (sj_r (some a0)), some (sj_r x1)]) (⟨rfl, ⟨rfl, trivial⟩⟩) (t_X1_copy_0 a0 x1 s h))
theorem dX1_draw_0 : decode cX1_draw 0 = .ok (.aload_n 0, 1) := by decide +kernel
theorem dX1_draw_1 : decode cX1_draw 1 = .ok (.ldc 31, 2) := by decide +kernel
theorem dX1_draw_3 : decode cX1_draw 3 = .ok (.aload_n 0, 1) := by decide +kernel
theorem dX1_draw_4 : decode cX1_draw 4 = .ok (.getfield 28, 3) := by decide +kernel
theorem dX1_draw_7 : decode cX1_draw 7 = .ok (.imul, 1) := by decide +kernel
theorem dX1_draw_8 : decode cX1_draw 8 = .ok (.ldc 32, 2) := by decide +kernel
theorem dX1_draw_10 : decode cX1_draw 10 = .ok (.iadd, 1) := by decide +kernel
theorem dX1_draw_11 : decode cX1_draw 11 = .ok (.putfield 28, 3) := by decide +kernel
theorem dX1_draw_14 : decode cX1_draw 14 = .ok (.iload_n 1, 1) := by decide +kernel
theorem dX1_draw_15 : decode cX1_draw 15 = .ok (.ifCond .gt 7, 3) := by decide +kernel
theorem dX1_draw_18 : decode cX1_draw 18 = .ok (.iconst 0, 1) := by decide +kernel
theorem dX1_draw_19 : decode cX1_draw 19 = .ok (.goto 12, 3) := by decide +kernel
theorem dX1_draw_22 : decode cX1_draw 22 = .ok (.aload_n 0, 1) := by decide +kernel
theorem dX1_draw_23 : decode cX1_draw 23 = .ok (.getfield 28, 3) := by decide +kernel
theorem dX1_draw_26 : decode cX1_draw 26 = .ok (.bipush 8, 2) := by decide +kernel
theorem dX1_draw_28 : decode cX1_draw 28 = .ok (.iushr, 1) := by decide +kernel
theorem dX1_draw_29 : decode cX1_draw 29 = .ok (.iload_n 1, 1) := by decide +kernel
theorem dX1_draw_30 : decode cX1_draw 30 = .ok (.irem, 1) := by decide +kernel
theorem dX1_draw_31 : decode cX1_draw 31 = .ok (.ireturn, 1) := by decide +kernel
set_option maxHeartbeats 4000000 in
theorem t_X1_draw_0 {X : sj_X} {s0 : sj_Mem} {N : Nat} {q : Int × sj_Mem} :
    ∀ (a0 : Nat) (x1 : Int) (s : sj_Mem), f_X1_draw N a0 x1 s = some q → sj_T X m_X1_draw s0 (some (sj_i q.1), q.2) 0 [some (sj_r (some a0)), some (sj_i x1)] [] s := by
  intro a0 x1 s h
  unfold f_X1_draw at h
  refine r_aload_n (pc := 0) dX1_draw_0 rfl rfl ?_
  refine r_ldc (n := 1664525) (pc := 1) dX1_draw_1 kc_X1_31 ?_
  refine r_aload_n (pc := 3) dX1_draw_3 rfl rfl ?_
  refine r_gI (pc := 4) h dX1_draw_4 fw_X1_28 rfl (fun v1 h => ?_)
  refine r_imul (pc := 7) dX1_draw_7 ?_
  refine r_ldc (n := 1013904223) (pc := 8) dX1_draw_8 kc_X1_32 ?_
  refine r_iadd (pc := 10) dX1_draw_10 ?_
  refine r_pI (pc := 11) h dX1_draw_11 fw_X1_28 rfl rfl (fun _ hq => by cases hq; rfl) (fun s2 h => ?_)
  refine r_iload_n (pc := 14) dX1_draw_14 rfl rfl ?_
  refine r_if_gt (pc := 15) (tgt := 22) h dX1_draw_15 (by decide) (fun h => ?_) (fun h => ?_)
  · refine r_aload_n (pc := 22) dX1_draw_22 rfl rfl ?_
    refine r_gI (pc := 23) h dX1_draw_23 fw_X1_28 rfl (fun v3 h => ?_)
    refine r_bipush (pc := 26) dX1_draw_26 ⟨by decide, by decide⟩ ?_
    refine r_iushr (pc := 28) h dX1_draw_28 (fun v4 h => ?_)
    refine r_iload_n (pc := 29) dX1_draw_29 rfl rfl ?_
    refine r_irem (pc := 30) h dX1_draw_30 (fun v5 h => ?_)
    exact r_iret (pc := 31) h rfl dX1_draw_31
  · refine r_iconst (pc := 18) dX1_draw_18 ?_
    refine r_goto (pc := 19) (tgt := 31) dX1_draw_19 (by decide) ?_
    exact r_iret (pc := 31) h rfl dX1_draw_31
set_option maxHeartbeats 4000000 in
theorem c_X1_draw {X : sj_X} {N : Nat} {a0 : Nat} {x1 : Int} {s : sj_Mem} {q : Int × sj_Mem} (h : f_X1_draw N a0 x1 s = some q) : sj_C X m_X1_draw [sj_r (some a0), sj_i x1] s (some (sj_i q.1), q.2) :=
  sj_C_of (by decide +kernel) (Nat.le_of_ble_eq_true rfl) (lo := [some (sj_r (some a0)), some (sj_i x1)]) rfl (sj_weak (l2 := [some (sj_r (some a0)), some (sj_i x1)]) (⟨rfl, ⟨rfl, trivial⟩⟩) (t_X1_draw_0 a0 x1 s h))
theorem dX2_init_0 : decode cX2_init 0 = .ok (.aload_n 0, 1) := by decide +kernel
theorem dX2_init_1 : decode cX2_init 1 = .ok (.invokespecial 3, 3) := by decide +kernel
theorem dX2_init_4 : decode cX2_init 4 = .ok (.aload_n 0, 1) := by decide +kernel
theorem dX2_init_5 : decode cX2_init 5 = .ok (.bipush 16, 2) := by decide +kernel
theorem dX2_init_7 : decode cX2_init 7 = .ok (.newarray .int, 2) := by decide +kernel
theorem dX2_init_9 : decode cX2_init 9 = .ok (.putfield 9, 3) := by decide +kernel
theorem dX2_init_12 : decode cX2_init 12 = .ok (.return_, 1) := by decide +kernel
set_option maxHeartbeats 4000000 in
theorem t_X2_init_0 {X : sj_X} {s0 : sj_Mem} {N : Nat} {q : Unit × sj_Mem} :
    ∀ (a0 : Nat) (s : sj_Mem), f_X2_init N a0 s = some q → sj_T X m_X2_init s0 (none, q.2) 0 [some (sj_r (some a0))] [] s := by
  intro a0 s h
  unfold f_X2_init at h
  refine r_aload_n (pc := 0) dX2_init_0 rfl rfl ?_
  refine r_oinit (pc := 1) dX2_init_1 ow_X2_3 (Nat.le_of_ble_eq_true rfl) (Nat.le_of_ble_eq_true rfl) ?_
  refine r_aload_n (pc := 4) dX2_init_4 rfl rfl ?_
  refine r_bipush (pc := 5) dX2_init_5 ⟨by decide, by decide⟩ ?_
  refine r_nA_I (pc := 7) h dX2_init_7 kw_62 (fun a1 s2 h => ?_)
  refine r_pF (pc := 9) h dX2_init_9 ff_X2_9 rfl rfl (Or.inr ⟨_, rfl⟩) (fun s3 h => ?_)
  exact r_vret (pc := 12) h rfl dX2_init_12
set_option maxHeartbeats 4000000 in
theorem c_X2_init {X : sj_X} {N : Nat} {a0 : Nat} {s : sj_Mem} {q : Unit × sj_Mem} (h : f_X2_init N a0 s = some q) : sj_C X m_X2_init [sj_r (some a0)] s (none, q.2) :=
  sj_C_of (by decide +kernel) (Nat.le_of_ble_eq_true rfl) (lo := [some (sj_r (some a0))]) rfl (sj_weak (l2 := [some (sj_r (some a0))]) (⟨rfl, trivial⟩) (t_X2_init_0 a0 s h))
theorem dX2_write_0 : decode cX2_write 0 = .ok (.aload_n 0, 1) := by decide +kernel
theorem dX2_write_1 : decode cX2_write 1 = .ok (.getfield 15, 3) := by decide +kernel
theorem dX2_write_4 : decode cX2_write 4 = .ok (.bipush 16, 2) := by decide +kernel
theorem dX2_write_6 : decode cX2_write 6 = .ok (.if_icmp .ge 23, 3) := by decide +kernel
theorem dX2_write_9 : decode cX2_write 9 = .ok (.aload_n 0, 1) := by decide +kernel
theorem dX2_write_10 : decode cX2_write 10 = .ok (.getfield 9, 3) := by decide +kernel
theorem dX2_write_13 : decode cX2_write 13 = .ok (.aload_n 0, 1) := by decide +kernel
theorem dX2_write_14 : decode cX2_write 14 = .ok (.getfield 15, 3) := by decide +kernel
theorem dX2_write_17 : decode cX2_write 17 = .ok (.iload_n 1, 1) := by decide +kernel
theorem dX2_write_18 : decode cX2_write 18 = .ok (.iastore, 1) := by decide +kernel
theorem dX2_write_19 : decode cX2_write 19 = .ok (.aload_n 0, 1) := by decide +kernel
theorem dX2_write_20 : decode cX2_write 20 = .ok (.dup, 1) := by decide +kernel
theorem dX2_write_21 : decode cX2_write 21 = .ok (.getfield 15, 3) := by decide +kernel
theorem dX2_write_24 : decode cX2_write 24 = .ok (.iconst 1, 1) := by decide +kernel
theorem dX2_write_25 : decode cX2_write 25 = .ok (.iadd, 1) := by decide +kernel
theorem dX2_write_26 : decode cX2_write 26 = .ok (.putfield 15, 3) := by decide +kernel
theorem dX2_write_29 : decode cX2_write 29 = .ok (.return_, 1) := by decide +kernel
set_option maxHeartbeats 4000000 in
theorem t_X2_write_0 {X : sj_X} {s0 : sj_Mem} {N : Nat} {q : Unit × sj_Mem} :
    ∀ (a0 : Nat) (x1 : Int) (s : sj_Mem), f_X2_write N a0 x1 s = some q → sj_T X m_X2_write s0 (none, q.2) 0 [some (sj_r (some a0)), some (sj_i x1)] [] s := by
  intro a0 x1 s h
  unfold f_X2_write at h
  refine r_aload_n (pc := 0) dX2_write_0 rfl rfl ?_
  refine r_gI (pc := 1) h dX2_write_1 fw_X2_15 rfl (fun v1 h => ?_)
  refine r_bipush (pc := 4) dX2_write_4 ⟨by decide, by decide⟩ ?_
  refine r_icmp_ge (pc := 6) (tgt := 29) h dX2_write_6 (by decide) (fun h => ?_) (fun h => ?_)
  · exact r_vret (pc := 29) h rfl dX2_write_29
  · refine r_aload_n (pc := 9) dX2_write_9 rfl rfl ?_
    refine r_gR (pc := 10) h dX2_write_10 fw_X2_9 rfl (fun r2 h => ?_)
    refine r_aload_n (pc := 13) dX2_write_13 rfl rfl ?_
    refine r_gI (pc := 14) h dX2_write_14 fw_X2_15 rfl (fun v3 h => ?_)
    refine r_iload_n (pc := 17) dX2_write_17 rfl rfl ?_
    obtain ⟨a4, ea4, g⟩ := e_nn_some h
    clear h
    subst ea4
    have h := g
    clear g
    refine r_iastore (pc := 18) h dX2_write_18 (fun s5 h => ?_)
    refine r_aload_n (pc := 19) dX2_write_19 rfl rfl ?_
    refine r_dup (pc := 20) dX2_write_20 rfl ?_
    refine r_gI (pc := 21) h dX2_write_21 fw_X2_15 rfl (fun v6 h => ?_)
    refine r_iconst (pc := 24) dX2_write_24 ?_
    refine r_iadd (pc := 25) dX2_write_25 ?_
    refine r_pI (pc := 26) h dX2_write_26 fw_X2_15 rfl rfl (fun _ hq => by cases hq; rfl) (fun s7 h => ?_)
    exact r_vret (pc := 29) h rfl dX2_write_29
set_option maxHeartbeats 4000000 in
theorem c_X2_write {X : sj_X} {N : Nat} {a0 : Nat} {x1 : Int} {s : sj_Mem} {q : Unit × sj_Mem} (h : f_X2_write N a0 x1 s = some q) : sj_C X m_X2_write [sj_r (some a0), sj_i x1] s (none, q.2) :=
  sj_C_of (by decide +kernel) (Nat.le_of_ble_eq_true rfl) (lo := [some (sj_r (some a0)), some (sj_i x1)]) rfl (sj_weak (l2 := [some (sj_r (some a0)), some (sj_i x1)]) (⟨rfl, ⟨rfl, trivial⟩⟩) (t_X2_write_0 a0 x1 s h))
theorem dX2_writeNumber_0 : decode cX2_writeNumber 0 = .ok (.iload_n 1, 1) := by decide +kernel
theorem dX2_writeNumber_1 : decode cX2_writeNumber 1 = .ok (.bipush 10, 2) := by decide +kernel
theorem dX2_writeNumber_3 : decode cX2_writeNumber 3 = .ok (.if_icmp .lt 17, 3) := by decide +kernel
theorem dX2_writeNumber_6 : decode cX2_writeNumber 6 = .ok (.aload_n 0, 1) := by decide +kernel
theorem dX2_writeNumber_7 : decode cX2_writeNumber 7 = .ok (.bipush 48, 2) := by decide +kernel
theorem dX2_writeNumber_9 : decode cX2_writeNumber 9 = .ok (.iload_n 1, 1) := by decide +kernel
theorem dX2_writeNumber_10 : decode cX2_writeNumber 10 = .ok (.bipush 10, 2) := by decide +kernel
theorem dX2_writeNumber_12 : decode cX2_writeNumber 12 = .ok (.idiv, 1) := by decide +kernel
theorem dX2_writeNumber_13 : decode cX2_writeNumber 13 = .ok (.bipush 10, 2) := by decide +kernel
theorem dX2_writeNumber_15 : decode cX2_writeNumber 15 = .ok (.irem, 1) := by decide +kernel
theorem dX2_writeNumber_16 : decode cX2_writeNumber 16 = .ok (.iadd, 1) := by decide +kernel
theorem dX2_writeNumber_17 : decode cX2_writeNumber 17 = .ok (.invokevirtual 23, 3) := by decide +kernel
theorem dX2_writeNumber_20 : decode cX2_writeNumber 20 = .ok (.aload_n 0, 1) := by decide +kernel
theorem dX2_writeNumber_21 : decode cX2_writeNumber 21 = .ok (.bipush 48, 2) := by decide +kernel
theorem dX2_writeNumber_23 : decode cX2_writeNumber 23 = .ok (.iload_n 1, 1) := by decide +kernel
theorem dX2_writeNumber_24 : decode cX2_writeNumber 24 = .ok (.bipush 10, 2) := by decide +kernel
theorem dX2_writeNumber_26 : decode cX2_writeNumber 26 = .ok (.irem, 1) := by decide +kernel
theorem dX2_writeNumber_27 : decode cX2_writeNumber 27 = .ok (.iadd, 1) := by decide +kernel
theorem dX2_writeNumber_28 : decode cX2_writeNumber 28 = .ok (.invokevirtual 23, 3) := by decide +kernel
theorem dX2_writeNumber_31 : decode cX2_writeNumber 31 = .ok (.return_, 1) := by decide +kernel
set_option maxHeartbeats 4000000 in
theorem t_X2_writeNumber_20 {X : sj_X} {s0 : sj_Mem} {N : Nat} {q : Unit × sj_Mem} :
    ∀ (a0 : Nat) (x1 : Int) (s : sj_Mem), f_X2_writeNumber_20 N a0 x1 s = some q → sj_T X m_X2_writeNumber s0 (none, q.2) 20 [some (sj_r (some a0)), some (sj_i x1)] [] s := by
  intro a0 x1 s h
  unfold f_X2_writeNumber_20 at h
  refine r_aload_n (pc := 20) dX2_writeNumber_20 rfl rfl ?_
  refine r_bipush (pc := 21) dX2_writeNumber_21 ⟨by decide, by decide⟩ ?_
  refine r_iload_n (pc := 23) dX2_writeNumber_23 rfl rfl ?_
  refine r_bipush (pc := 24) dX2_writeNumber_24 ⟨by decide, by decide⟩ ?_
  refine r_irem (pc := 26) h dX2_writeNumber_26 (fun v1 h => ?_)
  refine r_iadd (pc := 27) dX2_writeNumber_27 ?_
  refine r_callV (pc := 28) (fun _ => none) (As := [sj_i (48 + v1)]) (rest := []) h dX2_writeNumber_28 mw_X2_23 vw_X2_write (fun _ _ hc => c_X2_write hc) rfl ⟨(Nat.le_of_ble_eq_true rfl), (Nat.le_of_ble_eq_true rfl)⟩ (Nat.le_of_ble_eq_true rfl) rfl (fun _u s2 h => ?_)
  exact r_vret (pc := 31) h rfl dX2_writeNumber_31
set_option maxHeartbeats 4000000 in
theorem t_X2_writeNumber_0 {X : sj_X} {s0 : sj_Mem} {N : Nat} {q : Unit × sj_Mem} :
    ∀ (a0 : Nat) (x1 : Int) (s : sj_Mem), f_X2_writeNumber N a0 x1 s = some q → sj_T X m_X2_writeNumber s0 (none, q.2) 0 [some (sj_r (some a0)), some (sj_i x1)] [] s := by
  intro a0 x1 s h
  unfold f_X2_writeNumber at h
  refine r_iload_n (pc := 0) dX2_writeNumber_0 rfl rfl ?_
  refine r_bipush (pc := 1) dX2_writeNumber_1 ⟨by decide, by decide⟩ ?_
  refine r_icmp_lt (pc := 3) (tgt := 20) h dX2_writeNumber_3 (by decide) (fun h => ?_) (fun h => ?_)
  · exact sj_weak (l2 := [some (sj_r (some a0)), some (sj_i x1)]) (⟨rfl, ⟨rfl, trivial⟩⟩) (t_X2_writeNumber_20 a0 x1 s h)
  · refine r_aload_n (pc := 6) dX2_writeNumber_6 rfl rfl ?_
    refine r_bipush (pc := 7) dX2_writeNumber_7 ⟨by decide, by decide⟩ ?_
    refine r_iload_n (pc := 9) dX2_writeNumber_9 rfl rfl ?_
    refine r_bipush (pc := 10) dX2_writeNumber_10 ⟨by decide, by decide⟩ ?_
    refine r_idiv (pc := 12) h dX2_writeNumber_12 (fun v1 h => ?_)
    refine r_bipush (pc := 13) dX2_writeNumber_13 ⟨by decide, by decide⟩ ?_
    refine r_irem (pc := 15) h dX2_writeNumber_15 (fun v2 h => ?_)
    refine r_iadd (pc := 16) dX2_writeNumber_16 ?_
    refine r_callV (pc := 17) (fun _ => none) (As := [sj_i (48 + v2)]) (rest := []) h dX2_writeNumber_17 mw_X2_23 vw_X2_write (fun _ _ hc => c_X2_write hc) rfl ⟨(Nat.le_of_ble_eq_true rfl), (Nat.le_of_ble_eq_true rfl)⟩ (Nat.le_of_ble_eq_true rfl) rfl (fun _u s3 h => ?_)
    exact sj_weak (l2 := [some (sj_r (some a0)), some (sj_i x1)]) (⟨rfl, ⟨rfl, trivial⟩⟩) (t_X2_writeNumber_20 a0 x1 s3 h)
set_option maxHeartbeats 4000000 in
theorem c_X2_writeNumber {X : sj_X} {N : Nat} {a0 : Nat} {x1 : Int} {s : sj_Mem} {q : Unit × sj_Mem} (h : f_X2_writeNumber N a0 x1 s = some q) : sj_C X m_X2_writeNumber [sj_r (some a0), sj_i x1] s (none, q.2) :=
  sj_C_of (by decide +kernel) (Nat.le_of_ble_eq_true rfl) (lo := [some (sj_r (some a0)), some (sj_i x1)]) rfl (sj_weak (l2 := [some (sj_r (some a0)), some (sj_i x1)]) (⟨rfl, ⟨rfl, trivial⟩⟩) (t_X2_writeNumber_0 a0 x1 s h))
theorem dX2_writeFactor_0 : decode cX2_writeFactor 0 = .ok (.aload_n 0, 1) := by decide +kernel
theorem dX2_writeFactor_1 : decode cX2_writeFactor 1 = .ok (.iload_n 1, 1) := by decide +kernel
theorem dX2_writeFactor_2 : decode cX2_writeFactor 2 = .ok (.sipush 1000, 3) := by decide +kernel
theorem dX2_writeFactor_5 : decode cX2_writeFactor 5 = .ok (.idiv, 1) := by decide +kernel
theorem dX2_writeFactor_6 : decode cX2_writeFactor 6 = .ok (.invokevirtual 19, 3) := by decide +kernel
theorem dX2_writeFactor_9 : decode cX2_writeFactor 9 = .ok (.aload_n 0, 1) := by decide +kernel
theorem dX2_writeFactor_10 : decode cX2_writeFactor 10 = .ok (.bipush 46, 2) := by decide +kernel
theorem dX2_writeFactor_12 : decode cX2_writeFactor 12 = .ok (.invokevirtual 23, 3) := by decide +kernel
theorem dX2_writeFactor_15 : decode cX2_writeFactor 15 = .ok (.aload_n 0, 1) := by decide +kernel
theorem dX2_writeFactor_16 : decode cX2_writeFactor 16 = .ok (.bipush 48, 2) := by decide +kernel
theorem dX2_writeFactor_18 : decode cX2_writeFactor 18 = .ok (.iload_n 1, 1) := by decide +kernel
theorem dX2_writeFactor_19 : decode cX2_writeFactor 19 = .ok (.bipush 100, 2) := by decide +kernel
theorem dX2_writeFactor_21 : decode cX2_writeFactor 21 = .ok (.idiv, 1) := by decide +kernel
theorem dX2_writeFactor_22 : decode cX2_writeFactor 22 = .ok (.bipush 10, 2) := by decide +kernel
theorem dX2_writeFactor_24 : decode cX2_writeFactor 24 = .ok (.irem, 1) := by decide +kernel
theorem dX2_writeFactor_25 : decode cX2_writeFactor 25 = .ok (.iadd, 1) := by decide +kernel
theorem dX2_writeFactor_26 : decode cX2_writeFactor 26 = .ok (.invokevirtual 23, 3) := by decide +kernel
theorem dX2_writeFactor_29 : decode cX2_writeFactor 29 = .ok (.aload_n 0, 1) := by decide +kernel
theorem dX2_writeFactor_30 : decode cX2_writeFactor 30 = .ok (.bipush 48, 2) := by decide +kernel
theorem dX2_writeFactor_32 : decode cX2_writeFactor 32 = .ok (.iload_n 1, 1) := by decide +kernel
theorem dX2_writeFactor_33 : decode cX2_writeFactor 33 = .ok (.bipush 10, 2) := by decide +kernel
theorem dX2_writeFactor_35 : decode cX2_writeFactor 35 = .ok (.idiv, 1) := by decide +kernel
theorem dX2_writeFactor_36 : decode cX2_writeFactor 36 = .ok (.bipush 10, 2) := by decide +kernel
theorem dX2_writeFactor_38 : decode cX2_writeFactor 38 = .ok (.irem, 1) := by decide +kernel
theorem dX2_writeFactor_39 : decode cX2_writeFactor 39 = .ok (.iadd, 1) := by decide +kernel
theorem dX2_writeFactor_40 : decode cX2_writeFactor 40 = .ok (.invokevirtual 23, 3) := by decide +kernel
theorem dX2_writeFactor_43 : decode cX2_writeFactor 43 = .ok (.aload_n 0, 1) := by decide +kernel
theorem dX2_writeFactor_44 : decode cX2_writeFactor 44 = .ok (.bipush 48, 2) := by decide +kernel
theorem dX2_writeFactor_46 : decode cX2_writeFactor 46 = .ok (.iload_n 1, 1) := by decide +kernel
theorem dX2_writeFactor_47 : decode cX2_writeFactor 47 = .ok (.bipush 10, 2) := by decide +kernel
theorem dX2_writeFactor_49 : decode cX2_writeFactor 49 = .ok (.irem, 1) := by decide +kernel
theorem dX2_writeFactor_50 : decode cX2_writeFactor 50 = .ok (.iadd, 1) := by decide +kernel
theorem dX2_writeFactor_51 : decode cX2_writeFactor 51 = .ok (.invokevirtual 23, 3) := by decide +kernel
theorem dX2_writeFactor_54 : decode cX2_writeFactor 54 = .ok (.return_, 1) := by decide +kernel
set_option maxHeartbeats 4000000 in
theorem t_X2_writeFactor_0 {X : sj_X} {s0 : sj_Mem} {N : Nat} {q : Unit × sj_Mem} :
    ∀ (a0 : Nat) (x1 : Int) (s : sj_Mem), f_X2_writeFactor N a0 x1 s = some q → sj_T X m_X2_writeFactor s0 (none, q.2) 0 [some (sj_r (some a0)), some (sj_i x1)] [] s := by
  intro a0 x1 s h
  unfold f_X2_writeFactor at h
  refine r_aload_n (pc := 0) dX2_writeFactor_0 rfl rfl ?_
  refine r_iload_n (pc := 1) dX2_writeFactor_1 rfl rfl ?_
  refine r_sipush (pc := 2) dX2_writeFactor_2 ⟨by decide, by decide⟩ ?_
  refine r_idiv (pc := 5) h dX2_writeFactor_5 (fun v1 h => ?_)
  refine r_callV (pc := 6) (fun _ => none) (As := [sj_i v1]) (rest := []) h dX2_writeFactor_6 mw_X2_19 vw_X2_writeNumber (fun _ _ hc => c_X2_writeNumber hc) rfl ⟨(Nat.le_of_ble_eq_true rfl), (Nat.le_of_ble_eq_true rfl)⟩ (Nat.le_of_ble_eq_true rfl) rfl (fun _u s2 h => ?_)
  refine r_aload_n (pc := 9) dX2_writeFactor_9 rfl rfl ?_
  refine r_bipush (pc := 10) dX2_writeFactor_10 ⟨by decide, by decide⟩ ?_
  refine r_callV (pc := 12) (fun _ => none) (As := [sj_i 46]) (rest := []) h dX2_writeFactor_12 mw_X2_23 vw_X2_write (fun _ _ hc => c_X2_write hc) rfl ⟨(Nat.le_of_ble_eq_true rfl), (Nat.le_of_ble_eq_true rfl)⟩ (Nat.le_of_ble_eq_true rfl) rfl (fun _u s3 h => ?_)
  refine r_aload_n (pc := 15) dX2_writeFactor_15 rfl rfl ?_
  refine r_bipush (pc := 16) dX2_writeFactor_16 ⟨by decide, by decide⟩ ?_
  refine r_iload_n (pc := 18) dX2_writeFactor_18 rfl rfl ?_
  refine r_bipush (pc := 19) dX2_writeFactor_19 ⟨by decide, by decide⟩ ?_
  refine r_idiv (pc := 21) h dX2_writeFactor_21 (fun v4 h => ?_)
  refine r_bipush (pc := 22) dX2_writeFactor_22 ⟨by decide, by decide⟩ ?_
  refine r_irem (pc := 24) h dX2_writeFactor_24 (fun v5 h => ?_)
  refine r_iadd (pc := 25) dX2_writeFactor_25 ?_
  refine r_callV (pc := 26) (fun _ => none) (As := [sj_i (48 + v5)]) (rest := []) h dX2_writeFactor_26 mw_X2_23 vw_X2_write (fun _ _ hc => c_X2_write hc) rfl ⟨(Nat.le_of_ble_eq_true rfl), (Nat.le_of_ble_eq_true rfl)⟩ (Nat.le_of_ble_eq_true rfl) rfl (fun _u s6 h => ?_)
  refine r_aload_n (pc := 29) dX2_writeFactor_29 rfl rfl ?_
  refine r_bipush (pc := 30) dX2_writeFactor_30 ⟨by decide, by decide⟩ ?_
  refine r_iload_n (pc := 32) dX2_writeFactor_32 rfl rfl ?_
  refine r_bipush (pc := 33) dX2_writeFactor_33 ⟨by decide, by decide⟩ ?_
  refine r_idiv (pc := 35) h dX2_writeFactor_35 (fun v7 h => ?_)
  refine r_bipush (pc := 36) dX2_writeFactor_36 ⟨by decide, by decide⟩ ?_
  refine r_irem (pc := 38) h dX2_writeFactor_38 (fun v8 h => ?_)
  refine r_iadd (pc := 39) dX2_writeFactor_39 ?_
  refine r_callV (pc := 40) (fun _ => none) (As := [sj_i (48 + v8)]) (rest := []) h dX2_writeFactor_40 mw_X2_23 vw_X2_write (fun _ _ hc => c_X2_write hc) rfl ⟨(Nat.le_of_ble_eq_true rfl), (Nat.le_of_ble_eq_true rfl)⟩ (Nat.le_of_ble_eq_true rfl) rfl (fun _u s9 h => ?_)
  refine r_aload_n (pc := 43) dX2_writeFactor_43 rfl rfl ?_
  refine r_bipush (pc := 44) dX2_writeFactor_44 ⟨by decide, by decide⟩ ?_
  refine r_iload_n (pc := 46) dX2_writeFactor_46 rfl rfl ?_
  refine r_bipush (pc := 47) dX2_writeFactor_47 ⟨by decide, by decide⟩ ?_
  refine r_irem (pc := 49) h dX2_writeFactor_49 (fun v10 h => ?_)
  refine r_iadd (pc := 50) dX2_writeFactor_50 ?_
  refine r_callV (pc := 51) (fun _ => none) (As := [sj_i (48 + v10)]) (rest := []) h dX2_writeFactor_51 mw_X2_23 vw_X2_write (fun _ _ hc => c_X2_write hc) rfl ⟨(Nat.le_of_ble_eq_true rfl), (Nat.le_of_ble_eq_true rfl)⟩ (Nat.le_of_ble_eq_true rfl) rfl (fun _u s11 h => ?_)
  exact r_vret (pc := 54) h rfl dX2_writeFactor_54
set_option maxHeartbeats 4000000 in
theorem c_X2_writeFactor {X : sj_X} {N : Nat} {a0 : Nat} {x1 : Int} {s : sj_Mem} {q : Unit × sj_Mem} (h : f_X2_writeFactor N a0 x1 s = some q) : sj_C X m_X2_writeFactor [sj_r (some a0), sj_i x1] s (none, q.2) :=
  sj_C_of (by decide +kernel) (Nat.le_of_ble_eq_true rfl) (lo := [some (sj_r (some a0)), some (sj_i x1)]) rfl (sj_weak (l2 := [some (sj_r (some a0)), some (sj_i x1)]) (⟨rfl, ⟨rfl, trivial⟩⟩) (t_X2_writeFactor_0 a0 x1 s h))
theorem dX4_init_0 : decode cX4_init 0 = .ok (.aload_n 0, 1) := by decide +kernel
theorem dX4_init_1 : decode cX4_init 1 = .ok (.invokespecial 3, 3) := by decide +kernel
theorem dX4_init_4 : decode cX4_init 4 = .ok (.aload_n 0, 1) := by decide +kernel
theorem dX4_init_5 : decode cX4_init 5 = .ok (.bipush 41, 2) := by decide +kernel
theorem dX4_init_7 : decode cX4_init 7 = .ok (.newarray .int, 2) := by decide +kernel
theorem dX4_init_9 : decode cX4_init 9 = .ok (.putfield 9, 3) := by decide +kernel
theorem dX4_init_12 : decode cX4_init 12 = .ok (.aload_n 0, 1) := by decide +kernel
theorem dX4_init_13 : decode cX4_init 13 = .ok (.bipush 41, 2) := by decide +kernel
theorem dX4_init_15 : decode cX4_init 15 = .ok (.newarray .int, 2) := by decide +kernel
theorem dX4_init_17 : decode cX4_init 17 = .ok (.putfield 15, 3) := by decide +kernel
theorem dX4_init_20 : decode cX4_init 20 = .ok (.aload_n 0, 1) := by decide +kernel
theorem dX4_init_21 : decode cX4_init 21 = .ok (.bipush 41, 2) := by decide +kernel
theorem dX4_init_23 : decode cX4_init 23 = .ok (.newarray .int, 2) := by decide +kernel
theorem dX4_init_25 : decode cX4_init 25 = .ok (.putfield 18, 3) := by decide +kernel
theorem dX4_init_28 : decode cX4_init 28 = .ok (.aload_n 0, 1) := by decide +kernel
theorem dX4_init_29 : decode cX4_init 29 = .ok (.bipush 41, 2) := by decide +kernel
theorem dX4_init_31 : decode cX4_init 31 = .ok (.newarray .int, 2) := by decide +kernel
theorem dX4_init_33 : decode cX4_init 33 = .ok (.putfield 21, 3) := by decide +kernel
theorem dX4_init_36 : decode cX4_init 36 = .ok (.aload_n 0, 1) := by decide +kernel
theorem dX4_init_37 : decode cX4_init 37 = .ok (.bipush 41, 2) := by decide +kernel
theorem dX4_init_39 : decode cX4_init 39 = .ok (.newarray .long, 2) := by decide +kernel
theorem dX4_init_41 : decode cX4_init 41 = .ok (.putfield 24, 3) := by decide +kernel
theorem dX4_init_44 : decode cX4_init 44 = .ok (.aload_n 0, 1) := by decide +kernel
theorem dX4_init_45 : decode cX4_init 45 = .ok (.bipush 41, 2) := by decide +kernel
theorem dX4_init_47 : decode cX4_init 47 = .ok (.newarray .long, 2) := by decide +kernel
theorem dX4_init_49 : decode cX4_init 49 = .ok (.putfield 28, 3) := by decide +kernel
theorem dX4_init_52 : decode cX4_init 52 = .ok (.aload_n 0, 1) := by decide +kernel
theorem dX4_init_53 : decode cX4_init 53 = .ok (.bipush 41, 2) := by decide +kernel
theorem dX4_init_55 : decode cX4_init 55 = .ok (.newarray .long, 2) := by decide +kernel
theorem dX4_init_57 : decode cX4_init 57 = .ok (.putfield 31, 3) := by decide +kernel
theorem dX4_init_60 : decode cX4_init 60 = .ok (.aload_n 0, 1) := by decide +kernel
theorem dX4_init_61 : decode cX4_init 61 = .ok (.bipush 41, 2) := by decide +kernel
theorem dX4_init_63 : decode cX4_init 63 = .ok (.newarray .long, 2) := by decide +kernel
theorem dX4_init_65 : decode cX4_init 65 = .ok (.putfield 34, 3) := by decide +kernel
theorem dX4_init_68 : decode cX4_init 68 = .ok (.return_, 1) := by decide +kernel
set_option maxHeartbeats 4000000 in
theorem t_X4_init_0 {X : sj_X} {s0 : sj_Mem} {N : Nat} {q : Unit × sj_Mem} :
    ∀ (a0 : Nat) (s : sj_Mem), f_X4_init N a0 s = some q → sj_T X m_X4_init s0 (none, q.2) 0 [some (sj_r (some a0))] [] s := by
  intro a0 s h
  unfold f_X4_init at h
  refine r_aload_n (pc := 0) dX4_init_0 rfl rfl ?_
  refine r_oinit (pc := 1) dX4_init_1 ow_X4_3 (Nat.le_of_ble_eq_true rfl) (Nat.le_of_ble_eq_true rfl) ?_
  refine r_aload_n (pc := 4) dX4_init_4 rfl rfl ?_
  refine r_bipush (pc := 5) dX4_init_5 ⟨by decide, by decide⟩ ?_
  refine r_nA_I (pc := 7) h dX4_init_7 kw_62 (fun a1 s2 h => ?_)
  refine r_pF (pc := 9) h dX4_init_9 ff_X4_9 rfl rfl (Or.inr ⟨_, rfl⟩) (fun s3 h => ?_)
  refine r_aload_n (pc := 12) dX4_init_12 rfl rfl ?_
  refine r_bipush (pc := 13) dX4_init_13 ⟨by decide, by decide⟩ ?_
  refine r_nA_I (pc := 15) h dX4_init_15 kw_62 (fun a4 s5 h => ?_)
  refine r_pF (pc := 17) h dX4_init_17 ff_X4_15 rfl rfl (Or.inr ⟨_, rfl⟩) (fun s6 h => ?_)
  refine r_aload_n (pc := 20) dX4_init_20 rfl rfl ?_
  refine r_bipush (pc := 21) dX4_init_21 ⟨by decide, by decide⟩ ?_
  refine r_nA_I (pc := 23) h dX4_init_23 kw_62 (fun a7 s8 h => ?_)
  refine r_pF (pc := 25) h dX4_init_25 ff_X4_18 rfl rfl (Or.inr ⟨_, rfl⟩) (fun s9 h => ?_)
  refine r_aload_n (pc := 28) dX4_init_28 rfl rfl ?_
  refine r_bipush (pc := 29) dX4_init_29 ⟨by decide, by decide⟩ ?_
  refine r_nA_I (pc := 31) h dX4_init_31 kw_62 (fun a10 s11 h => ?_)
  refine r_pF (pc := 33) h dX4_init_33 ff_X4_21 rfl rfl (Or.inr ⟨_, rfl⟩) (fun s12 h => ?_)
  refine r_aload_n (pc := 36) dX4_init_36 rfl rfl ?_
  refine r_bipush (pc := 37) dX4_init_37 ⟨by decide, by decide⟩ ?_
  refine r_nA_J (pc := 39) h dX4_init_39 kw_276 (fun a13 s14 h => ?_)
  refine r_pF (pc := 41) h dX4_init_41 ff_X4_24 rfl rfl (Or.inr ⟨_, rfl⟩) (fun s15 h => ?_)
  refine r_aload_n (pc := 44) dX4_init_44 rfl rfl ?_
  refine r_bipush (pc := 45) dX4_init_45 ⟨by decide, by decide⟩ ?_
  refine r_nA_J (pc := 47) h dX4_init_47 kw_276 (fun a16 s17 h => ?_)
  refine r_pF (pc := 49) h dX4_init_49 ff_X4_28 rfl rfl (Or.inr ⟨_, rfl⟩) (fun s18 h => ?_)
  refine r_aload_n (pc := 52) dX4_init_52 rfl rfl ?_
  refine r_bipush (pc := 53) dX4_init_53 ⟨by decide, by decide⟩ ?_
  refine r_nA_J (pc := 55) h dX4_init_55 kw_276 (fun a19 s20 h => ?_)
  refine r_pF (pc := 57) h dX4_init_57 ff_X4_31 rfl rfl (Or.inr ⟨_, rfl⟩) (fun s21 h => ?_)
  refine r_aload_n (pc := 60) dX4_init_60 rfl rfl ?_
  refine r_bipush (pc := 61) dX4_init_61 ⟨by decide, by decide⟩ ?_
  refine r_nA_J (pc := 63) h dX4_init_63 kw_276 (fun a22 s23 h => ?_)
  refine r_pF (pc := 65) h dX4_init_65 ff_X4_34 rfl rfl (Or.inr ⟨_, rfl⟩) (fun s24 h => ?_)
  exact r_vret (pc := 68) h rfl dX4_init_68
set_option maxHeartbeats 4000000 in
theorem c_X4_init {X : sj_X} {N : Nat} {a0 : Nat} {s : sj_Mem} {q : Unit × sj_Mem} (h : f_X4_init N a0 s = some q) : sj_C X m_X4_init [sj_r (some a0)] s (none, q.2) :=
  sj_C_of (by decide +kernel) (Nat.le_of_ble_eq_true rfl) (lo := [some (sj_r (some a0))]) rfl (sj_weak (l2 := [some (sj_r (some a0))]) (⟨rfl, trivial⟩) (t_X4_init_0 a0 s h))
theorem dX3_init_0 : decode cX3_init 0 = .ok (.aload_n 0, 1) := by decide +kernel
theorem dX3_init_1 : decode cX3_init 1 = .ok (.invokespecial 3, 3) := by decide +kernel
theorem dX3_init_4 : decode cX3_init 4 = .ok (.aload_n 0, 1) := by decide +kernel
theorem dX3_init_5 : decode cX3_init 5 = .ok (.new 9, 3) := by decide +kernel
theorem dX3_init_8 : decode cX3_init 8 = .ok (.dup, 1) := by decide +kernel
theorem dX3_init_9 : decode cX3_init 9 = .ok (.invokespecial 11, 3) := by decide +kernel
theorem dX3_init_12 : decode cX3_init 12 = .ok (.putfield 12, 3) := by decide +kernel
theorem dX3_init_15 : decode cX3_init 15 = .ok (.aload_n 0, 1) := by decide +kernel
theorem dX3_init_16 : decode cX3_init 16 = .ok (.new 18, 3) := by decide +kernel
theorem dX3_init_19 : decode cX3_init 19 = .ok (.dup, 1) := by decide +kernel
theorem dX3_init_20 : decode cX3_init 20 = .ok (.invokespecial 20, 3) := by decide +kernel
theorem dX3_init_23 : decode cX3_init 23 = .ok (.putfield 21, 3) := by decide +kernel
theorem dX3_init_26 : decode cX3_init 26 = .ok (.return_, 1) := by decide +kernel
set_option maxHeartbeats 4000000 in
theorem t_X3_init_0 {X : sj_X} {s0 : sj_Mem} {N : Nat} {q : Unit × sj_Mem} :
    ∀ (a0 : Nat) (s : sj_Mem), f_X3_init N a0 s = some q → sj_T X m_X3_init s0 (none, q.2) 0 [some (sj_r (some a0))] [] s := by
  intro a0 s h
  unfold f_X3_init at h
  refine r_aload_n (pc := 0) dX3_init_0 rfl rfl ?_
  refine r_oinit (pc := 1) dX3_init_1 ow_X3_3 (Nat.le_of_ble_eq_true rfl) (Nat.le_of_ble_eq_true rfl) ?_
  refine r_aload_n (pc := 4) dX3_init_4 rfl rfl ?_
  refine r_new (pc := 5) h dX3_init_5 nw_X3_9 (fun a1 s2 h => ?_)
  refine r_dup (pc := 8) dX3_init_8 rfl ?_
  refine r_callI (pc := 9) (fun _ => none) (As := []) (rest := [(sj_r (some a1)), (sj_r (some a0))]) (b := a1) h dX3_init_9 mw_X3_11 ⟨kw_35, rfl, rfl⟩ (fun _ _ hc => c_X5_init hc) rfl ⟨(Nat.le_of_ble_eq_true rfl), (Nat.le_of_ble_eq_true rfl)⟩ (Nat.le_of_ble_eq_true rfl) rfl (fun _u s3 h => ?_)
  refine r_pF (pc := 12) h dX3_init_12 ff_X3_12 rfl rfl (Or.inl ⟨_, rfl⟩) (fun s4 h => ?_)
  refine r_aload_n (pc := 15) dX3_init_15 rfl rfl ?_
  refine r_new (pc := 16) h dX3_init_16 nw_X3_18 (fun a5 s6 h => ?_)
  refine r_dup (pc := 19) dX3_init_19 rfl ?_
  refine r_callI (pc := 20) (fun _ => none) (As := []) (rest := [(sj_r (some a5)), (sj_r (some a0))]) (b := a5) h dX3_init_20 mw_X3_20 ⟨kw_231, rfl, rfl⟩ (fun _ _ hc => c_X4_init hc) rfl ⟨(Nat.le_of_ble_eq_true rfl), (Nat.le_of_ble_eq_true rfl)⟩ (Nat.le_of_ble_eq_true rfl) rfl (fun _u s7 h => ?_)
  refine r_pF (pc := 23) h dX3_init_23 ff_X3_21 rfl rfl (Or.inl ⟨_, rfl⟩) (fun s8 h => ?_)
  exact r_vret (pc := 26) h rfl dX3_init_26
set_option maxHeartbeats 4000000 in
theorem c_X3_init {X : sj_X} {N : Nat} {a0 : Nat} {s : sj_Mem} {q : Unit × sj_Mem} (h : f_X3_init N a0 s = some q) : sj_C X m_X3_init [sj_r (some a0)] s (none, q.2) :=
  sj_C_of (by decide +kernel) (Nat.le_of_ble_eq_true rfl) (lo := [some (sj_r (some a0))]) rfl (sj_weak (l2 := [some (sj_r (some a0))]) (⟨rfl, trivial⟩) (t_X3_init_0 a0 s h))
theorem dX8_isCircle_0 : decode cX8_isCircle 0 = .ok (.iload_n 0, 1) := by decide +kernel
theorem dX8_isCircle_1 : decode cX8_isCircle 1 = .ok (.bipush (-50), 2) := by decide +kernel
theorem dX8_isCircle_3 : decode cX8_isCircle 3 = .ok (.if_icmp .lt 39, 3) := by decide +kernel
theorem dX8_isCircle_6 : decode cX8_isCircle 6 = .ok (.iload_n 0, 1) := by decide +kernel
theorem dX8_isCircle_7 : decode cX8_isCircle 7 = .ok (.sipush 450, 3) := by decide +kernel
theorem dX8_isCircle_10 : decode cX8_isCircle 10 = .ok (.if_icmp .gt 32, 3) := by decide +kernel
theorem dX8_isCircle_13 : decode cX8_isCircle 13 = .ok (.iload_n 1, 1) := by decide +kernel
theorem dX8_isCircle_14 : decode cX8_isCircle 14 = .ok (.bipush (-50), 2) := by decide +kernel
theorem dX8_isCircle_16 : decode cX8_isCircle 16 = .ok (.if_icmp .lt 26, 3) := by decide +kernel
theorem dX8_isCircle_19 : decode cX8_isCircle 19 = .ok (.iload_n 1, 1) := by decide +kernel
theorem dX8_isCircle_20 : decode cX8_isCircle 20 = .ok (.sipush 450, 3) := by decide +kernel
theorem dX8_isCircle_23 : decode cX8_isCircle 23 = .ok (.if_icmp .gt 19, 3) := by decide +kernel
theorem dX8_isCircle_26 : decode cX8_isCircle 26 = .ok (.iload_n 2, 1) := by decide +kernel
theorem dX8_isCircle_27 : decode cX8_isCircle 27 = .ok (.iconst 1, 1) := by decide +kernel
theorem dX8_isCircle_28 : decode cX8_isCircle 28 = .ok (.if_icmp .lt 14, 3) := by decide +kernel
theorem dX8_isCircle_31 : decode cX8_isCircle 31 = .ok (.iload_n 2, 1) := by decide +kernel
theorem dX8_isCircle_32 : decode cX8_isCircle 32 = .ok (.sipush 500, 3) := by decide +kernel
theorem dX8_isCircle_35 : decode cX8_isCircle 35 = .ok (.if_icmp .gt 7, 3) := by decide +kernel
theorem dX8_isCircle_38 : decode cX8_isCircle 38 = .ok (.iconst 1, 1) := by decide +kernel
theorem dX8_isCircle_39 : decode cX8_isCircle 39 = .ok (.goto 4, 3) := by decide +kernel
theorem dX8_isCircle_42 : decode cX8_isCircle 42 = .ok (.iconst 0, 1) := by decide +kernel
theorem dX8_isCircle_43 : decode cX8_isCircle 43 = .ok (.ireturn, 1) := by decide +kernel
set_option maxHeartbeats 4000000 in
theorem t_X8_isCircle_0 {X : sj_X} {s0 : sj_Mem} {N : Nat} {q : Int × sj_Mem} :
    ∀ (x0 : Int) (x1 : Int) (x2 : Int) (s : sj_Mem), f_X8_isCircle N x0 x1 x2 s = some q → sj_T X m_X8_isCircle s0 (some (sj_i q.1), q.2) 0 [some (sj_i x0), some (sj_i x1), some (sj_i x2)] [] s := by
  intro x0 x1 x2 s h
  unfold f_X8_isCircle at h
  refine r_iload_n (pc := 0) dX8_isCircle_0 rfl rfl ?_
  refine r_bipush (pc := 1) dX8_isCircle_1 ⟨by decide, by decide⟩ ?_
  refine r_icmp_lt (pc := 3) (tgt := 42) h dX8_isCircle_3 (by decide) (fun h => ?_) (fun h => ?_)
  · refine r_iconst (pc := 42) dX8_isCircle_42 ?_
    exact r_zret (pc := 43) h rfl dX8_isCircle_43
  · refine r_iload_n (pc := 6) dX8_isCircle_6 rfl rfl ?_
    refine r_sipush (pc := 7) dX8_isCircle_7 ⟨by decide, by decide⟩ ?_
    refine r_icmp_gt (pc := 10) (tgt := 42) h dX8_isCircle_10 (by decide) (fun h => ?_) (fun h => ?_)
    · refine r_iconst (pc := 42) dX8_isCircle_42 ?_
      exact r_zret (pc := 43) h rfl dX8_isCircle_43
    · refine r_iload_n (pc := 13) dX8_isCircle_13 rfl rfl ?_
      refine r_bipush (pc := 14) dX8_isCircle_14 ⟨by decide, by decide⟩ ?_
      refine r_icmp_lt (pc := 16) (tgt := 42) h dX8_isCircle_16 (by decide) (fun h => ?_) (fun h => ?_)
      · refine r_iconst (pc := 42) dX8_isCircle_42 ?_
        exact r_zret (pc := 43) h rfl dX8_isCircle_43
      · refine r_iload_n (pc := 19) dX8_isCircle_19 rfl rfl ?_
        refine r_sipush (pc := 20) dX8_isCircle_20 ⟨by decide, by decide⟩ ?_
        refine r_icmp_gt (pc := 23) (tgt := 42) h dX8_isCircle_23 (by decide) (fun h => ?_) (fun h => ?_)
        · refine r_iconst (pc := 42) dX8_isCircle_42 ?_
          exact r_zret (pc := 43) h rfl dX8_isCircle_43
        · refine r_iload_n (pc := 26) dX8_isCircle_26 rfl rfl ?_
          refine r_iconst (pc := 27) dX8_isCircle_27 ?_
          refine r_icmp_lt (pc := 28) (tgt := 42) h dX8_isCircle_28 (by decide) (fun h => ?_) (fun h => ?_)
          · refine r_iconst (pc := 42) dX8_isCircle_42 ?_
            exact r_zret (pc := 43) h rfl dX8_isCircle_43
          · refine r_iload_n (pc := 31) dX8_isCircle_31 rfl rfl ?_
            refine r_sipush (pc := 32) dX8_isCircle_32 ⟨by decide, by decide⟩ ?_
            refine r_icmp_gt (pc := 35) (tgt := 42) h dX8_isCircle_35 (by decide) (fun h => ?_) (fun h => ?_)
            · refine r_iconst (pc := 42) dX8_isCircle_42 ?_
              exact r_zret (pc := 43) h rfl dX8_isCircle_43
            · refine r_iconst (pc := 38) dX8_isCircle_38 ?_
              refine r_goto (pc := 39) (tgt := 43) dX8_isCircle_39 (by decide) ?_
              exact r_zret (pc := 43) h rfl dX8_isCircle_43
set_option maxHeartbeats 4000000 in
theorem c_X8_isCircle {X : sj_X} {N : Nat} {x0 : Int} {x1 : Int} {x2 : Int} {s : sj_Mem} {q : Int × sj_Mem} (h : f_X8_isCircle N x0 x1 x2 s = some q) : sj_C X m_X8_isCircle [sj_i x0, sj_i x1, sj_i x2] s (some (sj_i q.1), q.2) :=
  sj_C_of (by decide +kernel) (Nat.le_of_ble_eq_true rfl) (lo := [some (sj_i x0), some (sj_i x1), some (sj_i x2)]) rfl (sj_weak (l2 := [some (sj_i x0), some (sj_i x1), some (sj_i x2)]) (⟨rfl, ⟨rfl, ⟨rfl, trivial⟩⟩⟩) (t_X8_isCircle_0 x0 x1 x2 s h))
theorem dX5_span_0 : decode cX5_span 0 = .ok (.aload_n 0, 1) := by decide +kernel
theorem dX5_span_1 : decode cX5_span 1 = .ok (.iload_n 2, 1) := by decide +kernel
theorem dX5_span_2 : decode cX5_span 2 = .ok (.putfield 15, 3) := by decide +kernel
theorem dX5_span_5 : decode cX5_span 5 = .ok (.aload_n 0, 1) := by decide +kernel
theorem dX5_span_6 : decode cX5_span 6 = .ok (.iload_n 3, 1) := by decide +kernel
theorem dX5_span_7 : decode cX5_span 7 = .ok (.putfield 19, 3) := by decide +kernel
theorem dX5_span_10 : decode cX5_span 10 = .ok (.aload_n 0, 1) := by decide +kernel
theorem dX5_span_11 : decode cX5_span 11 = .ok (.iload 4, 2) := by decide +kernel
theorem dX5_span_13 : decode cX5_span 13 = .ok (.putfield 28, 3) := by decide +kernel
theorem dX5_span_16 : decode cX5_span 16 = .ok (.aload_n 0, 1) := by decide +kernel
theorem dX5_span_17 : decode cX5_span 17 = .ok (.getfield 9, 3) := by decide +kernel
theorem dX5_span_20 : decode cX5_span 20 = .ok (.iload_n 2, 1) := by decide +kernel
theorem dX5_span_21 : decode cX5_span 21 = .ok (.aload_n 1, 1) := by decide +kernel
theorem dX5_span_22 : decode cX5_span 22 = .ok (.getfield 45, 3) := by decide +kernel
theorem dX5_span_25 : decode cX5_span 25 = .ok (.iload_n 2, 1) := by decide +kernel
theorem dX5_span_26 : decode cX5_span 26 = .ok (.iaload, 1) := by decide +kernel
theorem dX5_span_27 : decode cX5_span 27 = .ok (.iastore, 1) := by decide +kernel
theorem dX5_span_28 : decode cX5_span 28 = .ok (.aload_n 0, 1) := by decide +kernel
theorem dX5_span_29 : decode cX5_span 29 = .ok (.getfield 9, 3) := by decide +kernel
theorem dX5_span_32 : decode cX5_span 32 = .ok (.iload_n 3, 1) := by decide +kernel
theorem dX5_span_33 : decode cX5_span 33 = .ok (.aload_n 1, 1) := by decide +kernel
theorem dX5_span_34 : decode cX5_span 34 = .ok (.getfield 45, 3) := by decide +kernel
theorem dX5_span_37 : decode cX5_span 37 = .ok (.iload_n 3, 1) := by decide +kernel
theorem dX5_span_38 : decode cX5_span 38 = .ok (.iaload, 1) := by decide +kernel
theorem dX5_span_39 : decode cX5_span 39 = .ok (.iastore, 1) := by decide +kernel
theorem dX5_span_40 : decode cX5_span 40 = .ok (.return_, 1) := by decide +kernel
set_option maxHeartbeats 4000000 in
theorem t_X5_span_0 {X : sj_X} {s0 : sj_Mem} {N : Nat} {q : Unit × sj_Mem} :
    ∀ (a0 : Nat) (x1 : Option Nat) (x2 : Int) (x3 : Int) (x4 : Int) (s : sj_Mem), f_X5_span N a0 x1 x2 x3 x4 s = some q → sj_T X m_X5_span s0 (none, q.2) 0 [some (sj_r (some a0)), some (sj_r x1), some (sj_i x2), some (sj_i x3), some (sj_i x4)] [] s := by
  intro a0 x1 x2 x3 x4 s h
  unfold f_X5_span at h
  refine r_aload_n (pc := 0) dX5_span_0 rfl rfl ?_
  refine r_iload_n (pc := 1) dX5_span_1 rfl rfl ?_
  refine r_pI (pc := 2) h dX5_span_2 fw_X5_15 rfl rfl (fun _ hq => by cases hq; rfl) (fun s1 h => ?_)
  refine r_aload_n (pc := 5) dX5_span_5 rfl rfl ?_
  refine r_iload_n (pc := 6) dX5_span_6 rfl rfl ?_
  refine r_pI (pc := 7) h dX5_span_7 fw_X5_19 rfl rfl (fun _ hq => by cases hq; rfl) (fun s2 h => ?_)
  refine r_aload_n (pc := 10) dX5_span_10 rfl rfl ?_
  refine r_iload (pc := 11) dX5_span_11 rfl ?_
  refine r_pZ (pc := 13) h dX5_span_13 fw_X5_28 rfl rfl (fun _ hq => by cases hq; rfl) (fun s3 h => ?_)
  refine r_aload_n (pc := 16) dX5_span_16 rfl rfl ?_
  refine r_gR (pc := 17) h dX5_span_17 fw_X5_9 rfl (fun r4 h => ?_)
  refine r_iload_n (pc := 20) dX5_span_20 rfl rfl ?_
  refine r_aload_n (pc := 21) dX5_span_21 rfl rfl ?_
  obtain ⟨a5, ea5, g⟩ := e_nn_some h
  clear h
  subst ea5
  have h := g
  clear g
  refine r_gR (pc := 22) h dX5_span_22 fw_X5_45 rfl (fun r6 h => ?_)
  refine r_iload_n (pc := 25) dX5_span_25 rfl rfl ?_
  obtain ⟨a7, ea7, g⟩ := e_nn_some h
  clear h
  subst ea7
  have h := g
  clear g
  refine r_iaload (pc := 26) h dX5_span_26 (fun v8 h => ?_)
  obtain ⟨a9, ea9, g⟩ := e_nn_some h
  clear h
  subst ea9
  have h := g
  clear g
  refine r_iastore (pc := 27) h dX5_span_27 (fun s10 h => ?_)
  refine r_aload_n (pc := 28) dX5_span_28 rfl rfl ?_
  refine r_gR (pc := 29) h dX5_span_29 fw_X5_9 rfl (fun r11 h => ?_)
  refine r_iload_n (pc := 32) dX5_span_32 rfl rfl ?_
  refine r_aload_n (pc := 33) dX5_span_33 rfl rfl ?_
  refine r_gR (pc := 34) h dX5_span_34 fw_X5_45 rfl (fun r12 h => ?_)
  refine r_iload_n (pc := 37) dX5_span_37 rfl rfl ?_
  obtain ⟨a13, ea13, g⟩ := e_nn_some h
  clear h
  subst ea13
  have h := g
  clear g
  refine r_iaload (pc := 38) h dX5_span_38 (fun v14 h => ?_)
  obtain ⟨a15, ea15, g⟩ := e_nn_some h
  clear h
  subst ea15
  have h := g
  clear g
  refine r_iastore (pc := 39) h dX5_span_39 (fun s16 h => ?_)
  exact r_vret (pc := 40) h rfl dX5_span_40
set_option maxHeartbeats 4000000 in
theorem c_X5_span {X : sj_X} {N : Nat} {a0 : Nat} {x1 : Option Nat} {x2 : Int} {x3 : Int} {x4 : Int} {s : sj_Mem} {q : Unit × sj_Mem} (h : f_X5_span N a0 x1 x2 x3 x4 s = some q) : sj_C X m_X5_span [sj_r (some a0), sj_r x1, sj_i x2, sj_i x3, sj_i x4] s (none, q.2) :=
  sj_C_of (by decide +kernel) (Nat.le_of_ble_eq_true rfl) (lo := [some (sj_r (some a0)), some (sj_r x1), some (sj_i x2), some (sj_i x3), some (sj_i x4)]) rfl (sj_weak (l2 := [some (sj_r (some a0)), some (sj_r x1), some (sj_i x2), some (sj_i x3), some (sj_i x4)]) (⟨rfl, ⟨rfl, ⟨rfl, ⟨rfl, ⟨rfl, trivial⟩⟩⟩⟩⟩) (t_X5_span_0 a0 x1 x2 x3 x4 s h))
theorem dX8_rootOf_0 : decode cX8_rootOf 0 = .ok (.iconst 0, 1) := by decide +kernel
theorem dX8_rootOf_1 : decode cX8_rootOf 1 = .ok (.istore_n 1, 1) := by decide +kernel
theorem dX8_rootOf_2 : decode cX8_rootOf 2 = .ok (.sipush 256, 3) := by decide +kernel
theorem dX8_rootOf_5 : decode cX8_rootOf 5 = .ok (.istore_n 2, 1) := by decide +kernel
theorem dX8_rootOf_6 : decode cX8_rootOf 6 = .ok (.iload_n 2, 1) := by decide +kernel
theorem dX8_rootOf_7 : decode cX8_rootOf 7 = .ok (.ifCond .le 23, 3) := by decide +kernel
theorem dX8_rootOf_10 : decode cX8_rootOf 10 = .ok (.iload_n 1, 1) := by decide +kernel
theorem dX8_rootOf_11 : decode cX8_rootOf 11 = .ok (.iload_n 2, 1) := by decide +kernel
theorem dX8_rootOf_12 : decode cX8_rootOf 12 = .ok (.iadd, 1) := by decide +kernel
theorem dX8_rootOf_13 : decode cX8_rootOf 13 = .ok (.istore_n 3, 1) := by decide +kernel
theorem dX8_rootOf_14 : decode cX8_rootOf 14 = .ok (.iload_n 3, 1) := by decide +kernel
theorem dX8_rootOf_15 : decode cX8_rootOf 15 = .ok (.iload_n 3, 1) := by decide +kernel
theorem dX8_rootOf_16 : decode cX8_rootOf 16 = .ok (.imul, 1) := by decide +kernel
theorem dX8_rootOf_17 : decode cX8_rootOf 17 = .ok (.iload_n 0, 1) := by decide +kernel
theorem dX8_rootOf_18 : decode cX8_rootOf 18 = .ok (.if_icmp .gt 5, 3) := by decide +kernel
theorem dX8_rootOf_21 : decode cX8_rootOf 21 = .ok (.iload_n 3, 1) := by decide +kernel
theorem dX8_rootOf_22 : decode cX8_rootOf 22 = .ok (.istore_n 1, 1) := by decide +kernel
theorem dX8_rootOf_23 : decode cX8_rootOf 23 = .ok (.iload_n 2, 1) := by decide +kernel
theorem dX8_rootOf_24 : decode cX8_rootOf 24 = .ok (.iconst 2, 1) := by decide +kernel
theorem dX8_rootOf_25 : decode cX8_rootOf 25 = .ok (.idiv, 1) := by decide +kernel
theorem dX8_rootOf_26 : decode cX8_rootOf 26 = .ok (.istore_n 2, 1) := by decide +kernel
theorem dX8_rootOf_27 : decode cX8_rootOf 27 = .ok (.goto (-21), 3) := by decide +kernel
theorem dX8_rootOf_30 : decode cX8_rootOf 30 = .ok (.iload_n 1, 1) := by decide +kernel
theorem dX8_rootOf_31 : decode cX8_rootOf 31 = .ok (.ireturn, 1) := by decide +kernel
set_option maxHeartbeats 4000000 in
theorem t_X8_rootOf_23 {X : sj_X} {s0 : sj_Mem} {N : Nat} {q : Int × sj_Mem} {k6 : Int → Int → Int → sj_Mem → Option (Int × sj_Mem)} (hk6 : ∀ (x0 : Int) (x1 : Int) (x2 : Int) (s : sj_Mem), k6 x0 x1 x2 s = some q → sj_T X m_X8_rootOf s0 (some (sj_i q.1), q.2) 6 [some (sj_i x0), some (sj_i x1), some (sj_i x2), none] [] s) :
    ∀ (x0 : Int) (x1 : Int) (x2 : Int) (s : sj_Mem), f_X8_rootOf_23 N k6 x0 x1 x2 s = some q → sj_T X m_X8_rootOf s0 (some (sj_i q.1), q.2) 23 [some (sj_i x0), some (sj_i x1), some (sj_i x2), none] [] s := by
  intro x0 x1 x2 s h
  unfold f_X8_rootOf_23 at h
  refine r_iload_n (pc := 23) dX8_rootOf_23 rfl rfl ?_
  refine r_iconst (pc := 24) dX8_rootOf_24 ?_
  refine r_idiv (pc := 25) h dX8_rootOf_25 (fun v1 h => ?_)
  refine r_istore_n (ln := [some (sj_i x0), some (sj_i x1), some (sj_i v1), none]) (pc := 26) dX8_rootOf_26 rfl (Nat.le_of_ble_eq_true rfl) rfl ?_
  refine r_goto (pc := 27) (tgt := 6) dX8_rootOf_27 (by decide) ?_
  exact sj_weak (l2 := [some (sj_i x0), some (sj_i x1), some (sj_i v1), none]) (⟨rfl, ⟨rfl, ⟨rfl, trivial⟩⟩⟩) (hk6 x0 x1 v1 s h)
set_option maxHeartbeats 4000000 in
theorem t_X8_rootOf_6_b {X : sj_X} {s0 : sj_Mem} {N : Nat} {q : Int × sj_Mem} {k6 : Int → Int → Int → sj_Mem → Option (Int × sj_Mem)} (hk6 : ∀ (x0 : Int) (x1 : Int) (x2 : Int) (s : sj_Mem), k6 x0 x1 x2 s = some q → sj_T X m_X8_rootOf s0 (some (sj_i q.1), q.2) 6 [some (sj_i x0), some (sj_i x1), some (sj_i x2), none] [] s) :
    ∀ (x0 : Int) (x1 : Int) (x2 : Int) (s : sj_Mem), f_X8_rootOf_6_b N k6 x0 x1 x2 s = some q → sj_T X m_X8_rootOf s0 (some (sj_i q.1), q.2) 6 [some (sj_i x0), some (sj_i x1), some (sj_i x2), none] [] s := by
  intro x0 x1 x2 s h
  unfold f_X8_rootOf_6_b at h
  refine r_iload_n (pc := 6) dX8_rootOf_6 rfl rfl ?_
  refine r_if_le (pc := 7) (tgt := 30) h dX8_rootOf_7 (by decide) (fun h => ?_) (fun h => ?_)
  · refine r_iload_n (pc := 30) dX8_rootOf_30 rfl rfl ?_
    exact r_iret (pc := 31) h rfl dX8_rootOf_31
  · refine r_iload_n (pc := 10) dX8_rootOf_10 rfl rfl ?_
    refine r_iload_n (pc := 11) dX8_rootOf_11 rfl rfl ?_
    refine r_iadd (pc := 12) dX8_rootOf_12 ?_
    refine r_istore_nL (ln := fun w => [some (sj_i x0), some (sj_i x1), some (sj_i x2), some (sj_i w)]) (pc := 13) h dX8_rootOf_13 rfl (Nat.le_of_ble_eq_true rfl) (fun _ => rfl) (fun v1 h => ?_)
    refine r_iload_n (pc := 14) dX8_rootOf_14 rfl rfl ?_
    refine r_iload_n (pc := 15) dX8_rootOf_15 rfl rfl ?_
    refine r_imul (pc := 16) dX8_rootOf_16 ?_
    refine r_iload_n (pc := 17) dX8_rootOf_17 rfl rfl ?_
    refine r_icmp_gt (pc := 18) (tgt := 23) h dX8_rootOf_18 (by decide) (fun h => ?_) (fun h => ?_)
    · exact sj_weak (l2 := [some (sj_i x0), some (sj_i x1), some (sj_i x2), none]) (⟨rfl, ⟨rfl, ⟨rfl, trivial⟩⟩⟩) (t_X8_rootOf_23 hk6 x0 x1 x2 s h)
    · refine r_iload_n (pc := 21) dX8_rootOf_21 rfl rfl ?_
      refine r_istore_n (ln := [some (sj_i x0), some (sj_i v1), some (sj_i x2), some (sj_i v1)]) (pc := 22) dX8_rootOf_22 rfl (Nat.le_of_ble_eq_true rfl) rfl ?_
      exact sj_weak (l2 := [some (sj_i x0), some (sj_i v1), some (sj_i x2), none]) (⟨rfl, ⟨rfl, ⟨rfl, trivial⟩⟩⟩) (t_X8_rootOf_23 hk6 x0 v1 x2 s h)
set_option maxHeartbeats 4000000 in
theorem t_X8_rootOf_6 {X : sj_X} {s0 : sj_Mem} {N : Nat} {q : Int × sj_Mem} :
    ∀ (n : Nat) (x0 : Int) (x1 : Int) (x2 : Int) (s : sj_Mem), f_X8_rootOf_6 N n x0 x1 x2 s = some q → sj_T X m_X8_rootOf s0 (some (sj_i q.1), q.2) 6 [some (sj_i x0), some (sj_i x1), some (sj_i x2), none] [] s := by
  intro n
  induction n with
  | zero => intro x0 x1 x2 s h; exact nomatch h
  | succ n ih => intro x0 x1 x2 s h; exact t_X8_rootOf_6_b (N := N) ih x0 x1 x2 s h
set_option maxHeartbeats 4000000 in
theorem t_X8_rootOf_0 {X : sj_X} {s0 : sj_Mem} {N : Nat} {q : Int × sj_Mem} :
    ∀ (x0 : Int) (s : sj_Mem), f_X8_rootOf N x0 s = some q → sj_T X m_X8_rootOf s0 (some (sj_i q.1), q.2) 0 [some (sj_i x0), none, none, none] [] s := by
  intro x0 s h
  unfold f_X8_rootOf at h
  refine r_iconst (pc := 0) dX8_rootOf_0 ?_
  refine r_istore_n (ln := [some (sj_i x0), some (sj_i 0), none, none]) (pc := 1) dX8_rootOf_1 rfl (Nat.le_of_ble_eq_true rfl) rfl ?_
  refine r_sipush (pc := 2) dX8_rootOf_2 ⟨by decide, by decide⟩ ?_
  refine r_istore_n (ln := [some (sj_i x0), some (sj_i 0), some (sj_i 256), none]) (pc := 5) dX8_rootOf_5 rfl (Nat.le_of_ble_eq_true rfl) rfl ?_
  exact sj_weak (l2 := [some (sj_i x0), some (sj_i 0), some (sj_i 256), none]) (⟨rfl, ⟨rfl, ⟨rfl, trivial⟩⟩⟩) (t_X8_rootOf_6 N x0 0 256 s h)
set_option maxHeartbeats 4000000 in
theorem c_X8_rootOf {X : sj_X} {N : Nat} {x0 : Int} {s : sj_Mem} {q : Int × sj_Mem} (h : f_X8_rootOf N x0 s = some q) : sj_C X m_X8_rootOf [sj_i x0] s (some (sj_i q.1), q.2) :=
  sj_C_of (by decide +kernel) (Nat.le_of_ble_eq_true rfl) (lo := [some (sj_i x0), none, none, none]) rfl (sj_weak (l2 := [some (sj_i x0), none, none, none]) (⟨rfl, trivial⟩) (t_X8_rootOf_0 x0 s h))
