theorem dX5_init_0 : decode cX5_init 0 = .ok (.aload_n 0, 1) := by decide +kernel
theorem dX5_init_1 : decode cX5_init 1 = .ok (.invokespecial 3, 3) := by decide +kernel
theorem dX5_init_4 : decode cX5_init 4 = .ok (.aload_n 0, 1) := by decide +kernel
theorem dX5_init_5 : decode cX5_init 5 = .ok (.bipush 41, 2) := by decide +kernel
theorem dX5_init_7 : decode cX5_init 7 = .ok (.newarray .int, 2) := by decide +kernel
theorem dX5_init_9 : decode cX5_init 9 = .ok (.putfield 9, 3) := by decide +kernel
theorem dX5_init_12 : decode cX5_init 12 = .ok (.aload_n 0, 1) := by decide +kernel
theorem dX5_init_13 : decode cX5_init 13 = .ok (.iconst (-1), 1) := by decide +kernel
theorem dX5_init_14 : decode cX5_init 14 = .ok (.putfield 15, 3) := by decide +kernel
theorem dX5_init_17 : decode cX5_init 17 = .ok (.aload_n 0, 1) := by decide +kernel
theorem dX5_init_18 : decode cX5_init 18 = .ok (.iconst (-1), 1) := by decide +kernel
theorem dX5_init_19 : decode cX5_init 19 = .ok (.putfield 19, 3) := by decide +kernel
theorem dX5_init_22 : decode cX5_init 22 = .ok (.return_, 1) := by decide +kernel
set_option maxHeartbeats 4000000 in
theorem t_X5_init_0 {X : sj_X} {s0 : sj_Mem} {N : Nat} {q : Unit × sj_Mem} :
    ∀ (a0 : Nat) (s : sj_Mem), f_X5_init N a0 s = some q → sj_T X m_X5_init s0 (none, q.2) 0 [some (sj_r (some a0))] [] s := by
  intro a0 s h
  unfold f_X5_init at h
  refine r_aload_n (pc := 0) dX5_init_0 rfl rfl ?_
  refine r_oinit (pc := 1) dX5_init_1 ow_X5_3 (Nat.le_of_ble_eq_true rfl) (Nat.le_of_ble_eq_true rfl) ?_
  refine r_aload_n (pc := 4) dX5_init_4 rfl rfl ?_
  refine r_bipush (pc := 5) dX5_init_5 ⟨by decide, by decide⟩ ?_
  refine r_nA_I (pc := 7) h dX5_init_7 kw_62 (fun a1 s2 h => ?_)
  refine r_pF (pc := 9) h dX5_init_9 ff_X5_9 rfl rfl (Or.inr ⟨_, rfl⟩) (fun s3 h => ?_)
  refine r_aload_n (pc := 12) dX5_init_12 rfl rfl ?_
  refine r_iconst (pc := 13) dX5_init_13 ?_
  refine r_pI (pc := 14) h dX5_init_14 fw_X5_15 rfl rfl (fun _ hq => by cases hq; rfl) (fun s4 h => ?_)
  refine r_aload_n (pc := 17) dX5_init_17 rfl rfl ?_
  refine r_iconst (pc := 18) dX5_init_18 ?_
  refine r_pI (pc := 19) h dX5_init_19 fw_X5_19 rfl rfl (fun _ hq => by cases hq; rfl) (fun s5 h => ?_)
  exact r_vret (pc := 22) h rfl dX5_init_22
set_option maxHeartbeats 4000000 in
theorem c_X5_init {X : sj_X} {N : Nat} {a0 : Nat} {s : sj_Mem} {q : Unit × sj_Mem} (h : f_X5_init N a0 s = some q) : sj_C X m_X5_init [sj_r (some a0)] s (none, q.2) :=
  sj_C_of (by decide +kernel) (Nat.le_of_ble_eq_true rfl) (lo := [some (sj_r (some a0))]) rfl (sj_weak (l2 := [some (sj_r (some a0))]) (⟨rfl, trivial⟩) (t_X5_init_0 a0 s h))
theorem dX0_init_0 : decode cX0_init 0 = .ok (.aload_n 0, 1) := by decide +kernel
theorem dX0_init_1 : decode cX0_init 1 = .ok (.invokespecial 3, 3) := by decide +kernel
theorem dX0_init_4 : decode cX0_init 4 = .ok (.aload_n 0, 1) := by decide +kernel
theorem dX0_init_5 : decode cX0_init 5 = .ok (.bipush 41, 2) := by decide +kernel
theorem dX0_init_7 : decode cX0_init 7 = .ok (.newarray .int, 2) := by decide +kernel
theorem dX0_init_9 : decode cX0_init 9 = .ok (.putfield 9, 3) := by decide +kernel
theorem dX0_init_12 : decode cX0_init 12 = .ok (.aload_n 0, 1) := by decide +kernel
theorem dX0_init_13 : decode cX0_init 13 = .ok (.bipush 41, 2) := by decide +kernel
theorem dX0_init_15 : decode cX0_init 15 = .ok (.newarray .int, 2) := by decide +kernel
theorem dX0_init_17 : decode cX0_init 17 = .ok (.putfield 15, 3) := by decide +kernel
theorem dX0_init_20 : decode cX0_init 20 = .ok (.aload_n 0, 1) := by decide +kernel
theorem dX0_init_21 : decode cX0_init 21 = .ok (.bipush 41, 2) := by decide +kernel
theorem dX0_init_23 : decode cX0_init 23 = .ok (.newarray .int, 2) := by decide +kernel
theorem dX0_init_25 : decode cX0_init 25 = .ok (.putfield 18, 3) := by decide +kernel
theorem dX0_init_28 : decode cX0_init 28 = .ok (.aload_n 0, 1) := by decide +kernel
theorem dX0_init_29 : decode cX0_init 29 = .ok (.bipush 41, 2) := by decide +kernel
theorem dX0_init_31 : decode cX0_init 31 = .ok (.newarray .int, 2) := by decide +kernel
theorem dX0_init_33 : decode cX0_init 33 = .ok (.putfield 21, 3) := by decide +kernel
theorem dX0_init_36 : decode cX0_init 36 = .ok (.aload_n 0, 1) := by decide +kernel
theorem dX0_init_37 : decode cX0_init 37 = .ok (.bipush 123, 2) := by decide +kernel
theorem dX0_init_39 : decode cX0_init 39 = .ok (.newarray .int, 2) := by decide +kernel
theorem dX0_init_41 : decode cX0_init 41 = .ok (.putfield 24, 3) := by decide +kernel
theorem dX0_init_44 : decode cX0_init 44 = .ok (.aload_n 0, 1) := by decide +kernel
theorem dX0_init_45 : decode cX0_init 45 = .ok (.iconst 4, 1) := by decide +kernel
theorem dX0_init_46 : decode cX0_init 46 = .ok (.newarray .int, 2) := by decide +kernel
theorem dX0_init_48 : decode cX0_init 48 = .ok (.putfield 27, 3) := by decide +kernel
theorem dX0_init_51 : decode cX0_init 51 = .ok (.aload_n 0, 1) := by decide +kernel
theorem dX0_init_52 : decode cX0_init 52 = .ok (.iconst 4, 1) := by decide +kernel
theorem dX0_init_53 : decode cX0_init 53 = .ok (.newarray .int, 2) := by decide +kernel
theorem dX0_init_55 : decode cX0_init 55 = .ok (.putfield 30, 3) := by decide +kernel
theorem dX0_init_58 : decode cX0_init 58 = .ok (.aload_n 0, 1) := by decide +kernel
theorem dX0_init_59 : decode cX0_init 59 = .ok (.iconst 4, 1) := by decide +kernel
theorem dX0_init_60 : decode cX0_init 60 = .ok (.newarray .int, 2) := by decide +kernel
theorem dX0_init_62 : decode cX0_init 62 = .ok (.putfield 33, 3) := by decide +kernel
theorem dX0_init_65 : decode cX0_init 65 = .ok (.aload_n 0, 1) := by decide +kernel
theorem dX0_init_66 : decode cX0_init 66 = .ok (.bipush 6, 2) := by decide +kernel
theorem dX0_init_68 : decode cX0_init 68 = .ok (.newarray .int, 2) := by decide +kernel
theorem dX0_init_70 : decode cX0_init 70 = .ok (.putfield 36, 3) := by decide +kernel
theorem dX0_init_73 : decode cX0_init 73 = .ok (.aload_n 0, 1) := by decide +kernel
theorem dX0_init_74 : decode cX0_init 74 = .ok (.bipush 6, 2) := by decide +kernel
theorem dX0_init_76 : decode cX0_init 76 = .ok (.newarray .int, 2) := by decide +kernel
theorem dX0_init_78 : decode cX0_init 78 = .ok (.putfield 39, 3) := by decide +kernel
theorem dX0_init_81 : decode cX0_init 81 = .ok (.aload_n 0, 1) := by decide +kernel
theorem dX0_init_82 : decode cX0_init 82 = .ok (.bipush 6, 2) := by decide +kernel
theorem dX0_init_84 : decode cX0_init 84 = .ok (.newarray .int, 2) := by decide +kernel
theorem dX0_init_86 : decode cX0_init 86 = .ok (.putfield 42, 3) := by decide +kernel
theorem dX0_init_89 : decode cX0_init 89 = .ok (.aload_n 0, 1) := by decide +kernel
theorem dX0_init_90 : decode cX0_init 90 = .ok (.new 45, 3) := by decide +kernel
theorem dX0_init_93 : decode cX0_init 93 = .ok (.dup, 1) := by decide +kernel
theorem dX0_init_94 : decode cX0_init 94 = .ok (.invokespecial 47, 3) := by decide +kernel
theorem dX0_init_97 : decode cX0_init 97 = .ok (.putfield 48, 3) := by decide +kernel
theorem dX0_init_100 : decode cX0_init 100 = .ok (.return_, 1) := by decide +kernel
set_option maxHeartbeats 4000000 in
theorem t_X0_init_0 {X : sj_X} {s0 : sj_Mem} {N : Nat} {q : Unit × sj_Mem} :
    ∀ (a0 : Nat) (s : sj_Mem), f_X0_init N a0 s = some q → sj_T X m_X0_init s0 (none, q.2) 0 [some (sj_r (some a0))] [] s := by
  intro a0 s h
  unfold f_X0_init at h
  refine r_aload_n (pc := 0) dX0_init_0 rfl rfl ?_
  refine r_oinit (pc := 1) dX0_init_1 ow_X0_3 (Nat.le_of_ble_eq_true rfl) (Nat.le_of_ble_eq_true rfl) ?_
  refine r_aload_n (pc := 4) dX0_init_4 rfl rfl ?_
  refine r_bipush (pc := 5) dX0_init_5 ⟨by decide, by decide⟩ ?_
  refine r_nA_I (pc := 7) h dX0_init_7 kw_62 (fun a1 s2 h => ?_)
  refine r_pF (pc := 9) h dX0_init_9 ff_X0_9 rfl rfl (Or.inr ⟨_, rfl⟩) (fun s3 h => ?_)
  refine r_aload_n (pc := 12) dX0_init_12 rfl rfl ?_
  refine r_bipush (pc := 13) dX0_init_13 ⟨by decide, by decide⟩ ?_
  refine r_nA_I (pc := 15) h dX0_init_15 kw_62 (fun a4 s5 h => ?_)
  refine r_pF (pc := 17) h dX0_init_17 ff_X0_15 rfl rfl (Or.inr ⟨_, rfl⟩) (fun s6 h => ?_)
  refine r_aload_n (pc := 20) dX0_init_20 rfl rfl ?_
  refine r_bipush (pc := 21) dX0_init_21 ⟨by decide, by decide⟩ ?_
  refine r_nA_I (pc := 23) h dX0_init_23 kw_62 (fun a7 s8 h => ?_)
  refine r_pF (pc := 25) h dX0_init_25 ff_X0_18 rfl rfl (Or.inr ⟨_, rfl⟩) (fun s9 h => ?_)
  refine r_aload_n (pc := 28) dX0_init_28 rfl rfl ?_
  refine r_bipush (pc := 29) dX0_init_29 ⟨by decide, by decide⟩ ?_
  refine r_nA_I (pc := 31) h dX0_init_31 kw_62 (fun a10 s11 h => ?_)
  refine r_pF (pc := 33) h dX0_init_33 ff_X0_21 rfl rfl (Or.inr ⟨_, rfl⟩) (fun s12 h => ?_)
  refine r_aload_n (pc := 36) dX0_init_36 rfl rfl ?_
  refine r_bipush (pc := 37) dX0_init_37 ⟨by decide, by decide⟩ ?_
  refine r_nA_I (pc := 39) h dX0_init_39 kw_62 (fun a13 s14 h => ?_)
  refine r_pF (pc := 41) h dX0_init_41 ff_X0_24 rfl rfl (Or.inr ⟨_, rfl⟩) (fun s15 h => ?_)
  refine r_aload_n (pc := 44) dX0_init_44 rfl rfl ?_
  refine r_iconst (pc := 45) dX0_init_45 ?_
  refine r_nA_I (pc := 46) h dX0_init_46 kw_62 (fun a16 s17 h => ?_)
  refine r_pF (pc := 48) h dX0_init_48 ff_X0_27 rfl rfl (Or.inr ⟨_, rfl⟩) (fun s18 h => ?_)
  refine r_aload_n (pc := 51) dX0_init_51 rfl rfl ?_
  refine r_iconst (pc := 52) dX0_init_52 ?_
  refine r_nA_I (pc := 53) h dX0_init_53 kw_62 (fun a19 s20 h => ?_)
  refine r_pF (pc := 55) h dX0_init_55 ff_X0_30 rfl rfl (Or.inr ⟨_, rfl⟩) (fun s21 h => ?_)
  refine r_aload_n (pc := 58) dX0_init_58 rfl rfl ?_
  refine r_iconst (pc := 59) dX0_init_59 ?_
  refine r_nA_I (pc := 60) h dX0_init_60 kw_62 (fun a22 s23 h => ?_)
  refine r_pF (pc := 62) h dX0_init_62 ff_X0_33 rfl rfl (Or.inr ⟨_, rfl⟩) (fun s24 h => ?_)
  refine r_aload_n (pc := 65) dX0_init_65 rfl rfl ?_
  refine r_bipush (pc := 66) dX0_init_66 ⟨by decide, by decide⟩ ?_
  refine r_nA_I (pc := 68) h dX0_init_68 kw_62 (fun a25 s26 h => ?_)
  refine r_pF (pc := 70) h dX0_init_70 ff_X0_36 rfl rfl (Or.inr ⟨_, rfl⟩) (fun s27 h => ?_)
  refine r_aload_n (pc := 73) dX0_init_73 rfl rfl ?_
  refine r_bipush (pc := 74) dX0_init_74 ⟨by decide, by decide⟩ ?_
  refine r_nA_I (pc := 76) h dX0_init_76 kw_62 (fun a28 s29 h => ?_)
  refine r_pF (pc := 78) h dX0_init_78 ff_X0_39 rfl rfl (Or.inr ⟨_, rfl⟩) (fun s30 h => ?_)
  refine r_aload_n (pc := 81) dX0_init_81 rfl rfl ?_
  refine r_bipush (pc := 82) dX0_init_82 ⟨by decide, by decide⟩ ?_
  refine r_nA_I (pc := 84) h dX0_init_84 kw_62 (fun a31 s32 h => ?_)
  refine r_pF (pc := 86) h dX0_init_86 ff_X0_42 rfl rfl (Or.inr ⟨_, rfl⟩) (fun s33 h => ?_)
  refine r_aload_n (pc := 89) dX0_init_89 rfl rfl ?_
  refine r_new (pc := 90) h dX0_init_90 nw_X0_45 (fun a34 s35 h => ?_)
  refine r_dup (pc := 93) dX0_init_93 rfl ?_
  refine r_callI (pc := 94) (fun _ => none) (As := []) (rest := [(sj_r (some a34)), (sj_r (some a0))]) (b := a34) h dX0_init_94 mw_X0_47 ⟨kw_35, rfl, rfl⟩ (fun _ _ hc => c_X5_init hc) rfl ⟨(Nat.le_of_ble_eq_true rfl), (Nat.le_of_ble_eq_true rfl)⟩ (Nat.le_of_ble_eq_true rfl) rfl (fun _u s36 h => ?_)
  refine r_pF (pc := 97) h dX0_init_97 ff_X0_48 rfl rfl (Or.inl ⟨_, rfl⟩) (fun s37 h => ?_)
  exact r_vret (pc := 100) h rfl dX0_init_100
set_option maxHeartbeats 4000000 in
theorem c_X0_init {X : sj_X} {N : Nat} {a0 : Nat} {s : sj_Mem} {q : Unit × sj_Mem} (h : f_X0_init N a0 s = some q) : sj_C X m_X0_init [sj_r (some a0)] s (none, q.2) :=
  sj_C_of (by decide +kernel) (Nat.le_of_ble_eq_true rfl) (lo := [some (sj_r (some a0))]) rfl (sj_weak (l2 := [some (sj_r (some a0))]) (⟨rfl, trivial⟩) (t_X0_init_0 a0 s h))
set_option maxHeartbeats 4000000 in
theorem t_J7_fill_53178_5_b {X : sj_X} {s0 : sj_Mem} {N : Nat} {q : Unit × sj_Mem} {k5 : Option Nat → Int → Int → Int → sj_Mem → Option (Unit × sj_Mem)} (hk5 : ∀ (x0 : Option Nat) (x1 : Int) (x2 : Int) (x3 : Int) (s : sj_Mem), k5 x0 x1 x2 x3 s = some q → sj_T X m_J7_fill_53178 s0 (none, q.2) 5 [some (sj_r x0), some (sj_i x1), some (sj_i x2), some (sj_i x3)] [] s) :
    ∀ (x0 : Option Nat) (x1 : Int) (x2 : Int) (x3 : Int) (s : sj_Mem), f_J7_fill_53178_5_b N k5 x0 x1 x2 x3 s = some q → sj_T X m_J7_fill_53178 s0 (none, q.2) 5 [some (sj_r x0), some (sj_i x1), some (sj_i x2), some (sj_i x3)] [] s := by
  intro x0 x1 x2 x3 s h
  unfold f_J7_fill_53178_5_b at h
  refine r_iload_n (pc := 5) dJ7_fill_53178_5 rfl rfl ?_
  refine r_iload_n (pc := 6) dJ7_fill_53178_6 rfl rfl ?_
  refine r_icmp_ge (pc := 7) (tgt := 20) h dJ7_fill_53178_7 (by decide) (fun h => ?_) (fun h => ?_)
  · exact r_vret (pc := 20) h rfl dJ7_fill_53178_20
  · refine r_aload_n (pc := 10) dJ7_fill_53178_10 rfl rfl ?_
    refine r_iload_n (pc := 11) dJ7_fill_53178_11 rfl rfl ?_
    refine r_iload_n (pc := 12) dJ7_fill_53178_12 rfl rfl ?_
    obtain ⟨a1, ea1, g⟩ := e_nn_some h
    clear h
    subst ea1
    have h := g
    clear g
    refine r_iastore (pc := 13) h dJ7_fill_53178_13 (fun s2 h => ?_)
    refine r_iinc (ln := fun w => [some (sj_r (some a1)), some (sj_i x1), some (sj_i w), some (sj_i x3)]) (pc := 14) h dJ7_fill_53178_14 rfl (Nat.le_of_ble_eq_true rfl) (fun _ => rfl) (fun v3 h => ?_)
    refine r_goto (pc := 17) (tgt := 5) dJ7_fill_53178_17 (by decide) ?_
    exact sj_weak (l2 := [some (sj_r (some a1)), some (sj_i x1), some (sj_i v3), some (sj_i x3)]) (⟨rfl, ⟨rfl, ⟨rfl, ⟨rfl, trivial⟩⟩⟩⟩) (hk5 (some a1) x1 v3 x3 s2 h)
set_option maxHeartbeats 4000000 in
theorem t_J7_fill_53178_5 {X : sj_X} {s0 : sj_Mem} {N : Nat} {q : Unit × sj_Mem} :
    ∀ (n : Nat) (x0 : Option Nat) (x1 : Int) (x2 : Int) (x3 : Int) (s : sj_Mem), f_J7_fill_53178_5 N n x0 x1 x2 x3 s = some q → sj_T X m_J7_fill_53178 s0 (none, q.2) 5 [some (sj_r x0), some (sj_i x1), some (sj_i x2), some (sj_i x3)] [] s := by
  intro n
  induction n with
  | zero => intro x0 x1 x2 x3 s h; exact nomatch h
  | succ n ih => intro x0 x1 x2 x3 s h; exact t_J7_fill_53178_5_b (N := N) ih x0 x1 x2 x3 s h
set_option maxHeartbeats 4000000 in
theorem t_J7_fill_53178_0 {X : sj_X} {s0 : sj_Mem} {N : Nat} {q : Unit × sj_Mem} :
    ∀ (x0 : Option Nat) (x1 : Int) (s : sj_Mem), f_J7_fill_53178 N x0 x1 s = some q → sj_T X m_J7_fill_53178 s0 (none, q.2) 0 [some (sj_r x0), some (sj_i x1), none, none] [] s := by
  intro x0 x1 s h
  unfold f_J7_fill_53178 at h
  refine r_iconst (pc := 0) dJ7_fill_53178_0 ?_
  refine r_istore_n (ln := [some (sj_r x0), some (sj_i x1), some (sj_i 0), none]) (pc := 1) dJ7_fill_53178_1 rfl (Nat.le_of_ble_eq_true rfl) rfl ?_
  refine r_aload_n (pc := 2) dJ7_fill_53178_2 rfl rfl ?_
  obtain ⟨a1, ea1, g⟩ := e_nn_some h
  clear h
  subst ea1
  have h := g
  clear g
  refine r_al (pc := 3) h dJ7_fill_53178_3 (fun v2 h => ?_)
  refine r_istore_n (ln := [some (sj_r (some a1)), some (sj_i x1), some (sj_i 0), some (sj_i v2)]) (pc := 4) dJ7_fill_53178_4 rfl (Nat.le_of_ble_eq_true rfl) rfl ?_
  exact sj_weak (l2 := [some (sj_r (some a1)), some (sj_i x1), some (sj_i 0), some (sj_i v2)]) (⟨rfl, ⟨rfl, ⟨rfl, ⟨rfl, trivial⟩⟩⟩⟩) (t_J7_fill_53178_5 N (some a1) x1 0 v2 s h)
set_option maxHeartbeats 4000000 in
theorem c_J7_fill_53178 {X : sj_X} {N : Nat} {x0 : Option Nat} {x1 : Int} {s : sj_Mem} {q : Unit × sj_Mem} (h : f_J7_fill_53178 N x0 x1 s = some q) : sj_C X m_J7_fill_53178 [sj_r x0, sj_i x1] s (none, q.2) :=
  sj_C_of (by decide +kernel) (Nat.le_of_ble_eq_true rfl) (lo := [some (sj_r x0), some (sj_i x1), none, none]) rfl (sj_weak (l2 := [some (sj_r x0), some (sj_i x1), none, none]) (⟨rfl, ⟨rfl, trivial⟩⟩) (t_J7_fill_53178_0 x0 x1 s h))
set_option maxHeartbeats 4000000 in
theorem t_X5_drop_0 {X : sj_X} {s0 : sj_Mem} {N : Nat} {q : Unit × sj_Mem} :
    ∀ (a0 : Nat) (s : sj_Mem), f_X5_drop N a0 s = some q → sj_T X m_X5_drop s0 (none, q.2) 0 [some (sj_r (some a0))] [] s := by
  intro a0 s h
  unfold f_X5_drop at h
  refine r_aload_n (pc := 0) dX5_drop_0 rfl rfl ?_
  refine r_iconst (pc := 1) dX5_drop_1 ?_
  refine r_pI (pc := 2) h dX5_drop_2 fw_X5_15 rfl rfl (fun _ hq => by cases hq; rfl) (fun s1 h => ?_)
  refine r_aload_n (pc := 5) dX5_drop_5 rfl rfl ?_
  refine r_iconst (pc := 6) dX5_drop_6 ?_
  refine r_pI (pc := 7) h dX5_drop_7 fw_X5_19 rfl rfl (fun _ hq => by cases hq; rfl) (fun s2 h => ?_)
  exact r_vret (pc := 10) h rfl dX5_drop_10
set_option maxHeartbeats 4000000 in
theorem c_X5_drop {X : sj_X} {N : Nat} {a0 : Nat} {s : sj_Mem} {q : Unit × sj_Mem} (h : f_X5_drop N a0 s = some q) : sj_C X m_X5_drop [sj_r (some a0)] s (none, q.2) :=
  sj_C_of (by decide +kernel) (Nat.le_of_ble_eq_true rfl) (lo := [some (sj_r (some a0))]) rfl (sj_weak (l2 := [some (sj_r (some a0))]) (⟨rfl, trivial⟩) (t_X5_drop_0 a0 s h))
set_option maxHeartbeats 4000000 in
theorem t_X0_begin_0 {X : sj_X} {s0 : sj_Mem} {N : Nat} {q : Unit × sj_Mem} :
    ∀ (a0 : Nat) (x1 : Int) (x2 : Int) (s : sj_Mem), f_X0_begin N a0 x1 x2 s = some q → sj_T X m_X0_begin s0 (none, q.2) 0 [some (sj_r (some a0)), some (sj_i x1), some (sj_i x2)] [] s := by
  intro a0 x1 x2 s h
  unfold f_X0_begin at h
  refine r_aload_n (pc := 0) dX0_begin_0 rfl rfl ?_
  refine r_iload_n (pc := 1) dX0_begin_1 rfl rfl ?_
  refine r_pI (pc := 2) h dX0_begin_2 fw_X0_52 rfl rfl (fun _ hq => by cases hq; rfl) (fun s1 h => ?_)
  refine r_aload_n (pc := 5) dX0_begin_5 rfl rfl ?_
  refine r_iload_n (pc := 6) dX0_begin_6 rfl rfl ?_
  refine r_pI (pc := 7) h dX0_begin_7 fw_X0_56 rfl rfl (fun _ hq => by cases hq; rfl) (fun s2 h => ?_)
  refine r_aload_n (pc := 10) dX0_begin_10 rfl rfl ?_
  refine r_iconst (pc := 11) dX0_begin_11 ?_
  refine r_pI (pc := 12) h dX0_begin_12 fw_X0_59 rfl rfl (fun _ hq => by cases hq; rfl) (fun s3 h => ?_)
  refine r_aload_n (pc := 15) dX0_begin_15 rfl rfl ?_
  refine r_gR (pc := 16) h dX0_begin_16 fw_X0_9 rfl (fun r4 h => ?_)
  refine r_bipush (pc := 19) dX0_begin_19 ⟨by decide, by decide⟩ ?_
  refine r_callS (pc := 21) (fun _ => none) (As := [sj_r r4, sj_i 20]) (rest := []) h dX0_begin_21 mw_X0_62 kw_321 (fun _ _ hc => c_J7_fill_53178 hc) rfl ⟨(Nat.le_of_ble_eq_true rfl), (Nat.le_of_ble_eq_true rfl)⟩ (Nat.le_of_ble_eq_true rfl) rfl (fun _u s5 h => ?_)
  refine r_aload_n (pc := 24) dX0_begin_24 rfl rfl ?_
  refine r_gR (pc := 25) h dX0_begin_25 fw_X0_15 rfl (fun r6 h => ?_)
  refine r_iconst (pc := 28) dX0_begin_28 ?_
  refine r_callS (pc := 29) (fun _ => none) (As := [sj_r r6, sj_i 0]) (rest := []) h dX0_begin_29 mw_X0_62 kw_321 (fun _ _ hc => c_J7_fill_53178 hc) rfl ⟨(Nat.le_of_ble_eq_true rfl), (Nat.le_of_ble_eq_true rfl)⟩ (Nat.le_of_ble_eq_true rfl) rfl (fun _u s7 h => ?_)
  refine r_aload_n (pc := 32) dX0_begin_32 rfl rfl ?_
  refine r_gR (pc := 33) h dX0_begin_33 fw_X0_18 rfl (fun r8 h => ?_)
  refine r_iconst (pc := 36) dX0_begin_36 ?_
  refine r_callS (pc := 37) (fun _ => none) (As := [sj_r r8, sj_i 0]) (rest := []) h dX0_begin_37 mw_X0_62 kw_321 (fun _ _ hc => c_J7_fill_53178 hc) rfl ⟨(Nat.le_of_ble_eq_true rfl), (Nat.le_of_ble_eq_true rfl)⟩ (Nat.le_of_ble_eq_true rfl) rfl (fun _u s9 h => ?_)
  refine r_aload_n (pc := 40) dX0_begin_40 rfl rfl ?_
  refine r_gR (pc := 41) h dX0_begin_41 fw_X0_21 rfl (fun r10 h => ?_)
  refine r_iconst (pc := 44) dX0_begin_44 ?_
  refine r_callS (pc := 45) (fun _ => none) (As := [sj_r r10, sj_i 0]) (rest := []) h dX0_begin_45 mw_X0_62 kw_321 (fun _ _ hc => c_J7_fill_53178 hc) rfl ⟨(Nat.le_of_ble_eq_true rfl), (Nat.le_of_ble_eq_true rfl)⟩ (Nat.le_of_ble_eq_true rfl) rfl (fun _u s11 h => ?_)
  refine r_aload_n (pc := 48) dX0_begin_48 rfl rfl ?_
  refine r_gR (pc := 49) h dX0_begin_49 fw_X0_24 rfl (fun r12 h => ?_)
  refine r_iconst (pc := 52) dX0_begin_52 ?_
  refine r_callS (pc := 53) (fun _ => none) (As := [sj_r r12, sj_i 0]) (rest := []) h dX0_begin_53 mw_X0_62 kw_321 (fun _ _ hc => c_J7_fill_53178 hc) rfl ⟨(Nat.le_of_ble_eq_true rfl), (Nat.le_of_ble_eq_true rfl)⟩ (Nat.le_of_ble_eq_true rfl) rfl (fun _u s13 h => ?_)
  refine r_aload_n (pc := 56) dX0_begin_56 rfl rfl ?_
  refine r_gR (pc := 57) h dX0_begin_57 fw_X0_27 rfl (fun r14 h => ?_)
  refine r_bipush (pc := 60) dX0_begin_60 ⟨by decide, by decide⟩ ?_
  refine r_callS (pc := 62) (fun _ => none) (As := [sj_r r14, sj_i 20]) (rest := []) h dX0_begin_62 mw_X0_62 kw_321 (fun _ _ hc => c_J7_fill_53178 hc) rfl ⟨(Nat.le_of_ble_eq_true rfl), (Nat.le_of_ble_eq_true rfl)⟩ (Nat.le_of_ble_eq_true rfl) rfl (fun _u s15 h => ?_)
  refine r_aload_n (pc := 65) dX0_begin_65 rfl rfl ?_
  refine r_gR (pc := 66) h dX0_begin_66 fw_X0_30 rfl (fun r16 h => ?_)
  refine r_bipush (pc := 69) dX0_begin_69 ⟨by decide, by decide⟩ ?_
  refine r_callS (pc := 71) (fun _ => none) (As := [sj_r r16, sj_i 10]) (rest := []) h dX0_begin_71 mw_X0_62 kw_321 (fun _ _ hc => c_J7_fill_53178 hc) rfl ⟨(Nat.le_of_ble_eq_true rfl), (Nat.le_of_ble_eq_true rfl)⟩ (Nat.le_of_ble_eq_true rfl) rfl (fun _u s17 h => ?_)
  refine r_aload_n (pc := 74) dX0_begin_74 rfl rfl ?_
  refine r_gR (pc := 75) h dX0_begin_75 fw_X0_33 rfl (fun r18 h => ?_)
  refine r_sipush (pc := 78) dX0_begin_78 ⟨by decide, by decide⟩ ?_
  refine r_callS (pc := 81) (fun _ => none) (As := [sj_r r18, sj_i 300]) (rest := []) h dX0_begin_81 mw_X0_62 kw_321 (fun _ _ hc => c_J7_fill_53178 hc) rfl ⟨(Nat.le_of_ble_eq_true rfl), (Nat.le_of_ble_eq_true rfl)⟩ (Nat.le_of_ble_eq_true rfl) rfl (fun _u s19 h => ?_)
  refine r_aload_n (pc := 84) dX0_begin_84 rfl rfl ?_
  refine r_gR (pc := 85) h dX0_begin_85 fw_X0_42 rfl (fun r20 h => ?_)
  refine r_iconst (pc := 88) dX0_begin_88 ?_
  refine r_callS (pc := 89) (fun _ => none) (As := [sj_r r20, sj_i 0]) (rest := []) h dX0_begin_89 mw_X0_62 kw_321 (fun _ _ hc => c_J7_fill_53178 hc) rfl ⟨(Nat.le_of_ble_eq_true rfl), (Nat.le_of_ble_eq_true rfl)⟩ (Nat.le_of_ble_eq_true rfl) rfl (fun _u s21 h => ?_)
  refine r_aload_n (pc := 92) dX0_begin_92 rfl rfl ?_
  refine r_gR (pc := 93) h dX0_begin_93 fw_X0_48 rfl (fun r22 h => ?_)
  obtain ⟨a23, ea23, g⟩ := e_nn_some h
  clear h
  subst ea23
  have h := g
  clear g
  refine r_callV (pc := 96) (fun _ => none) (As := []) (rest := []) h dX0_begin_96 mw_X0_68 vw_X5_drop (fun _ _ hc => c_X5_drop hc) rfl ⟨(Nat.le_of_ble_eq_true rfl), (Nat.le_of_ble_eq_true rfl)⟩ (Nat.le_of_ble_eq_true rfl) rfl (fun _u s24 h => ?_)
  exact r_vret (pc := 99) h rfl dX0_begin_99
set_option maxHeartbeats 4000000 in
theorem c_X0_begin {X : sj_X} {N : Nat} {a0 : Nat} {x1 : Int} {x2 : Int} {s : sj_Mem} {q : Unit × sj_Mem} (h : f_X0_begin N a0 x1 x2 s = some q) : sj_C X m_X0_begin [sj_r (some a0), sj_i x1, sj_i x2] s (none, q.2) :=
  sj_C_of (by decide +kernel) (Nat.le_of_ble_eq_true rfl) (lo := [some (sj_r (some a0)), some (sj_i x1), some (sj_i x2)]) rfl (sj_weak (l2 := [some (sj_r (some a0)), some (sj_i x1), some (sj_i x2)]) (⟨rfl, ⟨rfl, ⟨rfl, trivial⟩⟩⟩) (t_X0_begin_0 a0 x1 x2 s h))
theorem dX1_init_0 : decode cX1_init 0 = .ok (.aload_n 0, 1) := by decide +kernel
theorem dX1_init_1 : decode cX1_init 1 = .ok (.invokespecial 3, 3) := by decide +kernel
theorem dX1_init_4 : decode cX1_init 4 = .ok (.aload_n 0, 1) := by decide +kernel
theorem dX1_init_5 : decode cX1_init 5 = .ok (.bipush 12, 2) := by decide +kernel
theorem dX1_init_7 : decode cX1_init 7 = .ok (.newarray .int, 2) := by decide +kernel
theorem dX1_init_9 : decode cX1_init 9 = .ok (.putfield 9, 3) := by decide +kernel
theorem dX1_init_12 : decode cX1_init 12 = .ok (.aload_n 0, 1) := by decide +kernel
theorem dX1_init_13 : decode cX1_init 13 = .ok (.bipush 12, 2) := by decide +kernel
theorem dX1_init_15 : decode cX1_init 15 = .ok (.newarray .int, 2) := by decide +kernel
theorem dX1_init_17 : decode cX1_init 17 = .ok (.putfield 15, 3) := by decide +kernel
theorem dX1_init_20 : decode cX1_init 20 = .ok (.return_, 1) := by decide +kernel
set_option maxHeartbeats 4000000 in
theorem t_X1_init_0 {X : sj_X} {s0 : sj_Mem} {N : Nat} {q : Unit × sj_Mem} :
    ∀ (a0 : Nat) (s : sj_Mem), f_X1_init N a0 s = some q → sj_T X m_X1_init s0 (none, q.2) 0 [some (sj_r (some a0))] [] s := by
  intro a0 s h
  unfold f_X1_init at h
  refine r_aload_n (pc := 0) dX1_init_0 rfl rfl ?_
  refine r_oinit (pc := 1) dX1_init_1 ow_X1_3 (Nat.le_of_ble_eq_true rfl) (Nat.le_of_ble_eq_true rfl) ?_
  refine r_aload_n (pc := 4) dX1_init_4 rfl rfl ?_
  refine r_bipush (pc := 5) dX1_init_5 ⟨by decide, by decide⟩ ?_
  refine r_nA_I (pc := 7) h dX1_init_7 kw_62 (fun a1 s2 h => ?_)
  refine r_pF (pc := 9) h dX1_init_9 ff_X1_9 rfl rfl (Or.inr ⟨_, rfl⟩) (fun s3 h => ?_)
  refine r_aload_n (pc := 12) dX1_init_12 rfl rfl ?_
  refine r_bipush (pc := 13) dX1_init_13 ⟨by decide, by decide⟩ ?_
  refine r_nA_I (pc := 15) h dX1_init_15 kw_62 (fun a4 s5 h => ?_)
  refine r_pF (pc := 17) h dX1_init_17 ff_X1_15 rfl rfl (Or.inr ⟨_, rfl⟩) (fun s6 h => ?_)
  exact r_vret (pc := 20) h rfl dX1_init_20
set_option maxHeartbeats 4000000 in
theorem c_X1_init {X : sj_X} {N : Nat} {a0 : Nat} {s : sj_Mem} {q : Unit × sj_Mem} (h : f_X1_init N a0 s = some q) : sj_C X m_X1_init [sj_r (some a0)] s (none, q.2) :=
  sj_C_of (by decide +kernel) (Nat.le_of_ble_eq_true rfl) (lo := [some (sj_r (some a0))]) rfl (sj_weak (l2 := [some (sj_r (some a0))]) (⟨rfl, trivial⟩) (t_X1_init_0 a0 s h))
theorem dX2_init_0 : decode cX2_init 0 = .ok (.aload_n 0, 1) := by decide +kernel
theorem dX2_init_1 : decode cX2_init 1 = .ok (.invokespecial 3, 3) := by decide +kernel
theorem dX2_init_4 : decode cX2_init 4 = .ok (.aload_n 0, 1) := by decide +kernel
theorem dX2_init_5 : decode cX2_init 5 = .ok (.bipush 16, 2) := by decide +kernel
theorem dX2_init_7 : decode cX2_init 7 = .ok (.newarray .int, 2) := by decide +kernel
theorem dX2_init_9 : decode cX2_init 9 = .ok (.putfield 9, 3) := by decide +kernel
theorem dX2_init_12 : decode cX2_init 12 = .ok (.return_, 1) := by decide +kernel
set_option maxHeartbeats 4000000 in
theorem t_X2_init_0 {X : sj_X} {s0 : sj_Mem} {N : Nat} {q : Unit × sj_Mem} :
    ∀ (a0 : Nat) (s : sj_Mem), f_X2_init N a0 s = some q → sj_T X m_X2_init s0 (none, q.2) 0 [some (sj_r (some a0))] [] s := by
  intro a0 s h
  unfold f_X2_init at h
  refine r_aload_n (pc := 0) dX2_init_0 rfl rfl ?_
  refine r_oinit (pc := 1) dX2_init_1 ow_X2_3 (Nat.le_of_ble_eq_true rfl) (Nat.le_of_ble_eq_true rfl) ?_
  refine r_aload_n (pc := 4) dX2_init_4 rfl rfl ?_
  refine r_bipush (pc := 5) dX2_init_5 ⟨by decide, by decide⟩ ?_
  refine r_nA_I (pc := 7) h dX2_init_7 kw_62 (fun a1 s2 h => ?_)
  refine r_pF (pc := 9) h dX2_init_9 ff_X2_9 rfl rfl (Or.inr ⟨_, rfl⟩) (fun s3 h => ?_)
  exact r_vret (pc := 12) h rfl dX2_init_12
set_option maxHeartbeats 4000000 in
theorem c_X2_init {X : sj_X} {N : Nat} {a0 : Nat} {s : sj_Mem} {q : Unit × sj_Mem} (h : f_X2_init N a0 s = some q) : sj_C X m_X2_init [sj_r (some a0)] s (none, q.2) :=
  sj_C_of (by decide +kernel) (Nat.le_of_ble_eq_true rfl) (lo := [some (sj_r (some a0))]) rfl (sj_weak (l2 := [some (sj_r (some a0))]) (⟨rfl, trivial⟩) (t_X2_init_0 a0 s h))
theorem dX4_init_0 : decode cX4_init 0 = .ok (.aload_n 0, 1) := by decide +kernel
theorem dX4_init_1 : decode cX4_init 1 = .ok (.invokespecial 3, 3) := by decide +kernel
theorem dX4_init_4 : decode cX4_init 4 = .ok (.aload_n 0, 1) := by decide +kernel
theorem dX4_init_5 : decode cX4_init 5 = .ok (.bipush 41, 2) := by decide +kernel
theorem dX4_init_7 : decode cX4_init 7 = .ok (.newarray .int, 2) := by decide +kernel
theorem dX4_init_9 : decode cX4_init 9 = .ok (.putfield 9, 3) := by decide +kernel
theorem dX4_init_12 : decode cX4_init 12 = .ok (.aload_n 0, 1) := by decide +kernel
theorem dX4_init_13 : decode cX4_init 13 = .ok (.bipush 41, 2) := by decide +kernel
theorem dX4_init_15 : decode cX4_init 15 = .ok (.newarray .int, 2) := by decide +kernel
theorem dX4_init_17 : decode cX4_init 17 = .ok (.putfield 15, 3) := by decide +kernel
theorem dX4_init_20 : decode cX4_init 20 = .ok (.aload_n 0, 1) := by decide +kernel
theorem dX4_init_21 : decode cX4_init 21 = .ok (.bipush 41, 2) := by decide +kernel
theorem dX4_init_23 : decode cX4_init 23 = .ok (.newarray .int, 2) := by decide +kernel
theorem dX4_init_25 : decode cX4_init 25 = .ok (.putfield 18, 3) := by decide +kernel
theorem dX4_init_28 : decode cX4_init 28 = .ok (.aload_n 0, 1) := by decide +kernel
theorem dX4_init_29 : decode cX4_init 29 = .ok (.bipush 41, 2) := by decide +kernel
theorem dX4_init_31 : decode cX4_init 31 = .ok (.newarray .int, 2) := by decide +kernel
theorem dX4_init_33 : decode cX4_init 33 = .ok (.putfield 21, 3) := by decide +kernel
theorem dX4_init_36 : decode cX4_init 36 = .ok (.aload_n 0, 1) := by decide +kernel
theorem dX4_init_37 : decode cX4_init 37 = .ok (.bipush 41, 2) := by decide +kernel
theorem dX4_init_39 : decode cX4_init 39 = .ok (.newarray .long, 2) := by decide +kernel
theorem dX4_init_41 : decode cX4_init 41 = .ok (.putfield 24, 3) := by decide +kernel
theorem dX4_init_44 : decode cX4_init 44 = .ok (.aload_n 0, 1) := by decide +kernel
theorem dX4_init_45 : decode cX4_init 45 = .ok (.bipush 41, 2) := by decide +kernel
theorem dX4_init_47 : decode cX4_init 47 = .ok (.newarray .long, 2) := by decide +kernel
theorem dX4_init_49 : decode cX4_init 49 = .ok (.putfield 28, 3) := by decide +kernel
theorem dX4_init_52 : decode cX4_init 52 = .ok (.aload_n 0, 1) := by decide +kernel
theorem dX4_init_53 : decode cX4_init 53 = .ok (.bipush 41, 2) := by decide +kernel
theorem dX4_init_55 : decode cX4_init 55 = .ok (.newarray .long, 2) := by decide +kernel
theorem dX4_init_57 : decode cX4_init 57 = .ok (.putfield 31, 3) := by decide +kernel
theorem dX4_init_60 : decode cX4_init 60 = .ok (.aload_n 0, 1) := by decide +kernel
theorem dX4_init_61 : decode cX4_init 61 = .ok (.bipush 41, 2) := by decide +kernel
theorem dX4_init_63 : decode cX4_init 63 = .ok (.newarray .long, 2) := by decide +kernel
theorem dX4_init_65 : decode cX4_init 65 = .ok (.putfield 34, 3) := by decide +kernel
theorem dX4_init_68 : decode cX4_init 68 = .ok (.return_, 1) := by decide +kernel
set_option maxHeartbeats 4000000 in
theorem t_X4_init_0 {X : sj_X} {s0 : sj_Mem} {N : Nat} {q : Unit × sj_Mem} :
    ∀ (a0 : Nat) (s : sj_Mem), f_X4_init N a0 s = some q → sj_T X m_X4_init s0 (none, q.2) 0 [some (sj_r (some a0))] [] s := by
  intro a0 s h
  unfold f_X4_init at h
  refine r_aload_n (pc := 0) dX4_init_0 rfl rfl ?_
  refine r_oinit (pc := 1) dX4_init_1 ow_X4_3 (Nat.le_of_ble_eq_true rfl) (Nat.le_of_ble_eq_true rfl) ?_
  refine r_aload_n (pc := 4) dX4_init_4 rfl rfl ?_
  refine r_bipush (pc := 5) dX4_init_5 ⟨by decide, by decide⟩ ?_
  refine r_nA_I (pc := 7) h dX4_init_7 kw_62 (fun a1 s2 h => ?_)
  refine r_pF (pc := 9) h dX4_init_9 ff_X4_9 rfl rfl (Or.inr ⟨_, rfl⟩) (fun s3 h => ?_)
  refine r_aload_n (pc := 12) dX4_init_12 rfl rfl ?_
  refine r_bipush (pc := 13) dX4_init_13 ⟨by decide, by decide⟩ ?_
  refine r_nA_I (pc := 15) h dX4_init_15 kw_62 (fun a4 s5 h => ?_)
  refine r_pF (pc := 17) h dX4_init_17 ff_X4_15 rfl rfl (Or.inr ⟨_, rfl⟩) (fun s6 h => ?_)
  refine r_aload_n (pc := 20) dX4_init_20 rfl rfl ?_
  refine r_bipush (pc := 21) dX4_init_21 ⟨by decide, by decide⟩ ?_
  refine r_nA_I (pc := 23) h dX4_init_23 kw_62 (fun a7 s8 h => ?_)
  refine r_pF (pc := 25) h dX4_init_25 ff_X4_18 rfl rfl (Or.inr ⟨_, rfl⟩) (fun s9 h => ?_)
  refine r_aload_n (pc := 28) dX4_init_28 rfl rfl ?_
  refine r_bipush (pc := 29) dX4_init_29 ⟨by decide, by decide⟩ ?_
  refine r_nA_I (pc := 31) h dX4_init_31 kw_62 (fun a10 s11 h => ?_)
  refine r_pF (pc := 33) h dX4_init_33 ff_X4_21 rfl rfl (Or.inr ⟨_, rfl⟩) (fun s12 h => ?_)
  refine r_aload_n (pc := 36) dX4_init_36 rfl rfl ?_
  refine r_bipush (pc := 37) dX4_init_37 ⟨by decide, by decide⟩ ?_
  refine r_nA_J (pc := 39) h dX4_init_39 kw_276 (fun a13 s14 h => ?_)
  refine r_pF (pc := 41) h dX4_init_41 ff_X4_24 rfl rfl (Or.inr ⟨_, rfl⟩) (fun s15 h => ?_)
  refine r_aload_n (pc := 44) dX4_init_44 rfl rfl ?_
  refine r_bipush (pc := 45) dX4_init_45 ⟨by decide, by decide⟩ ?_
  refine r_nA_J (pc := 47) h dX4_init_47 kw_276 (fun a16 s17 h => ?_)
  refine r_pF (pc := 49) h dX4_init_49 ff_X4_28 rfl rfl (Or.inr ⟨_, rfl⟩) (fun s18 h => ?_)
  refine r_aload_n (pc := 52) dX4_init_52 rfl rfl ?_
  refine r_bipush (pc := 53) dX4_init_53 ⟨by decide, by decide⟩ ?_
  refine r_nA_J (pc := 55) h dX4_init_55 kw_276 (fun a19 s20 h => ?_)
  refine r_pF (pc := 57) h dX4_init_57 ff_X4_31 rfl rfl (Or.inr ⟨_, rfl⟩) (fun s21 h => ?_)
  refine r_aload_n (pc := 60) dX4_init_60 rfl rfl ?_
  refine r_bipush (pc := 61) dX4_init_61 ⟨by decide, by decide⟩ ?_
  refine r_nA_J (pc := 63) h dX4_init_63 kw_276 (fun a22 s23 h => ?_)
  refine r_pF (pc := 65) h dX4_init_65 ff_X4_34 rfl rfl (Or.inr ⟨_, rfl⟩) (fun s24 h => ?_)
  exact r_vret (pc := 68) h rfl dX4_init_68
set_option maxHeartbeats 4000000 in
theorem c_X4_init {X : sj_X} {N : Nat} {a0 : Nat} {s : sj_Mem} {q : Unit × sj_Mem} (h : f_X4_init N a0 s = some q) : sj_C X m_X4_init [sj_r (some a0)] s (none, q.2) :=
  sj_C_of (by decide +kernel) (Nat.le_of_ble_eq_true rfl) (lo := [some (sj_r (some a0))]) rfl (sj_weak (l2 := [some (sj_r (some a0))]) (⟨rfl, trivial⟩) (t_X4_init_0 a0 s h))
theorem dX3_init_0 : decode cX3_init 0 = .ok (.aload_n 0, 1) := by decide +kernel
theorem dX3_init_1 : decode cX3_init 1 = .ok (.invokespecial 3, 3) := by decide +kernel
theorem dX3_init_4 : decode cX3_init 4 = .ok (.aload_n 0, 1) := by decide +kernel
theorem dX3_init_5 : decode cX3_init 5 = .ok (.new 9, 3) := by decide +kernel
theorem dX3_init_8 : decode cX3_init 8 = .ok (.dup, 1) := by decide +kernel
theorem dX3_init_9 : decode cX3_init 9 = .ok (.invokespecial 11, 3) := by decide +kernel
theorem dX3_init_12 : decode cX3_init 12 = .ok (.putfield 12, 3) := by decide +kernel
theorem dX3_init_15 : decode cX3_init 15 = .ok (.aload_n 0, 1) := by decide +kernel
theorem dX3_init_16 : decode cX3_init 16 = .ok (.new 18, 3) := by decide +kernel
theorem dX3_init_19 : decode cX3_init 19 = .ok (.dup, 1) := by decide +kernel
theorem dX3_init_20 : decode cX3_init 20 = .ok (.invokespecial 20, 3) := by decide +kernel
theorem dX3_init_23 : decode cX3_init 23 = .ok (.putfield 21, 3) := by decide +kernel
theorem dX3_init_26 : decode cX3_init 26 = .ok (.return_, 1) := by decide +kernel
set_option maxHeartbeats 4000000 in
theorem t_X3_init_0 {X : sj_X} {s0 : sj_Mem} {N : Nat} {q : Unit × sj_Mem} :
    ∀ (a0 : Nat) (s : sj_Mem), f_X3_init N a0 s = some q → sj_T X m_X3_init s0 (none, q.2) 0 [some (sj_r (some a0))] [] s := by
  intro a0 s h
  unfold f_X3_init at h
  refine r_aload_n (pc := 0) dX3_init_0 rfl rfl ?_
  refine r_oinit (pc := 1) dX3_init_1 ow_X3_3 (Nat.le_of_ble_eq_true rfl) (Nat.le_of_ble_eq_true rfl) ?_
  refine r_aload_n (pc := 4) dX3_init_4 rfl rfl ?_
  refine r_new (pc := 5) h dX3_init_5 nw_X3_9 (fun a1 s2 h => ?_)
  refine r_dup (pc := 8) dX3_init_8 rfl ?_
  refine r_callI (pc := 9) (fun _ => none) (As := []) (rest := [(sj_r (some a1)), (sj_r (some a0))]) (b := a1) h dX3_init_9 mw_X3_11 ⟨kw_35, rfl, rfl⟩ (fun _ _ hc => c_X5_init hc) rfl ⟨(Nat.le_of_ble_eq_true rfl), (Nat.le_of_ble_eq_true rfl)⟩ (Nat.le_of_ble_eq_true rfl) rfl (fun _u s3 h => ?_)
  refine r_pF (pc := 12) h dX3_init_12 ff_X3_12 rfl rfl (Or.inl ⟨_, rfl⟩) (fun s4 h => ?_)
  refine r_aload_n (pc := 15) dX3_init_15 rfl rfl ?_
  refine r_new (pc := 16) h dX3_init_16 nw_X3_18 (fun a5 s6 h => ?_)
  refine r_dup (pc := 19) dX3_init_19 rfl ?_
  refine r_callI (pc := 20) (fun _ => none) (As := []) (rest := [(sj_r (some a5)), (sj_r (some a0))]) (b := a5) h dX3_init_20 mw_X3_20 ⟨kw_231, rfl, rfl⟩ (fun _ _ hc => c_X4_init hc) rfl ⟨(Nat.le_of_ble_eq_true rfl), (Nat.le_of_ble_eq_true rfl)⟩ (Nat.le_of_ble_eq_true rfl) rfl (fun _u s7 h => ?_)
  refine r_pF (pc := 23) h dX3_init_23 ff_X3_21 rfl rfl (Or.inl ⟨_, rfl⟩) (fun s8 h => ?_)
  exact r_vret (pc := 26) h rfl dX3_init_26
set_option maxHeartbeats 4000000 in
theorem c_X3_init {X : sj_X} {N : Nat} {a0 : Nat} {s : sj_Mem} {q : Unit × sj_Mem} (h : f_X3_init N a0 s = some q) : sj_C X m_X3_init [sj_r (some a0)] s (none, q.2) :=
  sj_C_of (by decide +kernel) (Nat.le_of_ble_eq_true rfl) (lo := [some (sj_r (some a0))]) rfl (sj_weak (l2 := [some (sj_r (some a0))]) (⟨rfl, trivial⟩) (t_X3_init_0 a0 s h))
theorem dX6_init_0 : decode cX6_init 0 = .ok (.aload_n 0, 1) := by decide +kernel
theorem dX6_init_1 : decode cX6_init 1 = .ok (.invokespecial 3, 3) := by decide +kernel
theorem dX6_init_4 : decode cX6_init 4 = .ok (.aload_n 0, 1) := by decide +kernel
theorem dX6_init_5 : decode cX6_init 5 = .ok (.sipush 4141, 3) := by decide +kernel
theorem dX6_init_8 : decode cX6_init 8 = .ok (.newarray .long, 2) := by decide +kernel
theorem dX6_init_10 : decode cX6_init 10 = .ok (.putfield 9, 3) := by decide +kernel
theorem dX6_init_13 : decode cX6_init 13 = .ok (.aload_n 0, 1) := by decide +kernel
theorem dX6_init_14 : decode cX6_init 14 = .ok (.sipush 4141, 3) := by decide +kernel
theorem dX6_init_17 : decode cX6_init 17 = .ok (.newarray .int, 2) := by decide +kernel
theorem dX6_init_19 : decode cX6_init 19 = .ok (.putfield 15, 3) := by decide +kernel
theorem dX6_init_22 : decode cX6_init 22 = .ok (.aload_n 0, 1) := by decide +kernel
theorem dX6_init_23 : decode cX6_init 23 = .ok (.sipush 4141, 3) := by decide +kernel
theorem dX6_init_26 : decode cX6_init 26 = .ok (.newarray .int, 2) := by decide +kernel
theorem dX6_init_28 : decode cX6_init 28 = .ok (.putfield 19, 3) := by decide +kernel
theorem dX6_init_31 : decode cX6_init 31 = .ok (.aload_n 0, 1) := by decide +kernel
theorem dX6_init_32 : decode cX6_init 32 = .ok (.iconst 4, 1) := by decide +kernel
theorem dX6_init_33 : decode cX6_init 33 = .ok (.newarray .int, 2) := by decide +kernel
theorem dX6_init_35 : decode cX6_init 35 = .ok (.putfield 22, 3) := by decide +kernel
theorem dX6_init_38 : decode cX6_init 38 = .ok (.aload_n 0, 1) := by decide +kernel
theorem dX6_init_39 : decode cX6_init 39 = .ok (.new 25, 3) := by decide +kernel
theorem dX6_init_42 : decode cX6_init 42 = .ok (.dup, 1) := by decide +kernel
theorem dX6_init_43 : decode cX6_init 43 = .ok (.invokespecial 27, 3) := by decide +kernel
theorem dX6_init_46 : decode cX6_init 46 = .ok (.putfield 28, 3) := by decide +kernel
theorem dX6_init_49 : decode cX6_init 49 = .ok (.return_, 1) := by decide +kernel
set_option maxHeartbeats 4000000 in
theorem t_X6_init_0 {X : sj_X} {s0 : sj_Mem} {N : Nat} {q : Unit × sj_Mem} :
    ∀ (a0 : Nat) (s : sj_Mem), f_X6_init N a0 s = some q → sj_T X m_X6_init s0 (none, q.2) 0 [some (sj_r (some a0))] [] s := by
  intro a0 s h
  unfold f_X6_init at h
  refine r_aload_n (pc := 0) dX6_init_0 rfl rfl ?_
  refine r_oinit (pc := 1) dX6_init_1 ow_X6_3 (Nat.le_of_ble_eq_true rfl) (Nat.le_of_ble_eq_true rfl) ?_
  refine r_aload_n (pc := 4) dX6_init_4 rfl rfl ?_
  refine r_sipush (pc := 5) dX6_init_5 ⟨by decide, by decide⟩ ?_
  refine r_nA_J (pc := 8) h dX6_init_8 kw_276 (fun a1 s2 h => ?_)
  refine r_pF (pc := 10) h dX6_init_10 ff_X6_9 rfl rfl (Or.inr ⟨_, rfl⟩) (fun s3 h => ?_)
  refine r_aload_n (pc := 13) dX6_init_13 rfl rfl ?_
  refine r_sipush (pc := 14) dX6_init_14 ⟨by decide, by decide⟩ ?_
  refine r_nA_I (pc := 17) h dX6_init_17 kw_62 (fun a4 s5 h => ?_)
  refine r_pF (pc := 19) h dX6_init_19 ff_X6_15 rfl rfl (Or.inr ⟨_, rfl⟩) (fun s6 h => ?_)
  refine r_aload_n (pc := 22) dX6_init_22 rfl rfl ?_
  refine r_sipush (pc := 23) dX6_init_23 ⟨by decide, by decide⟩ ?_
  refine r_nA_I (pc := 26) h dX6_init_26 kw_62 (fun a7 s8 h => ?_)
  refine r_pF (pc := 28) h dX6_init_28 ff_X6_19 rfl rfl (Or.inr ⟨_, rfl⟩) (fun s9 h => ?_)
  refine r_aload_n (pc := 31) dX6_init_31 rfl rfl ?_
  refine r_iconst (pc := 32) dX6_init_32 ?_
  refine r_nA_I (pc := 33) h dX6_init_33 kw_62 (fun a10 s11 h => ?_)
  refine r_pF (pc := 35) h dX6_init_35 ff_X6_22 rfl rfl (Or.inr ⟨_, rfl⟩) (fun s12 h => ?_)
  refine r_aload_n (pc := 38) dX6_init_38 rfl rfl ?_
  refine r_new (pc := 39) h dX6_init_39 nw_X6_25 (fun a13 s14 h => ?_)
  refine r_dup (pc := 42) dX6_init_42 rfl ?_
  refine r_callI (pc := 43) (fun _ => none) (As := []) (rest := [(sj_r (some a13)), (sj_r (some a0))]) (b := a13) h dX6_init_43 mw_X6_27 ⟨kw_35, rfl, rfl⟩ (fun _ _ hc => c_X5_init hc) rfl ⟨(Nat.le_of_ble_eq_true rfl), (Nat.le_of_ble_eq_true rfl)⟩ (Nat.le_of_ble_eq_true rfl) rfl (fun _u s15 h => ?_)
  refine r_pF (pc := 46) h dX6_init_46 ff_X6_28 rfl rfl (Or.inl ⟨_, rfl⟩) (fun s16 h => ?_)
  exact r_vret (pc := 49) h rfl dX6_init_49
set_option maxHeartbeats 4000000 in
theorem c_X6_init {X : sj_X} {N : Nat} {a0 : Nat} {s : sj_Mem} {q : Unit × sj_Mem} (h : f_X6_init N a0 s = some q) : sj_C X m_X6_init [sj_r (some a0)] s (none, q.2) :=
  sj_C_of (by decide +kernel) (Nat.le_of_ble_eq_true rfl) (lo := [some (sj_r (some a0))]) rfl (sj_weak (l2 := [some (sj_r (some a0))]) (⟨rfl, trivial⟩) (t_X6_init_0 a0 s h))
theorem dX6_judge_0 : decode cX6_judge 0 = .ok (.aload_n 0, 1) := by decide +kernel
theorem dX6_judge_1 : decode cX6_judge 1 = .ok (.aload_n 1, 1) := by decide +kernel
theorem dX6_judge_2 : decode cX6_judge 2 = .ok (.putfield 32, 3) := by decide +kernel
theorem dX6_judge_5 : decode cX6_judge 5 = .ok (.aload_n 0, 1) := by decide +kernel
theorem dX6_judge_6 : decode cX6_judge 6 = .ok (.iload_n 2, 1) := by decide +kernel
theorem dX6_judge_7 : decode cX6_judge 7 = .ok (.putfield 36, 3) := by decide +kernel
theorem dX6_judge_10 : decode cX6_judge 10 = .ok (.aload_n 0, 1) := by decide +kernel
theorem dX6_judge_11 : decode cX6_judge 11 = .ok (.iload_n 3, 1) := by decide +kernel
theorem dX6_judge_12 : decode cX6_judge 12 = .ok (.putfield 40, 3) := by decide +kernel
theorem dX6_judge_15 : decode cX6_judge 15 = .ok (.aload_n 0, 1) := by decide +kernel
theorem dX6_judge_16 : decode cX6_judge 16 = .ok (.getfield 28, 3) := by decide +kernel
theorem dX6_judge_19 : decode cX6_judge 19 = .ok (.invokevirtual 44, 3) := by decide +kernel
theorem dX6_judge_22 : decode cX6_judge 22 = .ok (.aload_n 0, 1) := by decide +kernel
theorem dX6_judge_23 : decode cX6_judge 23 = .ok (.invokevirtual 47, 3) := by decide +kernel
theorem dX6_judge_26 : decode cX6_judge 26 = .ok (.aload_n 0, 1) := by decide +kernel
theorem dX6_judge_27 : decode cX6_judge 27 = .ok (.iconst 0, 1) := by decide +kernel
theorem dX6_judge_28 : decode cX6_judge 28 = .ok (.putfield 50, 3) := by decide +kernel
theorem dX6_judge_31 : decode cX6_judge 31 = .ok (.sipush 20001, 3) := by decide +kernel
theorem dX6_judge_34 : decode cX6_judge 34 = .ok (.istore 4, 2) := by decide +kernel
theorem dX6_judge_36 : decode cX6_judge 36 = .ok (.iconst 0, 1) := by decide +kernel
theorem dX6_judge_37 : decode cX6_judge 37 = .ok (.istore 5, 2) := by decide +kernel
theorem dX6_judge_39 : decode cX6_judge 39 = .ok (.iload 5, 2) := by decide +kernel
theorem dX6_judge_41 : decode cX6_judge 41 = .ok (.bipush 15, 2) := by decide +kernel
theorem dX6_judge_43 : decode cX6_judge 43 = .ok (.if_icmp .ge 68, 3) := by decide +kernel
theorem dX6_judge_46 : decode cX6_judge 46 = .ok (.iload 4, 2) := by decide +kernel
theorem dX6_judge_48 : decode cX6_judge 48 = .ok (.aload_n 0, 1) := by decide +kernel
theorem dX6_judge_49 : decode cX6_judge 49 = .ok (.getfield 50, 3) := by decide +kernel
theorem dX6_judge_52 : decode cX6_judge 52 = .ok (.isub, 1) := by decide +kernel
theorem dX6_judge_53 : decode cX6_judge 53 = .ok (.iconst 1, 1) := by decide +kernel
theorem dX6_judge_54 : decode cX6_judge 54 = .ok (.if_icmp .le 57, 3) := by decide +kernel
theorem dX6_judge_57 : decode cX6_judge 57 = .ok (.aload_n 0, 1) := by decide +kernel
theorem dX6_judge_58 : decode cX6_judge 58 = .ok (.getfield 50, 3) := by decide +kernel
theorem dX6_judge_61 : decode cX6_judge 61 = .ok (.iload 4, 2) := by decide +kernel
theorem dX6_judge_63 : decode cX6_judge 63 = .ok (.iadd, 1) := by decide +kernel
theorem dX6_judge_64 : decode cX6_judge 64 = .ok (.iconst 2, 1) := by decide +kernel
theorem dX6_judge_65 : decode cX6_judge 65 = .ok (.idiv, 1) := by decide +kernel
theorem dX6_judge_66 : decode cX6_judge 66 = .ok (.istore 6, 2) := by decide +kernel
theorem dX6_judge_68 : decode cX6_judge 68 = .ok (.aload_n 0, 1) := by decide +kernel
theorem dX6_judge_69 : decode cX6_judge 69 = .ok (.iload 6, 2) := by decide +kernel
theorem dX6_judge_71 : decode cX6_judge 71 = .ok (.iconst 1, 1) := by decide +kernel
theorem dX6_judge_72 : decode cX6_judge 72 = .ok (.invokevirtual 53, 3) := by decide +kernel
theorem dX6_judge_75 : decode cX6_judge 75 = .ok (.aload_n 0, 1) := by decide +kernel
theorem dX6_judge_76 : decode cX6_judge 76 = .ok (.getfield 57, 3) := by decide +kernel
theorem dX6_judge_79 : decode cX6_judge 79 = .ok (.iconst (-1), 1) := by decide +kernel
theorem dX6_judge_80 : decode cX6_judge 80 = .ok (.if_icmp .eq 12, 3) := by decide +kernel
theorem dX6_judge_83 : decode cX6_judge 83 = .ok (.aload_n 0, 1) := by decide +kernel
theorem dX6_judge_84 : decode cX6_judge 84 = .ok (.getfield 60, 3) := by decide +kernel
theorem dX6_judge_87 : decode cX6_judge 87 = .ok (.lconst 0, 1) := by decide +kernel
theorem dX6_judge_88 : decode cX6_judge 88 = .ok (.lcmp, 1) := by decide +kernel
theorem dX6_judge_89 : decode cX6_judge 89 = .ok (.ifCond .lt 12, 3) := by decide +kernel
theorem dX6_judge_92 : decode cX6_judge 92 = .ok (.aload_n 0, 1) := by decide +kernel
theorem dX6_judge_93 : decode cX6_judge 93 = .ok (.iload 6, 2) := by decide +kernel
theorem dX6_judge_95 : decode cX6_judge 95 = .ok (.putfield 50, 3) := by decide +kernel
theorem dX6_judge_98 : decode cX6_judge 98 = .ok (.goto 7, 3) := by decide +kernel
theorem dX6_judge_101 : decode cX6_judge 101 = .ok (.iload 6, 2) := by decide +kernel
theorem dX6_judge_103 : decode cX6_judge 103 = .ok (.istore 4, 2) := by decide +kernel
theorem dX6_judge_105 : decode cX6_judge 105 = .ok (.iinc 5 1, 3) := by decide +kernel
theorem dX6_judge_108 : decode cX6_judge 108 = .ok (.goto (-69), 3) := by decide +kernel
theorem dX6_judge_111 : decode cX6_judge 111 = .ok (.aload_n 0, 1) := by decide +kernel
theorem dX6_judge_112 : decode cX6_judge 112 = .ok (.getfield 50, 3) := by decide +kernel
theorem dX6_judge_115 : decode cX6_judge 115 = .ok (.sipush 20000, 3) := by decide +kernel
theorem dX6_judge_118 : decode cX6_judge 118 = .ok (.if_icmp .ge 18, 3) := by decide +kernel
theorem dX6_judge_121 : decode cX6_judge 121 = .ok (.aload_n 0, 1) := by decide +kernel
theorem dX6_judge_122 : decode cX6_judge 122 = .ok (.aload_n 0, 1) := by decide +kernel
theorem dX6_judge_123 : decode cX6_judge 123 = .ok (.getfield 50, 3) := by decide +kernel
theorem dX6_judge_126 : decode cX6_judge 126 = .ok (.iconst 1, 1) := by decide +kernel
theorem dX6_judge_127 : decode cX6_judge 127 = .ok (.iadd, 1) := by decide +kernel
theorem dX6_judge_128 : decode cX6_judge 128 = .ok (.iconst 0, 1) := by decide +kernel
theorem dX6_judge_129 : decode cX6_judge 129 = .ok (.invokevirtual 53, 3) := by decide +kernel
theorem dX6_judge_132 : decode cX6_judge 132 = .ok (.aload_n 0, 1) := by decide +kernel
theorem dX6_judge_133 : decode cX6_judge 133 = .ok (.invokevirtual 64, 3) := by decide +kernel
theorem dX6_judge_136 : decode cX6_judge 136 = .ok (.return_, 1) := by decide +kernel
set_option maxHeartbeats 4000000 in
theorem t_X6_judge_105 {X : sj_X} {s0 : sj_Mem} {N : Nat} {q : Unit × sj_Mem} {k39 : Nat → Int → Int → sj_Mem → Option (Unit × sj_Mem)} (hk39 : ∀ (a0 : Nat) (x4 : Int) (x5 : Int) (s : sj_Mem), k39 a0 x4 x5 s = some q → sj_T X m_X6_judge s0 (none, q.2) 39 [some (sj_r (some a0)), none, none, none, some (sj_i x4), some (sj_i x5), none] [] s) :
    ∀ (a0 : Nat) (x4 : Int) (x5 : Int) (s : sj_Mem), f_X6_judge_105 N k39 a0 x4 x5 s = some q → sj_T X m_X6_judge s0 (none, q.2) 105 [some (sj_r (some a0)), none, none, none, some (sj_i x4), some (sj_i x5), none] [] s := by
  intro a0 x4 x5 s h
  unfold f_X6_judge_105 at h
  refine r_iinc (ln := fun w => [some (sj_r (some a0)), none, none, none, some (sj_i x4), some (sj_i w), none]) (pc := 105) h dX6_judge_105 rfl (Nat.le_of_ble_eq_true rfl) (fun _ => rfl) (fun v1 h => ?_)
  refine r_goto (pc := 108) (tgt := 39) dX6_judge_108 (by decide) ?_
  exact sj_weak (l2 := [some (sj_r (some a0)), none, none, none, some (sj_i x4), some (sj_i v1), none]) (⟨rfl, ⟨rfl, ⟨rfl, trivial⟩⟩⟩) (hk39 a0 x4 v1 s h)
set_option maxHeartbeats 4000000 in
theorem t_X6_judge_92 {X : sj_X} {s0 : sj_Mem} {N : Nat} {q : Unit × sj_Mem} {k39 : Nat → Int → Int → sj_Mem → Option (Unit × sj_Mem)} (hk39 : ∀ (a0 : Nat) (x4 : Int) (x5 : Int) (s : sj_Mem), k39 a0 x4 x5 s = some q → sj_T X m_X6_judge s0 (none, q.2) 39 [some (sj_r (some a0)), none, none, none, some (sj_i x4), some (sj_i x5), none] [] s) :
    ∀ (a0 : Nat) (x4 : Int) (x5 : Int) (x6 : Int) (s : sj_Mem), f_X6_judge_92 N k39 a0 x4 x5 x6 s = some q → sj_T X m_X6_judge s0 (none, q.2) 92 [some (sj_r (some a0)), none, none, none, some (sj_i x4), some (sj_i x5), some (sj_i x6)] [] s := by
  intro a0 x4 x5 x6 s h
  unfold f_X6_judge_92 at h
  refine r_aload_n (pc := 92) dX6_judge_92 rfl rfl ?_
  refine r_iload (pc := 93) dX6_judge_93 rfl ?_
  refine r_pI (pc := 95) h dX6_judge_95 fw_X6_50 rfl rfl (fun _ hq => by cases hq; rfl) (fun s1 h => ?_)
  refine r_goto (pc := 98) (tgt := 105) dX6_judge_98 (by decide) ?_
  exact sj_weak (l2 := [some (sj_r (some a0)), none, none, none, some (sj_i x4), some (sj_i x5), none]) (⟨rfl, ⟨rfl, ⟨rfl, trivial⟩⟩⟩) (t_X6_judge_105 hk39 a0 x4 x5 s1 h)
set_option maxHeartbeats 4000000 in
theorem t_X6_judge_111 {X : sj_X} {s0 : sj_Mem} {N : Nat} {q : Unit × sj_Mem} :
    ∀ (a0 : Nat) (s : sj_Mem), f_X6_judge_111 N a0 s = some q → sj_T X m_X6_judge s0 (none, q.2) 111 [some (sj_r (some a0)), none, none, none, none, none, none] [] s := by
  intro a0 s h
  unfold f_X6_judge_111 at h
  refine r_aload_n (pc := 111) dX6_judge_111 rfl rfl ?_
  refine r_gI (pc := 112) h dX6_judge_112 fw_X6_50 rfl (fun v1 h => ?_)
  refine r_sipush (pc := 115) dX6_judge_115 ⟨by decide, by decide⟩ ?_
  refine r_icmp_ge (pc := 118) (tgt := 136) h dX6_judge_118 (by decide) (fun h => ?_) (fun h => ?_)
  · exact r_vret (pc := 136) h rfl dX6_judge_136
  · refine r_aload_n (pc := 121) dX6_judge_121 rfl rfl ?_
    refine r_aload_n (pc := 122) dX6_judge_122 rfl rfl ?_
    refine r_gI (pc := 123) h dX6_judge_123 fw_X6_50 rfl (fun v2 h => ?_)
    refine r_iconst (pc := 126) dX6_judge_126 ?_
    refine r_iadd (pc := 127) dX6_judge_127 ?_
    refine r_iconst (pc := 128) dX6_judge_128 ?_
    refine r_callV (pc := 129) (fun _ => none) (As := [sj_i (v2 + 1), sj_i 0]) (rest := []) h dX6_judge_129 mw_X6_53 vw_X6_sweep (fun _ _ hc => c_X6_sweep hc) rfl ⟨(Nat.le_of_ble_eq_true rfl), (Nat.le_of_ble_eq_true rfl)⟩ (Nat.le_of_ble_eq_true rfl) rfl (fun _u s3 h => ?_)
    refine r_aload_n (pc := 132) dX6_judge_132 rfl rfl ?_
    refine r_callV (pc := 133) (fun _ => none) (As := []) (rest := []) h dX6_judge_133 mw_X6_64 vw_X6_goBack (fun _ _ hc => c_X6_goBack hc) rfl ⟨(Nat.le_of_ble_eq_true rfl), (Nat.le_of_ble_eq_true rfl)⟩ (Nat.le_of_ble_eq_true rfl) rfl (fun _u s4 h => ?_)
    exact r_vret (pc := 136) h rfl dX6_judge_136
set_option maxHeartbeats 4000000 in
theorem t_X6_judge_39_b {X : sj_X} {s0 : sj_Mem} {N : Nat} {q : Unit × sj_Mem} {k39 : Nat → Int → Int → sj_Mem → Option (Unit × sj_Mem)} (hk39 : ∀ (a0 : Nat) (x4 : Int) (x5 : Int) (s : sj_Mem), k39 a0 x4 x5 s = some q → sj_T X m_X6_judge s0 (none, q.2) 39 [some (sj_r (some a0)), none, none, none, some (sj_i x4), some (sj_i x5), none] [] s) :
    ∀ (a0 : Nat) (x4 : Int) (x5 : Int) (s : sj_Mem), f_X6_judge_39_b N k39 a0 x4 x5 s = some q → sj_T X m_X6_judge s0 (none, q.2) 39 [some (sj_r (some a0)), none, none, none, some (sj_i x4), some (sj_i x5), none] [] s := by
  intro a0 x4 x5 s h
  unfold f_X6_judge_39_b at h
  refine r_iload (pc := 39) dX6_judge_39 rfl ?_
  refine r_bipush (pc := 41) dX6_judge_41 ⟨by decide, by decide⟩ ?_
  refine r_icmp_ge (pc := 43) (tgt := 111) h dX6_judge_43 (by decide) (fun h => ?_) (fun h => ?_)
  · exact sj_weak (l2 := [some (sj_r (some a0)), none, none, none, none, none, none]) (⟨rfl, trivial⟩) (t_X6_judge_111 a0 s h)
  · refine r_iload (pc := 46) dX6_judge_46 rfl ?_
    refine r_aload_n (pc := 48) dX6_judge_48 rfl rfl ?_
    refine r_gI (pc := 49) h dX6_judge_49 fw_X6_50 rfl (fun v1 h => ?_)
    refine r_isub (pc := 52) dX6_judge_52 ?_
    refine r_iconst (pc := 53) dX6_judge_53 ?_
    refine r_icmp_le (pc := 54) (tgt := 111) h dX6_judge_54 (by decide) (fun h => ?_) (fun h => ?_)
    · exact sj_weak (l2 := [some (sj_r (some a0)), none, none, none, none, none, none]) (⟨rfl, trivial⟩) (t_X6_judge_111 a0 s h)
    · refine r_aload_n (pc := 57) dX6_judge_57 rfl rfl ?_
      refine r_gI (pc := 58) h dX6_judge_58 fw_X6_50 rfl (fun v2 h => ?_)
      refine r_iload (pc := 61) dX6_judge_61 rfl ?_
      refine r_iadd (pc := 63) dX6_judge_63 ?_
      refine r_iconst (pc := 64) dX6_judge_64 ?_
      refine r_idiv (pc := 65) h dX6_judge_65 (fun v3 h => ?_)
      refine r_istore (ln := [some (sj_r (some a0)), none, none, none, some (sj_i x4), some (sj_i x5), some (sj_i v3)]) (pc := 66) dX6_judge_66 (Nat.le_of_ble_eq_true rfl) rfl ?_
      refine r_aload_n (pc := 68) dX6_judge_68 rfl rfl ?_
      refine r_iload (pc := 69) dX6_judge_69 rfl ?_
      refine r_iconst (pc := 71) dX6_judge_71 ?_
      refine r_callV (pc := 72) (fun _ => none) (As := [sj_i v3, sj_i 1]) (rest := []) h dX6_judge_72 mw_X6_53 vw_X6_sweep (fun _ _ hc => c_X6_sweep hc) rfl ⟨(Nat.le_of_ble_eq_true rfl), (Nat.le_of_ble_eq_true rfl)⟩ (Nat.le_of_ble_eq_true rfl) rfl (fun _u s4 h => ?_)
      refine r_aload_n (pc := 75) dX6_judge_75 rfl rfl ?_
      refine r_gI (pc := 76) h dX6_judge_76 fw_X6_57 rfl (fun v5 h => ?_)
      refine r_iconst (pc := 79) dX6_judge_79 ?_
      refine r_icmp_eq (pc := 80) (tgt := 92) h dX6_judge_80 (by decide) (fun h => ?_) (fun h => ?_)
      · exact sj_weak (l2 := [some (sj_r (some a0)), none, none, none, some (sj_i x4), some (sj_i x5), some (sj_i v3)]) (⟨rfl, ⟨rfl, ⟨rfl, ⟨rfl, trivial⟩⟩⟩⟩) (t_X6_judge_92 hk39 a0 x4 x5 v3 s4 h)
      · refine r_aload_n (pc := 83) dX6_judge_83 rfl rfl ?_
        refine r_gJ (pc := 84) h dX6_judge_84 fw_X6_60 rfl (fun v6 h => ?_)
        refine r_lconst0 (pc := 87) dX6_judge_87 ?_
        refine r_llt (pc := 88) (tgt := 101) h dX6_judge_88 rfl dX6_judge_89 (by decide) (fun h => ?_) (fun h => ?_)
        · refine r_iload (pc := 101) dX6_judge_101 rfl ?_
          refine r_istore (ln := [some (sj_r (some a0)), none, none, none, some (sj_i v3), some (sj_i x5), some (sj_i v3)]) (pc := 103) dX6_judge_103 (Nat.le_of_ble_eq_true rfl) rfl ?_
          exact sj_weak (l2 := [some (sj_r (some a0)), none, none, none, some (sj_i v3), some (sj_i x5), none]) (⟨rfl, ⟨rfl, ⟨rfl, trivial⟩⟩⟩) (t_X6_judge_105 hk39 a0 v3 x5 s4 h)
        · exact sj_weak (l2 := [some (sj_r (some a0)), none, none, none, some (sj_i x4), some (sj_i x5), some (sj_i v3)]) (⟨rfl, ⟨rfl, ⟨rfl, ⟨rfl, trivial⟩⟩⟩⟩) (t_X6_judge_92 hk39 a0 x4 x5 v3 s4 h)
set_option maxHeartbeats 4000000 in
theorem t_X6_judge_39 {X : sj_X} {s0 : sj_Mem} {N : Nat} {q : Unit × sj_Mem} :
    ∀ (n : Nat) (a0 : Nat) (x4 : Int) (x5 : Int) (s : sj_Mem), f_X6_judge_39 N n a0 x4 x5 s = some q → sj_T X m_X6_judge s0 (none, q.2) 39 [some (sj_r (some a0)), none, none, none, some (sj_i x4), some (sj_i x5), none] [] s := by
  intro n
  induction n with
  | zero => intro a0 x4 x5 s h; exact nomatch h
  | succ n ih => intro a0 x4 x5 s h; exact t_X6_judge_39_b (N := N) ih a0 x4 x5 s h
set_option maxHeartbeats 4000000 in
theorem t_X6_judge_0 {X : sj_X} {s0 : sj_Mem} {N : Nat} {q : Unit × sj_Mem} :
    ∀ (a0 : Nat) (x1 : Option Nat) (x2 : Int) (x3 : Int) (s : sj_Mem), f_X6_judge N a0 x1 x2 x3 s = some q → sj_T X m_X6_judge s0 (none, q.2) 0 [some (sj_r (some a0)), some (sj_r x1), some (sj_i x2), some (sj_i x3), none, none, none] [] s := by
  intro a0 x1 x2 x3 s h
  unfold f_X6_judge at h
  refine r_aload_n (pc := 0) dX6_judge_0 rfl rfl ?_
  refine r_aload_n (pc := 1) dX6_judge_1 rfl rfl ?_
  refine r_pR (pc := 2) h dX6_judge_2 fw_X6_32 (fun _ hq => by cases hq; rfl) rfl (Or.inl ⟨_, rfl⟩) (fun s1 h => ?_)
  refine r_aload_n (pc := 5) dX6_judge_5 rfl rfl ?_
  refine r_iload_n (pc := 6) dX6_judge_6 rfl rfl ?_
  refine r_pI (pc := 7) h dX6_judge_7 fw_X6_36 rfl rfl (fun _ hq => by cases hq; rfl) (fun s2 h => ?_)
  refine r_aload_n (pc := 10) dX6_judge_10 rfl rfl ?_
  refine r_iload_n (pc := 11) dX6_judge_11 rfl rfl ?_
  refine r_pZ (pc := 12) h dX6_judge_12 fw_X6_40 rfl rfl (fun _ hq => by cases hq; rfl) (fun s3 h => ?_)
  refine r_aload_n (pc := 15) dX6_judge_15 rfl rfl ?_
  refine r_gR (pc := 16) h dX6_judge_16 fw_X6_28 rfl (fun r4 h => ?_)
  obtain ⟨a5, ea5, g⟩ := e_nn_some h
  clear h
  subst ea5
  have h := g
  clear g
  refine r_callV (pc := 19) (fun _ => none) (As := []) (rest := []) h dX6_judge_19 mw_X6_44 vw_X5_drop (fun _ _ hc => c_X5_drop hc) rfl ⟨(Nat.le_of_ble_eq_true rfl), (Nat.le_of_ble_eq_true rfl)⟩ (Nat.le_of_ble_eq_true rfl) rfl (fun _u s6 h => ?_)
  refine r_aload_n (pc := 22) dX6_judge_22 rfl rfl ?_
  refine r_callV (pc := 23) (fun _ => none) (As := []) (rest := []) h dX6_judge_23 mw_X6_47 vw_X6_weighAll (fun _ _ hc => c_X6_weighAll hc) rfl ⟨(Nat.le_of_ble_eq_true rfl), (Nat.le_of_ble_eq_true rfl)⟩ (Nat.le_of_ble_eq_true rfl) rfl (fun _u s7 h => ?_)
  refine r_aload_n (pc := 26) dX6_judge_26 rfl rfl ?_
  refine r_iconst (pc := 27) dX6_judge_27 ?_
  refine r_pI (pc := 28) h dX6_judge_28 fw_X6_50 rfl rfl (fun _ hq => by cases hq; rfl) (fun s8 h => ?_)
  refine r_sipush (pc := 31) dX6_judge_31 ⟨by decide, by decide⟩ ?_
  refine r_istore (ln := [some (sj_r (some a0)), some (sj_r x1), some (sj_i x2), some (sj_i x3), some (sj_i 20001), none, none]) (pc := 34) dX6_judge_34 (Nat.le_of_ble_eq_true rfl) rfl ?_
  refine r_iconst (pc := 36) dX6_judge_36 ?_
  refine r_istore (ln := [some (sj_r (some a0)), some (sj_r x1), some (sj_i x2), some (sj_i x3), some (sj_i 20001), some (sj_i 0), none]) (pc := 37) dX6_judge_37 (Nat.le_of_ble_eq_true rfl) rfl ?_
  exact sj_weak (l2 := [some (sj_r (some a0)), none, none, none, some (sj_i 20001), some (sj_i 0), none]) (⟨rfl, ⟨rfl, ⟨rfl, trivial⟩⟩⟩) (t_X6_judge_39 N a0 20001 0 s8 h)
set_option maxHeartbeats 4000000 in
theorem c_X6_judge {X : sj_X} {N : Nat} {a0 : Nat} {x1 : Option Nat} {x2 : Int} {x3 : Int} {s : sj_Mem} {q : Unit × sj_Mem} (h : f_X6_judge N a0 x1 x2 x3 s = some q) : sj_C X m_X6_judge [sj_r (some a0), sj_r x1, sj_i x2, sj_i x3] s (none, q.2) :=
  sj_C_of (by decide +kernel) (Nat.le_of_ble_eq_true rfl) (lo := [some (sj_r (some a0)), some (sj_r x1), some (sj_i x2), some (sj_i x3), none, none, none]) rfl (sj_weak (l2 := [some (sj_r (some a0)), some (sj_r x1), some (sj_i x2), some (sj_i x3), none, none, none]) (⟨rfl, ⟨rfl, ⟨rfl, ⟨rfl, trivial⟩⟩⟩⟩) (t_X6_judge_0 a0 x1 x2 x3 s h))
theorem dX7_init_0 : decode cX7_init 0 = .ok (.aload_n 0, 1) := by decide +kernel
theorem dX7_init_1 : decode cX7_init 1 = .ok (.invokespecial 3, 3) := by decide +kernel
theorem dX7_init_4 : decode cX7_init 4 = .ok (.aload_n 0, 1) := by decide +kernel
theorem dX7_init_5 : decode cX7_init 5 = .ok (.sipush 600, 3) := by decide +kernel
theorem dX7_init_8 : decode cX7_init 8 = .ok (.newarray .int, 2) := by decide +kernel
theorem dX7_init_10 : decode cX7_init 10 = .ok (.putfield 9, 3) := by decide +kernel
theorem dX7_init_13 : decode cX7_init 13 = .ok (.aload_n 0, 1) := by decide +kernel
theorem dX7_init_14 : decode cX7_init 14 = .ok (.iconst (-1), 1) := by decide +kernel
theorem dX7_init_15 : decode cX7_init 15 = .ok (.putfield 15, 3) := by decide +kernel
theorem dX7_init_18 : decode cX7_init 18 = .ok (.return_, 1) := by decide +kernel
set_option maxHeartbeats 4000000 in
theorem t_X7_init_0 {X : sj_X} {s0 : sj_Mem} {N : Nat} {q : Unit × sj_Mem} :
    ∀ (a0 : Nat) (s : sj_Mem), f_X7_init N a0 s = some q → sj_T X m_X7_init s0 (none, q.2) 0 [some (sj_r (some a0))] [] s := by
  intro a0 s h
  unfold f_X7_init at h
  refine r_aload_n (pc := 0) dX7_init_0 rfl rfl ?_
  refine r_oinit (pc := 1) dX7_init_1 ow_X7_3 (Nat.le_of_ble_eq_true rfl) (Nat.le_of_ble_eq_true rfl) ?_
  refine r_aload_n (pc := 4) dX7_init_4 rfl rfl ?_
  refine r_sipush (pc := 5) dX7_init_5 ⟨by decide, by decide⟩ ?_
  refine r_nA_I (pc := 8) h dX7_init_8 kw_62 (fun a1 s2 h => ?_)
  refine r_pF (pc := 10) h dX7_init_10 ff_X7_9 rfl rfl (Or.inr ⟨_, rfl⟩) (fun s3 h => ?_)
  refine r_aload_n (pc := 13) dX7_init_13 rfl rfl ?_
  refine r_iconst (pc := 14) dX7_init_14 ?_
  refine r_pI (pc := 15) h dX7_init_15 fw_X7_15 rfl rfl (fun _ hq => by cases hq; rfl) (fun s4 h => ?_)
  exact r_vret (pc := 18) h rfl dX7_init_18
set_option maxHeartbeats 4000000 in
theorem c_X7_init {X : sj_X} {N : Nat} {a0 : Nat} {s : sj_Mem} {q : Unit × sj_Mem} (h : f_X7_init N a0 s = some q) : sj_C X m_X7_init [sj_r (some a0)] s (none, q.2) :=
  sj_C_of (by decide +kernel) (Nat.le_of_ble_eq_true rfl) (lo := [some (sj_r (some a0))]) rfl (sj_weak (l2 := [some (sj_r (some a0))]) (⟨rfl, trivial⟩) (t_X7_init_0 a0 s h))
theorem dX8_init_0 : decode cX8_init 0 = .ok (.aload_n 0, 1) := by decide +kernel
theorem dX8_init_1 : decode cX8_init 1 = .ok (.invokespecial 3, 3) := by decide +kernel
theorem dX8_init_4 : decode cX8_init 4 = .ok (.aload_n 0, 1) := by decide +kernel
theorem dX8_init_5 : decode cX8_init 5 = .ok (.new 9, 3) := by decide +kernel
theorem dX8_init_8 : decode cX8_init 8 = .ok (.dup, 1) := by decide +kernel
theorem dX8_init_9 : decode cX8_init 9 = .ok (.invokespecial 11, 3) := by decide +kernel
theorem dX8_init_12 : decode cX8_init 12 = .ok (.putfield 12, 3) := by decide +kernel
theorem dX8_init_15 : decode cX8_init 15 = .ok (.aload_n 0, 1) := by decide +kernel
theorem dX8_init_16 : decode cX8_init 16 = .ok (.new 9, 3) := by decide +kernel
theorem dX8_init_19 : decode cX8_init 19 = .ok (.dup, 1) := by decide +kernel
theorem dX8_init_20 : decode cX8_init 20 = .ok (.invokespecial 11, 3) := by decide +kernel
theorem dX8_init_23 : decode cX8_init 23 = .ok (.putfield 16, 3) := by decide +kernel
theorem dX8_init_26 : decode cX8_init 26 = .ok (.aload_n 0, 1) := by decide +kernel
theorem dX8_init_27 : decode cX8_init 27 = .ok (.new 9, 3) := by decide +kernel
theorem dX8_init_30 : decode cX8_init 30 = .ok (.dup, 1) := by decide +kernel
theorem dX8_init_31 : decode cX8_init 31 = .ok (.invokespecial 11, 3) := by decide +kernel
theorem dX8_init_34 : decode cX8_init 34 = .ok (.putfield 19, 3) := by decide +kernel
theorem dX8_init_37 : decode cX8_init 37 = .ok (.aload_n 0, 1) := by decide +kernel
theorem dX8_init_38 : decode cX8_init 38 = .ok (.new 22, 3) := by decide +kernel
theorem dX8_init_41 : decode cX8_init 41 = .ok (.dup, 1) := by decide +kernel
theorem dX8_init_42 : decode cX8_init 42 = .ok (.invokespecial 24, 3) := by decide +kernel
theorem dX8_init_45 : decode cX8_init 45 = .ok (.putfield 25, 3) := by decide +kernel
theorem dX8_init_48 : decode cX8_init 48 = .ok (.aload_n 0, 1) := by decide +kernel
theorem dX8_init_49 : decode cX8_init 49 = .ok (.new 22, 3) := by decide +kernel
theorem dX8_init_52 : decode cX8_init 52 = .ok (.dup, 1) := by decide +kernel
theorem dX8_init_53 : decode cX8_init 53 = .ok (.invokespecial 24, 3) := by decide +kernel
theorem dX8_init_56 : decode cX8_init 56 = .ok (.putfield 29, 3) := by decide +kernel
theorem dX8_init_59 : decode cX8_init 59 = .ok (.aload_n 0, 1) := by decide +kernel
theorem dX8_init_60 : decode cX8_init 60 = .ok (.new 32, 3) := by decide +kernel
theorem dX8_init_63 : decode cX8_init 63 = .ok (.dup, 1) := by decide +kernel
theorem dX8_init_64 : decode cX8_init 64 = .ok (.invokespecial 34, 3) := by decide +kernel
theorem dX8_init_67 : decode cX8_init 67 = .ok (.putfield 35, 3) := by decide +kernel
theorem dX8_init_70 : decode cX8_init 70 = .ok (.aload_n 0, 1) := by decide +kernel
theorem dX8_init_71 : decode cX8_init 71 = .ok (.bipush 8, 2) := by decide +kernel
theorem dX8_init_73 : decode cX8_init 73 = .ok (.anewarray 9, 3) := by decide +kernel
theorem dX8_init_76 : decode cX8_init 76 = .ok (.putfield 39, 3) := by decide +kernel
theorem dX8_init_79 : decode cX8_init 79 = .ok (.aload_n 0, 1) := by decide +kernel
theorem dX8_init_80 : decode cX8_init 80 = .ok (.new 43, 3) := by decide +kernel
theorem dX8_init_83 : decode cX8_init 83 = .ok (.dup, 1) := by decide +kernel
theorem dX8_init_84 : decode cX8_init 84 = .ok (.invokespecial 45, 3) := by decide +kernel
theorem dX8_init_87 : decode cX8_init 87 = .ok (.putfield 46, 3) := by decide +kernel
theorem dX8_init_90 : decode cX8_init 90 = .ok (.aload_n 0, 1) := by decide +kernel
theorem dX8_init_91 : decode cX8_init 91 = .ok (.new 50, 3) := by decide +kernel
theorem dX8_init_94 : decode cX8_init 94 = .ok (.dup, 1) := by decide +kernel
theorem dX8_init_95 : decode cX8_init 95 = .ok (.invokespecial 52, 3) := by decide +kernel
theorem dX8_init_98 : decode cX8_init 98 = .ok (.putfield 53, 3) := by decide +kernel
theorem dX8_init_101 : decode cX8_init 101 = .ok (.aload_n 0, 1) := by decide +kernel
theorem dX8_init_102 : decode cX8_init 102 = .ok (.new 57, 3) := by decide +kernel
theorem dX8_init_105 : decode cX8_init 105 = .ok (.dup, 1) := by decide +kernel
theorem dX8_init_106 : decode cX8_init 106 = .ok (.invokespecial 59, 3) := by decide +kernel
theorem dX8_init_109 : decode cX8_init 109 = .ok (.putfield 60, 3) := by decide +kernel
theorem dX8_init_112 : decode cX8_init 112 = .ok (.aload_n 0, 1) := by decide +kernel
theorem dX8_init_113 : decode cX8_init 113 = .ok (.new 64, 3) := by decide +kernel
theorem dX8_init_116 : decode cX8_init 116 = .ok (.dup, 1) := by decide +kernel
theorem dX8_init_117 : decode cX8_init 117 = .ok (.invokespecial 66, 3) := by decide +kernel
theorem dX8_init_120 : decode cX8_init 120 = .ok (.putfield 67, 3) := by decide +kernel
theorem dX8_init_123 : decode cX8_init 123 = .ok (.aload_n 0, 1) := by decide +kernel
theorem dX8_init_124 : decode cX8_init 124 = .ok (.getfield 12, 3) := by decide +kernel
theorem dX8_init_127 : decode cX8_init 127 = .ok (.bipush 20, 2) := by decide +kernel
theorem dX8_init_129 : decode cX8_init 129 = .ok (.iconst 4, 1) := by decide +kernel
theorem dX8_init_130 : decode cX8_init 130 = .ok (.invokevirtual 71, 3) := by decide +kernel
theorem dX8_init_133 : decode cX8_init 133 = .ok (.iconst 0, 1) := by decide +kernel
theorem dX8_init_134 : decode cX8_init 134 = .ok (.istore_n 1, 1) := by decide +kernel
theorem dX8_init_135 : decode cX8_init 135 = .ok (.iload_n 1, 1) := by decide +kernel
theorem dX8_init_136 : decode cX8_init 136 = .ok (.bipush 8, 2) := by decide +kernel
theorem dX8_init_138 : decode cX8_init 138 = .ok (.if_icmp .ge 22, 3) := by decide +kernel
theorem dX8_init_141 : decode cX8_init 141 = .ok (.aload_n 0, 1) := by decide +kernel
theorem dX8_init_142 : decode cX8_init 142 = .ok (.getfield 39, 3) := by decide +kernel
theorem dX8_init_145 : decode cX8_init 145 = .ok (.iload_n 1, 1) := by decide +kernel
theorem dX8_init_146 : decode cX8_init 146 = .ok (.new 9, 3) := by decide +kernel
theorem dX8_init_149 : decode cX8_init 149 = .ok (.dup, 1) := by decide +kernel
theorem dX8_init_150 : decode cX8_init 150 = .ok (.invokespecial 11, 3) := by decide +kernel
theorem dX8_init_153 : decode cX8_init 153 = .ok (.aastore, 1) := by decide +kernel
theorem dX8_init_154 : decode cX8_init 154 = .ok (.iinc 1 1, 3) := by decide +kernel
theorem dX8_init_157 : decode cX8_init 157 = .ok (.goto (-22), 3) := by decide +kernel
theorem dX8_init_160 : decode cX8_init 160 = .ok (.return_, 1) := by decide +kernel
set_option maxHeartbeats 4000000 in
theorem t_X8_init_135_b {X : sj_X} {s0 : sj_Mem} {N : Nat} {q : Unit × sj_Mem} {k135 : Nat → Int → sj_Mem → Option (Unit × sj_Mem)} (hk135 : ∀ (a0 : Nat) (x1 : Int) (s : sj_Mem), k135 a0 x1 s = some q → sj_T X m_X8_init s0 (none, q.2) 135 [some (sj_r (some a0)), some (sj_i x1)] [] s) :
    ∀ (a0 : Nat) (x1 : Int) (s : sj_Mem), f_X8_init_135_b N k135 a0 x1 s = some q → sj_T X m_X8_init s0 (none, q.2) 135 [some (sj_r (some a0)), some (sj_i x1)] [] s := by
  intro a0 x1 s h
  unfold f_X8_init_135_b at h
  refine r_iload_n (pc := 135) dX8_init_135 rfl rfl ?_
  refine r_bipush (pc := 136) dX8_init_136 ⟨by decide, by decide⟩ ?_
  refine r_icmp_ge (pc := 138) (tgt := 160) h dX8_init_138 (by decide) (fun h => ?_) (fun h => ?_)
  · exact r_vret (pc := 160) h rfl dX8_init_160
  · refine r_aload_n (pc := 141) dX8_init_141 rfl rfl ?_
    refine r_gR (pc := 142) h dX8_init_142 fw_X8_39 rfl (fun r1 h => ?_)
    refine r_iload_n (pc := 145) dX8_init_145 rfl rfl ?_
    refine r_new (pc := 146) h dX8_init_146 nw_X8_9 (fun a2 s3 h => ?_)
    refine r_dup (pc := 149) dX8_init_149 rfl ?_
    refine r_callI (pc := 150) (fun _ => none) (As := []) (rest := [(sj_r (some a2)), (sj_i x1), (sj_r r1)]) (b := a2) h dX8_init_150 mw_X8_11 ⟨kw_29, rfl, rfl⟩ (fun _ _ hc => c_X0_init hc) rfl ⟨(Nat.le_of_ble_eq_true rfl), (Nat.le_of_ble_eq_true rfl)⟩ (Nat.le_of_ble_eq_true rfl) rfl (fun _u s4 h => ?_)
    obtain ⟨a5, ea5, g⟩ := e_nn_some h
    clear h
    subst ea5
    have h := g
    clear g
    refine r_aastore (pc := 153) h dX8_init_153 (fun s6 h => ?_)
    refine r_iinc (ln := fun w => [some (sj_r (some a0)), some (sj_i w)]) (pc := 154) h dX8_init_154 rfl (Nat.le_of_ble_eq_true rfl) (fun _ => rfl) (fun v7 h => ?_)
    refine r_goto (pc := 157) (tgt := 135) dX8_init_157 (by decide) ?_
    exact sj_weak (l2 := [some (sj_r (some a0)), some (sj_i v7)]) (⟨rfl, ⟨rfl, trivial⟩⟩) (hk135 a0 v7 s6 h)
set_option maxHeartbeats 4000000 in
theorem t_X8_init_135 {X : sj_X} {s0 : sj_Mem} {N : Nat} {q : Unit × sj_Mem} :
    ∀ (n : Nat) (a0 : Nat) (x1 : Int) (s : sj_Mem), f_X8_init_135 N n a0 x1 s = some q → sj_T X m_X8_init s0 (none, q.2) 135 [some (sj_r (some a0)), some (sj_i x1)] [] s := by
  intro n
  induction n with
  | zero => intro a0 x1 s h; exact nomatch h
  | succ n ih => intro a0 x1 s h; exact t_X8_init_135_b (N := N) ih a0 x1 s h
set_option maxHeartbeats 4000000 in
theorem t_X8_init_0 {X : sj_X} {s0 : sj_Mem} {N : Nat} {q : Unit × sj_Mem} :
    ∀ (a0 : Nat) (s : sj_Mem), f_X8_init N a0 s = some q → sj_T X m_X8_init s0 (none, q.2) 0 [some (sj_r (some a0)), none] [] s := by
  intro a0 s h
  unfold f_X8_init at h
  refine r_aload_n (pc := 0) dX8_init_0 rfl rfl ?_
  refine r_oinit (pc := 1) dX8_init_1 ow_X8_3 (Nat.le_of_ble_eq_true rfl) (Nat.le_of_ble_eq_true rfl) ?_
  refine r_aload_n (pc := 4) dX8_init_4 rfl rfl ?_
  refine r_new (pc := 5) h dX8_init_5 nw_X8_9 (fun a1 s2 h => ?_)
  refine r_dup (pc := 8) dX8_init_8 rfl ?_
  refine r_callI (pc := 9) (fun _ => none) (As := []) (rest := [(sj_r (some a1)), (sj_r (some a0))]) (b := a1) h dX8_init_9 mw_X8_11 ⟨kw_29, rfl, rfl⟩ (fun _ _ hc => c_X0_init hc) rfl ⟨(Nat.le_of_ble_eq_true rfl), (Nat.le_of_ble_eq_true rfl)⟩ (Nat.le_of_ble_eq_true rfl) rfl (fun _u s3 h => ?_)
  refine r_pF (pc := 12) h dX8_init_12 ff_X8_12 rfl rfl (Or.inl ⟨_, rfl⟩) (fun s4 h => ?_)
  refine r_aload_n (pc := 15) dX8_init_15 rfl rfl ?_
  refine r_new (pc := 16) h dX8_init_16 nw_X8_9 (fun a5 s6 h => ?_)
  refine r_dup (pc := 19) dX8_init_19 rfl ?_
  refine r_callI (pc := 20) (fun _ => none) (As := []) (rest := [(sj_r (some a5)), (sj_r (some a0))]) (b := a5) h dX8_init_20 mw_X8_11 ⟨kw_29, rfl, rfl⟩ (fun _ _ hc => c_X0_init hc) rfl ⟨(Nat.le_of_ble_eq_true rfl), (Nat.le_of_ble_eq_true rfl)⟩ (Nat.le_of_ble_eq_true rfl) rfl (fun _u s7 h => ?_)
  refine r_pF (pc := 23) h dX8_init_23 ff_X8_16 rfl rfl (Or.inl ⟨_, rfl⟩) (fun s8 h => ?_)
  refine r_aload_n (pc := 26) dX8_init_26 rfl rfl ?_
  refine r_new (pc := 27) h dX8_init_27 nw_X8_9 (fun a9 s10 h => ?_)
  refine r_dup (pc := 30) dX8_init_30 rfl ?_
  refine r_callI (pc := 31) (fun _ => none) (As := []) (rest := [(sj_r (some a9)), (sj_r (some a0))]) (b := a9) h dX8_init_31 mw_X8_11 ⟨kw_29, rfl, rfl⟩ (fun _ _ hc => c_X0_init hc) rfl ⟨(Nat.le_of_ble_eq_true rfl), (Nat.le_of_ble_eq_true rfl)⟩ (Nat.le_of_ble_eq_true rfl) rfl (fun _u s11 h => ?_)
  refine r_pF (pc := 34) h dX8_init_34 ff_X8_19 rfl rfl (Or.inl ⟨_, rfl⟩) (fun s12 h => ?_)
  refine r_aload_n (pc := 37) dX8_init_37 rfl rfl ?_
  refine r_new (pc := 38) h dX8_init_38 nw_X8_22 (fun a13 s14 h => ?_)
  refine r_dup (pc := 41) dX8_init_41 rfl ?_
  refine r_callI (pc := 42) (fun _ => none) (As := []) (rest := [(sj_r (some a13)), (sj_r (some a0))]) (b := a13) h dX8_init_42 mw_X8_24 ⟨kw_155, rfl, rfl⟩ (fun _ _ hc => c_X1_init hc) rfl ⟨(Nat.le_of_ble_eq_true rfl), (Nat.le_of_ble_eq_true rfl)⟩ (Nat.le_of_ble_eq_true rfl) rfl (fun _u s15 h => ?_)
  refine r_pF (pc := 45) h dX8_init_45 ff_X8_25 rfl rfl (Or.inl ⟨_, rfl⟩) (fun s16 h => ?_)
  refine r_aload_n (pc := 48) dX8_init_48 rfl rfl ?_
  refine r_new (pc := 49) h dX8_init_49 nw_X8_22 (fun a17 s18 h => ?_)
  refine r_dup (pc := 52) dX8_init_52 rfl ?_
  refine r_callI (pc := 53) (fun _ => none) (As := []) (rest := [(sj_r (some a17)), (sj_r (some a0))]) (b := a17) h dX8_init_53 mw_X8_24 ⟨kw_155, rfl, rfl⟩ (fun _ _ hc => c_X1_init hc) rfl ⟨(Nat.le_of_ble_eq_true rfl), (Nat.le_of_ble_eq_true rfl)⟩ (Nat.le_of_ble_eq_true rfl) rfl (fun _u s19 h => ?_)
  refine r_pF (pc := 56) h dX8_init_56 ff_X8_29 rfl rfl (Or.inl ⟨_, rfl⟩) (fun s20 h => ?_)
  refine r_aload_n (pc := 59) dX8_init_59 rfl rfl ?_
  refine r_new (pc := 60) h dX8_init_60 nw_X8_32 (fun a21 s22 h => ?_)
  refine r_dup (pc := 63) dX8_init_63 rfl ?_
  refine r_callI (pc := 64) (fun _ => none) (As := []) (rest := [(sj_r (some a21)), (sj_r (some a0))]) (b := a21) h dX8_init_64 mw_X8_34 ⟨kw_181, rfl, rfl⟩ (fun _ _ hc => c_X2_init hc) rfl ⟨(Nat.le_of_ble_eq_true rfl), (Nat.le_of_ble_eq_true rfl)⟩ (Nat.le_of_ble_eq_true rfl) rfl (fun _u s23 h => ?_)
  refine r_pF (pc := 67) h dX8_init_67 ff_X8_35 rfl rfl (Or.inl ⟨_, rfl⟩) (fun s24 h => ?_)
  refine r_aload_n (pc := 70) dX8_init_70 rfl rfl ?_
  refine r_bipush (pc := 71) dX8_init_71 ⟨by decide, by decide⟩ ?_
  refine r_nA_R (pc := 73) h dX8_init_73 kw_26 (fun a25 s26 h => ?_)
  refine r_pF (pc := 76) h dX8_init_76 ff_X8_39 rfl rfl (Or.inr ⟨_, rfl⟩) (fun s27 h => ?_)
  refine r_aload_n (pc := 79) dX8_init_79 rfl rfl ?_
  refine r_new (pc := 80) h dX8_init_80 nw_X8_43 (fun a28 s29 h => ?_)
  refine r_dup (pc := 83) dX8_init_83 rfl ?_
  refine r_callI (pc := 84) (fun _ => none) (As := []) (rest := [(sj_r (some a28)), (sj_r (some a0))]) (b := a28) h dX8_init_84 mw_X8_45 ⟨kw_197, rfl, rfl⟩ (fun _ _ hc => c_X7_init hc) rfl ⟨(Nat.le_of_ble_eq_true rfl), (Nat.le_of_ble_eq_true rfl)⟩ (Nat.le_of_ble_eq_true rfl) rfl (fun _u s30 h => ?_)
  refine r_pF (pc := 87) h dX8_init_87 ff_X8_46 rfl rfl (Or.inl ⟨_, rfl⟩) (fun s31 h => ?_)
  refine r_aload_n (pc := 90) dX8_init_90 rfl rfl ?_
  refine r_new (pc := 91) h dX8_init_91 nw_X8_50 (fun a32 s33 h => ?_)
  refine r_dup (pc := 94) dX8_init_94 rfl ?_
  refine r_callI (pc := 95) (fun _ => none) (As := []) (rest := [(sj_r (some a32)), (sj_r (some a0))]) (b := a32) h dX8_init_95 mw_X8_52 ⟨kw_231, rfl, rfl⟩ (fun _ _ hc => c_X4_init hc) rfl ⟨(Nat.le_of_ble_eq_true rfl), (Nat.le_of_ble_eq_true rfl)⟩ (Nat.le_of_ble_eq_true rfl) rfl (fun _u s34 h => ?_)
  refine r_pF (pc := 98) h dX8_init_98 ff_X8_53 rfl rfl (Or.inl ⟨_, rfl⟩) (fun s35 h => ?_)
  refine r_aload_n (pc := 101) dX8_init_101 rfl rfl ?_
  refine r_new (pc := 102) h dX8_init_102 nw_X8_57 (fun a36 s37 h => ?_)
  refine r_dup (pc := 105) dX8_init_105 rfl ?_
  refine r_callI (pc := 106) (fun _ => none) (As := []) (rest := [(sj_r (some a36)), (sj_r (some a0))]) (b := a36) h dX8_init_106 mw_X8_59 ⟨kw_280, rfl, rfl⟩ (fun _ _ hc => c_X3_init hc) rfl ⟨(Nat.le_of_ble_eq_true rfl), (Nat.le_of_ble_eq_true rfl)⟩ (Nat.le_of_ble_eq_true rfl) rfl (fun _u s38 h => ?_)
  refine r_pF (pc := 109) h dX8_init_109 ff_X8_60 rfl rfl (Or.inl ⟨_, rfl⟩) (fun s39 h => ?_)
  refine r_aload_n (pc := 112) dX8_init_112 rfl rfl ?_
  refine r_new (pc := 113) h dX8_init_113 nw_X8_64 (fun a40 s41 h => ?_)
  refine r_dup (pc := 116) dX8_init_116 rfl ?_
  refine r_callI (pc := 117) (fun _ => none) (As := []) (rest := [(sj_r (some a40)), (sj_r (some a0))]) (b := a40) h dX8_init_117 mw_X8_66 ⟨kw_35, rfl, rfl⟩ (fun _ _ hc => c_X5_init hc) rfl ⟨(Nat.le_of_ble_eq_true rfl), (Nat.le_of_ble_eq_true rfl)⟩ (Nat.le_of_ble_eq_true rfl) rfl (fun _u s42 h => ?_)
  refine r_pF (pc := 120) h dX8_init_120 ff_X8_67 rfl rfl (Or.inl ⟨_, rfl⟩) (fun s43 h => ?_)
  refine r_aload_n (pc := 123) dX8_init_123 rfl rfl ?_
  refine r_gR (pc := 124) h dX8_init_124 fw_X8_12 rfl (fun r44 h => ?_)
  refine r_bipush (pc := 127) dX8_init_127 ⟨by decide, by decide⟩ ?_
  refine r_iconst (pc := 129) dX8_init_129 ?_
  obtain ⟨a45, ea45, g⟩ := e_nn_some h
  clear h
  subst ea45
  have h := g
  clear g
  refine r_callV (pc := 130) (fun _ => none) (As := [sj_i 20, sj_i 4]) (rest := []) h dX8_init_130 mw_X8_71 vw_X0_begin (fun _ _ hc => c_X0_begin hc) rfl ⟨(Nat.le_of_ble_eq_true rfl), (Nat.le_of_ble_eq_true rfl)⟩ (Nat.le_of_ble_eq_true rfl) rfl (fun _u s46 h => ?_)
  refine r_iconst (pc := 133) dX8_init_133 ?_
  refine r_istore_n (ln := [some (sj_r (some a0)), some (sj_i 0)]) (pc := 134) dX8_init_134 rfl (Nat.le_of_ble_eq_true rfl) rfl ?_
  exact sj_weak (l2 := [some (sj_r (some a0)), some (sj_i 0)]) (⟨rfl, ⟨rfl, trivial⟩⟩) (t_X8_init_135 N a0 0 s46 h)
set_option maxHeartbeats 4000000 in
theorem c_X8_init {X : sj_X} {N : Nat} {a0 : Nat} {s : sj_Mem} {q : Unit × sj_Mem} (h : f_X8_init N a0 s = some q) : sj_C X m_X8_init [sj_r (some a0)] s (none, q.2) :=
  sj_C_of (by decide +kernel) (Nat.le_of_ble_eq_true rfl) (lo := [some (sj_r (some a0)), none]) rfl (sj_weak (l2 := [some (sj_r (some a0)), none]) (⟨rfl, trivial⟩) (t_X8_init_0 a0 s h))
theorem dX8_tableOf_0 : decode cX8_tableOf 0 = .ok (.aload_n 0, 1) := by decide +kernel
theorem dX8_tableOf_1 : decode cX8_tableOf 1 = .ok (.getfield 397, 3) := by decide +kernel
theorem dX8_tableOf_4 : decode cX8_tableOf 4 = .ok (.ifnonnull 14, 3) := by decide +kernel
theorem dX8_tableOf_7 : decode cX8_tableOf 7 = .ok (.aload_n 0, 1) := by decide +kernel
theorem dX8_tableOf_8 : decode cX8_tableOf 8 = .ok (.new 188, 3) := by decide +kernel
theorem dX8_tableOf_11 : decode cX8_tableOf 11 = .ok (.dup, 1) := by decide +kernel
theorem dX8_tableOf_12 : decode cX8_tableOf 12 = .ok (.invokespecial 401, 3) := by decide +kernel
theorem dX8_tableOf_15 : decode cX8_tableOf 15 = .ok (.putfield 397, 3) := by decide +kernel
theorem dX8_tableOf_18 : decode cX8_tableOf 18 = .ok (.aload_n 0, 1) := by decide +kernel
theorem dX8_tableOf_19 : decode cX8_tableOf 19 = .ok (.getfield 397, 3) := by decide +kernel
theorem dX8_tableOf_22 : decode cX8_tableOf 22 = .ok (.aload_n 0, 1) := by decide +kernel
theorem dX8_tableOf_23 : decode cX8_tableOf 23 = .ok (.getfield 12, 3) := by decide +kernel
theorem dX8_tableOf_26 : decode cX8_tableOf 26 = .ok (.iload_n 1, 1) := by decide +kernel
theorem dX8_tableOf_27 : decode cX8_tableOf 27 = .ok (.iload_n 2, 1) := by decide +kernel
theorem dX8_tableOf_28 : decode cX8_tableOf 28 = .ok (.invokevirtual 402, 3) := by decide +kernel
theorem dX8_tableOf_31 : decode cX8_tableOf 31 = .ok (.aload_n 0, 1) := by decide +kernel
theorem dX8_tableOf_32 : decode cX8_tableOf 32 = .ok (.getfield 397, 3) := by decide +kernel
theorem dX8_tableOf_35 : decode cX8_tableOf 35 = .ok (.areturn, 1) := by decide +kernel
set_option maxHeartbeats 4000000 in
theorem t_X8_tableOf_18 {X : sj_X} {s0 : sj_Mem} {N : Nat} {q : Option Nat × sj_Mem} :
    ∀ (a0 : Nat) (x1 : Int) (x2 : Int) (s : sj_Mem), f_X8_tableOf_18 N a0 x1 x2 s = some q → sj_T X m_X8_tableOf s0 (some (sj_r q.1), q.2) 18 [some (sj_r (some a0)), some (sj_i x1), some (sj_i x2)] [] s := by
  intro a0 x1 x2 s h
  unfold f_X8_tableOf_18 at h
  refine r_aload_n (pc := 18) dX8_tableOf_18 rfl rfl ?_
  refine r_gR (pc := 19) h dX8_tableOf_19 fw_X8_397 rfl (fun r1 h => ?_)
  refine r_aload_n (pc := 22) dX8_tableOf_22 rfl rfl ?_
  refine r_gR (pc := 23) h dX8_tableOf_23 fw_X8_12 rfl (fun r2 h => ?_)
  refine r_iload_n (pc := 26) dX8_tableOf_26 rfl rfl ?_
  refine r_iload_n (pc := 27) dX8_tableOf_27 rfl rfl ?_
  obtain ⟨a3, ea3, g⟩ := e_nn_some h
  clear h
  subst ea3
  have h := g
  clear g
  refine r_callV (pc := 28) (fun _ => none) (As := [sj_r r2, sj_i x1, sj_i x2]) (rest := []) h dX8_tableOf_28 mw_X8_402 vw_X6_judge (fun _ _ hc => c_X6_judge hc) rfl ⟨(Nat.le_of_ble_eq_true rfl), (Nat.le_of_ble_eq_true rfl)⟩ (Nat.le_of_ble_eq_true rfl) rfl (fun _u s4 h => ?_)
  refine r_aload_n (pc := 31) dX8_tableOf_31 rfl rfl ?_
  refine r_gR (pc := 32) h dX8_tableOf_32 fw_X8_397 rfl (fun r5 h => ?_)
  exact r_aret (pc := 35) h rfl dX8_tableOf_35
set_option maxHeartbeats 4000000 in
theorem t_X8_tableOf_0 {X : sj_X} {s0 : sj_Mem} {N : Nat} {q : Option Nat × sj_Mem} :
    ∀ (a0 : Nat) (x1 : Int) (x2 : Int) (s : sj_Mem), f_X8_tableOf N a0 x1 x2 s = some q → sj_T X m_X8_tableOf s0 (some (sj_r q.1), q.2) 0 [some (sj_r (some a0)), some (sj_i x1), some (sj_i x2)] [] s := by
  intro a0 x1 x2 s h
  unfold f_X8_tableOf at h
  refine r_aload_n (pc := 0) dX8_tableOf_0 rfl rfl ?_
  refine r_gR (pc := 1) h dX8_tableOf_1 fw_X8_397 rfl (fun r1 h => ?_)
  refine r_ifnonnull (pc := 4) (tgt := 18) h dX8_tableOf_4 (by decide) (fun h => ?_) (fun h => ?_)
  · refine r_aload_n (pc := 7) dX8_tableOf_7 rfl rfl ?_
    refine r_new (pc := 8) h dX8_tableOf_8 nw_X8_188 (fun a2 s3 h => ?_)
    refine r_dup (pc := 11) dX8_tableOf_11 rfl ?_
    refine r_callI (pc := 12) (fun _ => none) (As := []) (rest := [(sj_r (some a2)), (sj_r (some a0))]) (b := a2) h dX8_tableOf_12 mw_X8_401 ⟨kw_654, rfl, rfl⟩ (fun _ _ hc => c_X6_init hc) rfl ⟨(Nat.le_of_ble_eq_true rfl), (Nat.le_of_ble_eq_true rfl)⟩ (Nat.le_of_ble_eq_true rfl) rfl (fun _u s4 h => ?_)
    refine r_pR (pc := 15) h dX8_tableOf_15 fw_X8_397 (fun _ hq => by cases hq; rfl) rfl (Or.inl ⟨_, rfl⟩) (fun s5 h => ?_)
    exact sj_weak (l2 := [some (sj_r (some a0)), some (sj_i x1), some (sj_i x2)]) (⟨rfl, ⟨rfl, ⟨rfl, trivial⟩⟩⟩) (t_X8_tableOf_18 a0 x1 x2 s5 h)
  · exact sj_weak (l2 := [some (sj_r (some a0)), some (sj_i x1), some (sj_i x2)]) (⟨rfl, ⟨rfl, ⟨rfl, trivial⟩⟩⟩) (t_X8_tableOf_18 a0 x1 x2 s h)
set_option maxHeartbeats 4000000 in
theorem c_X8_tableOf {X : sj_X} {N : Nat} {a0 : Nat} {x1 : Int} {x2 : Int} {s : sj_Mem} {q : Option Nat × sj_Mem} (h : f_X8_tableOf N a0 x1 x2 s = some q) : sj_C X m_X8_tableOf [sj_r (some a0), sj_i x1, sj_i x2] s (some (sj_r q.1), q.2) :=
  sj_C_of (by decide +kernel) (Nat.le_of_ble_eq_true rfl) (lo := [some (sj_r (some a0)), some (sj_i x1), some (sj_i x2)]) rfl (sj_weak (l2 := [some (sj_r (some a0)), some (sj_i x1), some (sj_i x2)]) (⟨rfl, ⟨rfl, ⟨rfl, trivial⟩⟩⟩) (t_X8_tableOf_0 a0 x1 x2 s h))
theorem dX8_worst_0 : decode cX8_worst 0 = .ok (.iload_n 1, 1) := by decide +kernel
theorem dX8_worst_1 : decode cX8_worst 1 = .ok (.iconst 1, 1) := by decide +kernel
theorem dX8_worst_2 : decode cX8_worst 2 = .ok (.if_icmp .lt 9, 3) := by decide +kernel
theorem dX8_worst_5 : decode cX8_worst 5 = .ok (.iload_n 1, 1) := by decide +kernel
theorem dX8_worst_6 : decode cX8_worst 6 = .ok (.bipush 12, 2) := by decide +kernel
theorem dX8_worst_8 : decode cX8_worst 8 = .ok (.if_icmp .le 5, 3) := by decide +kernel
theorem dX8_worst_11 : decode cX8_worst 11 = .ok (.iconst (-1), 1) := by decide +kernel
theorem dX8_worst_12 : decode cX8_worst 12 = .ok (.ireturn, 1) := by decide +kernel
theorem dX8_worst_13 : decode cX8_worst 13 = .ok (.aload_n 0, 1) := by decide +kernel
theorem dX8_worst_14 : decode cX8_worst 14 = .ok (.iload_n 1, 1) := by decide +kernel
theorem dX8_worst_15 : decode cX8_worst 15 = .ok (.iload_n 2, 1) := by decide +kernel
theorem dX8_worst_16 : decode cX8_worst 16 = .ok (.invokevirtual 183, 3) := by decide +kernel
theorem dX8_worst_19 : decode cX8_worst 19 = .ok (.astore_n 3, 1) := by decide +kernel
theorem dX8_worst_20 : decode cX8_worst 20 = .ok (.aload_n 3, 1) := by decide +kernel
theorem dX8_worst_21 : decode cX8_worst 21 = .ok (.getfield 187, 3) := by decide +kernel
theorem dX8_worst_24 : decode cX8_worst 24 = .ok (.invokevirtual 192, 3) := by decide +kernel
theorem dX8_worst_27 : decode cX8_worst 27 = .ok (.ifCond .eq 5, 3) := by decide +kernel
theorem dX8_worst_30 : decode cX8_worst 30 = .ok (.iconst (-1), 1) := by decide +kernel
theorem dX8_worst_31 : decode cX8_worst 31 = .ok (.ireturn, 1) := by decide +kernel
theorem dX8_worst_32 : decode cX8_worst 32 = .ok (.aload_n 0, 1) := by decide +kernel
theorem dX8_worst_33 : decode cX8_worst 33 = .ok (.getfield 12, 3) := by decide +kernel
theorem dX8_worst_36 : decode cX8_worst 36 = .ok (.getfield 106, 3) := by decide +kernel
theorem dX8_worst_39 : decode cX8_worst 39 = .ok (.aload_n 3, 1) := by decide +kernel
theorem dX8_worst_40 : decode cX8_worst 40 = .ok (.getfield 187, 3) := by decide +kernel
theorem dX8_worst_43 : decode cX8_worst 43 = .ok (.invokevirtual 196, 3) := by decide +kernel
theorem dX8_worst_46 : decode cX8_worst 46 = .ok (.aload_n 0, 1) := by decide +kernel
theorem dX8_worst_47 : decode cX8_worst 47 = .ok (.getfield 12, 3) := by decide +kernel
theorem dX8_worst_50 : decode cX8_worst 50 = .ok (.getfield 106, 3) := by decide +kernel
theorem dX8_worst_53 : decode cX8_worst 53 = .ok (.invokevirtual 199, 3) := by decide +kernel
theorem dX8_worst_56 : decode cX8_worst 56 = .ok (.ireturn, 1) := by decide +kernel
set_option maxHeartbeats 4000000 in
theorem t_X8_worst_0 {X : sj_X} {s0 : sj_Mem} {N : Nat} {q : Int × sj_Mem} :
    ∀ (a0 : Nat) (x1 : Int) (x2 : Int) (s : sj_Mem), f_X8_worst N a0 x1 x2 s = some q → sj_T X m_X8_worst s0 (some (sj_i q.1), q.2) 0 [some (sj_r (some a0)), some (sj_i x1), some (sj_i x2), none] [] s := by
  intro a0 x1 x2 s h
  unfold f_X8_worst at h
  refine r_iload_n (pc := 0) dX8_worst_0 rfl rfl ?_
  refine r_iconst (pc := 1) dX8_worst_1 ?_
  refine r_icmp_lt (pc := 2) (tgt := 11) h dX8_worst_2 (by decide) (fun h => ?_) (fun h => ?_)
  · refine r_iconst (pc := 11) dX8_worst_11 ?_
    exact r_iret (pc := 12) h rfl dX8_worst_12
  · refine r_iload_n (pc := 5) dX8_worst_5 rfl rfl ?_
    refine r_bipush (pc := 6) dX8_worst_6 ⟨by decide, by decide⟩ ?_
    refine r_icmp_le (pc := 8) (tgt := 13) h dX8_worst_8 (by decide) (fun h => ?_) (fun h => ?_)
    · refine r_aload_n (pc := 13) dX8_worst_13 rfl rfl ?_
      refine r_iload_n (pc := 14) dX8_worst_14 rfl rfl ?_
      refine r_iload_n (pc := 15) dX8_worst_15 rfl rfl ?_
      refine r_callV (pc := 16) (fun v => some (sj_r v)) (As := [sj_i x1, sj_i x2]) (rest := []) h dX8_worst_16 mw_X8_183 vw_X8_tableOf (fun _ _ hc => c_X8_tableOf hc) rfl ⟨(Nat.le_of_ble_eq_true rfl), (Nat.le_of_ble_eq_true rfl)⟩ (Nat.le_of_ble_eq_true rfl) rfl (fun r2 s1 h => ?_)
      refine r_astore_n (ln := [some (sj_r (some a0)), some (sj_i x1), some (sj_i x2), some (sj_r r2)]) (pc := 19) dX8_worst_19 rfl (Nat.le_of_ble_eq_true rfl) rfl ?_
      refine r_aload_n (pc := 20) dX8_worst_20 rfl rfl ?_
      obtain ⟨a3, ea3, g⟩ := e_nn_some h
      clear h
      subst ea3
      have h := g
      clear g
      refine r_gR (pc := 21) h dX8_worst_21 fw_X8_187 rfl (fun r4 h => ?_)
      obtain ⟨a5, ea5, g⟩ := e_nn_some h
      clear h
      subst ea5
      have h := g
      clear g
      refine r_callV (pc := 24) (fun v => some (sj_i v)) (As := []) (rest := []) h dX8_worst_24 mw_X8_192 vw_X5_isNone (fun _ _ hc => c_X5_isNone hc) rfl ⟨(Nat.le_of_ble_eq_true rfl), (Nat.le_of_ble_eq_true rfl)⟩ (Nat.le_of_ble_eq_true rfl) rfl (fun v7 s6 h => ?_)
      refine r_if_eq (pc := 27) (tgt := 32) h dX8_worst_27 (by decide) (fun h => ?_) (fun h => ?_)
      · refine r_aload_n (pc := 32) dX8_worst_32 rfl rfl ?_
        refine r_gR (pc := 33) h dX8_worst_33 fw_X8_12 rfl (fun r8 h => ?_)
        obtain ⟨a9, ea9, g⟩ := e_nn_some h
        clear h
        subst ea9
        have h := g
        clear g
        refine r_gR (pc := 36) h dX8_worst_36 fw_X8_106 rfl (fun r10 h => ?_)
        refine r_aload_n (pc := 39) dX8_worst_39 rfl rfl ?_
        refine r_gR (pc := 40) h dX8_worst_40 fw_X8_187 rfl (fun r11 h => ?_)
        obtain ⟨a12, ea12, g⟩ := e_nn_some h
        clear h
        subst ea12
        have h := g
        clear g
        refine r_callV (pc := 43) (fun _ => none) (As := [sj_r r11]) (rest := []) h dX8_worst_43 mw_X8_196 vw_X5_copy (fun _ _ hc => c_X5_copy hc) rfl ⟨(Nat.le_of_ble_eq_true rfl), (Nat.le_of_ble_eq_true rfl)⟩ (Nat.le_of_ble_eq_true rfl) rfl (fun _u s13 h => ?_)
        refine r_aload_n (pc := 46) dX8_worst_46 rfl rfl ?_
        refine r_gR (pc := 47) h dX8_worst_47 fw_X8_12 rfl (fun r14 h => ?_)
        obtain ⟨a15, ea15, g⟩ := e_nn_some h
        clear h
        subst ea15
        have h := g
        clear g
        refine r_gR (pc := 50) h dX8_worst_50 fw_X8_106 rfl (fun r16 h => ?_)
        obtain ⟨a17, ea17, g⟩ := e_nn_some h
        clear h
        subst ea17
        have h := g
        clear g
        refine r_callV (pc := 53) (fun v => some (sj_i v)) (As := []) (rest := []) h dX8_worst_53 mw_X8_199 vw_X5_count (fun _ _ hc => c_X5_count hc) rfl ⟨(Nat.le_of_ble_eq_true rfl), (Nat.le_of_ble_eq_true rfl)⟩ (Nat.le_of_ble_eq_true rfl) rfl (fun v19 s18 h => ?_)
        exact r_iret (pc := 56) h rfl dX8_worst_56
      · refine r_iconst (pc := 30) dX8_worst_30 ?_
        exact r_iret (pc := 31) h rfl dX8_worst_31
    · refine r_iconst (pc := 11) dX8_worst_11 ?_
      exact r_iret (pc := 12) h rfl dX8_worst_12
set_option maxHeartbeats 4000000 in
theorem c_X8_worst {X : sj_X} {N : Nat} {a0 : Nat} {x1 : Int} {x2 : Int} {s : sj_Mem} {q : Int × sj_Mem} (h : f_X8_worst N a0 x1 x2 s = some q) : sj_C X m_X8_worst [sj_r (some a0), sj_i x1, sj_i x2] s (some (sj_i q.1), q.2) :=
  sj_C_of (by decide +kernel) (Nat.le_of_ble_eq_true rfl) (lo := [some (sj_r (some a0)), some (sj_i x1), some (sj_i x2), none]) rfl (sj_weak (l2 := [some (sj_r (some a0)), some (sj_i x1), some (sj_i x2), none]) (⟨rfl, ⟨rfl, ⟨rfl, trivial⟩⟩⟩) (t_X8_worst_0 a0 x1 x2 s h))
theorem dX8_tables_0 : decode cX8_tables 0 = .ok (.iload_n 1, 1) := by decide +kernel
theorem dX8_tables_1 : decode cX8_tables 1 = .ok (.iconst 1, 1) := by decide +kernel
theorem dX8_tables_2 : decode cX8_tables 2 = .ok (.if_icmp .lt 30, 3) := by decide +kernel
theorem dX8_tables_5 : decode cX8_tables 5 = .ok (.iload_n 1, 1) := by decide +kernel
theorem dX8_tables_6 : decode cX8_tables 6 = .ok (.bipush 12, 2) := by decide +kernel
theorem dX8_tables_8 : decode cX8_tables 8 = .ok (.if_icmp .gt 24, 3) := by decide +kernel
theorem dX8_tables_11 : decode cX8_tables 11 = .ok (.iload_n 3, 1) := by decide +kernel
theorem dX8_tables_12 : decode cX8_tables 12 = .ok (.ifCond .lt 20, 3) := by decide +kernel
theorem dX8_tables_15 : decode cX8_tables 15 = .ok (.iload_n 3, 1) := by decide +kernel
theorem dX8_tables_16 : decode cX8_tables 16 = .ok (.bipush 50, 2) := by decide +kernel
theorem dX8_tables_18 : decode cX8_tables 18 = .ok (.if_icmp .gt 14, 3) := by decide +kernel
theorem dX8_tables_21 : decode cX8_tables 21 = .ok (.iload_n 3, 1) := by decide +kernel
theorem dX8_tables_22 : decode cX8_tables 22 = .ok (.iconst 2, 1) := by decide +kernel
theorem dX8_tables_23 : decode cX8_tables 23 = .ok (.if_icmp .le 11, 3) := by decide +kernel
theorem dX8_tables_26 : decode cX8_tables 26 = .ok (.iload_n 3, 1) := by decide +kernel
theorem dX8_tables_27 : decode cX8_tables 27 = .ok (.bipush 10, 2) := by decide +kernel
theorem dX8_tables_29 : decode cX8_tables 29 = .ok (.if_icmp .ge 5, 3) := by decide +kernel
theorem dX8_tables_32 : decode cX8_tables 32 = .ok (.iconst (-1), 1) := by decide +kernel
theorem dX8_tables_33 : decode cX8_tables 33 = .ok (.ireturn, 1) := by decide +kernel
theorem dX8_tables_34 : decode cX8_tables 34 = .ok (.aload_n 0, 1) := by decide +kernel
theorem dX8_tables_35 : decode cX8_tables 35 = .ok (.iload_n 1, 1) := by decide +kernel
theorem dX8_tables_36 : decode cX8_tables 36 = .ok (.iload_n 2, 1) := by decide +kernel
theorem dX8_tables_37 : decode cX8_tables 37 = .ok (.invokevirtual 183, 3) := by decide +kernel
theorem dX8_tables_40 : decode cX8_tables 40 = .ok (.astore 4, 2) := by decide +kernel
theorem dX8_tables_42 : decode cX8_tables 42 = .ok (.iload_n 3, 1) := by decide +kernel
theorem dX8_tables_43 : decode cX8_tables 43 = .ok (.ifCond .ne 9, 3) := by decide +kernel
theorem dX8_tables_46 : decode cX8_tables 46 = .ok (.aload 4, 2) := by decide +kernel
theorem dX8_tables_48 : decode cX8_tables 48 = .ok (.getfield 406, 3) := by decide +kernel
theorem dX8_tables_51 : decode cX8_tables 51 = .ok (.ireturn, 1) := by decide +kernel
theorem dX8_tables_52 : decode cX8_tables 52 = .ok (.iload_n 3, 1) := by decide +kernel
theorem dX8_tables_53 : decode cX8_tables 53 = .ok (.iconst 1, 1) := by decide +kernel
theorem dX8_tables_54 : decode cX8_tables 54 = .ok (.if_icmp .ne 12, 3) := by decide +kernel
theorem dX8_tables_57 : decode cX8_tables 57 = .ok (.aload 4, 2) := by decide +kernel
theorem dX8_tables_59 : decode cX8_tables 59 = .ok (.getfield 187, 3) := by decide +kernel
theorem dX8_tables_62 : decode cX8_tables 62 = .ok (.getfield 241, 3) := by decide +kernel
theorem dX8_tables_65 : decode cX8_tables 65 = .ok (.ireturn, 1) := by decide +kernel
theorem dX8_tables_66 : decode cX8_tables 66 = .ok (.iload_n 3, 1) := by decide +kernel
theorem dX8_tables_67 : decode cX8_tables 67 = .ok (.iconst 2, 1) := by decide +kernel
theorem dX8_tables_68 : decode cX8_tables 68 = .ok (.if_icmp .ne 14, 3) := by decide +kernel
theorem dX8_tables_71 : decode cX8_tables 71 = .ok (.aload 4, 2) := by decide +kernel
theorem dX8_tables_73 : decode cX8_tables 73 = .ok (.getfield 187, 3) := by decide +kernel
theorem dX8_tables_76 : decode cX8_tables 76 = .ok (.getfield 244, 3) := by decide +kernel
theorem dX8_tables_79 : decode cX8_tables 79 = .ok (.goto 15, 3) := by decide +kernel
theorem dX8_tables_82 : decode cX8_tables 82 = .ok (.aload 4, 2) := by decide +kernel
theorem dX8_tables_84 : decode cX8_tables 84 = .ok (.getfield 187, 3) := by decide +kernel
theorem dX8_tables_87 : decode cX8_tables 87 = .ok (.iload_n 3, 1) := by decide +kernel
theorem dX8_tables_88 : decode cX8_tables 88 = .ok (.bipush 10, 2) := by decide +kernel
theorem dX8_tables_90 : decode cX8_tables 90 = .ok (.isub, 1) := by decide +kernel
theorem dX8_tables_91 : decode cX8_tables 91 = .ok (.invokevirtual 225, 3) := by decide +kernel
theorem dX8_tables_94 : decode cX8_tables 94 = .ok (.ireturn, 1) := by decide +kernel
set_option maxHeartbeats 4000000 in
theorem t_X8_tables_34 {X : sj_X} {s0 : sj_Mem} {N : Nat} {q : Int × sj_Mem} :
    ∀ (a0 : Nat) (x1 : Int) (x2 : Int) (x3 : Int) (s : sj_Mem), f_X8_tables_34 N a0 x1 x2 x3 s = some q → sj_T X m_X8_tables s0 (some (sj_i q.1), q.2) 34 [some (sj_r (some a0)), some (sj_i x1), some (sj_i x2), some (sj_i x3), none] [] s := by
  intro a0 x1 x2 x3 s h
  unfold f_X8_tables_34 at h
  refine r_aload_n (pc := 34) dX8_tables_34 rfl rfl ?_
  refine r_iload_n (pc := 35) dX8_tables_35 rfl rfl ?_
  refine r_iload_n (pc := 36) dX8_tables_36 rfl rfl ?_
  refine r_callV (pc := 37) (fun v => some (sj_r v)) (As := [sj_i x1, sj_i x2]) (rest := []) h dX8_tables_37 mw_X8_183 vw_X8_tableOf (fun _ _ hc => c_X8_tableOf hc) rfl ⟨(Nat.le_of_ble_eq_true rfl), (Nat.le_of_ble_eq_true rfl)⟩ (Nat.le_of_ble_eq_true rfl) rfl (fun r2 s1 h => ?_)
  refine r_astore (ln := [some (sj_r (some a0)), some (sj_i x1), some (sj_i x2), some (sj_i x3), some (sj_r r2)]) (pc := 40) dX8_tables_40 (Nat.le_of_ble_eq_true rfl) rfl ?_
  refine r_iload_n (pc := 42) dX8_tables_42 rfl rfl ?_
  refine r_if_ne (pc := 43) (tgt := 52) h dX8_tables_43 (by decide) (fun h => ?_) (fun h => ?_)
  · refine r_aload (pc := 46) dX8_tables_46 rfl ?_
    obtain ⟨a16, ea16, g⟩ := e_nn_some h
    clear h
    subst ea16
    have h := g
    clear g
    refine r_gI (pc := 48) h dX8_tables_48 fw_X8_406 rfl (fun v17 h => ?_)
    exact r_iret (pc := 51) h rfl dX8_tables_51
  · refine r_iload_n (pc := 52) dX8_tables_52 rfl rfl ?_
    refine r_iconst (pc := 53) dX8_tables_53 ?_
    refine r_icmp_ne (pc := 54) (tgt := 66) h dX8_tables_54 (by decide) (fun h => ?_) (fun h => ?_)
    · refine r_aload (pc := 57) dX8_tables_57 rfl ?_
      obtain ⟨a12, ea12, g⟩ := e_nn_some h
      clear h
      subst ea12
      have h := g
      clear g
      refine r_gR (pc := 59) h dX8_tables_59 fw_X8_187 rfl (fun r13 h => ?_)
      obtain ⟨a14, ea14, g⟩ := e_nn_some h
      clear h
      subst ea14
      have h := g
      clear g
      refine r_gI (pc := 62) h dX8_tables_62 fw_X8_241 rfl (fun v15 h => ?_)
      exact r_iret (pc := 65) h rfl dX8_tables_65
    · refine r_iload_n (pc := 66) dX8_tables_66 rfl rfl ?_
      refine r_iconst (pc := 67) dX8_tables_67 ?_
      refine r_icmp_ne (pc := 68) (tgt := 82) h dX8_tables_68 (by decide) (fun h => ?_) (fun h => ?_)
      · refine r_aload (pc := 71) dX8_tables_71 rfl ?_
        obtain ⟨a8, ea8, g⟩ := e_nn_some h
        clear h
        subst ea8
        have h := g
        clear g
        refine r_gR (pc := 73) h dX8_tables_73 fw_X8_187 rfl (fun r9 h => ?_)
        obtain ⟨a10, ea10, g⟩ := e_nn_some h
        clear h
        subst ea10
        have h := g
        clear g
        refine r_gI (pc := 76) h dX8_tables_76 fw_X8_244 rfl (fun v11 h => ?_)
        refine r_goto (pc := 79) (tgt := 94) dX8_tables_79 (by decide) ?_
        exact r_iret (pc := 94) h rfl dX8_tables_94
      · refine r_aload (pc := 82) dX8_tables_82 rfl ?_
        obtain ⟨a3, ea3, g⟩ := e_nn_some h
        clear h
        subst ea3
        have h := g
        clear g
        refine r_gR (pc := 84) h dX8_tables_84 fw_X8_187 rfl (fun r4 h => ?_)
        refine r_iload_n (pc := 87) dX8_tables_87 rfl rfl ?_
        refine r_bipush (pc := 88) dX8_tables_88 ⟨by decide, by decide⟩ ?_
        refine r_isub (pc := 90) dX8_tables_90 ?_
        obtain ⟨a5, ea5, g⟩ := e_nn_some h
        clear h
        subst ea5
        have h := g
        clear g
        refine r_callV (pc := 91) (fun v => some (sj_i v)) (As := [sj_i (x3 - 10)]) (rest := []) h dX8_tables_91 mw_X8_225 vw_X5_baseAt (fun _ _ hc => c_X5_baseAt hc) rfl ⟨(Nat.le_of_ble_eq_true rfl), (Nat.le_of_ble_eq_true rfl)⟩ (Nat.le_of_ble_eq_true rfl) rfl (fun v7 s6 h => ?_)
        exact r_iret (pc := 94) h rfl dX8_tables_94
set_option maxHeartbeats 4000000 in
theorem t_X8_tables_0 {X : sj_X} {s0 : sj_Mem} {N : Nat} {q : Int × sj_Mem} :
    ∀ (a0 : Nat) (x1 : Int) (x2 : Int) (x3 : Int) (s : sj_Mem), f_X8_tables N a0 x1 x2 x3 s = some q → sj_T X m_X8_tables s0 (some (sj_i q.1), q.2) 0 [some (sj_r (some a0)), some (sj_i x1), some (sj_i x2), some (sj_i x3), none] [] s := by
  intro a0 x1 x2 x3 s h
  unfold f_X8_tables at h
  refine r_iload_n (pc := 0) dX8_tables_0 rfl rfl ?_
  refine r_iconst (pc := 1) dX8_tables_1 ?_
  refine r_icmp_lt (pc := 2) (tgt := 32) h dX8_tables_2 (by decide) (fun h => ?_) (fun h => ?_)
  · refine r_iconst (pc := 32) dX8_tables_32 ?_
    exact r_iret (pc := 33) h rfl dX8_tables_33
  · refine r_iload_n (pc := 5) dX8_tables_5 rfl rfl ?_
    refine r_bipush (pc := 6) dX8_tables_6 ⟨by decide, by decide⟩ ?_
    refine r_icmp_gt (pc := 8) (tgt := 32) h dX8_tables_8 (by decide) (fun h => ?_) (fun h => ?_)
    · refine r_iconst (pc := 32) dX8_tables_32 ?_
      exact r_iret (pc := 33) h rfl dX8_tables_33
    · refine r_iload_n (pc := 11) dX8_tables_11 rfl rfl ?_
      refine r_if_lt (pc := 12) (tgt := 32) h dX8_tables_12 (by decide) (fun h => ?_) (fun h => ?_)
      · refine r_iconst (pc := 32) dX8_tables_32 ?_
        exact r_iret (pc := 33) h rfl dX8_tables_33
      · refine r_iload_n (pc := 15) dX8_tables_15 rfl rfl ?_
        refine r_bipush (pc := 16) dX8_tables_16 ⟨by decide, by decide⟩ ?_
        refine r_icmp_gt (pc := 18) (tgt := 32) h dX8_tables_18 (by decide) (fun h => ?_) (fun h => ?_)
        · refine r_iconst (pc := 32) dX8_tables_32 ?_
          exact r_iret (pc := 33) h rfl dX8_tables_33
        · refine r_iload_n (pc := 21) dX8_tables_21 rfl rfl ?_
          refine r_iconst (pc := 22) dX8_tables_22 ?_
          refine r_icmp_le (pc := 23) (tgt := 34) h dX8_tables_23 (by decide) (fun h => ?_) (fun h => ?_)
          · exact sj_weak (l2 := [some (sj_r (some a0)), some (sj_i x1), some (sj_i x2), some (sj_i x3), none]) (⟨rfl, ⟨rfl, ⟨rfl, ⟨rfl, trivial⟩⟩⟩⟩) (t_X8_tables_34 a0 x1 x2 x3 s h)
          · refine r_iload_n (pc := 26) dX8_tables_26 rfl rfl ?_
            refine r_bipush (pc := 27) dX8_tables_27 ⟨by decide, by decide⟩ ?_
            refine r_icmp_ge (pc := 29) (tgt := 34) h dX8_tables_29 (by decide) (fun h => ?_) (fun h => ?_)
            · exact sj_weak (l2 := [some (sj_r (some a0)), some (sj_i x1), some (sj_i x2), some (sj_i x3), none]) (⟨rfl, ⟨rfl, ⟨rfl, ⟨rfl, trivial⟩⟩⟩⟩) (t_X8_tables_34 a0 x1 x2 x3 s h)
            · refine r_iconst (pc := 32) dX8_tables_32 ?_
              exact r_iret (pc := 33) h rfl dX8_tables_33
set_option maxHeartbeats 4000000 in
theorem c_X8_tables {X : sj_X} {N : Nat} {a0 : Nat} {x1 : Int} {x2 : Int} {x3 : Int} {s : sj_Mem} {q : Int × sj_Mem} (h : f_X8_tables N a0 x1 x2 x3 s = some q) : sj_C X m_X8_tables [sj_r (some a0), sj_i x1, sj_i x2, sj_i x3] s (some (sj_i q.1), q.2) :=
  sj_C_of (by decide +kernel) (Nat.le_of_ble_eq_true rfl) (lo := [some (sj_r (some a0)), some (sj_i x1), some (sj_i x2), some (sj_i x3), none]) rfl (sj_weak (l2 := [some (sj_r (some a0)), some (sj_i x1), some (sj_i x2), some (sj_i x3), none]) (⟨rfl, ⟨rfl, ⟨rfl, ⟨rfl, trivial⟩⟩⟩⟩) (t_X8_tables_0 a0 x1 x2 x3 s h))
set_option maxHeartbeats 4000000 in
theorem t_X9_begins_62_b {X : sj_X} {s0 : sj_Mem} {N : Nat} {q : Unit × sj_Mem} {k62 : Nat → Int → sj_Mem → Option (Unit × sj_Mem)} (hk62 : ∀ (a0 : Nat) (x3 : Int) (s : sj_Mem), k62 a0 x3 s = some q → sj_T X m_X9_begins s0 (none, q.2) 62 [some (sj_r (some a0)), none, none, some (sj_i x3)] [] s) :
    ∀ (a0 : Nat) (x3 : Int) (s : sj_Mem), f_X9_begins_62_b N k62 a0 x3 s = some q → sj_T X m_X9_begins s0 (none, q.2) 62 [some (sj_r (some a0)), none, none, some (sj_i x3)] [] s := by
  intro a0 x3 s h
  unfold f_X9_begins_62_b at h
  refine r_iload_n (pc := 62) dX9_begins_62 rfl rfl ?_
  refine r_iconst (pc := 63) dX9_begins_63 ?_
  refine r_icmp_ge (pc := 64) (tgt := 120) h dX9_begins_64 (by decide) (fun h => ?_) (fun h => ?_)
  · refine r_aload_n (pc := 120) dX9_begins_120 rfl rfl ?_
    refine r_gR (pc := 121) h dX9_begins_121 fw_X9_9 rfl (fun r1 h => ?_)
    refine r_sipush (pc := 124) dX9_begins_124 ⟨by decide, by decide⟩ ?_
    refine r_iconst (pc := 127) dX9_begins_127 ?_
    obtain ⟨a2, ea2, g⟩ := e_nn_some h
    clear h
    subst ea2
    have h := g
    clear g
    refine r_iastore (pc := 128) h dX9_begins_128 (fun s3 h => ?_)
    exact r_vret (pc := 129) h rfl dX9_begins_129
  · refine r_aload_n (pc := 67) dX9_begins_67 rfl rfl ?_
    refine r_gR (pc := 68) h dX9_begins_68 fw_X9_9 rfl (fun r4 h => ?_)
    refine r_sipush (pc := 71) dX9_begins_71 ⟨by decide, by decide⟩ ?_
    refine r_iconst (pc := 74) dX9_begins_74 ?_
    refine r_iload_n (pc := 75) dX9_begins_75 rfl rfl ?_
    refine r_imul (pc := 76) dX9_begins_76 ?_
    refine r_iadd (pc := 77) dX9_begins_77 ?_
    refine r_bipush (pc := 78) dX9_begins_78 ⟨by decide, by decide⟩ ?_
    obtain ⟨a5, ea5, g⟩ := e_nn_some h
    clear h
    subst ea5
    have h := g
    clear g
    refine r_iastore (pc := 80) h dX9_begins_80 (fun s6 h => ?_)
    refine r_aload_n (pc := 81) dX9_begins_81 rfl rfl ?_
    refine r_gR (pc := 82) h dX9_begins_82 fw_X9_9 rfl (fun r7 h => ?_)
    refine r_sipush (pc := 85) dX9_begins_85 ⟨by decide, by decide⟩ ?_
    refine r_iconst (pc := 88) dX9_begins_88 ?_
    refine r_iload_n (pc := 89) dX9_begins_89 rfl rfl ?_
    refine r_imul (pc := 90) dX9_begins_90 ?_
    refine r_iadd (pc := 91) dX9_begins_91 ?_
    refine r_iconst (pc := 92) dX9_begins_92 ?_
    refine r_iadd (pc := 93) dX9_begins_93 ?_
    refine r_bipush (pc := 94) dX9_begins_94 ⟨by decide, by decide⟩ ?_
    obtain ⟨a8, ea8, g⟩ := e_nn_some h
    clear h
    subst ea8
    have h := g
    clear g
    refine r_iastore (pc := 96) h dX9_begins_96 (fun s9 h => ?_)
    refine r_aload_n (pc := 97) dX9_begins_97 rfl rfl ?_
    refine r_gR (pc := 98) h dX9_begins_98 fw_X9_9 rfl (fun r10 h => ?_)
    refine r_sipush (pc := 101) dX9_begins_101 ⟨by decide, by decide⟩ ?_
    refine r_iconst (pc := 104) dX9_begins_104 ?_
    refine r_iload_n (pc := 105) dX9_begins_105 rfl rfl ?_
    refine r_imul (pc := 106) dX9_begins_106 ?_
    refine r_iadd (pc := 107) dX9_begins_107 ?_
    refine r_iconst (pc := 108) dX9_begins_108 ?_
    refine r_iadd (pc := 109) dX9_begins_109 ?_
    refine r_sipush (pc := 110) dX9_begins_110 ⟨by decide, by decide⟩ ?_
    obtain ⟨a11, ea11, g⟩ := e_nn_some h
    clear h
    subst ea11
    have h := g
    clear g
    refine r_iastore (pc := 113) h dX9_begins_113 (fun s12 h => ?_)
    refine r_iinc (ln := fun w => [some (sj_r (some a0)), none, none, some (sj_i w)]) (pc := 114) h dX9_begins_114 rfl (Nat.le_of_ble_eq_true rfl) (fun _ => rfl) (fun v13 h => ?_)
    refine r_goto (pc := 117) (tgt := 62) dX9_begins_117 (by decide) ?_
    exact sj_weak (l2 := [some (sj_r (some a0)), none, none, some (sj_i v13)]) (⟨rfl, ⟨rfl, trivial⟩⟩) (hk62 a0 v13 s12 h)
set_option maxHeartbeats 4000000 in
theorem t_X9_begins_62 {X : sj_X} {s0 : sj_Mem} {N : Nat} {q : Unit × sj_Mem} :
    ∀ (n : Nat) (a0 : Nat) (x3 : Int) (s : sj_Mem), f_X9_begins_62 N n a0 x3 s = some q → sj_T X m_X9_begins s0 (none, q.2) 62 [some (sj_r (some a0)), none, none, some (sj_i x3)] [] s := by
  intro n
  induction n with
  | zero => intro a0 x3 s h; exact nomatch h
  | succ n ih => intro a0 x3 s h; exact t_X9_begins_62_b (N := N) ih a0 x3 s h
set_option maxHeartbeats 4000000 in
theorem t_X9_begins_38_b {X : sj_X} {s0 : sj_Mem} {N : Nat} {q : Unit × sj_Mem} {k38 : Nat → Int → sj_Mem → Option (Unit × sj_Mem)} (hk38 : ∀ (a0 : Nat) (x3 : Int) (s : sj_Mem), k38 a0 x3 s = some q → sj_T X m_X9_begins s0 (none, q.2) 38 [some (sj_r (some a0)), none, none, some (sj_i x3)] [] s) :
    ∀ (a0 : Nat) (x3 : Int) (s : sj_Mem), f_X9_begins_38_b N k38 a0 x3 s = some q → sj_T X m_X9_begins s0 (none, q.2) 38 [some (sj_r (some a0)), none, none, some (sj_i x3)] [] s := by
  intro a0 x3 s h
  unfold f_X9_begins_38_b at h
  refine r_iload_n (pc := 38) dX9_begins_38 rfl rfl ?_
  refine r_bipush (pc := 39) dX9_begins_39 ⟨by decide, by decide⟩ ?_
  refine r_icmp_ge (pc := 41) (tgt := 60) h dX9_begins_41 (by decide) (fun h => ?_) (fun h => ?_)
  · refine r_iconst (pc := 60) dX9_begins_60 ?_
    refine r_istore_n (ln := [some (sj_r (some a0)), none, none, some (sj_i 0)]) (pc := 61) dX9_begins_61 rfl (Nat.le_of_ble_eq_true rfl) rfl ?_
    exact sj_weak (l2 := [some (sj_r (some a0)), none, none, some (sj_i 0)]) (⟨rfl, ⟨rfl, trivial⟩⟩) (t_X9_begins_62 N a0 0 s h)
  · refine r_aload_n (pc := 44) dX9_begins_44 rfl rfl ?_
    refine r_gR (pc := 45) h dX9_begins_45 fw_X9_9 rfl (fun r1 h => ?_)
    refine r_iconst (pc := 48) dX9_begins_48 ?_
    refine r_iload_n (pc := 49) dX9_begins_49 rfl rfl ?_
    refine r_iadd (pc := 50) dX9_begins_50 ?_
    refine r_bipush (pc := 51) dX9_begins_51 ⟨by decide, by decide⟩ ?_
    obtain ⟨a2, ea2, g⟩ := e_nn_some h
    clear h
    subst ea2
    have h := g
    clear g
    refine r_iastore (pc := 53) h dX9_begins_53 (fun s3 h => ?_)
    refine r_iinc (ln := fun w => [some (sj_r (some a0)), none, none, some (sj_i w)]) (pc := 54) h dX9_begins_54 rfl (Nat.le_of_ble_eq_true rfl) (fun _ => rfl) (fun v4 h => ?_)
    refine r_goto (pc := 57) (tgt := 38) dX9_begins_57 (by decide) ?_
    exact sj_weak (l2 := [some (sj_r (some a0)), none, none, some (sj_i v4)]) (⟨rfl, ⟨rfl, trivial⟩⟩) (hk38 a0 v4 s3 h)
set_option maxHeartbeats 4000000 in
theorem t_X9_begins_38 {X : sj_X} {s0 : sj_Mem} {N : Nat} {q : Unit × sj_Mem} :
    ∀ (n : Nat) (a0 : Nat) (x3 : Int) (s : sj_Mem), f_X9_begins_38 N n a0 x3 s = some q → sj_T X m_X9_begins s0 (none, q.2) 38 [some (sj_r (some a0)), none, none, some (sj_i x3)] [] s := by
  intro n
  induction n with
  | zero => intro a0 x3 s h; exact nomatch h
  | succ n ih => intro a0 x3 s h; exact t_X9_begins_38_b (N := N) ih a0 x3 s h
set_option maxHeartbeats 4000000 in
theorem t_X9_begins_2_b {X : sj_X} {s0 : sj_Mem} {N : Nat} {q : Unit × sj_Mem} {k2 : Nat → Int → Int → Int → sj_Mem → Option (Unit × sj_Mem)} (hk2 : ∀ (a0 : Nat) (x1 : Int) (x2 : Int) (x3 : Int) (s : sj_Mem), k2 a0 x1 x2 x3 s = some q → sj_T X m_X9_begins s0 (none, q.2) 2 [some (sj_r (some a0)), some (sj_i x1), some (sj_i x2), some (sj_i x3)] [] s) :
    ∀ (a0 : Nat) (x1 : Int) (x2 : Int) (x3 : Int) (s : sj_Mem), f_X9_begins_2_b N k2 a0 x1 x2 x3 s = some q → sj_T X m_X9_begins s0 (none, q.2) 2 [some (sj_r (some a0)), some (sj_i x1), some (sj_i x2), some (sj_i x3)] [] s := by
  intro a0 x1 x2 x3 s h
  unfold f_X9_begins_2_b at h
  refine r_iload_n (pc := 2) dX9_begins_2 rfl rfl ?_
  refine r_sipush (pc := 3) dX9_begins_3 ⟨by decide, by decide⟩ ?_
  refine r_icmp_ge (pc := 6) (tgt := 22) h dX9_begins_6 (by decide) (fun h => ?_) (fun h => ?_)
  · refine r_aload_n (pc := 22) dX9_begins_22 rfl rfl ?_
    refine r_gR (pc := 23) h dX9_begins_23 fw_X9_9 rfl (fun r1 h => ?_)
    refine r_iconst (pc := 26) dX9_begins_26 ?_
    refine r_iload_n (pc := 27) dX9_begins_27 rfl rfl ?_
    obtain ⟨a2, ea2, g⟩ := e_nn_some h
    clear h
    subst ea2
    have h := g
    clear g
    refine r_iastore (pc := 28) h dX9_begins_28 (fun s3 h => ?_)
    refine r_aload_n (pc := 29) dX9_begins_29 rfl rfl ?_
    refine r_gR (pc := 30) h dX9_begins_30 fw_X9_9 rfl (fun r4 h => ?_)
    refine r_iconst (pc := 33) dX9_begins_33 ?_
    refine r_iload_n (pc := 34) dX9_begins_34 rfl rfl ?_
    obtain ⟨a5, ea5, g⟩ := e_nn_some h
    clear h
    subst ea5
    have h := g
    clear g
    refine r_iastore (pc := 35) h dX9_begins_35 (fun s6 h => ?_)
    refine r_iconst (pc := 36) dX9_begins_36 ?_
    refine r_istore_n (ln := [some (sj_r (some a0)), some (sj_i x1), some (sj_i x2), some (sj_i 0)]) (pc := 37) dX9_begins_37 rfl (Nat.le_of_ble_eq_true rfl) rfl ?_
    exact sj_weak (l2 := [some (sj_r (some a0)), none, none, some (sj_i 0)]) (⟨rfl, ⟨rfl, trivial⟩⟩) (t_X9_begins_38 N a0 0 s6 h)
  · refine r_aload_n (pc := 9) dX9_begins_9 rfl rfl ?_
    refine r_gR (pc := 10) h dX9_begins_10 fw_X9_9 rfl (fun r7 h => ?_)
    refine r_iload_n (pc := 13) dX9_begins_13 rfl rfl ?_
    refine r_iconst (pc := 14) dX9_begins_14 ?_
    obtain ⟨a8, ea8, g⟩ := e_nn_some h
    clear h
    subst ea8
    have h := g
    clear g
    refine r_iastore (pc := 15) h dX9_begins_15 (fun s9 h => ?_)
    refine r_iinc (ln := fun w => [some (sj_r (some a0)), some (sj_i x1), some (sj_i x2), some (sj_i w)]) (pc := 16) h dX9_begins_16 rfl (Nat.le_of_ble_eq_true rfl) (fun _ => rfl) (fun v10 h => ?_)
    refine r_goto (pc := 19) (tgt := 2) dX9_begins_19 (by decide) ?_
    exact sj_weak (l2 := [some (sj_r (some a0)), some (sj_i x1), some (sj_i x2), some (sj_i v10)]) (⟨rfl, ⟨rfl, ⟨rfl, ⟨rfl, trivial⟩⟩⟩⟩) (hk2 a0 x1 x2 v10 s9 h)
set_option maxHeartbeats 4000000 in
theorem t_X9_begins_2 {X : sj_X} {s0 : sj_Mem} {N : Nat} {q : Unit × sj_Mem} :
    ∀ (n : Nat) (a0 : Nat) (x1 : Int) (x2 : Int) (x3 : Int) (s : sj_Mem), f_X9_begins_2 N n a0 x1 x2 x3 s = some q → sj_T X m_X9_begins s0 (none, q.2) 2 [some (sj_r (some a0)), some (sj_i x1), some (sj_i x2), some (sj_i x3)] [] s := by
  intro n
  induction n with
  | zero => intro a0 x1 x2 x3 s h; exact nomatch h
  | succ n ih => intro a0 x1 x2 x3 s h; exact t_X9_begins_2_b (N := N) ih a0 x1 x2 x3 s h
set_option maxHeartbeats 4000000 in
theorem t_X9_begins_0 {X : sj_X} {s0 : sj_Mem} {N : Nat} {q : Unit × sj_Mem} :
    ∀ (a0 : Nat) (x1 : Int) (x2 : Int) (s : sj_Mem), f_X9_begins N a0 x1 x2 s = some q → sj_T X m_X9_begins s0 (none, q.2) 0 [some (sj_r (some a0)), some (sj_i x1), some (sj_i x2), none] [] s := by
  intro a0 x1 x2 s h
  unfold f_X9_begins at h
  refine r_iconst (pc := 0) dX9_begins_0 ?_
  refine r_istore_n (ln := [some (sj_r (some a0)), some (sj_i x1), some (sj_i x2), some (sj_i 0)]) (pc := 1) dX9_begins_1 rfl (Nat.le_of_ble_eq_true rfl) rfl ?_
  exact sj_weak (l2 := [some (sj_r (some a0)), some (sj_i x1), some (sj_i x2), some (sj_i 0)]) (⟨rfl, ⟨rfl, ⟨rfl, ⟨rfl, trivial⟩⟩⟩⟩) (t_X9_begins_2 N a0 x1 x2 0 s h)
set_option maxHeartbeats 4000000 in
theorem c_X9_begins {X : sj_X} {N : Nat} {a0 : Nat} {x1 : Int} {x2 : Int} {s : sj_Mem} {q : Unit × sj_Mem} (h : f_X9_begins N a0 x1 x2 s = some q) : sj_C X m_X9_begins [sj_r (some a0), sj_i x1, sj_i x2] s (none, q.2) :=
  sj_C_of (by decide +kernel) (Nat.le_of_ble_eq_true rfl) (lo := [some (sj_r (some a0)), some (sj_i x1), some (sj_i x2), none]) rfl (sj_weak (l2 := [some (sj_r (some a0)), some (sj_i x1), some (sj_i x2), none]) (⟨rfl, ⟨rfl, ⟨rfl, trivial⟩⟩⟩) (t_X9_begins_0 a0 x1 x2 s h))
theorem dX9_init_0 : decode cX9_init 0 = .ok (.aload_n 0, 1) := by decide +kernel
theorem dX9_init_1 : decode cX9_init 1 = .ok (.invokespecial 3, 3) := by decide +kernel
theorem dX9_init_4 : decode cX9_init 4 = .ok (.aload_n 0, 1) := by decide +kernel
theorem dX9_init_5 : decode cX9_init 5 = .ok (.sipush 390, 3) := by decide +kernel
theorem dX9_init_8 : decode cX9_init 8 = .ok (.newarray .int, 2) := by decide +kernel
theorem dX9_init_10 : decode cX9_init 10 = .ok (.putfield 9, 3) := by decide +kernel
theorem dX9_init_13 : decode cX9_init 13 = .ok (.aload_n 0, 1) := by decide +kernel
theorem dX9_init_14 : decode cX9_init 14 = .ok (.sipush 390, 3) := by decide +kernel
theorem dX9_init_17 : decode cX9_init 17 = .ok (.newarray .int, 2) := by decide +kernel
theorem dX9_init_19 : decode cX9_init 19 = .ok (.putfield 13, 3) := by decide +kernel
theorem dX9_init_22 : decode cX9_init 22 = .ok (.aload_n 0, 1) := by decide +kernel
theorem dX9_init_23 : decode cX9_init 23 = .ok (.sipush 390, 3) := by decide +kernel
theorem dX9_init_26 : decode cX9_init 26 = .ok (.newarray .int, 2) := by decide +kernel
theorem dX9_init_28 : decode cX9_init 28 = .ok (.putfield 16, 3) := by decide +kernel
theorem dX9_init_31 : decode cX9_init 31 = .ok (.aload_n 0, 1) := by decide +kernel
theorem dX9_init_32 : decode cX9_init 32 = .ok (.sipush 2912, 3) := by decide +kernel
theorem dX9_init_35 : decode cX9_init 35 = .ok (.newarray .int, 2) := by decide +kernel
theorem dX9_init_37 : decode cX9_init 37 = .ok (.putfield 19, 3) := by decide +kernel
theorem dX9_init_40 : decode cX9_init 40 = .ok (.aload_n 0, 1) := by decide +kernel
theorem dX9_init_41 : decode cX9_init 41 = .ok (.iconst (-1), 1) := by decide +kernel
theorem dX9_init_42 : decode cX9_init 42 = .ok (.putfield 22, 3) := by decide +kernel
theorem dX9_init_45 : decode cX9_init 45 = .ok (.aload_n 0, 1) := by decide +kernel
theorem dX9_init_46 : decode cX9_init 46 = .ok (.bipush 41, 2) := by decide +kernel
theorem dX9_init_48 : decode cX9_init 48 = .ok (.newarray .int, 2) := by decide +kernel
theorem dX9_init_50 : decode cX9_init 50 = .ok (.putfield 26, 3) := by decide +kernel
theorem dX9_init_53 : decode cX9_init 53 = .ok (.aload_n 0, 1) := by decide +kernel
theorem dX9_init_54 : decode cX9_init 54 = .ok (.sipush 4141, 3) := by decide +kernel
theorem dX9_init_57 : decode cX9_init 57 = .ok (.newarray .long, 2) := by decide +kernel
theorem dX9_init_59 : decode cX9_init 59 = .ok (.putfield 29, 3) := by decide +kernel
theorem dX9_init_62 : decode cX9_init 62 = .ok (.aload_n 0, 1) := by decide +kernel
theorem dX9_init_63 : decode cX9_init 63 = .ok (.sipush 4141, 3) := by decide +kernel
theorem dX9_init_66 : decode cX9_init 66 = .ok (.newarray .int, 2) := by decide +kernel
theorem dX9_init_68 : decode cX9_init 68 = .ok (.putfield 33, 3) := by decide +kernel
theorem dX9_init_71 : decode cX9_init 71 = .ok (.aload_n 0, 1) := by decide +kernel
theorem dX9_init_72 : decode cX9_init 72 = .ok (.bipush 41, 2) := by decide +kernel
theorem dX9_init_74 : decode cX9_init 74 = .ok (.newarray .long, 2) := by decide +kernel
theorem dX9_init_76 : decode cX9_init 76 = .ok (.putfield 36, 3) := by decide +kernel
theorem dX9_init_79 : decode cX9_init 79 = .ok (.aload_n 0, 1) := by decide +kernel
theorem dX9_init_80 : decode cX9_init 80 = .ok (.bipush 40, 2) := by decide +kernel
theorem dX9_init_82 : decode cX9_init 82 = .ok (.newarray .int, 2) := by decide +kernel
theorem dX9_init_84 : decode cX9_init 84 = .ok (.putfield 39, 3) := by decide +kernel
theorem dX9_init_87 : decode cX9_init 87 = .ok (.aload_n 0, 1) := by decide +kernel
theorem dX9_init_88 : decode cX9_init 88 = .ok (.sipush 600, 3) := by decide +kernel
theorem dX9_init_91 : decode cX9_init 91 = .ok (.newarray .byte, 2) := by decide +kernel
theorem dX9_init_93 : decode cX9_init 93 = .ok (.putfield 42, 3) := by decide +kernel
theorem dX9_init_96 : decode cX9_init 96 = .ok (.aload_n 0, 1) := by decide +kernel
theorem dX9_init_97 : decode cX9_init 97 = .ok (.iconst (-1), 1) := by decide +kernel
theorem dX9_init_98 : decode cX9_init 98 = .ok (.putfield 46, 3) := by decide +kernel
theorem dX9_init_101 : decode cX9_init 101 = .ok (.aload_n 0, 1) := by decide +kernel
theorem dX9_init_102 : decode cX9_init 102 = .ok (.bipush 20, 2) := by decide +kernel
theorem dX9_init_104 : decode cX9_init 104 = .ok (.newarray .boolean, 2) := by decide +kernel
theorem dX9_init_106 : decode cX9_init 106 = .ok (.putfield 49, 3) := by decide +kernel
theorem dX9_init_109 : decode cX9_init 109 = .ok (.aload_n 0, 1) := by decide +kernel
theorem dX9_init_110 : decode cX9_init 110 = .ok (.bipush 20, 2) := by decide +kernel
theorem dX9_init_112 : decode cX9_init 112 = .ok (.iconst 4, 1) := by decide +kernel
theorem dX9_init_113 : decode cX9_init 113 = .ok (.invokevirtual 53, 3) := by decide +kernel
theorem dX9_init_116 : decode cX9_init 116 = .ok (.return_, 1) := by decide +kernel
set_option maxHeartbeats 4000000 in
theorem t_X9_init_0 {X : sj_X} {s0 : sj_Mem} {N : Nat} {q : Unit × sj_Mem} :
    ∀ (a0 : Nat) (s : sj_Mem), f_X9_init N a0 s = some q → sj_T X m_X9_init s0 (none, q.2) 0 [some (sj_r (some a0))] [] s := by
  intro a0 s h
  unfold f_X9_init at h
  refine r_aload_n (pc := 0) dX9_init_0 rfl rfl ?_
  refine r_oinit (pc := 1) dX9_init_1 ow_X9_3 (Nat.le_of_ble_eq_true rfl) (Nat.le_of_ble_eq_true rfl) ?_
  refine r_aload_n (pc := 4) dX9_init_4 rfl rfl ?_
  refine r_sipush (pc := 5) dX9_init_5 ⟨by decide, by decide⟩ ?_
  refine r_nA_I (pc := 8) h dX9_init_8 kw_62 (fun a1 s2 h => ?_)
  refine r_pF (pc := 10) h dX9_init_10 ff_X9_9 rfl rfl (Or.inr ⟨_, rfl⟩) (fun s3 h => ?_)
  refine r_aload_n (pc := 13) dX9_init_13 rfl rfl ?_
  refine r_sipush (pc := 14) dX9_init_14 ⟨by decide, by decide⟩ ?_
  refine r_nA_I (pc := 17) h dX9_init_17 kw_62 (fun a4 s5 h => ?_)
  refine r_pF (pc := 19) h dX9_init_19 ff_X9_13 rfl rfl (Or.inr ⟨_, rfl⟩) (fun s6 h => ?_)
  refine r_aload_n (pc := 22) dX9_init_22 rfl rfl ?_
  refine r_sipush (pc := 23) dX9_init_23 ⟨by decide, by decide⟩ ?_
  refine r_nA_I (pc := 26) h dX9_init_26 kw_62 (fun a7 s8 h => ?_)
  refine r_pF (pc := 28) h dX9_init_28 ff_X9_16 rfl rfl (Or.inr ⟨_, rfl⟩) (fun s9 h => ?_)
  refine r_aload_n (pc := 31) dX9_init_31 rfl rfl ?_
  refine r_sipush (pc := 32) dX9_init_32 ⟨by decide, by decide⟩ ?_
  refine r_nA_I (pc := 35) h dX9_init_35 kw_62 (fun a10 s11 h => ?_)
  refine r_pF (pc := 37) h dX9_init_37 ff_X9_19 rfl rfl (Or.inr ⟨_, rfl⟩) (fun s12 h => ?_)
  refine r_aload_n (pc := 40) dX9_init_40 rfl rfl ?_
  refine r_iconst (pc := 41) dX9_init_41 ?_
  refine r_pI (pc := 42) h dX9_init_42 fw_X9_22 rfl rfl (fun _ hq => by cases hq; rfl) (fun s13 h => ?_)
  refine r_aload_n (pc := 45) dX9_init_45 rfl rfl ?_
  refine r_bipush (pc := 46) dX9_init_46 ⟨by decide, by decide⟩ ?_
  refine r_nA_I (pc := 48) h dX9_init_48 kw_62 (fun a14 s15 h => ?_)
  refine r_pF (pc := 50) h dX9_init_50 ff_X9_26 rfl rfl (Or.inr ⟨_, rfl⟩) (fun s16 h => ?_)
  refine r_aload_n (pc := 53) dX9_init_53 rfl rfl ?_
  refine r_sipush (pc := 54) dX9_init_54 ⟨by decide, by decide⟩ ?_
  refine r_nA_J (pc := 57) h dX9_init_57 kw_276 (fun a17 s18 h => ?_)
  refine r_pF (pc := 59) h dX9_init_59 ff_X9_29 rfl rfl (Or.inr ⟨_, rfl⟩) (fun s19 h => ?_)
  refine r_aload_n (pc := 62) dX9_init_62 rfl rfl ?_
  refine r_sipush (pc := 63) dX9_init_63 ⟨by decide, by decide⟩ ?_
  refine r_nA_I (pc := 66) h dX9_init_66 kw_62 (fun a20 s21 h => ?_)
  refine r_pF (pc := 68) h dX9_init_68 ff_X9_33 rfl rfl (Or.inr ⟨_, rfl⟩) (fun s22 h => ?_)
  refine r_aload_n (pc := 71) dX9_init_71 rfl rfl ?_
  refine r_bipush (pc := 72) dX9_init_72 ⟨by decide, by decide⟩ ?_
  refine r_nA_J (pc := 74) h dX9_init_74 kw_276 (fun a23 s24 h => ?_)
  refine r_pF (pc := 76) h dX9_init_76 ff_X9_36 rfl rfl (Or.inr ⟨_, rfl⟩) (fun s25 h => ?_)
  refine r_aload_n (pc := 79) dX9_init_79 rfl rfl ?_
  refine r_bipush (pc := 80) dX9_init_80 ⟨by decide, by decide⟩ ?_
  refine r_nA_I (pc := 82) h dX9_init_82 kw_62 (fun a26 s27 h => ?_)
  refine r_pF (pc := 84) h dX9_init_84 ff_X9_39 rfl rfl (Or.inr ⟨_, rfl⟩) (fun s28 h => ?_)
  refine r_aload_n (pc := 87) dX9_init_87 rfl rfl ?_
  refine r_sipush (pc := 88) dX9_init_88 ⟨by decide, by decide⟩ ?_
  refine r_nA_B (pc := 91) h dX9_init_91 kw_590 (fun a29 s30 h => ?_)
  refine r_pF (pc := 93) h dX9_init_93 ff_X9_42 rfl rfl (Or.inr ⟨_, rfl⟩) (fun s31 h => ?_)
  refine r_aload_n (pc := 96) dX9_init_96 rfl rfl ?_
  refine r_iconst (pc := 97) dX9_init_97 ?_
  refine r_pI (pc := 98) h dX9_init_98 fw_X9_46 rfl rfl (fun _ hq => by cases hq; rfl) (fun s32 h => ?_)
  refine r_aload_n (pc := 101) dX9_init_101 rfl rfl ?_
  refine r_bipush (pc := 102) dX9_init_102 ⟨by decide, by decide⟩ ?_
  refine r_nA_Z (pc := 104) h dX9_init_104 kw_1213 (fun a33 s34 h => ?_)
  refine r_pF (pc := 106) h dX9_init_106 ff_X9_49 rfl rfl (Or.inr ⟨_, rfl⟩) (fun s35 h => ?_)
  refine r_aload_n (pc := 109) dX9_init_109 rfl rfl ?_
  refine r_bipush (pc := 110) dX9_init_110 ⟨by decide, by decide⟩ ?_
  refine r_iconst (pc := 112) dX9_init_112 ?_
  refine r_callV (pc := 113) (fun _ => none) (As := [sj_i 20, sj_i 4]) (rest := []) h dX9_init_113 mw_X9_53 vw_X9_begins (fun _ _ hc => c_X9_begins hc) rfl ⟨(Nat.le_of_ble_eq_true rfl), (Nat.le_of_ble_eq_true rfl)⟩ (Nat.le_of_ble_eq_true rfl) rfl (fun _u s36 h => ?_)
  exact r_vret (pc := 116) h rfl dX9_init_116
set_option maxHeartbeats 4000000 in
theorem c_X9_init {X : sj_X} {N : Nat} {a0 : Nat} {s : sj_Mem} {q : Unit × sj_Mem} (h : f_X9_init N a0 s = some q) : sj_C X m_X9_init [sj_r (some a0)] s (none, q.2) :=
  sj_C_of (by decide +kernel) (Nat.le_of_ble_eq_true rfl) (lo := [some (sj_r (some a0))]) rfl (sj_weak (l2 := [some (sj_r (some a0))]) (⟨rfl, trivial⟩) (t_X9_init_0 a0 s h))
