theorem dJ7_fill_53178_0 : decode cJ7_fill_53178 0 = .ok (.iconst 0, 1) := by decide +kernel
theorem dJ7_fill_53178_1 : decode cJ7_fill_53178 1 = .ok (.istore_n 2, 1) := by decide +kernel
theorem dJ7_fill_53178_2 : decode cJ7_fill_53178 2 = .ok (.aload_n 0, 1) := by decide +kernel
theorem dJ7_fill_53178_3 : decode cJ7_fill_53178 3 = .ok (.arraylength, 1) := by decide +kernel
theorem dJ7_fill_53178_4 : decode cJ7_fill_53178 4 = .ok (.istore_n 3, 1) := by decide +kernel
theorem dJ7_fill_53178_5 : decode cJ7_fill_53178 5 = .ok (.iload_n 2, 1) := by decide +kernel
theorem dJ7_fill_53178_6 : decode cJ7_fill_53178 6 = .ok (.iload_n 3, 1) := by decide +kernel
theorem dJ7_fill_53178_7 : decode cJ7_fill_53178 7 = .ok (.if_icmp .ge 13, 3) := by decide +kernel
theorem dJ7_fill_53178_10 : decode cJ7_fill_53178 10 = .ok (.aload_n 0, 1) := by decide +kernel
theorem dJ7_fill_53178_11 : decode cJ7_fill_53178 11 = .ok (.iload_n 2, 1) := by decide +kernel
theorem dJ7_fill_53178_12 : decode cJ7_fill_53178 12 = .ok (.iload_n 1, 1) := by decide +kernel
theorem dJ7_fill_53178_13 : decode cJ7_fill_53178 13 = .ok (.iastore, 1) := by decide +kernel
theorem dJ7_fill_53178_14 : decode cJ7_fill_53178 14 = .ok (.iinc 2 1, 3) := by decide +kernel
theorem dJ7_fill_53178_17 : decode cJ7_fill_53178 17 = .ok (.goto (-12), 3) := by decide +kernel
theorem dJ7_fill_53178_20 : decode cJ7_fill_53178 20 = .ok (.return_, 1) := by decide +kernel
set_option maxHeartbeats 4000000 in
theorem st_J7_fill_53178_5_b {X : sj_X} {g : sj_G} {s0 : sj_Mem} {N : Nat} {q : Unit × sj_VV} {k5 : Nat → Nat → Int → Int → Int → sj_VV → Option (Unit × sj_VV)} (hk5 : ∀ (x0 : Nat) (n0 : Nat) (x1 : Int) (x2 : Int) (x3 : Int) (V : sj_VV), OKA g 100 x0 n0 → k5 x0 n0 x1 x2 x3 V = some q → sj_T X m_J7_fill_53178 s0 (none, (g, q.2)) 5 [some (sj_r (some x0)), some (sj_i x1), some (sj_i x2), some (sj_i x3)] [] (g, V)) :
    ∀ (x0 : Nat) (n0 : Nat) (x1 : Int) (x2 : Int) (x3 : Int) (V : sj_VV), OKA g 100 x0 n0 → g_J7_fill_53178_5_b N k5 x0 n0 x1 x2 x3 V = some q → sj_T X m_J7_fill_53178 s0 (none, (g, q.2)) 5 [some (sj_r (some x0)), some (sj_i x1), some (sj_i x2), some (sj_i x3)] [] (g, V) := by
  intro x0 n0 x1 x2 x3 V hx0 h
  unfold g_J7_fill_53178_5_b at h
  refine r_iload_n (pc := 5) dJ7_fill_53178_5 rfl rfl ?_
  refine r_iload_n (pc := 6) dJ7_fill_53178_6 rfl rfl ?_
  refine r_icmp_ge (pc := 7) (tgt := 20) h dJ7_fill_53178_7 (by decide) (fun h => ?_) (fun h => ?_)
  · exact r_vrets (pc := 20) h rfl dJ7_fill_53178_20
  · refine r_aload_n (pc := 10) dJ7_fill_53178_10 rfl rfl ?_
    refine r_iload_n (pc := 11) dJ7_fill_53178_11 rfl rfl ?_
    refine r_iload_n (pc := 12) dJ7_fill_53178_12 rfl rfl ?_
    refine r_iastores (pc := 13) h dJ7_fill_53178_13 hx0 (fun V1 h => ?_)
    refine r_iinc (ln := fun w => [some (sj_r (some x0)), some (sj_i x1), some (sj_i w), some (sj_i x3)]) (pc := 14) h dJ7_fill_53178_14 rfl (Nat.le_of_ble_eq_true rfl) (fun _ => rfl) (fun v2 h => ?_)
    refine r_goto (pc := 17) (tgt := 5) dJ7_fill_53178_17 (by decide) ?_
    exact sj_weak (l2 := [some (sj_r (some x0)), some (sj_i x1), some (sj_i v2), some (sj_i x3)]) (⟨rfl, ⟨rfl, ⟨rfl, ⟨rfl, trivial⟩⟩⟩⟩) (hk5 x0 n0 x1 v2 x3 V1 hx0 h)
set_option maxHeartbeats 4000000 in
theorem st_J7_fill_53178_5 {X : sj_X} {g : sj_G} {s0 : sj_Mem} {N : Nat} {q : Unit × sj_VV} :
    ∀ (n : Nat) (x0 : Nat) (n0 : Nat) (x1 : Int) (x2 : Int) (x3 : Int) (V : sj_VV), OKA g 100 x0 n0 → g_J7_fill_53178_5 N n x0 n0 x1 x2 x3 V = some q → sj_T X m_J7_fill_53178 s0 (none, (g, q.2)) 5 [some (sj_r (some x0)), some (sj_i x1), some (sj_i x2), some (sj_i x3)] [] (g, V) := by
  intro n
  induction n with
  | zero => intro x0 n0 x1 x2 x3 V hx0 h; exact nomatch h
  | succ n ih => intro x0 n0 x1 x2 x3 V hx0 h; exact st_J7_fill_53178_5_b (N := N) ih x0 n0 x1 x2 x3 V hx0 h
set_option maxHeartbeats 4000000 in
theorem st_J7_fill_53178_0 {X : sj_X} {g : sj_G} {s0 : sj_Mem} {N : Nat} {q : Unit × sj_VV} :
    ∀ (x0 : Nat) (n0 : Nat) (x1 : Int) (V : sj_VV), OKA g 100 x0 n0 → g_J7_fill_53178 N x0 n0 x1 V = some q → sj_T X m_J7_fill_53178 s0 (none, (g, q.2)) 0 [some (sj_r (some x0)), some (sj_i x1), none, none] [] (g, V) := by
  intro x0 n0 x1 V hx0 h
  unfold g_J7_fill_53178 at h
  refine r_iconst (pc := 0) dJ7_fill_53178_0 ?_
  refine r_istore_n (ln := [some (sj_r (some x0)), some (sj_i x1), some (sj_i 0), none]) (pc := 1) dJ7_fill_53178_1 rfl (Nat.le_of_ble_eq_true rfl) rfl ?_
  refine r_aload_n (pc := 2) dJ7_fill_53178_2 rfl rfl ?_
  refine r_als (pc := 3) dJ7_fill_53178_3 hx0 ?_
  refine r_istore_nL (ln := fun w => [some (sj_r (some x0)), some (sj_i x1), some (sj_i 0), some (sj_i w)]) (pc := 4) h dJ7_fill_53178_4 rfl (Nat.le_of_ble_eq_true rfl) (fun _ => rfl) (fun v1 h => ?_)
  exact sj_weak (l2 := [some (sj_r (some x0)), some (sj_i x1), some (sj_i 0), some (sj_i v1)]) (⟨rfl, ⟨rfl, ⟨rfl, ⟨rfl, trivial⟩⟩⟩⟩) (st_J7_fill_53178_5 N x0 n0 x1 0 v1 V hx0 h)
set_option maxHeartbeats 4000000 in
theorem cg_J7_fill_53178 {X : sj_X} {g : sj_G} {N : Nat} {x0 : Nat} {n0 : Nat} {x1 : Int} {V : sj_VV} {q : Unit × sj_VV} (hx0 : OKA g 100 x0 n0) (h : g_J7_fill_53178 N x0 n0 x1 V = some q) : sj_C X m_J7_fill_53178 [sj_r (some x0), sj_i x1] (g, V) (none, (g, q.2)) :=
  sj_C_of (by decide +kernel) (Nat.le_of_ble_eq_true rfl) (lo := [some (sj_r (some x0)), some (sj_i x1), none, none]) rfl (sj_weak (l2 := [some (sj_r (some x0)), some (sj_i x1), none, none]) (⟨rfl, ⟨rfl, trivial⟩⟩) (st_J7_fill_53178_0 x0 n0 x1 V hx0 h))
theorem dX5_drop_0 : decode cX5_drop 0 = .ok (.aload_n 0, 1) := by decide +kernel
theorem dX5_drop_1 : decode cX5_drop 1 = .ok (.iconst (-1), 1) := by decide +kernel
theorem dX5_drop_2 : decode cX5_drop 2 = .ok (.putfield 15, 3) := by decide +kernel
theorem dX5_drop_5 : decode cX5_drop 5 = .ok (.aload_n 0, 1) := by decide +kernel
theorem dX5_drop_6 : decode cX5_drop 6 = .ok (.iconst (-1), 1) := by decide +kernel
theorem dX5_drop_7 : decode cX5_drop 7 = .ok (.putfield 19, 3) := by decide +kernel
theorem dX5_drop_10 : decode cX5_drop 10 = .ok (.return_, 1) := by decide +kernel
set_option maxHeartbeats 4000000 in
theorem st_X5_drop_0 {X : sj_X} {g : sj_G} {s0 : sj_Mem} {N : Nat} {q : Unit × sj_VV} :
    ∀ (a0 : Nat) (V : sj_VV), OK5 g a0 → g_X5_drop N a0 V = some q → sj_T X m_X5_drop s0 (none, (g, q.2)) 0 [some (sj_r (some a0))] [] (g, V) := by
  intro a0 V ha0 h
  unfold g_X5_drop at h
  refine r_aload_n (pc := 0) dX5_drop_0 rfl rfl ?_
  refine r_iconst (pc := 1) dX5_drop_1 ?_
  refine r_pIs (pc := 2) h dX5_drop_2 fw_X5_15 rfl rfl (nf5_1) (ok5 ha0) (fun V1 h => ?_)
  refine r_aload_n (pc := 5) dX5_drop_5 rfl rfl ?_
  refine r_iconst (pc := 6) dX5_drop_6 ?_
  refine r_pIs (pc := 7) h dX5_drop_7 fw_X5_19 rfl rfl (nf5_2) (ok5 ha0) (fun V2 h => ?_)
  exact r_vrets (pc := 10) h rfl dX5_drop_10
set_option maxHeartbeats 4000000 in
theorem cg_X5_drop {X : sj_X} {g : sj_G} {N : Nat} {a0 : Nat} {V : sj_VV} {q : Unit × sj_VV} (ha0 : OK5 g a0) (h : g_X5_drop N a0 V = some q) : sj_C X m_X5_drop [sj_r (some a0)] (g, V) (none, (g, q.2)) :=
  sj_C_of (by decide +kernel) (Nat.le_of_ble_eq_true rfl) (lo := [some (sj_r (some a0))]) rfl (sj_weak (l2 := [some (sj_r (some a0))]) (⟨rfl, trivial⟩) (st_X5_drop_0 a0 V ha0 h))
theorem dX0_begin_0 : decode cX0_begin 0 = .ok (.aload_n 0, 1) := by decide +kernel
theorem dX0_begin_1 : decode cX0_begin 1 = .ok (.iload_n 1, 1) := by decide +kernel
theorem dX0_begin_2 : decode cX0_begin 2 = .ok (.putfield 52, 3) := by decide +kernel
theorem dX0_begin_5 : decode cX0_begin 5 = .ok (.aload_n 0, 1) := by decide +kernel
theorem dX0_begin_6 : decode cX0_begin 6 = .ok (.iload_n 2, 1) := by decide +kernel
theorem dX0_begin_7 : decode cX0_begin 7 = .ok (.putfield 56, 3) := by decide +kernel
theorem dX0_begin_10 : decode cX0_begin 10 = .ok (.aload_n 0, 1) := by decide +kernel
theorem dX0_begin_11 : decode cX0_begin 11 = .ok (.iconst 0, 1) := by decide +kernel
theorem dX0_begin_12 : decode cX0_begin 12 = .ok (.putfield 59, 3) := by decide +kernel
theorem dX0_begin_15 : decode cX0_begin 15 = .ok (.aload_n 0, 1) := by decide +kernel
theorem dX0_begin_16 : decode cX0_begin 16 = .ok (.getfield 9, 3) := by decide +kernel
theorem dX0_begin_19 : decode cX0_begin 19 = .ok (.bipush 20, 2) := by decide +kernel
theorem dX0_begin_21 : decode cX0_begin 21 = .ok (.invokestatic 62, 3) := by decide +kernel
theorem dX0_begin_24 : decode cX0_begin 24 = .ok (.aload_n 0, 1) := by decide +kernel
theorem dX0_begin_25 : decode cX0_begin 25 = .ok (.getfield 15, 3) := by decide +kernel
theorem dX0_begin_28 : decode cX0_begin 28 = .ok (.iconst 0, 1) := by decide +kernel
theorem dX0_begin_29 : decode cX0_begin 29 = .ok (.invokestatic 62, 3) := by decide +kernel
theorem dX0_begin_32 : decode cX0_begin 32 = .ok (.aload_n 0, 1) := by decide +kernel
theorem dX0_begin_33 : decode cX0_begin 33 = .ok (.getfield 18, 3) := by decide +kernel
theorem dX0_begin_36 : decode cX0_begin 36 = .ok (.iconst 0, 1) := by decide +kernel
theorem dX0_begin_37 : decode cX0_begin 37 = .ok (.invokestatic 62, 3) := by decide +kernel
theorem dX0_begin_40 : decode cX0_begin 40 = .ok (.aload_n 0, 1) := by decide +kernel
theorem dX0_begin_41 : decode cX0_begin 41 = .ok (.getfield 21, 3) := by decide +kernel
theorem dX0_begin_44 : decode cX0_begin 44 = .ok (.iconst 0, 1) := by decide +kernel
theorem dX0_begin_45 : decode cX0_begin 45 = .ok (.invokestatic 62, 3) := by decide +kernel
theorem dX0_begin_48 : decode cX0_begin 48 = .ok (.aload_n 0, 1) := by decide +kernel
theorem dX0_begin_49 : decode cX0_begin 49 = .ok (.getfield 24, 3) := by decide +kernel
theorem dX0_begin_52 : decode cX0_begin 52 = .ok (.iconst 0, 1) := by decide +kernel
theorem dX0_begin_53 : decode cX0_begin 53 = .ok (.invokestatic 62, 3) := by decide +kernel
theorem dX0_begin_56 : decode cX0_begin 56 = .ok (.aload_n 0, 1) := by decide +kernel
theorem dX0_begin_57 : decode cX0_begin 57 = .ok (.getfield 27, 3) := by decide +kernel
theorem dX0_begin_60 : decode cX0_begin 60 = .ok (.bipush 20, 2) := by decide +kernel
theorem dX0_begin_62 : decode cX0_begin 62 = .ok (.invokestatic 62, 3) := by decide +kernel
theorem dX0_begin_65 : decode cX0_begin 65 = .ok (.aload_n 0, 1) := by decide +kernel
theorem dX0_begin_66 : decode cX0_begin 66 = .ok (.getfield 30, 3) := by decide +kernel
theorem dX0_begin_69 : decode cX0_begin 69 = .ok (.bipush 10, 2) := by decide +kernel
theorem dX0_begin_71 : decode cX0_begin 71 = .ok (.invokestatic 62, 3) := by decide +kernel
theorem dX0_begin_74 : decode cX0_begin 74 = .ok (.aload_n 0, 1) := by decide +kernel
theorem dX0_begin_75 : decode cX0_begin 75 = .ok (.getfield 33, 3) := by decide +kernel
theorem dX0_begin_78 : decode cX0_begin 78 = .ok (.sipush 300, 3) := by decide +kernel
theorem dX0_begin_81 : decode cX0_begin 81 = .ok (.invokestatic 62, 3) := by decide +kernel
theorem dX0_begin_84 : decode cX0_begin 84 = .ok (.aload_n 0, 1) := by decide +kernel
theorem dX0_begin_85 : decode cX0_begin 85 = .ok (.getfield 42, 3) := by decide +kernel
theorem dX0_begin_88 : decode cX0_begin 88 = .ok (.iconst 0, 1) := by decide +kernel
theorem dX0_begin_89 : decode cX0_begin 89 = .ok (.invokestatic 62, 3) := by decide +kernel
theorem dX0_begin_92 : decode cX0_begin 92 = .ok (.aload_n 0, 1) := by decide +kernel
theorem dX0_begin_93 : decode cX0_begin 93 = .ok (.getfield 48, 3) := by decide +kernel
theorem dX0_begin_96 : decode cX0_begin 96 = .ok (.invokevirtual 68, 3) := by decide +kernel
theorem dX0_begin_99 : decode cX0_begin 99 = .ok (.return_, 1) := by decide +kernel
set_option maxHeartbeats 4000000 in
theorem st_X0_begin_0 {X : sj_X} {g : sj_G} {s0 : sj_Mem} {N : Nat} {q : Unit × sj_VV} :
    ∀ (a0 : Nat) (x1 : Int) (x2 : Int) (V : sj_VV), OK0 g a0 → g_X0_begin N a0 x1 x2 V = some q → sj_T X m_X0_begin s0 (none, (g, q.2)) 0 [some (sj_r (some a0)), some (sj_i x1), some (sj_i x2)] [] (g, V) := by
  intro a0 x1 x2 V ha0 h
  unfold g_X0_begin at h
  refine r_aload_n (pc := 0) dX0_begin_0 rfl rfl ?_
  refine r_iload_n (pc := 1) dX0_begin_1 rfl rfl ?_
  refine r_pIs (pc := 2) h dX0_begin_2 fw_X0_52 rfl rfl (nf0_0) (ok0 ha0) (fun V1 h => ?_)
  refine r_aload_n (pc := 5) dX0_begin_5 rfl rfl ?_
  refine r_iload_n (pc := 6) dX0_begin_6 rfl rfl ?_
  refine r_pIs (pc := 7) h dX0_begin_7 fw_X0_56 rfl rfl (nf0_1) (ok0 ha0) (fun V2 h => ?_)
  refine r_aload_n (pc := 10) dX0_begin_10 rfl rfl ?_
  refine r_iconst (pc := 11) dX0_begin_11 ?_
  refine r_pIs (pc := 12) h dX0_begin_12 fw_X0_59 rfl rfl (nf0_2) (ok0 ha0) (fun V3 h => ?_)
  refine r_aload_n (pc := 15) dX0_begin_15 rfl rfl ?_
  refine r_gRs (b := a0 + 1) (pc := 16) dX0_begin_16 fw_X0_9 rfl (ok0 ha0) (ok0_3 ha0).1 ?_
  refine r_bipush (pc := 19) dX0_begin_19 ⟨by decide, by decide⟩ ?_
  refine r_callSs (pc := 21) (fun _ => none) (As := [sj_r (some (a0 + 1)), sj_i 20]) (rest := []) h dX0_begin_21 mw_X0_62 kw_321 (fun _ _ hc => cg_J7_fill_53178 (ok0_3 ha0).2 hc) rfl ⟨(Nat.le_of_ble_eq_true rfl), (Nat.le_of_ble_eq_true rfl)⟩ (Nat.le_of_ble_eq_true rfl) rfl (fun _u V4 h => ?_)
  refine r_aload_n (pc := 24) dX0_begin_24 rfl rfl ?_
  refine r_gRs (b := a0 + 2) (pc := 25) dX0_begin_25 fw_X0_15 rfl (ok0 ha0) (ok0_4 ha0).1 ?_
  refine r_iconst (pc := 28) dX0_begin_28 ?_
  refine r_callSs (pc := 29) (fun _ => none) (As := [sj_r (some (a0 + 2)), sj_i 0]) (rest := []) h dX0_begin_29 mw_X0_62 kw_321 (fun _ _ hc => cg_J7_fill_53178 (ok0_4 ha0).2 hc) rfl ⟨(Nat.le_of_ble_eq_true rfl), (Nat.le_of_ble_eq_true rfl)⟩ (Nat.le_of_ble_eq_true rfl) rfl (fun _u V5 h => ?_)
  refine r_aload_n (pc := 32) dX0_begin_32 rfl rfl ?_
  refine r_gRs (b := a0 + 3) (pc := 33) dX0_begin_33 fw_X0_18 rfl (ok0 ha0) (ok0_5 ha0).1 ?_
  refine r_iconst (pc := 36) dX0_begin_36 ?_
  refine r_callSs (pc := 37) (fun _ => none) (As := [sj_r (some (a0 + 3)), sj_i 0]) (rest := []) h dX0_begin_37 mw_X0_62 kw_321 (fun _ _ hc => cg_J7_fill_53178 (ok0_5 ha0).2 hc) rfl ⟨(Nat.le_of_ble_eq_true rfl), (Nat.le_of_ble_eq_true rfl)⟩ (Nat.le_of_ble_eq_true rfl) rfl (fun _u V6 h => ?_)
  refine r_aload_n (pc := 40) dX0_begin_40 rfl rfl ?_
  refine r_gRs (b := a0 + 4) (pc := 41) dX0_begin_41 fw_X0_21 rfl (ok0 ha0) (ok0_6 ha0).1 ?_
  refine r_iconst (pc := 44) dX0_begin_44 ?_
  refine r_callSs (pc := 45) (fun _ => none) (As := [sj_r (some (a0 + 4)), sj_i 0]) (rest := []) h dX0_begin_45 mw_X0_62 kw_321 (fun _ _ hc => cg_J7_fill_53178 (ok0_6 ha0).2 hc) rfl ⟨(Nat.le_of_ble_eq_true rfl), (Nat.le_of_ble_eq_true rfl)⟩ (Nat.le_of_ble_eq_true rfl) rfl (fun _u V7 h => ?_)
  refine r_aload_n (pc := 48) dX0_begin_48 rfl rfl ?_
  refine r_gRs (b := a0 + 5) (pc := 49) dX0_begin_49 fw_X0_24 rfl (ok0 ha0) (ok0_7 ha0).1 ?_
  refine r_iconst (pc := 52) dX0_begin_52 ?_
  refine r_callSs (pc := 53) (fun _ => none) (As := [sj_r (some (a0 + 5)), sj_i 0]) (rest := []) h dX0_begin_53 mw_X0_62 kw_321 (fun _ _ hc => cg_J7_fill_53178 (ok0_7 ha0).2 hc) rfl ⟨(Nat.le_of_ble_eq_true rfl), (Nat.le_of_ble_eq_true rfl)⟩ (Nat.le_of_ble_eq_true rfl) rfl (fun _u V8 h => ?_)
  refine r_aload_n (pc := 56) dX0_begin_56 rfl rfl ?_
  refine r_gRs (b := a0 + 6) (pc := 57) dX0_begin_57 fw_X0_27 rfl (ok0 ha0) (ok0_8 ha0).1 ?_
  refine r_bipush (pc := 60) dX0_begin_60 ⟨by decide, by decide⟩ ?_
  refine r_callSs (pc := 62) (fun _ => none) (As := [sj_r (some (a0 + 6)), sj_i 20]) (rest := []) h dX0_begin_62 mw_X0_62 kw_321 (fun _ _ hc => cg_J7_fill_53178 (ok0_8 ha0).2 hc) rfl ⟨(Nat.le_of_ble_eq_true rfl), (Nat.le_of_ble_eq_true rfl)⟩ (Nat.le_of_ble_eq_true rfl) rfl (fun _u V9 h => ?_)
  refine r_aload_n (pc := 65) dX0_begin_65 rfl rfl ?_
  refine r_gRs (b := a0 + 7) (pc := 66) dX0_begin_66 fw_X0_30 rfl (ok0 ha0) (ok0_9 ha0).1 ?_
  refine r_bipush (pc := 69) dX0_begin_69 ⟨by decide, by decide⟩ ?_
  refine r_callSs (pc := 71) (fun _ => none) (As := [sj_r (some (a0 + 7)), sj_i 10]) (rest := []) h dX0_begin_71 mw_X0_62 kw_321 (fun _ _ hc => cg_J7_fill_53178 (ok0_9 ha0).2 hc) rfl ⟨(Nat.le_of_ble_eq_true rfl), (Nat.le_of_ble_eq_true rfl)⟩ (Nat.le_of_ble_eq_true rfl) rfl (fun _u V10 h => ?_)
  refine r_aload_n (pc := 74) dX0_begin_74 rfl rfl ?_
  refine r_gRs (b := a0 + 8) (pc := 75) dX0_begin_75 fw_X0_33 rfl (ok0 ha0) (ok0_10 ha0).1 ?_
  refine r_sipush (pc := 78) dX0_begin_78 ⟨by decide, by decide⟩ ?_
  refine r_callSs (pc := 81) (fun _ => none) (As := [sj_r (some (a0 + 8)), sj_i 300]) (rest := []) h dX0_begin_81 mw_X0_62 kw_321 (fun _ _ hc => cg_J7_fill_53178 (ok0_10 ha0).2 hc) rfl ⟨(Nat.le_of_ble_eq_true rfl), (Nat.le_of_ble_eq_true rfl)⟩ (Nat.le_of_ble_eq_true rfl) rfl (fun _u V11 h => ?_)
  refine r_aload_n (pc := 84) dX0_begin_84 rfl rfl ?_
  refine r_gRs (b := a0 + 11) (pc := 85) dX0_begin_85 fw_X0_42 rfl (ok0 ha0) (ok0_13 ha0).1 ?_
  refine r_iconst (pc := 88) dX0_begin_88 ?_
  refine r_callSs (pc := 89) (fun _ => none) (As := [sj_r (some (a0 + 11)), sj_i 0]) (rest := []) h dX0_begin_89 mw_X0_62 kw_321 (fun _ _ hc => cg_J7_fill_53178 (ok0_13 ha0).2 hc) rfl ⟨(Nat.le_of_ble_eq_true rfl), (Nat.le_of_ble_eq_true rfl)⟩ (Nat.le_of_ble_eq_true rfl) rfl (fun _u V12 h => ?_)
  refine r_aload_n (pc := 92) dX0_begin_92 rfl rfl ?_
  refine r_gRs (b := a0 + 12) (pc := 93) dX0_begin_93 fw_X0_48 rfl (ok0 ha0) (ok0_14 ha0).1 ?_
  refine r_callVs (pc := 96) (fun _ => none) (As := []) (rest := []) (b := (a0 + 12)) (ok5 (ok0_14 ha0).2) h dX0_begin_96 mw_X0_68 vw_X5_drop (fun _ _ hc => cg_X5_drop (ok0_14 ha0).2 hc) rfl ⟨(Nat.le_of_ble_eq_true rfl), (Nat.le_of_ble_eq_true rfl)⟩ (Nat.le_of_ble_eq_true rfl) rfl (fun _u V13 h => ?_)
  exact r_vrets (pc := 99) h rfl dX0_begin_99
set_option maxHeartbeats 4000000 in
theorem cg_X0_begin {X : sj_X} {g : sj_G} {N : Nat} {a0 : Nat} {x1 : Int} {x2 : Int} {V : sj_VV} {q : Unit × sj_VV} (ha0 : OK0 g a0) (h : g_X0_begin N a0 x1 x2 V = some q) : sj_C X m_X0_begin [sj_r (some a0), sj_i x1, sj_i x2] (g, V) (none, (g, q.2)) :=
  sj_C_of (by decide +kernel) (Nat.le_of_ble_eq_true rfl) (lo := [some (sj_r (some a0)), some (sj_i x1), some (sj_i x2)]) rfl (sj_weak (l2 := [some (sj_r (some a0)), some (sj_i x1), some (sj_i x2)]) (⟨rfl, ⟨rfl, ⟨rfl, trivial⟩⟩⟩) (st_X0_begin_0 a0 x1 x2 V ha0 h))
theorem dX5_copy_0 : decode cX5_copy 0 = .ok (.aload_n 1, 1) := by decide +kernel
theorem dX5_copy_1 : decode cX5_copy 1 = .ok (.getfield 9, 3) := by decide +kernel
theorem dX5_copy_4 : decode cX5_copy 4 = .ok (.iconst 0, 1) := by decide +kernel
theorem dX5_copy_5 : decode cX5_copy 5 = .ok (.aload_n 0, 1) := by decide +kernel
theorem dX5_copy_6 : decode cX5_copy 6 = .ok (.getfield 9, 3) := by decide +kernel
theorem dX5_copy_9 : decode cX5_copy 9 = .ok (.iconst 0, 1) := by decide +kernel
theorem dX5_copy_10 : decode cX5_copy 10 = .ok (.bipush 41, 2) := by decide +kernel
theorem dX5_copy_12 : decode cX5_copy 12 = .ok (.invokestatic 22, 3) := by decide +kernel
theorem dX5_copy_15 : decode cX5_copy 15 = .ok (.aload_n 0, 1) := by decide +kernel
theorem dX5_copy_16 : decode cX5_copy 16 = .ok (.aload_n 1, 1) := by decide +kernel
theorem dX5_copy_17 : decode cX5_copy 17 = .ok (.getfield 15, 3) := by decide +kernel
theorem dX5_copy_20 : decode cX5_copy 20 = .ok (.putfield 15, 3) := by decide +kernel
theorem dX5_copy_23 : decode cX5_copy 23 = .ok (.aload_n 0, 1) := by decide +kernel
theorem dX5_copy_24 : decode cX5_copy 24 = .ok (.aload_n 1, 1) := by decide +kernel
theorem dX5_copy_25 : decode cX5_copy 25 = .ok (.getfield 19, 3) := by decide +kernel
theorem dX5_copy_28 : decode cX5_copy 28 = .ok (.putfield 19, 3) := by decide +kernel
theorem dX5_copy_31 : decode cX5_copy 31 = .ok (.aload_n 0, 1) := by decide +kernel
theorem dX5_copy_32 : decode cX5_copy 32 = .ok (.aload_n 1, 1) := by decide +kernel
theorem dX5_copy_33 : decode cX5_copy 33 = .ok (.getfield 28, 3) := by decide +kernel
theorem dX5_copy_36 : decode cX5_copy 36 = .ok (.putfield 28, 3) := by decide +kernel
theorem dX5_copy_39 : decode cX5_copy 39 = .ok (.return_, 1) := by decide +kernel
set_option maxHeartbeats 4000000 in
theorem st_X5_copy_0 {X : sj_X} {g : sj_G} {s0 : sj_Mem} {N : Nat} {q : Unit × sj_VV} :
    ∀ (a0 : Nat) (x1 : Nat) (V : sj_VV), OK5 g a0 → OK5 g x1 → g_X5_copy N a0 x1 V = some q → sj_T X m_X5_copy s0 (none, (g, q.2)) 0 [some (sj_r (some a0)), some (sj_r (some x1))] [] (g, V) := by
  intro a0 x1 V ha0 hx1 h
  unfold g_X5_copy at h
  refine r_aload_n (pc := 0) dX5_copy_0 rfl rfl ?_
  refine r_gRs (b := x1 + 1) (pc := 1) dX5_copy_1 fw_X5_9 rfl (ok5 hx1) (ok5_0 hx1).1 ?_
  refine r_iconst (pc := 4) dX5_copy_4 ?_
  refine r_aload_n (pc := 5) dX5_copy_5 rfl rfl ?_
  refine r_gRs (b := a0 + 1) (pc := 6) dX5_copy_6 fw_X5_9 rfl (ok5 ha0) (ok5_0 ha0).1 ?_
  refine r_iconst (pc := 9) dX5_copy_9 ?_
  refine r_bipush (pc := 10) dX5_copy_10 ⟨by decide, by decide⟩ ?_
  refine r_copys (pc := 12) h dX5_copy_12 yw_X5_22 (Nat.le_of_ble_eq_true rfl) (Nat.le_of_ble_eq_true rfl) (ok5_0 hx1).2 (ok5_0 ha0).2 (fun V1 h => ?_)
  refine r_aload_n (pc := 15) dX5_copy_15 rfl rfl ?_
  refine r_aload_n (pc := 16) dX5_copy_16 rfl rfl ?_
  refine r_gIs (pc := 17) dX5_copy_17 fw_X5_15 rfl (ok5 hx1) ?_
  refine r_pIs (pc := 20) h dX5_copy_20 fw_X5_15 rfl rfl (nf5_1) (ok5 ha0) (fun V2 h => ?_)
  refine r_aload_n (pc := 23) dX5_copy_23 rfl rfl ?_
  refine r_aload_n (pc := 24) dX5_copy_24 rfl rfl ?_
  refine r_gIs (pc := 25) dX5_copy_25 fw_X5_19 rfl (ok5 hx1) ?_
  refine r_pIs (pc := 28) h dX5_copy_28 fw_X5_19 rfl rfl (nf5_2) (ok5 ha0) (fun V3 h => ?_)
  refine r_aload_n (pc := 31) dX5_copy_31 rfl rfl ?_
  refine r_aload_n (pc := 32) dX5_copy_32 rfl rfl ?_
  refine r_gIs (pc := 33) dX5_copy_33 fw_X5_28 rfl (ok5 hx1) ?_
  refine r_pZs (pc := 36) h dX5_copy_36 fw_X5_28 rfl rfl (nf5_3) (ok5 ha0) (fun V4 h => ?_)
  exact r_vrets (pc := 39) h rfl dX5_copy_39
set_option maxHeartbeats 4000000 in
theorem cg_X5_copy {X : sj_X} {g : sj_G} {N : Nat} {a0 : Nat} {x1 : Nat} {V : sj_VV} {q : Unit × sj_VV} (ha0 : OK5 g a0) (hx1 : OK5 g x1) (h : g_X5_copy N a0 x1 V = some q) : sj_C X m_X5_copy [sj_r (some a0), sj_r (some x1)] (g, V) (none, (g, q.2)) :=
  sj_C_of (by decide +kernel) (Nat.le_of_ble_eq_true rfl) (lo := [some (sj_r (some a0)), some (sj_r (some x1))]) rfl (sj_weak (l2 := [some (sj_r (some a0)), some (sj_r (some x1))]) (⟨rfl, ⟨rfl, trivial⟩⟩) (st_X5_copy_0 a0 x1 V ha0 hx1 h))
set_option maxHeartbeats 4000000 in
theorem c_X5_copy {X : sj_X} {N : Nat} {a0 : Nat} {x1 : Option Nat} {s : sj_Mem} {q : Unit × sj_Mem} (h : f_X5_copy N a0 x1 s = some q) : sj_C X m_X5_copy [sj_r (some a0), sj_r x1] s (none, q.2) := by
  obtain ⟨g, V⟩ := s
  unfold f_X5_copy at h
  obtain ⟨ho, h1⟩ := e_ok_some h
  obtain ⟨q2, h2, rfl⟩ := sj_map_some h1
  obtain ⟨z1, hz1⟩ : ∃ z, x1 = some z := ⟨_, ho.2.1⟩
  subst hz1
  exact cg_X5_copy ho.1 ho.2.2 h2
theorem dX0_copy_0 : decode cX0_copy 0 = .ok (.aload_n 0, 1) := by decide +kernel
theorem dX0_copy_1 : decode cX0_copy 1 = .ok (.aload_n 1, 1) := by decide +kernel
theorem dX0_copy_2 : decode cX0_copy 2 = .ok (.getfield 52, 3) := by decide +kernel
theorem dX0_copy_5 : decode cX0_copy 5 = .ok (.putfield 52, 3) := by decide +kernel
theorem dX0_copy_8 : decode cX0_copy 8 = .ok (.aload_n 0, 1) := by decide +kernel
theorem dX0_copy_9 : decode cX0_copy 9 = .ok (.aload_n 1, 1) := by decide +kernel
theorem dX0_copy_10 : decode cX0_copy 10 = .ok (.getfield 56, 3) := by decide +kernel
theorem dX0_copy_13 : decode cX0_copy 13 = .ok (.putfield 56, 3) := by decide +kernel
theorem dX0_copy_16 : decode cX0_copy 16 = .ok (.aload_n 0, 1) := by decide +kernel
theorem dX0_copy_17 : decode cX0_copy 17 = .ok (.aload_n 1, 1) := by decide +kernel
theorem dX0_copy_18 : decode cX0_copy 18 = .ok (.getfield 59, 3) := by decide +kernel
theorem dX0_copy_21 : decode cX0_copy 21 = .ok (.putfield 59, 3) := by decide +kernel
theorem dX0_copy_24 : decode cX0_copy 24 = .ok (.aload_n 1, 1) := by decide +kernel
theorem dX0_copy_25 : decode cX0_copy 25 = .ok (.getfield 9, 3) := by decide +kernel
theorem dX0_copy_28 : decode cX0_copy 28 = .ok (.iconst 0, 1) := by decide +kernel
theorem dX0_copy_29 : decode cX0_copy 29 = .ok (.aload_n 0, 1) := by decide +kernel
theorem dX0_copy_30 : decode cX0_copy 30 = .ok (.getfield 9, 3) := by decide +kernel
theorem dX0_copy_33 : decode cX0_copy 33 = .ok (.iconst 0, 1) := by decide +kernel
theorem dX0_copy_34 : decode cX0_copy 34 = .ok (.bipush 41, 2) := by decide +kernel
theorem dX0_copy_36 : decode cX0_copy 36 = .ok (.invokestatic 71, 3) := by decide +kernel
theorem dX0_copy_39 : decode cX0_copy 39 = .ok (.aload_n 1, 1) := by decide +kernel
theorem dX0_copy_40 : decode cX0_copy 40 = .ok (.getfield 15, 3) := by decide +kernel
theorem dX0_copy_43 : decode cX0_copy 43 = .ok (.iconst 0, 1) := by decide +kernel
theorem dX0_copy_44 : decode cX0_copy 44 = .ok (.aload_n 0, 1) := by decide +kernel
theorem dX0_copy_45 : decode cX0_copy 45 = .ok (.getfield 15, 3) := by decide +kernel
theorem dX0_copy_48 : decode cX0_copy 48 = .ok (.iconst 0, 1) := by decide +kernel
theorem dX0_copy_49 : decode cX0_copy 49 = .ok (.bipush 41, 2) := by decide +kernel
theorem dX0_copy_51 : decode cX0_copy 51 = .ok (.invokestatic 71, 3) := by decide +kernel
theorem dX0_copy_54 : decode cX0_copy 54 = .ok (.aload_n 1, 1) := by decide +kernel
theorem dX0_copy_55 : decode cX0_copy 55 = .ok (.getfield 18, 3) := by decide +kernel
theorem dX0_copy_58 : decode cX0_copy 58 = .ok (.iconst 0, 1) := by decide +kernel
theorem dX0_copy_59 : decode cX0_copy 59 = .ok (.aload_n 0, 1) := by decide +kernel
theorem dX0_copy_60 : decode cX0_copy 60 = .ok (.getfield 18, 3) := by decide +kernel
theorem dX0_copy_63 : decode cX0_copy 63 = .ok (.iconst 0, 1) := by decide +kernel
theorem dX0_copy_64 : decode cX0_copy 64 = .ok (.bipush 41, 2) := by decide +kernel
theorem dX0_copy_66 : decode cX0_copy 66 = .ok (.invokestatic 71, 3) := by decide +kernel
theorem dX0_copy_69 : decode cX0_copy 69 = .ok (.aload_n 1, 1) := by decide +kernel
theorem dX0_copy_70 : decode cX0_copy 70 = .ok (.getfield 21, 3) := by decide +kernel
theorem dX0_copy_73 : decode cX0_copy 73 = .ok (.iconst 0, 1) := by decide +kernel
theorem dX0_copy_74 : decode cX0_copy 74 = .ok (.aload_n 0, 1) := by decide +kernel
theorem dX0_copy_75 : decode cX0_copy 75 = .ok (.getfield 21, 3) := by decide +kernel
theorem dX0_copy_78 : decode cX0_copy 78 = .ok (.iconst 0, 1) := by decide +kernel
theorem dX0_copy_79 : decode cX0_copy 79 = .ok (.bipush 41, 2) := by decide +kernel
theorem dX0_copy_81 : decode cX0_copy 81 = .ok (.invokestatic 71, 3) := by decide +kernel
theorem dX0_copy_84 : decode cX0_copy 84 = .ok (.aload_n 1, 1) := by decide +kernel
theorem dX0_copy_85 : decode cX0_copy 85 = .ok (.getfield 24, 3) := by decide +kernel
theorem dX0_copy_88 : decode cX0_copy 88 = .ok (.iconst 0, 1) := by decide +kernel
theorem dX0_copy_89 : decode cX0_copy 89 = .ok (.aload_n 0, 1) := by decide +kernel
theorem dX0_copy_90 : decode cX0_copy 90 = .ok (.getfield 24, 3) := by decide +kernel
theorem dX0_copy_93 : decode cX0_copy 93 = .ok (.iconst 0, 1) := by decide +kernel
theorem dX0_copy_94 : decode cX0_copy 94 = .ok (.bipush 123, 2) := by decide +kernel
theorem dX0_copy_96 : decode cX0_copy 96 = .ok (.invokestatic 71, 3) := by decide +kernel
theorem dX0_copy_99 : decode cX0_copy 99 = .ok (.aload_n 1, 1) := by decide +kernel
theorem dX0_copy_100 : decode cX0_copy 100 = .ok (.getfield 27, 3) := by decide +kernel
theorem dX0_copy_103 : decode cX0_copy 103 = .ok (.iconst 0, 1) := by decide +kernel
theorem dX0_copy_104 : decode cX0_copy 104 = .ok (.aload_n 0, 1) := by decide +kernel
theorem dX0_copy_105 : decode cX0_copy 105 = .ok (.getfield 27, 3) := by decide +kernel
theorem dX0_copy_108 : decode cX0_copy 108 = .ok (.iconst 0, 1) := by decide +kernel
theorem dX0_copy_109 : decode cX0_copy 109 = .ok (.iconst 4, 1) := by decide +kernel
theorem dX0_copy_110 : decode cX0_copy 110 = .ok (.invokestatic 71, 3) := by decide +kernel
theorem dX0_copy_113 : decode cX0_copy 113 = .ok (.aload_n 1, 1) := by decide +kernel
theorem dX0_copy_114 : decode cX0_copy 114 = .ok (.getfield 30, 3) := by decide +kernel
theorem dX0_copy_117 : decode cX0_copy 117 = .ok (.iconst 0, 1) := by decide +kernel
theorem dX0_copy_118 : decode cX0_copy 118 = .ok (.aload_n 0, 1) := by decide +kernel
theorem dX0_copy_119 : decode cX0_copy 119 = .ok (.getfield 30, 3) := by decide +kernel
theorem dX0_copy_122 : decode cX0_copy 122 = .ok (.iconst 0, 1) := by decide +kernel
theorem dX0_copy_123 : decode cX0_copy 123 = .ok (.iconst 4, 1) := by decide +kernel
theorem dX0_copy_124 : decode cX0_copy 124 = .ok (.invokestatic 71, 3) := by decide +kernel
theorem dX0_copy_127 : decode cX0_copy 127 = .ok (.aload_n 1, 1) := by decide +kernel
theorem dX0_copy_128 : decode cX0_copy 128 = .ok (.getfield 33, 3) := by decide +kernel
theorem dX0_copy_131 : decode cX0_copy 131 = .ok (.iconst 0, 1) := by decide +kernel
theorem dX0_copy_132 : decode cX0_copy 132 = .ok (.aload_n 0, 1) := by decide +kernel
theorem dX0_copy_133 : decode cX0_copy 133 = .ok (.getfield 33, 3) := by decide +kernel
theorem dX0_copy_136 : decode cX0_copy 136 = .ok (.iconst 0, 1) := by decide +kernel
theorem dX0_copy_137 : decode cX0_copy 137 = .ok (.iconst 4, 1) := by decide +kernel
theorem dX0_copy_138 : decode cX0_copy 138 = .ok (.invokestatic 71, 3) := by decide +kernel
theorem dX0_copy_141 : decode cX0_copy 141 = .ok (.aload_n 1, 1) := by decide +kernel
theorem dX0_copy_142 : decode cX0_copy 142 = .ok (.getfield 36, 3) := by decide +kernel
theorem dX0_copy_145 : decode cX0_copy 145 = .ok (.iconst 0, 1) := by decide +kernel
theorem dX0_copy_146 : decode cX0_copy 146 = .ok (.aload_n 0, 1) := by decide +kernel
theorem dX0_copy_147 : decode cX0_copy 147 = .ok (.getfield 36, 3) := by decide +kernel
theorem dX0_copy_150 : decode cX0_copy 150 = .ok (.iconst 0, 1) := by decide +kernel
theorem dX0_copy_151 : decode cX0_copy 151 = .ok (.bipush 6, 2) := by decide +kernel
theorem dX0_copy_153 : decode cX0_copy 153 = .ok (.invokestatic 71, 3) := by decide +kernel
theorem dX0_copy_156 : decode cX0_copy 156 = .ok (.aload_n 1, 1) := by decide +kernel
theorem dX0_copy_157 : decode cX0_copy 157 = .ok (.getfield 39, 3) := by decide +kernel
theorem dX0_copy_160 : decode cX0_copy 160 = .ok (.iconst 0, 1) := by decide +kernel
theorem dX0_copy_161 : decode cX0_copy 161 = .ok (.aload_n 0, 1) := by decide +kernel
theorem dX0_copy_162 : decode cX0_copy 162 = .ok (.getfield 39, 3) := by decide +kernel
theorem dX0_copy_165 : decode cX0_copy 165 = .ok (.iconst 0, 1) := by decide +kernel
theorem dX0_copy_166 : decode cX0_copy 166 = .ok (.bipush 6, 2) := by decide +kernel
theorem dX0_copy_168 : decode cX0_copy 168 = .ok (.invokestatic 71, 3) := by decide +kernel
theorem dX0_copy_171 : decode cX0_copy 171 = .ok (.aload_n 1, 1) := by decide +kernel
theorem dX0_copy_172 : decode cX0_copy 172 = .ok (.getfield 42, 3) := by decide +kernel
theorem dX0_copy_175 : decode cX0_copy 175 = .ok (.iconst 0, 1) := by decide +kernel
theorem dX0_copy_176 : decode cX0_copy 176 = .ok (.aload_n 0, 1) := by decide +kernel
theorem dX0_copy_177 : decode cX0_copy 177 = .ok (.getfield 42, 3) := by decide +kernel
theorem dX0_copy_180 : decode cX0_copy 180 = .ok (.iconst 0, 1) := by decide +kernel
theorem dX0_copy_181 : decode cX0_copy 181 = .ok (.bipush 6, 2) := by decide +kernel
theorem dX0_copy_183 : decode cX0_copy 183 = .ok (.invokestatic 71, 3) := by decide +kernel
theorem dX0_copy_186 : decode cX0_copy 186 = .ok (.aload_n 0, 1) := by decide +kernel
theorem dX0_copy_187 : decode cX0_copy 187 = .ok (.getfield 48, 3) := by decide +kernel
theorem dX0_copy_190 : decode cX0_copy 190 = .ok (.aload_n 1, 1) := by decide +kernel
theorem dX0_copy_191 : decode cX0_copy 191 = .ok (.getfield 48, 3) := by decide +kernel
theorem dX0_copy_194 : decode cX0_copy 194 = .ok (.invokevirtual 77, 3) := by decide +kernel
theorem dX0_copy_197 : decode cX0_copy 197 = .ok (.return_, 1) := by decide +kernel
set_option maxHeartbeats 4000000 in
theorem st_X0_copy_0 {X : sj_X} {g : sj_G} {s0 : sj_Mem} {N : Nat} {q : Unit × sj_VV} :
    ∀ (a0 : Nat) (x1 : Nat) (V : sj_VV), OK0 g a0 → OK0 g x1 → g_X0_copy N a0 x1 V = some q → sj_T X m_X0_copy s0 (none, (g, q.2)) 0 [some (sj_r (some a0)), some (sj_r (some x1))] [] (g, V) := by
  intro a0 x1 V ha0 hx1 h
  unfold g_X0_copy at h
  refine r_aload_n (pc := 0) dX0_copy_0 rfl rfl ?_
  refine r_aload_n (pc := 1) dX0_copy_1 rfl rfl ?_
  refine r_gIs (pc := 2) dX0_copy_2 fw_X0_52 rfl (ok0 hx1) ?_
  refine r_pIs (pc := 5) h dX0_copy_5 fw_X0_52 rfl rfl (nf0_0) (ok0 ha0) (fun V1 h => ?_)
  refine r_aload_n (pc := 8) dX0_copy_8 rfl rfl ?_
  refine r_aload_n (pc := 9) dX0_copy_9 rfl rfl ?_
  refine r_gIs (pc := 10) dX0_copy_10 fw_X0_56 rfl (ok0 hx1) ?_
  refine r_pIs (pc := 13) h dX0_copy_13 fw_X0_56 rfl rfl (nf0_1) (ok0 ha0) (fun V2 h => ?_)
  refine r_aload_n (pc := 16) dX0_copy_16 rfl rfl ?_
  refine r_aload_n (pc := 17) dX0_copy_17 rfl rfl ?_
  refine r_gIs (pc := 18) dX0_copy_18 fw_X0_59 rfl (ok0 hx1) ?_
  refine r_pIs (pc := 21) h dX0_copy_21 fw_X0_59 rfl rfl (nf0_2) (ok0 ha0) (fun V3 h => ?_)
  refine r_aload_n (pc := 24) dX0_copy_24 rfl rfl ?_
  refine r_gRs (b := x1 + 1) (pc := 25) dX0_copy_25 fw_X0_9 rfl (ok0 hx1) (ok0_3 hx1).1 ?_
  refine r_iconst (pc := 28) dX0_copy_28 ?_
  refine r_aload_n (pc := 29) dX0_copy_29 rfl rfl ?_
  refine r_gRs (b := a0 + 1) (pc := 30) dX0_copy_30 fw_X0_9 rfl (ok0 ha0) (ok0_3 ha0).1 ?_
  refine r_iconst (pc := 33) dX0_copy_33 ?_
  refine r_bipush (pc := 34) dX0_copy_34 ⟨by decide, by decide⟩ ?_
  refine r_copys (pc := 36) h dX0_copy_36 yw_X0_71 (Nat.le_of_ble_eq_true rfl) (Nat.le_of_ble_eq_true rfl) (ok0_3 hx1).2 (ok0_3 ha0).2 (fun V4 h => ?_)
  refine r_aload_n (pc := 39) dX0_copy_39 rfl rfl ?_
  refine r_gRs (b := x1 + 2) (pc := 40) dX0_copy_40 fw_X0_15 rfl (ok0 hx1) (ok0_4 hx1).1 ?_
  refine r_iconst (pc := 43) dX0_copy_43 ?_
  refine r_aload_n (pc := 44) dX0_copy_44 rfl rfl ?_
  refine r_gRs (b := a0 + 2) (pc := 45) dX0_copy_45 fw_X0_15 rfl (ok0 ha0) (ok0_4 ha0).1 ?_
  refine r_iconst (pc := 48) dX0_copy_48 ?_
  refine r_bipush (pc := 49) dX0_copy_49 ⟨by decide, by decide⟩ ?_
  refine r_copys (pc := 51) h dX0_copy_51 yw_X0_71 (Nat.le_of_ble_eq_true rfl) (Nat.le_of_ble_eq_true rfl) (ok0_4 hx1).2 (ok0_4 ha0).2 (fun V5 h => ?_)
  refine r_aload_n (pc := 54) dX0_copy_54 rfl rfl ?_
  refine r_gRs (b := x1 + 3) (pc := 55) dX0_copy_55 fw_X0_18 rfl (ok0 hx1) (ok0_5 hx1).1 ?_
  refine r_iconst (pc := 58) dX0_copy_58 ?_
  refine r_aload_n (pc := 59) dX0_copy_59 rfl rfl ?_
  refine r_gRs (b := a0 + 3) (pc := 60) dX0_copy_60 fw_X0_18 rfl (ok0 ha0) (ok0_5 ha0).1 ?_
  refine r_iconst (pc := 63) dX0_copy_63 ?_
  refine r_bipush (pc := 64) dX0_copy_64 ⟨by decide, by decide⟩ ?_
  refine r_copys (pc := 66) h dX0_copy_66 yw_X0_71 (Nat.le_of_ble_eq_true rfl) (Nat.le_of_ble_eq_true rfl) (ok0_5 hx1).2 (ok0_5 ha0).2 (fun V6 h => ?_)
  refine r_aload_n (pc := 69) dX0_copy_69 rfl rfl ?_
  refine r_gRs (b := x1 + 4) (pc := 70) dX0_copy_70 fw_X0_21 rfl (ok0 hx1) (ok0_6 hx1).1 ?_
  refine r_iconst (pc := 73) dX0_copy_73 ?_
  refine r_aload_n (pc := 74) dX0_copy_74 rfl rfl ?_
  refine r_gRs (b := a0 + 4) (pc := 75) dX0_copy_75 fw_X0_21 rfl (ok0 ha0) (ok0_6 ha0).1 ?_
  refine r_iconst (pc := 78) dX0_copy_78 ?_
  refine r_bipush (pc := 79) dX0_copy_79 ⟨by decide, by decide⟩ ?_
  refine r_copys (pc := 81) h dX0_copy_81 yw_X0_71 (Nat.le_of_ble_eq_true rfl) (Nat.le_of_ble_eq_true rfl) (ok0_6 hx1).2 (ok0_6 ha0).2 (fun V7 h => ?_)
  refine r_aload_n (pc := 84) dX0_copy_84 rfl rfl ?_
  refine r_gRs (b := x1 + 5) (pc := 85) dX0_copy_85 fw_X0_24 rfl (ok0 hx1) (ok0_7 hx1).1 ?_
  refine r_iconst (pc := 88) dX0_copy_88 ?_
  refine r_aload_n (pc := 89) dX0_copy_89 rfl rfl ?_
  refine r_gRs (b := a0 + 5) (pc := 90) dX0_copy_90 fw_X0_24 rfl (ok0 ha0) (ok0_7 ha0).1 ?_
  refine r_iconst (pc := 93) dX0_copy_93 ?_
  refine r_bipush (pc := 94) dX0_copy_94 ⟨by decide, by decide⟩ ?_
  refine r_copys (pc := 96) h dX0_copy_96 yw_X0_71 (Nat.le_of_ble_eq_true rfl) (Nat.le_of_ble_eq_true rfl) (ok0_7 hx1).2 (ok0_7 ha0).2 (fun V8 h => ?_)
  refine r_aload_n (pc := 99) dX0_copy_99 rfl rfl ?_
  refine r_gRs (b := x1 + 6) (pc := 100) dX0_copy_100 fw_X0_27 rfl (ok0 hx1) (ok0_8 hx1).1 ?_
  refine r_iconst (pc := 103) dX0_copy_103 ?_
  refine r_aload_n (pc := 104) dX0_copy_104 rfl rfl ?_
  refine r_gRs (b := a0 + 6) (pc := 105) dX0_copy_105 fw_X0_27 rfl (ok0 ha0) (ok0_8 ha0).1 ?_
  refine r_iconst (pc := 108) dX0_copy_108 ?_
  refine r_iconst (pc := 109) dX0_copy_109 ?_
  refine r_copys (pc := 110) h dX0_copy_110 yw_X0_71 (Nat.le_of_ble_eq_true rfl) (Nat.le_of_ble_eq_true rfl) (ok0_8 hx1).2 (ok0_8 ha0).2 (fun V9 h => ?_)
  refine r_aload_n (pc := 113) dX0_copy_113 rfl rfl ?_
  refine r_gRs (b := x1 + 7) (pc := 114) dX0_copy_114 fw_X0_30 rfl (ok0 hx1) (ok0_9 hx1).1 ?_
  refine r_iconst (pc := 117) dX0_copy_117 ?_
  refine r_aload_n (pc := 118) dX0_copy_118 rfl rfl ?_
  refine r_gRs (b := a0 + 7) (pc := 119) dX0_copy_119 fw_X0_30 rfl (ok0 ha0) (ok0_9 ha0).1 ?_
  refine r_iconst (pc := 122) dX0_copy_122 ?_
  refine r_iconst (pc := 123) dX0_copy_123 ?_
  refine r_copys (pc := 124) h dX0_copy_124 yw_X0_71 (Nat.le_of_ble_eq_true rfl) (Nat.le_of_ble_eq_true rfl) (ok0_9 hx1).2 (ok0_9 ha0).2 (fun V10 h => ?_)
  refine r_aload_n (pc := 127) dX0_copy_127 rfl rfl ?_
  refine r_gRs (b := x1 + 8) (pc := 128) dX0_copy_128 fw_X0_33 rfl (ok0 hx1) (ok0_10 hx1).1 ?_
  refine r_iconst (pc := 131) dX0_copy_131 ?_
  refine r_aload_n (pc := 132) dX0_copy_132 rfl rfl ?_
  refine r_gRs (b := a0 + 8) (pc := 133) dX0_copy_133 fw_X0_33 rfl (ok0 ha0) (ok0_10 ha0).1 ?_
  refine r_iconst (pc := 136) dX0_copy_136 ?_
  refine r_iconst (pc := 137) dX0_copy_137 ?_
  refine r_copys (pc := 138) h dX0_copy_138 yw_X0_71 (Nat.le_of_ble_eq_true rfl) (Nat.le_of_ble_eq_true rfl) (ok0_10 hx1).2 (ok0_10 ha0).2 (fun V11 h => ?_)
  refine r_aload_n (pc := 141) dX0_copy_141 rfl rfl ?_
  refine r_gRs (b := x1 + 9) (pc := 142) dX0_copy_142 fw_X0_36 rfl (ok0 hx1) (ok0_11 hx1).1 ?_
  refine r_iconst (pc := 145) dX0_copy_145 ?_
  refine r_aload_n (pc := 146) dX0_copy_146 rfl rfl ?_
  refine r_gRs (b := a0 + 9) (pc := 147) dX0_copy_147 fw_X0_36 rfl (ok0 ha0) (ok0_11 ha0).1 ?_
  refine r_iconst (pc := 150) dX0_copy_150 ?_
  refine r_bipush (pc := 151) dX0_copy_151 ⟨by decide, by decide⟩ ?_
  refine r_copys (pc := 153) h dX0_copy_153 yw_X0_71 (Nat.le_of_ble_eq_true rfl) (Nat.le_of_ble_eq_true rfl) (ok0_11 hx1).2 (ok0_11 ha0).2 (fun V12 h => ?_)
  refine r_aload_n (pc := 156) dX0_copy_156 rfl rfl ?_
  refine r_gRs (b := x1 + 10) (pc := 157) dX0_copy_157 fw_X0_39 rfl (ok0 hx1) (ok0_12 hx1).1 ?_
  refine r_iconst (pc := 160) dX0_copy_160 ?_
  refine r_aload_n (pc := 161) dX0_copy_161 rfl rfl ?_
  refine r_gRs (b := a0 + 10) (pc := 162) dX0_copy_162 fw_X0_39 rfl (ok0 ha0) (ok0_12 ha0).1 ?_
  refine r_iconst (pc := 165) dX0_copy_165 ?_
  refine r_bipush (pc := 166) dX0_copy_166 ⟨by decide, by decide⟩ ?_
  refine r_copys (pc := 168) h dX0_copy_168 yw_X0_71 (Nat.le_of_ble_eq_true rfl) (Nat.le_of_ble_eq_true rfl) (ok0_12 hx1).2 (ok0_12 ha0).2 (fun V13 h => ?_)
  refine r_aload_n (pc := 171) dX0_copy_171 rfl rfl ?_
  refine r_gRs (b := x1 + 11) (pc := 172) dX0_copy_172 fw_X0_42 rfl (ok0 hx1) (ok0_13 hx1).1 ?_
  refine r_iconst (pc := 175) dX0_copy_175 ?_
  refine r_aload_n (pc := 176) dX0_copy_176 rfl rfl ?_
  refine r_gRs (b := a0 + 11) (pc := 177) dX0_copy_177 fw_X0_42 rfl (ok0 ha0) (ok0_13 ha0).1 ?_
  refine r_iconst (pc := 180) dX0_copy_180 ?_
  refine r_bipush (pc := 181) dX0_copy_181 ⟨by decide, by decide⟩ ?_
  refine r_copys (pc := 183) h dX0_copy_183 yw_X0_71 (Nat.le_of_ble_eq_true rfl) (Nat.le_of_ble_eq_true rfl) (ok0_13 hx1).2 (ok0_13 ha0).2 (fun V14 h => ?_)
  refine r_aload_n (pc := 186) dX0_copy_186 rfl rfl ?_
  refine r_gRs (b := a0 + 12) (pc := 187) dX0_copy_187 fw_X0_48 rfl (ok0 ha0) (ok0_14 ha0).1 ?_
  refine r_aload_n (pc := 190) dX0_copy_190 rfl rfl ?_
  refine r_gRs (b := x1 + 12) (pc := 191) dX0_copy_191 fw_X0_48 rfl (ok0 hx1) (ok0_14 hx1).1 ?_
  refine r_callVs (pc := 194) (fun _ => none) (As := [sj_r (some (x1 + 12))]) (rest := []) (b := (a0 + 12)) (ok5 (ok0_14 ha0).2) h dX0_copy_194 mw_X0_77 vw_X5_copy (fun _ _ hc => cg_X5_copy (ok0_14 ha0).2 (ok0_14 hx1).2 hc) rfl ⟨(Nat.le_of_ble_eq_true rfl), (Nat.le_of_ble_eq_true rfl)⟩ (Nat.le_of_ble_eq_true rfl) rfl (fun _u V15 h => ?_)
  exact r_vrets (pc := 197) h rfl dX0_copy_197
set_option maxHeartbeats 4000000 in
theorem cg_X0_copy {X : sj_X} {g : sj_G} {N : Nat} {a0 : Nat} {x1 : Nat} {V : sj_VV} {q : Unit × sj_VV} (ha0 : OK0 g a0) (hx1 : OK0 g x1) (h : g_X0_copy N a0 x1 V = some q) : sj_C X m_X0_copy [sj_r (some a0), sj_r (some x1)] (g, V) (none, (g, q.2)) :=
  sj_C_of (by decide +kernel) (Nat.le_of_ble_eq_true rfl) (lo := [some (sj_r (some a0)), some (sj_r (some x1))]) rfl (sj_weak (l2 := [some (sj_r (some a0)), some (sj_r (some x1))]) (⟨rfl, ⟨rfl, trivial⟩⟩) (st_X0_copy_0 a0 x1 V ha0 hx1 h))
set_option maxHeartbeats 4000000 in
theorem c_X0_copy {X : sj_X} {N : Nat} {a0 : Nat} {x1 : Option Nat} {s : sj_Mem} {q : Unit × sj_Mem} (h : f_X0_copy N a0 x1 s = some q) : sj_C X m_X0_copy [sj_r (some a0), sj_r x1] s (none, q.2) := by
  obtain ⟨g, V⟩ := s
  unfold f_X0_copy at h
  obtain ⟨ho, h1⟩ := e_ok_some h
  obtain ⟨q2, h2, rfl⟩ := sj_map_some h1
  obtain ⟨z1, hz1⟩ : ∃ z, x1 = some z := ⟨_, ho.2.1⟩
  subst hz1
  exact cg_X0_copy ho.1 ho.2.2 h2
theorem dX0_hasColumn_0 : decode cX0_hasColumn 0 = .ok (.iload_n 1, 1) := by decide +kernel
theorem dX0_hasColumn_1 : decode cX0_hasColumn 1 = .ok (.ifCond .lt 15, 3) := by decide +kernel
theorem dX0_hasColumn_4 : decode cX0_hasColumn 4 = .ok (.iload_n 1, 1) := by decide +kernel
theorem dX0_hasColumn_5 : decode cX0_hasColumn 5 = .ok (.aload_n 0, 1) := by decide +kernel
theorem dX0_hasColumn_6 : decode cX0_hasColumn 6 = .ok (.getfield 52, 3) := by decide +kernel
theorem dX0_hasColumn_9 : decode cX0_hasColumn 9 = .ok (.if_icmp .gt 7, 3) := by decide +kernel
theorem dX0_hasColumn_12 : decode cX0_hasColumn 12 = .ok (.iconst 1, 1) := by decide +kernel
theorem dX0_hasColumn_13 : decode cX0_hasColumn 13 = .ok (.goto 4, 3) := by decide +kernel
theorem dX0_hasColumn_16 : decode cX0_hasColumn 16 = .ok (.iconst 0, 1) := by decide +kernel
theorem dX0_hasColumn_17 : decode cX0_hasColumn 17 = .ok (.ireturn, 1) := by decide +kernel
set_option maxHeartbeats 4000000 in
theorem st_X0_hasColumn_0 {X : sj_X} {g : sj_G} {s0 : sj_Mem} {N : Nat} {q : Int × sj_VV} :
    ∀ (a0 : Nat) (x1 : Int) (V : sj_VV), OK0 g a0 → g_X0_hasColumn N a0 x1 V = some q → sj_T X m_X0_hasColumn s0 (some (sj_i q.1), (g, q.2)) 0 [some (sj_r (some a0)), some (sj_i x1)] [] (g, V) := by
  intro a0 x1 V ha0 h
  unfold g_X0_hasColumn at h
  refine r_iload_n (pc := 0) dX0_hasColumn_0 rfl rfl ?_
  refine r_if_lt (pc := 1) (tgt := 16) h dX0_hasColumn_1 (by decide) (fun h => ?_) (fun h => ?_)
  · refine r_iconst (pc := 16) dX0_hasColumn_16 ?_
    exact r_zrets (pc := 17) h rfl dX0_hasColumn_17
  · refine r_iload_n (pc := 4) dX0_hasColumn_4 rfl rfl ?_
    refine r_aload_n (pc := 5) dX0_hasColumn_5 rfl rfl ?_
    refine r_gIs (pc := 6) dX0_hasColumn_6 fw_X0_52 rfl (ok0 ha0) ?_
    refine r_icmp_gt (pc := 9) (tgt := 16) h dX0_hasColumn_9 (by decide) (fun h => ?_) (fun h => ?_)
    · refine r_iconst (pc := 16) dX0_hasColumn_16 ?_
      exact r_zrets (pc := 17) h rfl dX0_hasColumn_17
    · refine r_iconst (pc := 12) dX0_hasColumn_12 ?_
      refine r_goto (pc := 13) (tgt := 17) dX0_hasColumn_13 (by decide) ?_
      exact r_zrets (pc := 17) h rfl dX0_hasColumn_17
set_option maxHeartbeats 4000000 in
theorem cg_X0_hasColumn {X : sj_X} {g : sj_G} {N : Nat} {a0 : Nat} {x1 : Int} {V : sj_VV} {q : Int × sj_VV} (ha0 : OK0 g a0) (h : g_X0_hasColumn N a0 x1 V = some q) : sj_C X m_X0_hasColumn [sj_r (some a0), sj_i x1] (g, V) (some (sj_i q.1), (g, q.2)) :=
  sj_C_of (by decide +kernel) (Nat.le_of_ble_eq_true rfl) (lo := [some (sj_r (some a0)), some (sj_i x1)]) rfl (sj_weak (l2 := [some (sj_r (some a0)), some (sj_i x1)]) (⟨rfl, ⟨rfl, trivial⟩⟩) (st_X0_hasColumn_0 a0 x1 V ha0 h))
set_option maxHeartbeats 4000000 in
theorem c_X0_hasColumn {X : sj_X} {N : Nat} {a0 : Nat} {x1 : Int} {s : sj_Mem} {q : Int × sj_Mem} (h : f_X0_hasColumn N a0 x1 s = some q) : sj_C X m_X0_hasColumn [sj_r (some a0), sj_i x1] s (some (sj_i q.1), q.2) := by
  obtain ⟨g, V⟩ := s
  unfold f_X0_hasColumn at h
  obtain ⟨ho, h1⟩ := e_ok_some h
  obtain ⟨q2, h2, rfl⟩ := sj_map_some h1
  exact cg_X0_hasColumn ho h2
theorem dX0_canLower_0 : decode cX0_canLower 0 = .ok (.aload_n 0, 1) := by decide +kernel
theorem dX0_canLower_1 : decode cX0_canLower 1 = .ok (.iload_n 1, 1) := by decide +kernel
theorem dX0_canLower_2 : decode cX0_canLower 2 = .ok (.invokevirtual 81, 3) := by decide +kernel
theorem dX0_canLower_5 : decode cX0_canLower 5 = .ok (.ifCond .eq 7, 3) := by decide +kernel
theorem dX0_canLower_8 : decode cX0_canLower 8 = .ok (.iload_n 2, 1) := by decide +kernel
theorem dX0_canLower_9 : decode cX0_canLower 9 = .ok (.ifCond .ne 5, 3) := by decide +kernel
theorem dX0_canLower_12 : decode cX0_canLower 12 = .ok (.iconst 0, 1) := by decide +kernel
theorem dX0_canLower_13 : decode cX0_canLower 13 = .ok (.ireturn, 1) := by decide +kernel
theorem dX0_canLower_14 : decode cX0_canLower 14 = .ok (.aload_n 0, 1) := by decide +kernel
theorem dX0_canLower_15 : decode cX0_canLower 15 = .ok (.getfield 9, 3) := by decide +kernel
theorem dX0_canLower_18 : decode cX0_canLower 18 = .ok (.iload_n 1, 1) := by decide +kernel
theorem dX0_canLower_19 : decode cX0_canLower 19 = .ok (.iaload, 1) := by decide +kernel
theorem dX0_canLower_20 : decode cX0_canLower 20 = .ok (.i2l, 1) := by decide +kernel
theorem dX0_canLower_21 : decode cX0_canLower 21 = .ok (.iload_n 2, 1) := by decide +kernel
theorem dX0_canLower_22 : decode cX0_canLower 22 = .ok (.i2l, 1) := by decide +kernel
theorem dX0_canLower_23 : decode cX0_canLower 23 = .ok (.lsub, 1) := by decide +kernel
theorem dX0_canLower_24 : decode cX0_canLower 24 = .ok (.lstore_n 3, 1) := by decide +kernel
theorem dX0_canLower_25 : decode cX0_canLower 25 = .ok (.lload_n 3, 1) := by decide +kernel
theorem dX0_canLower_26 : decode cX0_canLower 26 = .ok (.aload_n 0, 1) := by decide +kernel
theorem dX0_canLower_27 : decode cX0_canLower 27 = .ok (.getfield 15, 3) := by decide +kernel
theorem dX0_canLower_30 : decode cX0_canLower 30 = .ok (.iload_n 1, 1) := by decide +kernel
theorem dX0_canLower_31 : decode cX0_canLower 31 = .ok (.iaload, 1) := by decide +kernel
theorem dX0_canLower_32 : decode cX0_canLower 32 = .ok (.i2l, 1) := by decide +kernel
theorem dX0_canLower_33 : decode cX0_canLower 33 = .ok (.lcmp, 1) := by decide +kernel
theorem dX0_canLower_34 : decode cX0_canLower 34 = .ok (.ifCond .lt 15, 3) := by decide +kernel
theorem dX0_canLower_37 : decode cX0_canLower 37 = .ok (.lload_n 3, 1) := by decide +kernel
theorem dX0_canLower_38 : decode cX0_canLower 38 = .ok (.ldc2_w 85, 3) := by decide +kernel
theorem dX0_canLower_41 : decode cX0_canLower 41 = .ok (.lcmp, 1) := by decide +kernel
theorem dX0_canLower_42 : decode cX0_canLower 42 = .ok (.ifCond .gt 7, 3) := by decide +kernel
theorem dX0_canLower_45 : decode cX0_canLower 45 = .ok (.iconst 1, 1) := by decide +kernel
theorem dX0_canLower_46 : decode cX0_canLower 46 = .ok (.goto 4, 3) := by decide +kernel
theorem dX0_canLower_49 : decode cX0_canLower 49 = .ok (.iconst 0, 1) := by decide +kernel
theorem dX0_canLower_50 : decode cX0_canLower 50 = .ok (.ireturn, 1) := by decide +kernel
set_option maxHeartbeats 4000000 in
theorem st_X0_canLower_0 {X : sj_X} {g : sj_G} {s0 : sj_Mem} {N : Nat} {q : Int × sj_VV} :
    ∀ (a0 : Nat) (x1 : Int) (x2 : Int) (V : sj_VV), OK0 g a0 → g_X0_canLower N a0 x1 x2 V = some q → sj_T X m_X0_canLower s0 (some (sj_i q.1), (g, q.2)) 0 [some (sj_r (some a0)), some (sj_i x1), some (sj_i x2), none, none] [] (g, V) := by
  intro a0 x1 x2 V ha0 h
  unfold g_X0_canLower at h
  refine r_aload_n (pc := 0) dX0_canLower_0 rfl rfl ?_
  refine r_iload_n (pc := 1) dX0_canLower_1 rfl rfl ?_
  refine r_callVs (pc := 2) (fun v => some (sj_i v)) (As := [sj_i x1]) (rest := []) (b := a0) (ok0 ha0) h dX0_canLower_2 mw_X0_81 vw_X0_hasColumn (fun _ _ hc => cg_X0_hasColumn ha0 hc) rfl ⟨(Nat.le_of_ble_eq_true rfl), (Nat.le_of_ble_eq_true rfl)⟩ (Nat.le_of_ble_eq_true rfl) rfl (fun v2 V1 h => ?_)
  refine r_if_eq (pc := 5) (tgt := 12) h dX0_canLower_5 (by decide) (fun h => ?_) (fun h => ?_)
  · refine r_iconst (pc := 12) dX0_canLower_12 ?_
    exact r_zrets (pc := 13) h rfl dX0_canLower_13
  · refine r_iload_n (pc := 8) dX0_canLower_8 rfl rfl ?_
    refine r_if_ne (pc := 9) (tgt := 14) h dX0_canLower_9 (by decide) (fun h => ?_) (fun h => ?_)
    · refine r_iconst (pc := 12) dX0_canLower_12 ?_
      exact r_zrets (pc := 13) h rfl dX0_canLower_13
    · refine r_aload_n (pc := 14) dX0_canLower_14 rfl rfl ?_
      refine r_gRs (b := a0 + 1) (pc := 15) dX0_canLower_15 fw_X0_9 rfl (ok0 ha0) (ok0_3 ha0).1 ?_
      refine r_iload_n (pc := 18) dX0_canLower_18 rfl rfl ?_
      refine r_ialoads (pc := 19) h dX0_canLower_19 (ok0_3 ha0).2 (fun h => ?_)
      refine r_i2l (pc := 20) h dX0_canLower_20 (fun v3 h => ?_)
      refine r_iload_n (pc := 21) dX0_canLower_21 rfl rfl ?_
      refine r_i2l (pc := 22) h dX0_canLower_22 (fun v4 h => ?_)
      refine r_lsub (pc := 23) dX0_canLower_23 ?_
      refine r_lstore_nL (ln := fun w => [some (sj_r (some a0)), some (sj_i x1), some (sj_i x2), some (sj_j w), none]) (pc := 24) h dX0_canLower_24 rfl (Nat.le_of_ble_eq_true rfl) (fun _ => rfl) (fun v5 h => ?_)
      refine r_lload_n (pc := 25) dX0_canLower_25 rfl rfl ?_
      refine r_aload_n (pc := 26) dX0_canLower_26 rfl rfl ?_
      refine r_gRs (b := a0 + 2) (pc := 27) dX0_canLower_27 fw_X0_15 rfl (ok0 ha0) (ok0_4 ha0).1 ?_
      refine r_iload_n (pc := 30) dX0_canLower_30 rfl rfl ?_
      refine r_ialoads (pc := 31) h dX0_canLower_31 (ok0_4 ha0).2 (fun h => ?_)
      refine r_i2l (pc := 32) h dX0_canLower_32 (fun v6 h => ?_)
      refine r_llt (pc := 33) (tgt := 49) h dX0_canLower_33 rfl dX0_canLower_34 (by decide) (fun h => ?_) (fun h => ?_)
      · refine r_iconst (pc := 49) dX0_canLower_49 ?_
        exact r_zrets (pc := 50) h rfl dX0_canLower_50
      · refine r_lload_n (pc := 37) dX0_canLower_37 rfl rfl ?_
        refine r_ldc2 (n := 100) (pc := 38) dX0_canLower_38 kc_X0_85 ?_
        refine r_lgt (pc := 41) (tgt := 49) h dX0_canLower_41 rfl dX0_canLower_42 (by decide) (fun h => ?_) (fun h => ?_)
        · refine r_iconst (pc := 49) dX0_canLower_49 ?_
          exact r_zrets (pc := 50) h rfl dX0_canLower_50
        · refine r_iconst (pc := 45) dX0_canLower_45 ?_
          refine r_goto (pc := 46) (tgt := 50) dX0_canLower_46 (by decide) ?_
          exact r_zrets (pc := 50) h rfl dX0_canLower_50
set_option maxHeartbeats 4000000 in
theorem cg_X0_canLower {X : sj_X} {g : sj_G} {N : Nat} {a0 : Nat} {x1 : Int} {x2 : Int} {V : sj_VV} {q : Int × sj_VV} (ha0 : OK0 g a0) (h : g_X0_canLower N a0 x1 x2 V = some q) : sj_C X m_X0_canLower [sj_r (some a0), sj_i x1, sj_i x2] (g, V) (some (sj_i q.1), (g, q.2)) :=
  sj_C_of (by decide +kernel) (Nat.le_of_ble_eq_true rfl) (lo := [some (sj_r (some a0)), some (sj_i x1), some (sj_i x2), none, none]) rfl (sj_weak (l2 := [some (sj_r (some a0)), some (sj_i x1), some (sj_i x2), none, none]) (⟨rfl, ⟨rfl, ⟨rfl, trivial⟩⟩⟩) (st_X0_canLower_0 a0 x1 x2 V ha0 h))
set_option maxHeartbeats 4000000 in
theorem c_X0_canLower {X : sj_X} {N : Nat} {a0 : Nat} {x1 : Int} {x2 : Int} {s : sj_Mem} {q : Int × sj_Mem} (h : f_X0_canLower N a0 x1 x2 s = some q) : sj_C X m_X0_canLower [sj_r (some a0), sj_i x1, sj_i x2] s (some (sj_i q.1), q.2) := by
  obtain ⟨g, V⟩ := s
  unfold f_X0_canLower at h
  obtain ⟨ho, h1⟩ := e_ok_some h
  obtain ⟨q2, h2, rfl⟩ := sj_map_some h1
  exact cg_X0_canLower ho h2
theorem dX0_rockIsBelow_0 : decode cX0_rockIsBelow 0 = .ok (.iconst 0, 1) := by decide +kernel
theorem dX0_rockIsBelow_1 : decode cX0_rockIsBelow 1 = .ok (.istore_n 1, 1) := by decide +kernel
theorem dX0_rockIsBelow_2 : decode cX0_rockIsBelow 2 = .ok (.iload_n 1, 1) := by decide +kernel
theorem dX0_rockIsBelow_3 : decode cX0_rockIsBelow 3 = .ok (.aload_n 0, 1) := by decide +kernel
theorem dX0_rockIsBelow_4 : decode cX0_rockIsBelow 4 = .ok (.getfield 52, 3) := by decide +kernel
theorem dX0_rockIsBelow_7 : decode cX0_rockIsBelow 7 = .ok (.if_icmp .gt 26, 3) := by decide +kernel
theorem dX0_rockIsBelow_10 : decode cX0_rockIsBelow 10 = .ok (.aload_n 0, 1) := by decide +kernel
theorem dX0_rockIsBelow_11 : decode cX0_rockIsBelow 11 = .ok (.getfield 15, 3) := by decide +kernel
theorem dX0_rockIsBelow_14 : decode cX0_rockIsBelow 14 = .ok (.iload_n 1, 1) := by decide +kernel
theorem dX0_rockIsBelow_15 : decode cX0_rockIsBelow 15 = .ok (.iaload, 1) := by decide +kernel
theorem dX0_rockIsBelow_16 : decode cX0_rockIsBelow 16 = .ok (.aload_n 0, 1) := by decide +kernel
theorem dX0_rockIsBelow_17 : decode cX0_rockIsBelow 17 = .ok (.getfield 9, 3) := by decide +kernel
theorem dX0_rockIsBelow_20 : decode cX0_rockIsBelow 20 = .ok (.iload_n 1, 1) := by decide +kernel
theorem dX0_rockIsBelow_21 : decode cX0_rockIsBelow 21 = .ok (.iaload, 1) := by decide +kernel
theorem dX0_rockIsBelow_22 : decode cX0_rockIsBelow 22 = .ok (.if_icmp .le 5, 3) := by decide +kernel
theorem dX0_rockIsBelow_25 : decode cX0_rockIsBelow 25 = .ok (.iconst 0, 1) := by decide +kernel
theorem dX0_rockIsBelow_26 : decode cX0_rockIsBelow 26 = .ok (.ireturn, 1) := by decide +kernel
theorem dX0_rockIsBelow_27 : decode cX0_rockIsBelow 27 = .ok (.iinc 1 1, 3) := by decide +kernel
theorem dX0_rockIsBelow_30 : decode cX0_rockIsBelow 30 = .ok (.goto (-28), 3) := by decide +kernel
theorem dX0_rockIsBelow_33 : decode cX0_rockIsBelow 33 = .ok (.iconst 1, 1) := by decide +kernel
theorem dX0_rockIsBelow_34 : decode cX0_rockIsBelow 34 = .ok (.ireturn, 1) := by decide +kernel
set_option maxHeartbeats 4000000 in
theorem st_X0_rockIsBelow_2_b {X : sj_X} {g : sj_G} {s0 : sj_Mem} {N : Nat} {q : Int × sj_VV} {k2 : Nat → Int → sj_VV → Option (Int × sj_VV)} (hk2 : ∀ (a0 : Nat) (x1 : Int) (V : sj_VV), OK0 g a0 → k2 a0 x1 V = some q → sj_T X m_X0_rockIsBelow s0 (some (sj_i q.1), (g, q.2)) 2 [some (sj_r (some a0)), some (sj_i x1)] [] (g, V)) :
    ∀ (a0 : Nat) (x1 : Int) (V : sj_VV), OK0 g a0 → g_X0_rockIsBelow_2_b N k2 a0 x1 V = some q → sj_T X m_X0_rockIsBelow s0 (some (sj_i q.1), (g, q.2)) 2 [some (sj_r (some a0)), some (sj_i x1)] [] (g, V) := by
  intro a0 x1 V ha0 h
  unfold g_X0_rockIsBelow_2_b at h
  refine r_iload_n (pc := 2) dX0_rockIsBelow_2 rfl rfl ?_
  refine r_aload_n (pc := 3) dX0_rockIsBelow_3 rfl rfl ?_
  refine r_gIs (pc := 4) dX0_rockIsBelow_4 fw_X0_52 rfl (ok0 ha0) ?_
  refine r_icmp_gt (pc := 7) (tgt := 33) h dX0_rockIsBelow_7 (by decide) (fun h => ?_) (fun h => ?_)
  · refine r_iconst (pc := 33) dX0_rockIsBelow_33 ?_
    exact r_zrets (pc := 34) h rfl dX0_rockIsBelow_34
  · refine r_aload_n (pc := 10) dX0_rockIsBelow_10 rfl rfl ?_
    refine r_gRs (b := a0 + 2) (pc := 11) dX0_rockIsBelow_11 fw_X0_15 rfl (ok0 ha0) (ok0_4 ha0).1 ?_
    refine r_iload_n (pc := 14) dX0_rockIsBelow_14 rfl rfl ?_
    refine r_ialoads (pc := 15) h dX0_rockIsBelow_15 (ok0_4 ha0).2 (fun h => ?_)
    refine r_aload_n (pc := 16) dX0_rockIsBelow_16 rfl rfl ?_
    refine r_gRs (b := a0 + 1) (pc := 17) dX0_rockIsBelow_17 fw_X0_9 rfl (ok0 ha0) (ok0_3 ha0).1 ?_
    refine r_iload_n (pc := 20) dX0_rockIsBelow_20 rfl rfl ?_
    refine r_ialoads (pc := 21) h dX0_rockIsBelow_21 (ok0_3 ha0).2 (fun h => ?_)
    refine r_icmp_le (pc := 22) (tgt := 27) h dX0_rockIsBelow_22 (by decide) (fun h => ?_) (fun h => ?_)
    · refine r_iinc (ln := fun w => [some (sj_r (some a0)), some (sj_i w)]) (pc := 27) h dX0_rockIsBelow_27 rfl (Nat.le_of_ble_eq_true rfl) (fun _ => rfl) (fun v1 h => ?_)
      refine r_goto (pc := 30) (tgt := 2) dX0_rockIsBelow_30 (by decide) ?_
      exact sj_weak (l2 := [some (sj_r (some a0)), some (sj_i v1)]) (⟨rfl, ⟨rfl, trivial⟩⟩) (hk2 a0 v1 V ha0 h)
    · refine r_iconst (pc := 25) dX0_rockIsBelow_25 ?_
      exact r_zrets (pc := 26) h rfl dX0_rockIsBelow_26
set_option maxHeartbeats 4000000 in
theorem st_X0_rockIsBelow_2 {X : sj_X} {g : sj_G} {s0 : sj_Mem} {N : Nat} {q : Int × sj_VV} :
    ∀ (n : Nat) (a0 : Nat) (x1 : Int) (V : sj_VV), OK0 g a0 → g_X0_rockIsBelow_2 N n a0 x1 V = some q → sj_T X m_X0_rockIsBelow s0 (some (sj_i q.1), (g, q.2)) 2 [some (sj_r (some a0)), some (sj_i x1)] [] (g, V) := by
  intro n
  induction n with
  | zero => intro a0 x1 V ha0 h; exact nomatch h
  | succ n ih => intro a0 x1 V ha0 h; exact st_X0_rockIsBelow_2_b (N := N) ih a0 x1 V ha0 h
set_option maxHeartbeats 4000000 in
theorem st_X0_rockIsBelow_0 {X : sj_X} {g : sj_G} {s0 : sj_Mem} {N : Nat} {q : Int × sj_VV} :
    ∀ (a0 : Nat) (V : sj_VV), OK0 g a0 → g_X0_rockIsBelow N a0 V = some q → sj_T X m_X0_rockIsBelow s0 (some (sj_i q.1), (g, q.2)) 0 [some (sj_r (some a0)), none] [] (g, V) := by
  intro a0 V ha0 h
  unfold g_X0_rockIsBelow at h
  refine r_iconst (pc := 0) dX0_rockIsBelow_0 ?_
  refine r_istore_n (ln := [some (sj_r (some a0)), some (sj_i 0)]) (pc := 1) dX0_rockIsBelow_1 rfl (Nat.le_of_ble_eq_true rfl) rfl ?_
  exact sj_weak (l2 := [some (sj_r (some a0)), some (sj_i 0)]) (⟨rfl, ⟨rfl, trivial⟩⟩) (st_X0_rockIsBelow_2 N a0 0 V ha0 h)
set_option maxHeartbeats 4000000 in
theorem cg_X0_rockIsBelow {X : sj_X} {g : sj_G} {N : Nat} {a0 : Nat} {V : sj_VV} {q : Int × sj_VV} (ha0 : OK0 g a0) (h : g_X0_rockIsBelow N a0 V = some q) : sj_C X m_X0_rockIsBelow [sj_r (some a0)] (g, V) (some (sj_i q.1), (g, q.2)) :=
  sj_C_of (by decide +kernel) (Nat.le_of_ble_eq_true rfl) (lo := [some (sj_r (some a0)), none]) rfl (sj_weak (l2 := [some (sj_r (some a0)), none]) (⟨rfl, trivial⟩) (st_X0_rockIsBelow_0 a0 V ha0 h))
set_option maxHeartbeats 4000000 in
theorem c_X0_rockIsBelow {X : sj_X} {N : Nat} {a0 : Nat} {s : sj_Mem} {q : Int × sj_Mem} (h : f_X0_rockIsBelow N a0 s = some q) : sj_C X m_X0_rockIsBelow [sj_r (some a0)] s (some (sj_i q.1), q.2) := by
  obtain ⟨g, V⟩ := s
  unfold f_X0_rockIsBelow at h
  obtain ⟨ho, h1⟩ := e_ok_some h
  obtain ⟨q2, h2, rfl⟩ := sj_map_some h1
  exact cg_X0_rockIsBelow ho h2
theorem dX0_waterAt_0 : decode cX0_waterAt 0 = .ok (.aload_n 0, 1) := by decide +kernel
theorem dX0_waterAt_1 : decode cX0_waterAt 1 = .ok (.getfield 18, 3) := by decide +kernel
theorem dX0_waterAt_4 : decode cX0_waterAt 4 = .ok (.iload_n 1, 1) := by decide +kernel
theorem dX0_waterAt_5 : decode cX0_waterAt 5 = .ok (.iaload, 1) := by decide +kernel
theorem dX0_waterAt_6 : decode cX0_waterAt 6 = .ok (.aload_n 0, 1) := by decide +kernel
theorem dX0_waterAt_7 : decode cX0_waterAt 7 = .ok (.getfield 9, 3) := by decide +kernel
theorem dX0_waterAt_10 : decode cX0_waterAt 10 = .ok (.iload_n 1, 1) := by decide +kernel
theorem dX0_waterAt_11 : decode cX0_waterAt 11 = .ok (.iaload, 1) := by decide +kernel
theorem dX0_waterAt_12 : decode cX0_waterAt 12 = .ok (.invokestatic 87, 3) := by decide +kernel
theorem dX0_waterAt_15 : decode cX0_waterAt 15 = .ok (.ireturn, 1) := by decide +kernel
set_option maxHeartbeats 4000000 in
theorem st_X0_waterAt_0 {X : sj_X} {g : sj_G} {s0 : sj_Mem} {N : Nat} {q : Int × sj_VV} :
    ∀ (a0 : Nat) (x1 : Int) (V : sj_VV), OK0 g a0 → g_X0_waterAt N a0 x1 V = some q → sj_T X m_X0_waterAt s0 (some (sj_i q.1), (g, q.2)) 0 [some (sj_r (some a0)), some (sj_i x1)] [] (g, V) := by
  intro a0 x1 V ha0 h
  unfold g_X0_waterAt at h
  refine r_aload_n (pc := 0) dX0_waterAt_0 rfl rfl ?_
  refine r_gRs (b := a0 + 3) (pc := 1) dX0_waterAt_1 fw_X0_18 rfl (ok0 ha0) (ok0_5 ha0).1 ?_
  refine r_iload_n (pc := 4) dX0_waterAt_4 rfl rfl ?_
  refine r_ialoads (pc := 5) h dX0_waterAt_5 (ok0_5 ha0).2 (fun h => ?_)
  refine r_aload_n (pc := 6) dX0_waterAt_6 rfl rfl ?_
  refine r_gRs (b := a0 + 1) (pc := 7) dX0_waterAt_7 fw_X0_9 rfl (ok0 ha0) (ok0_3 ha0).1 ?_
  refine r_iload_n (pc := 10) dX0_waterAt_10 rfl rfl ?_
  refine r_ialoads (pc := 11) h dX0_waterAt_11 (ok0_3 ha0).2 (fun h => ?_)
  refine r_mmin (pc := 12) h dX0_waterAt_12 mx_X0_87 (Nat.le_of_ble_eq_true rfl) (Nat.le_of_ble_eq_true rfl) (fun v1 h => ?_)
  exact r_irets (pc := 15) h rfl dX0_waterAt_15
set_option maxHeartbeats 4000000 in
theorem cg_X0_waterAt {X : sj_X} {g : sj_G} {N : Nat} {a0 : Nat} {x1 : Int} {V : sj_VV} {q : Int × sj_VV} (ha0 : OK0 g a0) (h : g_X0_waterAt N a0 x1 V = some q) : sj_C X m_X0_waterAt [sj_r (some a0), sj_i x1] (g, V) (some (sj_i q.1), (g, q.2)) :=
  sj_C_of (by decide +kernel) (Nat.le_of_ble_eq_true rfl) (lo := [some (sj_r (some a0)), some (sj_i x1)]) rfl (sj_weak (l2 := [some (sj_r (some a0)), some (sj_i x1)]) (⟨rfl, ⟨rfl, trivial⟩⟩) (st_X0_waterAt_0 a0 x1 V ha0 h))
set_option maxHeartbeats 4000000 in
theorem c_X0_waterAt {X : sj_X} {N : Nat} {a0 : Nat} {x1 : Int} {s : sj_Mem} {q : Int × sj_Mem} (h : f_X0_waterAt N a0 x1 s = some q) : sj_C X m_X0_waterAt [sj_r (some a0), sj_i x1] s (some (sj_i q.1), q.2) := by
  obtain ⟨g, V⟩ := s
  unfold f_X0_waterAt at h
  obtain ⟨ho, h1⟩ := e_ok_some h
  obtain ⟨q2, h2, rfl⟩ := sj_map_some h1
  exact cg_X0_waterAt ho h2
theorem dX8_topPlace_0 : decode cX8_topPlace 0 = .ok (.iload_n 0, 1) := by decide +kernel
theorem dX8_topPlace_1 : decode cX8_topPlace 1 = .ok (.iconst 1, 1) := by decide +kernel
theorem dX8_topPlace_2 : decode cX8_topPlace 2 = .ok (.isub, 1) := by decide +kernel
theorem dX8_topPlace_3 : decode cX8_topPlace 3 = .ok (.bipush 41, 2) := by decide +kernel
theorem dX8_topPlace_5 : decode cX8_topPlace 5 = .ok (.imul, 1) := by decide +kernel
theorem dX8_topPlace_6 : decode cX8_topPlace 6 = .ok (.iload_n 1, 1) := by decide +kernel
theorem dX8_topPlace_7 : decode cX8_topPlace 7 = .ok (.iadd, 1) := by decide +kernel
theorem dX8_topPlace_8 : decode cX8_topPlace 8 = .ok (.ireturn, 1) := by decide +kernel
set_option maxHeartbeats 4000000 in
theorem st_X8_topPlace_0 {X : sj_X} {g : sj_G} {s0 : sj_Mem} {N : Nat} {q : Int × sj_VV} :
    ∀ (x0 : Int) (x1 : Int) (V : sj_VV), g_X8_topPlace N x0 x1 V = some q → sj_T X m_X8_topPlace s0 (some (sj_i q.1), (g, q.2)) 0 [some (sj_i x0), some (sj_i x1)] [] (g, V) := by
  intro x0 x1 V  h
  unfold g_X8_topPlace at h
  refine r_iload_n (pc := 0) dX8_topPlace_0 rfl rfl ?_
  refine r_iconst (pc := 1) dX8_topPlace_1 ?_
  refine r_isub (pc := 2) dX8_topPlace_2 ?_
  refine r_bipush (pc := 3) dX8_topPlace_3 ⟨by decide, by decide⟩ ?_
  refine r_imul (pc := 5) dX8_topPlace_5 ?_
  refine r_iload_n (pc := 6) dX8_topPlace_6 rfl rfl ?_
  refine r_iadd (pc := 7) dX8_topPlace_7 ?_
  exact r_irets (pc := 8) h rfl dX8_topPlace_8
set_option maxHeartbeats 4000000 in
theorem cg_X8_topPlace {X : sj_X} {g : sj_G} {N : Nat} {x0 : Int} {x1 : Int} {V : sj_VV} {q : Int × sj_VV} (h : g_X8_topPlace N x0 x1 V = some q) : sj_C X m_X8_topPlace [sj_i x0, sj_i x1] (g, V) (some (sj_i q.1), (g, q.2)) :=
  sj_C_of (by decide +kernel) (Nat.le_of_ble_eq_true rfl) (lo := [some (sj_i x0), some (sj_i x1)]) rfl (sj_weak (l2 := [some (sj_i x0), some (sj_i x1)]) (⟨rfl, ⟨rfl, trivial⟩⟩) (st_X8_topPlace_0 x0 x1 V h))
set_option maxHeartbeats 4000000 in
theorem c_X8_topPlace {X : sj_X} {N : Nat} {x0 : Int} {x1 : Int} {s : sj_Mem} {q : Int × sj_Mem} (h : f_X8_topPlace N x0 x1 s = some q) : sj_C X m_X8_topPlace [sj_i x0, sj_i x1] s (some (sj_i q.1), q.2) := by
  obtain ⟨g, V⟩ := s
  unfold f_X8_topPlace at h
  obtain ⟨ho, h1⟩ := e_ok_some h
  obtain ⟨q2, h2, rfl⟩ := sj_map_some h1
  exact cg_X8_topPlace  h2
theorem dX0_topAt_0 : decode cX0_topAt 0 = .ok (.aload_n 0, 1) := by decide +kernel
theorem dX0_topAt_1 : decode cX0_topAt 1 = .ok (.getfield 9, 3) := by decide +kernel
theorem dX0_topAt_4 : decode cX0_topAt 4 = .ok (.iload_n 2, 1) := by decide +kernel
theorem dX0_topAt_5 : decode cX0_topAt 5 = .ok (.iaload, 1) := by decide +kernel
theorem dX0_topAt_6 : decode cX0_topAt 6 = .ok (.istore_n 3, 1) := by decide +kernel
theorem dX0_topAt_7 : decode cX0_topAt 7 = .ok (.iconst 1, 1) := by decide +kernel
theorem dX0_topAt_8 : decode cX0_topAt 8 = .ok (.istore 4, 2) := by decide +kernel
theorem dX0_topAt_10 : decode cX0_topAt 10 = .ok (.iload 4, 2) := by decide +kernel
theorem dX0_topAt_12 : decode cX0_topAt 12 = .ok (.iload_n 1, 1) := by decide +kernel
theorem dX0_topAt_13 : decode cX0_topAt 13 = .ok (.if_icmp .gt 25, 3) := by decide +kernel
theorem dX0_topAt_16 : decode cX0_topAt 16 = .ok (.iload_n 3, 1) := by decide +kernel
theorem dX0_topAt_17 : decode cX0_topAt 17 = .ok (.aload_n 0, 1) := by decide +kernel
theorem dX0_topAt_18 : decode cX0_topAt 18 = .ok (.getfield 24, 3) := by decide +kernel
theorem dX0_topAt_21 : decode cX0_topAt 21 = .ok (.iload 4, 2) := by decide +kernel
theorem dX0_topAt_23 : decode cX0_topAt 23 = .ok (.iload_n 2, 1) := by decide +kernel
theorem dX0_topAt_24 : decode cX0_topAt 24 = .ok (.invokestatic 93, 3) := by decide +kernel
theorem dX0_topAt_27 : decode cX0_topAt 27 = .ok (.iaload, 1) := by decide +kernel
theorem dX0_topAt_28 : decode cX0_topAt 28 = .ok (.invokestatic 87, 3) := by decide +kernel
theorem dX0_topAt_31 : decode cX0_topAt 31 = .ok (.istore_n 3, 1) := by decide +kernel
theorem dX0_topAt_32 : decode cX0_topAt 32 = .ok (.iinc 4 1, 3) := by decide +kernel
theorem dX0_topAt_35 : decode cX0_topAt 35 = .ok (.goto (-25), 3) := by decide +kernel
theorem dX0_topAt_38 : decode cX0_topAt 38 = .ok (.iload_n 3, 1) := by decide +kernel
theorem dX0_topAt_39 : decode cX0_topAt 39 = .ok (.ireturn, 1) := by decide +kernel
set_option maxHeartbeats 4000000 in
theorem st_X0_topAt_10_b {X : sj_X} {g : sj_G} {s0 : sj_Mem} {N : Nat} {q : Int × sj_VV} {k10 : Nat → Int → Int → Int → Int → sj_VV → Option (Int × sj_VV)} (hk10 : ∀ (a0 : Nat) (x1 : Int) (x2 : Int) (x3 : Int) (x4 : Int) (V : sj_VV), OK0 g a0 → k10 a0 x1 x2 x3 x4 V = some q → sj_T X m_X0_topAt s0 (some (sj_i q.1), (g, q.2)) 10 [some (sj_r (some a0)), some (sj_i x1), some (sj_i x2), some (sj_i x3), some (sj_i x4)] [] (g, V)) :
    ∀ (a0 : Nat) (x1 : Int) (x2 : Int) (x3 : Int) (x4 : Int) (V : sj_VV), OK0 g a0 → g_X0_topAt_10_b N k10 a0 x1 x2 x3 x4 V = some q → sj_T X m_X0_topAt s0 (some (sj_i q.1), (g, q.2)) 10 [some (sj_r (some a0)), some (sj_i x1), some (sj_i x2), some (sj_i x3), some (sj_i x4)] [] (g, V) := by
  intro a0 x1 x2 x3 x4 V ha0 h
  unfold g_X0_topAt_10_b at h
  refine r_iload (pc := 10) dX0_topAt_10 rfl ?_
  refine r_iload_n (pc := 12) dX0_topAt_12 rfl rfl ?_
  refine r_icmp_gt (pc := 13) (tgt := 38) h dX0_topAt_13 (by decide) (fun h => ?_) (fun h => ?_)
  · refine r_iload_n (pc := 38) dX0_topAt_38 rfl rfl ?_
    exact r_irets (pc := 39) h rfl dX0_topAt_39
  · refine r_iload_n (pc := 16) dX0_topAt_16 rfl rfl ?_
    refine r_aload_n (pc := 17) dX0_topAt_17 rfl rfl ?_
    refine r_gRs (b := a0 + 5) (pc := 18) dX0_topAt_18 fw_X0_24 rfl (ok0 ha0) (ok0_7 ha0).1 ?_
    refine r_iload (pc := 21) dX0_topAt_21 rfl ?_
    refine r_iload_n (pc := 23) dX0_topAt_23 rfl rfl ?_
    refine r_callSs (pc := 24) (fun v => some (sj_i v)) (As := [sj_i x4, sj_i x2]) (rest := [(sj_r (some (a0 + 5))), (sj_i x3)]) h dX0_topAt_24 mw_X0_93 kw_407 (fun _ _ hc => cg_X8_topPlace  hc) rfl ⟨(Nat.le_of_ble_eq_true rfl), (Nat.le_of_ble_eq_true rfl)⟩ (Nat.le_of_ble_eq_true rfl) rfl (fun v2 V1 h => ?_)
    refine r_ialoads (pc := 27) h dX0_topAt_27 (ok0_7 ha0).2 (fun h => ?_)
    refine r_mmin (pc := 28) h dX0_topAt_28 mx_X0_87 (Nat.le_of_ble_eq_true rfl) (Nat.le_of_ble_eq_true rfl) (fun v3 h => ?_)
    refine r_istore_n (ln := [some (sj_r (some a0)), some (sj_i x1), some (sj_i x2), some (sj_i v3), some (sj_i x4)]) (pc := 31) dX0_topAt_31 rfl (Nat.le_of_ble_eq_true rfl) rfl ?_
    refine r_iinc (ln := fun w => [some (sj_r (some a0)), some (sj_i x1), some (sj_i x2), some (sj_i v3), some (sj_i w)]) (pc := 32) h dX0_topAt_32 rfl (Nat.le_of_ble_eq_true rfl) (fun _ => rfl) (fun v4 h => ?_)
    refine r_goto (pc := 35) (tgt := 10) dX0_topAt_35 (by decide) ?_
    exact sj_weak (l2 := [some (sj_r (some a0)), some (sj_i x1), some (sj_i x2), some (sj_i v3), some (sj_i v4)]) (⟨rfl, ⟨rfl, ⟨rfl, ⟨rfl, ⟨rfl, trivial⟩⟩⟩⟩⟩) (hk10 a0 x1 x2 v3 v4 V1 ha0 h)
set_option maxHeartbeats 4000000 in
theorem st_X0_topAt_10 {X : sj_X} {g : sj_G} {s0 : sj_Mem} {N : Nat} {q : Int × sj_VV} :
    ∀ (n : Nat) (a0 : Nat) (x1 : Int) (x2 : Int) (x3 : Int) (x4 : Int) (V : sj_VV), OK0 g a0 → g_X0_topAt_10 N n a0 x1 x2 x3 x4 V = some q → sj_T X m_X0_topAt s0 (some (sj_i q.1), (g, q.2)) 10 [some (sj_r (some a0)), some (sj_i x1), some (sj_i x2), some (sj_i x3), some (sj_i x4)] [] (g, V) := by
  intro n
  induction n with
  | zero => intro a0 x1 x2 x3 x4 V ha0 h; exact nomatch h
  | succ n ih => intro a0 x1 x2 x3 x4 V ha0 h; exact st_X0_topAt_10_b (N := N) ih a0 x1 x2 x3 x4 V ha0 h
set_option maxHeartbeats 4000000 in
theorem st_X0_topAt_0 {X : sj_X} {g : sj_G} {s0 : sj_Mem} {N : Nat} {q : Int × sj_VV} :
    ∀ (a0 : Nat) (x1 : Int) (x2 : Int) (V : sj_VV), OK0 g a0 → g_X0_topAt N a0 x1 x2 V = some q → sj_T X m_X0_topAt s0 (some (sj_i q.1), (g, q.2)) 0 [some (sj_r (some a0)), some (sj_i x1), some (sj_i x2), none, none] [] (g, V) := by
  intro a0 x1 x2 V ha0 h
  unfold g_X0_topAt at h
  refine r_aload_n (pc := 0) dX0_topAt_0 rfl rfl ?_
  refine r_gRs (b := a0 + 1) (pc := 1) dX0_topAt_1 fw_X0_9 rfl (ok0 ha0) (ok0_3 ha0).1 ?_
  refine r_iload_n (pc := 4) dX0_topAt_4 rfl rfl ?_
  refine r_ialoads (pc := 5) h dX0_topAt_5 (ok0_3 ha0).2 (fun h => ?_)
  refine r_istore_nL (ln := fun w => [some (sj_r (some a0)), some (sj_i x1), some (sj_i x2), some (sj_i w), none]) (pc := 6) h dX0_topAt_6 rfl (Nat.le_of_ble_eq_true rfl) (fun _ => rfl) (fun v1 h => ?_)
  refine r_iconst (pc := 7) dX0_topAt_7 ?_
  refine r_istore (ln := [some (sj_r (some a0)), some (sj_i x1), some (sj_i x2), some (sj_i v1), some (sj_i 1)]) (pc := 8) dX0_topAt_8 (Nat.le_of_ble_eq_true rfl) rfl ?_
  exact sj_weak (l2 := [some (sj_r (some a0)), some (sj_i x1), some (sj_i x2), some (sj_i v1), some (sj_i 1)]) (⟨rfl, ⟨rfl, ⟨rfl, ⟨rfl, ⟨rfl, trivial⟩⟩⟩⟩⟩) (st_X0_topAt_10 N a0 x1 x2 v1 1 V ha0 h)
set_option maxHeartbeats 4000000 in
theorem cg_X0_topAt {X : sj_X} {g : sj_G} {N : Nat} {a0 : Nat} {x1 : Int} {x2 : Int} {V : sj_VV} {q : Int × sj_VV} (ha0 : OK0 g a0) (h : g_X0_topAt N a0 x1 x2 V = some q) : sj_C X m_X0_topAt [sj_r (some a0), sj_i x1, sj_i x2] (g, V) (some (sj_i q.1), (g, q.2)) :=
  sj_C_of (by decide +kernel) (Nat.le_of_ble_eq_true rfl) (lo := [some (sj_r (some a0)), some (sj_i x1), some (sj_i x2), none, none]) rfl (sj_weak (l2 := [some (sj_r (some a0)), some (sj_i x1), some (sj_i x2), none, none]) (⟨rfl, ⟨rfl, ⟨rfl, trivial⟩⟩⟩) (st_X0_topAt_0 a0 x1 x2 V ha0 h))
set_option maxHeartbeats 4000000 in
theorem c_X0_topAt {X : sj_X} {N : Nat} {a0 : Nat} {x1 : Int} {x2 : Int} {s : sj_Mem} {q : Int × sj_Mem} (h : f_X0_topAt N a0 x1 x2 s = some q) : sj_C X m_X0_topAt [sj_r (some a0), sj_i x1, sj_i x2] s (some (sj_i q.1), q.2) := by
  obtain ⟨g, V⟩ := s
  unfold f_X0_topAt at h
  obtain ⟨ho, h1⟩ := e_ok_some h
  obtain ⟨q2, h2, rfl⟩ := sj_map_some h1
  exact cg_X0_topAt ho h2
theorem dX0_weightOn_0 : decode cX0_weightOn 0 = .ok (.aload_n 0, 1) := by decide +kernel
theorem dX0_weightOn_1 : decode cX0_weightOn 1 = .ok (.getfield 21, 3) := by decide +kernel
theorem dX0_weightOn_4 : decode cX0_weightOn 4 = .ok (.iload_n 1, 1) := by decide +kernel
theorem dX0_weightOn_5 : decode cX0_weightOn 5 = .ok (.iaload, 1) := by decide +kernel
theorem dX0_weightOn_6 : decode cX0_weightOn 6 = .ok (.istore_n 3, 1) := by decide +kernel
theorem dX0_weightOn_7 : decode cX0_weightOn 7 = .ok (.aload_n 0, 1) := by decide +kernel
theorem dX0_weightOn_8 : decode cX0_weightOn 8 = .ok (.getfield 9, 3) := by decide +kernel
theorem dX0_weightOn_11 : decode cX0_weightOn 11 = .ok (.iload_n 1, 1) := by decide +kernel
theorem dX0_weightOn_12 : decode cX0_weightOn 12 = .ok (.iaload, 1) := by decide +kernel
theorem dX0_weightOn_13 : decode cX0_weightOn 13 = .ok (.istore 4, 2) := by decide +kernel
theorem dX0_weightOn_15 : decode cX0_weightOn 15 = .ok (.iconst 0, 1) := by decide +kernel
theorem dX0_weightOn_16 : decode cX0_weightOn 16 = .ok (.istore 5, 2) := by decide +kernel
theorem dX0_weightOn_18 : decode cX0_weightOn 18 = .ok (.iload 5, 2) := by decide +kernel
theorem dX0_weightOn_20 : decode cX0_weightOn 20 = .ok (.iconst 4, 1) := by decide +kernel
theorem dX0_weightOn_21 : decode cX0_weightOn 21 = .ok (.if_icmp .ge 71, 3) := by decide +kernel
theorem dX0_weightOn_24 : decode cX0_weightOn 24 = .ok (.iload 4, 2) := by decide +kernel
theorem dX0_weightOn_26 : decode cX0_weightOn 26 = .ok (.iload_n 2, 1) := by decide +kernel
theorem dX0_weightOn_27 : decode cX0_weightOn 27 = .ok (.if_icmp .le 65, 3) := by decide +kernel
theorem dX0_weightOn_30 : decode cX0_weightOn 30 = .ok (.iload 5, 2) := by decide +kernel
theorem dX0_weightOn_32 : decode cX0_weightOn 32 = .ok (.iconst 1, 1) := by decide +kernel
theorem dX0_weightOn_33 : decode cX0_weightOn 33 = .ok (.iadd, 1) := by decide +kernel
theorem dX0_weightOn_34 : decode cX0_weightOn 34 = .ok (.iconst 4, 1) := by decide +kernel
theorem dX0_weightOn_35 : decode cX0_weightOn 35 = .ok (.if_icmp .ge 24, 3) := by decide +kernel
theorem dX0_weightOn_38 : decode cX0_weightOn 38 = .ok (.iload 4, 2) := by decide +kernel
theorem dX0_weightOn_40 : decode cX0_weightOn 40 = .ok (.aload_n 0, 1) := by decide +kernel
theorem dX0_weightOn_41 : decode cX0_weightOn 41 = .ok (.getfield 24, 3) := by decide +kernel
theorem dX0_weightOn_44 : decode cX0_weightOn 44 = .ok (.iload 5, 2) := by decide +kernel
theorem dX0_weightOn_46 : decode cX0_weightOn 46 = .ok (.iconst 1, 1) := by decide +kernel
theorem dX0_weightOn_47 : decode cX0_weightOn 47 = .ok (.iadd, 1) := by decide +kernel
theorem dX0_weightOn_48 : decode cX0_weightOn 48 = .ok (.iload_n 1, 1) := by decide +kernel
theorem dX0_weightOn_49 : decode cX0_weightOn 49 = .ok (.invokestatic 93, 3) := by decide +kernel
theorem dX0_weightOn_52 : decode cX0_weightOn 52 = .ok (.iaload, 1) := by decide +kernel
theorem dX0_weightOn_53 : decode cX0_weightOn 53 = .ok (.invokestatic 87, 3) := by decide +kernel
theorem dX0_weightOn_56 : decode cX0_weightOn 56 = .ok (.goto 4, 3) := by decide +kernel
theorem dX0_weightOn_59 : decode cX0_weightOn 59 = .ok (.iload_n 2, 1) := by decide +kernel
theorem dX0_weightOn_60 : decode cX0_weightOn 60 = .ok (.istore 6, 2) := by decide +kernel
theorem dX0_weightOn_62 : decode cX0_weightOn 62 = .ok (.iload_n 3, 1) := by decide +kernel
theorem dX0_weightOn_63 : decode cX0_weightOn 63 = .ok (.aload_n 0, 1) := by decide +kernel
theorem dX0_weightOn_64 : decode cX0_weightOn 64 = .ok (.getfield 27, 3) := by decide +kernel
theorem dX0_weightOn_67 : decode cX0_weightOn 67 = .ok (.iload 5, 2) := by decide +kernel
theorem dX0_weightOn_69 : decode cX0_weightOn 69 = .ok (.iaload, 1) := by decide +kernel
theorem dX0_weightOn_70 : decode cX0_weightOn 70 = .ok (.iload 4, 2) := by decide +kernel
theorem dX0_weightOn_72 : decode cX0_weightOn 72 = .ok (.iload 6, 2) := by decide +kernel
theorem dX0_weightOn_74 : decode cX0_weightOn 74 = .ok (.iload_n 2, 1) := by decide +kernel
theorem dX0_weightOn_75 : decode cX0_weightOn 75 = .ok (.invokestatic 96, 3) := by decide +kernel
theorem dX0_weightOn_78 : decode cX0_weightOn 78 = .ok (.isub, 1) := by decide +kernel
theorem dX0_weightOn_79 : decode cX0_weightOn 79 = .ok (.imul, 1) := by decide +kernel
theorem dX0_weightOn_80 : decode cX0_weightOn 80 = .ok (.iadd, 1) := by decide +kernel
theorem dX0_weightOn_81 : decode cX0_weightOn 81 = .ok (.istore_n 3, 1) := by decide +kernel
theorem dX0_weightOn_82 : decode cX0_weightOn 82 = .ok (.iload 6, 2) := by decide +kernel
theorem dX0_weightOn_84 : decode cX0_weightOn 84 = .ok (.istore 4, 2) := by decide +kernel
theorem dX0_weightOn_86 : decode cX0_weightOn 86 = .ok (.iinc 5 1, 3) := by decide +kernel
theorem dX0_weightOn_89 : decode cX0_weightOn 89 = .ok (.goto (-71), 3) := by decide +kernel
theorem dX0_weightOn_92 : decode cX0_weightOn 92 = .ok (.iload_n 3, 1) := by decide +kernel
theorem dX0_weightOn_93 : decode cX0_weightOn 93 = .ok (.ireturn, 1) := by decide +kernel
set_option maxHeartbeats 4000000 in
theorem st_X0_weightOn_60 {X : sj_X} {g : sj_G} {s0 : sj_Mem} {N : Nat} {q : Int × sj_VV} {k18 : Nat → Int → Int → Int → Int → Int → sj_VV → Option (Int × sj_VV)} (hk18 : ∀ (a0 : Nat) (x1 : Int) (x2 : Int) (x3 : Int) (x4 : Int) (x5 : Int) (V : sj_VV), OK0 g a0 → k18 a0 x1 x2 x3 x4 x5 V = some q → sj_T X m_X0_weightOn s0 (some (sj_i q.1), (g, q.2)) 18 [some (sj_r (some a0)), some (sj_i x1), some (sj_i x2), some (sj_i x3), some (sj_i x4), some (sj_i x5), none] [] (g, V)) :
    ∀ (a0 : Nat) (x1 : Int) (x2 : Int) (x3 : Int) (x4 : Int) (x5 : Int) (y0 : Int) (V : sj_VV), OK0 g a0 → g_X0_weightOn_60 N k18 a0 x1 x2 x3 x4 x5 y0 V = some q → sj_T X m_X0_weightOn s0 (some (sj_i q.1), (g, q.2)) 60 [some (sj_r (some a0)), some (sj_i x1), some (sj_i x2), some (sj_i x3), some (sj_i x4), some (sj_i x5), none] [(sj_i y0)] (g, V) := by
  intro a0 x1 x2 x3 x4 x5 y0 V ha0 h
  unfold g_X0_weightOn_60 at h
  refine r_istore (ln := [some (sj_r (some a0)), some (sj_i x1), some (sj_i x2), some (sj_i x3), some (sj_i x4), some (sj_i x5), some (sj_i y0)]) (pc := 60) dX0_weightOn_60 (Nat.le_of_ble_eq_true rfl) rfl ?_
  refine r_iload_n (pc := 62) dX0_weightOn_62 rfl rfl ?_
  refine r_aload_n (pc := 63) dX0_weightOn_63 rfl rfl ?_
  refine r_gRs (b := a0 + 6) (pc := 64) dX0_weightOn_64 fw_X0_27 rfl (ok0 ha0) (ok0_8 ha0).1 ?_
  refine r_iload (pc := 67) dX0_weightOn_67 rfl ?_
  refine r_ialoads (pc := 69) h dX0_weightOn_69 (ok0_8 ha0).2 (fun h => ?_)
  refine r_iload (pc := 70) dX0_weightOn_70 rfl ?_
  refine r_iload (pc := 72) dX0_weightOn_72 rfl ?_
  refine r_iload_n (pc := 74) dX0_weightOn_74 rfl rfl ?_
  refine r_mmax (pc := 75) h dX0_weightOn_75 mx_X0_96 (Nat.le_of_ble_eq_true rfl) (Nat.le_of_ble_eq_true rfl) (fun v1 h => ?_)
  refine r_isub (pc := 78) dX0_weightOn_78 ?_
  refine r_imul (pc := 79) dX0_weightOn_79 ?_
  refine r_iadd (pc := 80) dX0_weightOn_80 ?_
  refine r_istore_nL (ln := fun w => [some (sj_r (some a0)), some (sj_i x1), some (sj_i x2), some (sj_i w), some (sj_i x4), some (sj_i x5), some (sj_i y0)]) (pc := 81) h dX0_weightOn_81 rfl (Nat.le_of_ble_eq_true rfl) (fun _ => rfl) (fun v2 h => ?_)
  refine r_iload (pc := 82) dX0_weightOn_82 rfl ?_
  refine r_istore (ln := [some (sj_r (some a0)), some (sj_i x1), some (sj_i x2), some (sj_i v2), some (sj_i y0), some (sj_i x5), some (sj_i y0)]) (pc := 84) dX0_weightOn_84 (Nat.le_of_ble_eq_true rfl) rfl ?_
  refine r_iinc (ln := fun w => [some (sj_r (some a0)), some (sj_i x1), some (sj_i x2), some (sj_i v2), some (sj_i y0), some (sj_i w), some (sj_i y0)]) (pc := 86) h dX0_weightOn_86 rfl (Nat.le_of_ble_eq_true rfl) (fun _ => rfl) (fun v3 h => ?_)
  refine r_goto (pc := 89) (tgt := 18) dX0_weightOn_89 (by decide) ?_
  exact sj_weak (l2 := [some (sj_r (some a0)), some (sj_i x1), some (sj_i x2), some (sj_i v2), some (sj_i y0), some (sj_i v3), none]) (⟨rfl, ⟨rfl, ⟨rfl, ⟨rfl, ⟨rfl, ⟨rfl, trivial⟩⟩⟩⟩⟩⟩) (hk18 a0 x1 x2 v2 y0 v3 V ha0 h)
set_option maxHeartbeats 4000000 in
theorem st_X0_weightOn_18_b {X : sj_X} {g : sj_G} {s0 : sj_Mem} {N : Nat} {q : Int × sj_VV} {k18 : Nat → Int → Int → Int → Int → Int → sj_VV → Option (Int × sj_VV)} (hk18 : ∀ (a0 : Nat) (x1 : Int) (x2 : Int) (x3 : Int) (x4 : Int) (x5 : Int) (V : sj_VV), OK0 g a0 → k18 a0 x1 x2 x3 x4 x5 V = some q → sj_T X m_X0_weightOn s0 (some (sj_i q.1), (g, q.2)) 18 [some (sj_r (some a0)), some (sj_i x1), some (sj_i x2), some (sj_i x3), some (sj_i x4), some (sj_i x5), none] [] (g, V)) :
    ∀ (a0 : Nat) (x1 : Int) (x2 : Int) (x3 : Int) (x4 : Int) (x5 : Int) (V : sj_VV), OK0 g a0 → g_X0_weightOn_18_b N k18 a0 x1 x2 x3 x4 x5 V = some q → sj_T X m_X0_weightOn s0 (some (sj_i q.1), (g, q.2)) 18 [some (sj_r (some a0)), some (sj_i x1), some (sj_i x2), some (sj_i x3), some (sj_i x4), some (sj_i x5), none] [] (g, V) := by
  intro a0 x1 x2 x3 x4 x5 V ha0 h
  unfold g_X0_weightOn_18_b at h
  refine r_iload (pc := 18) dX0_weightOn_18 rfl ?_
  refine r_iconst (pc := 20) dX0_weightOn_20 ?_
  refine r_icmp_ge (pc := 21) (tgt := 92) h dX0_weightOn_21 (by decide) (fun h => ?_) (fun h => ?_)
  · refine r_iload_n (pc := 92) dX0_weightOn_92 rfl rfl ?_
    exact r_irets (pc := 93) h rfl dX0_weightOn_93
  · refine r_iload (pc := 24) dX0_weightOn_24 rfl ?_
    refine r_iload_n (pc := 26) dX0_weightOn_26 rfl rfl ?_
    refine r_icmp_le (pc := 27) (tgt := 92) h dX0_weightOn_27 (by decide) (fun h => ?_) (fun h => ?_)
    · refine r_iload_n (pc := 92) dX0_weightOn_92 rfl rfl ?_
      exact r_irets (pc := 93) h rfl dX0_weightOn_93
    · refine r_iload (pc := 30) dX0_weightOn_30 rfl ?_
      refine r_iconst (pc := 32) dX0_weightOn_32 ?_
      refine r_iadd (pc := 33) dX0_weightOn_33 ?_
      refine r_iconst (pc := 34) dX0_weightOn_34 ?_
      refine r_icmp_ge (pc := 35) (tgt := 59) h dX0_weightOn_35 (by decide) (fun h => ?_) (fun h => ?_)
      · refine r_iload_n (pc := 59) dX0_weightOn_59 rfl rfl ?_
        exact sj_weak (l2 := [some (sj_r (some a0)), some (sj_i x1), some (sj_i x2), some (sj_i x3), some (sj_i x4), some (sj_i x5), none]) (⟨rfl, ⟨rfl, ⟨rfl, ⟨rfl, ⟨rfl, ⟨rfl, trivial⟩⟩⟩⟩⟩⟩) (st_X0_weightOn_60 hk18 a0 x1 x2 x3 x4 x5 x2 V ha0 h)
      · refine r_iload (pc := 38) dX0_weightOn_38 rfl ?_
        refine r_aload_n (pc := 40) dX0_weightOn_40 rfl rfl ?_
        refine r_gRs (b := a0 + 5) (pc := 41) dX0_weightOn_41 fw_X0_24 rfl (ok0 ha0) (ok0_7 ha0).1 ?_
        refine r_iload (pc := 44) dX0_weightOn_44 rfl ?_
        refine r_iconst (pc := 46) dX0_weightOn_46 ?_
        refine r_iadd (pc := 47) dX0_weightOn_47 ?_
        refine r_iload_n (pc := 48) dX0_weightOn_48 rfl rfl ?_
        refine r_callSs (pc := 49) (fun v => some (sj_i v)) (As := [sj_i (x5 + 1), sj_i x1]) (rest := [(sj_r (some (a0 + 5))), (sj_i x4)]) h dX0_weightOn_49 mw_X0_93 kw_407 (fun _ _ hc => cg_X8_topPlace  hc) rfl ⟨(Nat.le_of_ble_eq_true rfl), (Nat.le_of_ble_eq_true rfl)⟩ (Nat.le_of_ble_eq_true rfl) rfl (fun v2 V1 h => ?_)
        refine r_ialoads (pc := 52) h dX0_weightOn_52 (ok0_7 ha0).2 (fun h => ?_)
        refine r_mmin (pc := 53) h dX0_weightOn_53 mx_X0_87 (Nat.le_of_ble_eq_true rfl) (Nat.le_of_ble_eq_true rfl) (fun v3 h => ?_)
        refine r_goto (pc := 56) (tgt := 60) dX0_weightOn_56 (by decide) ?_
        exact sj_weak (l2 := [some (sj_r (some a0)), some (sj_i x1), some (sj_i x2), some (sj_i x3), some (sj_i x4), some (sj_i x5), none]) (⟨rfl, ⟨rfl, ⟨rfl, ⟨rfl, ⟨rfl, ⟨rfl, trivial⟩⟩⟩⟩⟩⟩) (st_X0_weightOn_60 hk18 a0 x1 x2 x3 x4 x5 v3 V1 ha0 h)
set_option maxHeartbeats 4000000 in
theorem st_X0_weightOn_18 {X : sj_X} {g : sj_G} {s0 : sj_Mem} {N : Nat} {q : Int × sj_VV} :
    ∀ (n : Nat) (a0 : Nat) (x1 : Int) (x2 : Int) (x3 : Int) (x4 : Int) (x5 : Int) (V : sj_VV), OK0 g a0 → g_X0_weightOn_18 N n a0 x1 x2 x3 x4 x5 V = some q → sj_T X m_X0_weightOn s0 (some (sj_i q.1), (g, q.2)) 18 [some (sj_r (some a0)), some (sj_i x1), some (sj_i x2), some (sj_i x3), some (sj_i x4), some (sj_i x5), none] [] (g, V) := by
  intro n
  induction n with
  | zero => intro a0 x1 x2 x3 x4 x5 V ha0 h; exact nomatch h
  | succ n ih => intro a0 x1 x2 x3 x4 x5 V ha0 h; exact st_X0_weightOn_18_b (N := N) ih a0 x1 x2 x3 x4 x5 V ha0 h
set_option maxHeartbeats 4000000 in
theorem st_X0_weightOn_0 {X : sj_X} {g : sj_G} {s0 : sj_Mem} {N : Nat} {q : Int × sj_VV} :
    ∀ (a0 : Nat) (x1 : Int) (x2 : Int) (V : sj_VV), OK0 g a0 → g_X0_weightOn N a0 x1 x2 V = some q → sj_T X m_X0_weightOn s0 (some (sj_i q.1), (g, q.2)) 0 [some (sj_r (some a0)), some (sj_i x1), some (sj_i x2), none, none, none, none] [] (g, V) := by
  intro a0 x1 x2 V ha0 h
  unfold g_X0_weightOn at h
  refine r_aload_n (pc := 0) dX0_weightOn_0 rfl rfl ?_
  refine r_gRs (b := a0 + 4) (pc := 1) dX0_weightOn_1 fw_X0_21 rfl (ok0 ha0) (ok0_6 ha0).1 ?_
  refine r_iload_n (pc := 4) dX0_weightOn_4 rfl rfl ?_
  refine r_ialoads (pc := 5) h dX0_weightOn_5 (ok0_6 ha0).2 (fun h => ?_)
  refine r_istore_nL (ln := fun w => [some (sj_r (some a0)), some (sj_i x1), some (sj_i x2), some (sj_i w), none, none, none]) (pc := 6) h dX0_weightOn_6 rfl (Nat.le_of_ble_eq_true rfl) (fun _ => rfl) (fun v1 h => ?_)
  refine r_aload_n (pc := 7) dX0_weightOn_7 rfl rfl ?_
  refine r_gRs (b := a0 + 1) (pc := 8) dX0_weightOn_8 fw_X0_9 rfl (ok0 ha0) (ok0_3 ha0).1 ?_
  refine r_iload_n (pc := 11) dX0_weightOn_11 rfl rfl ?_
  refine r_ialoads (pc := 12) h dX0_weightOn_12 (ok0_3 ha0).2 (fun h => ?_)
  refine r_istoreL (ln := fun w => [some (sj_r (some a0)), some (sj_i x1), some (sj_i x2), some (sj_i v1), some (sj_i w), none, none]) (pc := 13) h dX0_weightOn_13 (Nat.le_of_ble_eq_true rfl) (fun _ => rfl) (fun v2 h => ?_)
  refine r_iconst (pc := 15) dX0_weightOn_15 ?_
  refine r_istore (ln := [some (sj_r (some a0)), some (sj_i x1), some (sj_i x2), some (sj_i v1), some (sj_i v2), some (sj_i 0), none]) (pc := 16) dX0_weightOn_16 (Nat.le_of_ble_eq_true rfl) rfl ?_
  exact sj_weak (l2 := [some (sj_r (some a0)), some (sj_i x1), some (sj_i x2), some (sj_i v1), some (sj_i v2), some (sj_i 0), none]) (⟨rfl, ⟨rfl, ⟨rfl, ⟨rfl, ⟨rfl, ⟨rfl, trivial⟩⟩⟩⟩⟩⟩) (st_X0_weightOn_18 N a0 x1 x2 v1 v2 0 V ha0 h)
set_option maxHeartbeats 4000000 in
theorem cg_X0_weightOn {X : sj_X} {g : sj_G} {N : Nat} {a0 : Nat} {x1 : Int} {x2 : Int} {V : sj_VV} {q : Int × sj_VV} (ha0 : OK0 g a0) (h : g_X0_weightOn N a0 x1 x2 V = some q) : sj_C X m_X0_weightOn [sj_r (some a0), sj_i x1, sj_i x2] (g, V) (some (sj_i q.1), (g, q.2)) :=
  sj_C_of (by decide +kernel) (Nat.le_of_ble_eq_true rfl) (lo := [some (sj_r (some a0)), some (sj_i x1), some (sj_i x2), none, none, none, none]) rfl (sj_weak (l2 := [some (sj_r (some a0)), some (sj_i x1), some (sj_i x2), none, none, none, none]) (⟨rfl, ⟨rfl, ⟨rfl, trivial⟩⟩⟩) (st_X0_weightOn_0 a0 x1 x2 V ha0 h))
set_option maxHeartbeats 4000000 in
theorem c_X0_weightOn {X : sj_X} {N : Nat} {a0 : Nat} {x1 : Int} {x2 : Int} {s : sj_Mem} {q : Int × sj_Mem} (h : f_X0_weightOn N a0 x1 x2 s = some q) : sj_C X m_X0_weightOn [sj_r (some a0), sj_i x1, sj_i x2] s (some (sj_i q.1), q.2) := by
  obtain ⟨g, V⟩ := s
  unfold f_X0_weightOn at h
  obtain ⟨ho, h1⟩ := e_ok_some h
  obtain ⟨q2, h2, rfl⟩ := sj_map_some h1
  exact cg_X0_weightOn ho h2
theorem dX0_headOn_0 : decode cX0_headOn 0 = .ok (.iconst 0, 1) := by decide +kernel
theorem dX0_headOn_1 : decode cX0_headOn 1 = .ok (.aload_n 0, 1) := by decide +kernel
theorem dX0_headOn_2 : decode cX0_headOn 2 = .ok (.getfield 18, 3) := by decide +kernel
theorem dX0_headOn_5 : decode cX0_headOn 5 = .ok (.iload_n 1, 1) := by decide +kernel
theorem dX0_headOn_6 : decode cX0_headOn 6 = .ok (.iaload, 1) := by decide +kernel
theorem dX0_headOn_7 : decode cX0_headOn 7 = .ok (.aload_n 0, 1) := by decide +kernel
theorem dX0_headOn_8 : decode cX0_headOn 8 = .ok (.getfield 9, 3) := by decide +kernel
theorem dX0_headOn_11 : decode cX0_headOn 11 = .ok (.iload_n 1, 1) := by decide +kernel
theorem dX0_headOn_12 : decode cX0_headOn 12 = .ok (.iaload, 1) := by decide +kernel
theorem dX0_headOn_13 : decode cX0_headOn 13 = .ok (.invokestatic 87, 3) := by decide +kernel
theorem dX0_headOn_16 : decode cX0_headOn 16 = .ok (.iload_n 2, 1) := by decide +kernel
theorem dX0_headOn_17 : decode cX0_headOn 17 = .ok (.isub, 1) := by decide +kernel
theorem dX0_headOn_18 : decode cX0_headOn 18 = .ok (.invokestatic 96, 3) := by decide +kernel
theorem dX0_headOn_21 : decode cX0_headOn 21 = .ok (.ireturn, 1) := by decide +kernel
set_option maxHeartbeats 4000000 in
theorem st_X0_headOn_0 {X : sj_X} {g : sj_G} {s0 : sj_Mem} {N : Nat} {q : Int × sj_VV} :
    ∀ (a0 : Nat) (x1 : Int) (x2 : Int) (V : sj_VV), OK0 g a0 → g_X0_headOn N a0 x1 x2 V = some q → sj_T X m_X0_headOn s0 (some (sj_i q.1), (g, q.2)) 0 [some (sj_r (some a0)), some (sj_i x1), some (sj_i x2)] [] (g, V) := by
  intro a0 x1 x2 V ha0 h
  unfold g_X0_headOn at h
  refine r_iconst (pc := 0) dX0_headOn_0 ?_
  refine r_aload_n (pc := 1) dX0_headOn_1 rfl rfl ?_
  refine r_gRs (b := a0 + 3) (pc := 2) dX0_headOn_2 fw_X0_18 rfl (ok0 ha0) (ok0_5 ha0).1 ?_
  refine r_iload_n (pc := 5) dX0_headOn_5 rfl rfl ?_
  refine r_ialoads (pc := 6) h dX0_headOn_6 (ok0_5 ha0).2 (fun h => ?_)
  refine r_aload_n (pc := 7) dX0_headOn_7 rfl rfl ?_
  refine r_gRs (b := a0 + 1) (pc := 8) dX0_headOn_8 fw_X0_9 rfl (ok0 ha0) (ok0_3 ha0).1 ?_
  refine r_iload_n (pc := 11) dX0_headOn_11 rfl rfl ?_
  refine r_ialoads (pc := 12) h dX0_headOn_12 (ok0_3 ha0).2 (fun h => ?_)
  refine r_mmin (pc := 13) h dX0_headOn_13 mx_X0_87 (Nat.le_of_ble_eq_true rfl) (Nat.le_of_ble_eq_true rfl) (fun v1 h => ?_)
  refine r_iload_n (pc := 16) dX0_headOn_16 rfl rfl ?_
  refine r_isub (pc := 17) dX0_headOn_17 ?_
  refine r_mmax (pc := 18) h dX0_headOn_18 mx_X0_96 (Nat.le_of_ble_eq_true rfl) (Nat.le_of_ble_eq_true rfl) (fun v2 h => ?_)
  exact r_irets (pc := 21) h rfl dX0_headOn_21
set_option maxHeartbeats 4000000 in
theorem cg_X0_headOn {X : sj_X} {g : sj_G} {N : Nat} {a0 : Nat} {x1 : Int} {x2 : Int} {V : sj_VV} {q : Int × sj_VV} (ha0 : OK0 g a0) (h : g_X0_headOn N a0 x1 x2 V = some q) : sj_C X m_X0_headOn [sj_r (some a0), sj_i x1, sj_i x2] (g, V) (some (sj_i q.1), (g, q.2)) :=
  sj_C_of (by decide +kernel) (Nat.le_of_ble_eq_true rfl) (lo := [some (sj_r (some a0)), some (sj_i x1), some (sj_i x2)]) rfl (sj_weak (l2 := [some (sj_r (some a0)), some (sj_i x1), some (sj_i x2)]) (⟨rfl, ⟨rfl, ⟨rfl, trivial⟩⟩⟩) (st_X0_headOn_0 a0 x1 x2 V ha0 h))
set_option maxHeartbeats 4000000 in
theorem c_X0_headOn {X : sj_X} {N : Nat} {a0 : Nat} {x1 : Int} {x2 : Int} {s : sj_Mem} {q : Int × sj_Mem} (h : f_X0_headOn N a0 x1 x2 s = some q) : sj_C X m_X0_headOn [sj_r (some a0), sj_i x1, sj_i x2] s (some (sj_i q.1), q.2) := by
  obtain ⟨g, V⟩ := s
  unfold f_X0_headOn at h
  obtain ⟨ho, h1⟩ := e_ok_some h
  obtain ⟨q2, h2, rfl⟩ := sj_map_some h1
  exact cg_X0_headOn ho h2
theorem dX0_layerUnder_0 : decode cX0_layerUnder 0 = .ok (.iconst 3, 1) := by decide +kernel
theorem dX0_layerUnder_1 : decode cX0_layerUnder 1 = .ok (.istore_n 3, 1) := by decide +kernel
theorem dX0_layerUnder_2 : decode cX0_layerUnder 2 = .ok (.iload_n 3, 1) := by decide +kernel
theorem dX0_layerUnder_3 : decode cX0_layerUnder 3 = .ok (.ifCond .le 30, 3) := by decide +kernel
theorem dX0_layerUnder_6 : decode cX0_layerUnder 6 = .ok (.aload_n 0, 1) := by decide +kernel
theorem dX0_layerUnder_7 : decode cX0_layerUnder 7 = .ok (.iload_n 3, 1) := by decide +kernel
theorem dX0_layerUnder_8 : decode cX0_layerUnder 8 = .ok (.iload_n 1, 1) := by decide +kernel
theorem dX0_layerUnder_9 : decode cX0_layerUnder 9 = .ok (.invokevirtual 99, 3) := by decide +kernel
theorem dX0_layerUnder_12 : decode cX0_layerUnder 12 = .ok (.aload_n 0, 1) := by decide +kernel
theorem dX0_layerUnder_13 : decode cX0_layerUnder 13 = .ok (.iload_n 3, 1) := by decide +kernel
theorem dX0_layerUnder_14 : decode cX0_layerUnder 14 = .ok (.iload_n 1, 1) := by decide +kernel
theorem dX0_layerUnder_15 : decode cX0_layerUnder 15 = .ok (.iconst 1, 1) := by decide +kernel
theorem dX0_layerUnder_16 : decode cX0_layerUnder 16 = .ok (.iadd, 1) := by decide +kernel
theorem dX0_layerUnder_17 : decode cX0_layerUnder 17 = .ok (.invokevirtual 99, 3) := by decide +kernel
theorem dX0_layerUnder_20 : decode cX0_layerUnder 20 = .ok (.iadd, 1) := by decide +kernel
theorem dX0_layerUnder_21 : decode cX0_layerUnder 21 = .ok (.iload_n 2, 1) := by decide +kernel
theorem dX0_layerUnder_22 : decode cX0_layerUnder 22 = .ok (.if_icmp .le 5, 3) := by decide +kernel
theorem dX0_layerUnder_25 : decode cX0_layerUnder 25 = .ok (.iload_n 3, 1) := by decide +kernel
theorem dX0_layerUnder_26 : decode cX0_layerUnder 26 = .ok (.ireturn, 1) := by decide +kernel
theorem dX0_layerUnder_27 : decode cX0_layerUnder 27 = .ok (.iinc 3 (-1), 3) := by decide +kernel
theorem dX0_layerUnder_30 : decode cX0_layerUnder 30 = .ok (.goto (-28), 3) := by decide +kernel
theorem dX0_layerUnder_33 : decode cX0_layerUnder 33 = .ok (.iconst 0, 1) := by decide +kernel
theorem dX0_layerUnder_34 : decode cX0_layerUnder 34 = .ok (.ireturn, 1) := by decide +kernel
set_option maxHeartbeats 4000000 in
theorem st_X0_layerUnder_2_b {X : sj_X} {g : sj_G} {s0 : sj_Mem} {N : Nat} {q : Int × sj_VV} {k2 : Nat → Int → Int → Int → sj_VV → Option (Int × sj_VV)} (hk2 : ∀ (a0 : Nat) (x1 : Int) (x2 : Int) (x3 : Int) (V : sj_VV), OK0 g a0 → k2 a0 x1 x2 x3 V = some q → sj_T X m_X0_layerUnder s0 (some (sj_i q.1), (g, q.2)) 2 [some (sj_r (some a0)), some (sj_i x1), some (sj_i x2), some (sj_i x3)] [] (g, V)) :
    ∀ (a0 : Nat) (x1 : Int) (x2 : Int) (x3 : Int) (V : sj_VV), OK0 g a0 → g_X0_layerUnder_2_b N k2 a0 x1 x2 x3 V = some q → sj_T X m_X0_layerUnder s0 (some (sj_i q.1), (g, q.2)) 2 [some (sj_r (some a0)), some (sj_i x1), some (sj_i x2), some (sj_i x3)] [] (g, V) := by
  intro a0 x1 x2 x3 V ha0 h
  unfold g_X0_layerUnder_2_b at h
  refine r_iload_n (pc := 2) dX0_layerUnder_2 rfl rfl ?_
  refine r_if_le (pc := 3) (tgt := 33) h dX0_layerUnder_3 (by decide) (fun h => ?_) (fun h => ?_)
  · refine r_iconst (pc := 33) dX0_layerUnder_33 ?_
    exact r_irets (pc := 34) h rfl dX0_layerUnder_34
  · refine r_aload_n (pc := 6) dX0_layerUnder_6 rfl rfl ?_
    refine r_iload_n (pc := 7) dX0_layerUnder_7 rfl rfl ?_
    refine r_iload_n (pc := 8) dX0_layerUnder_8 rfl rfl ?_
    refine r_callVs (pc := 9) (fun v => some (sj_i v)) (As := [sj_i x3, sj_i x1]) (rest := []) (b := a0) (ok0 ha0) h dX0_layerUnder_9 mw_X0_99 vw_X0_topAt (fun _ _ hc => cg_X0_topAt ha0 hc) rfl ⟨(Nat.le_of_ble_eq_true rfl), (Nat.le_of_ble_eq_true rfl)⟩ (Nat.le_of_ble_eq_true rfl) rfl (fun v2 V1 h => ?_)
    refine r_aload_n (pc := 12) dX0_layerUnder_12 rfl rfl ?_
    refine r_iload_n (pc := 13) dX0_layerUnder_13 rfl rfl ?_
    refine r_iload_n (pc := 14) dX0_layerUnder_14 rfl rfl ?_
    refine r_iconst (pc := 15) dX0_layerUnder_15 ?_
    refine r_iadd (pc := 16) dX0_layerUnder_16 ?_
    refine r_callVs (pc := 17) (fun v => some (sj_i v)) (As := [sj_i x3, sj_i (x1 + 1)]) (rest := [(sj_i v2)]) (b := a0) (ok0 ha0) h dX0_layerUnder_17 mw_X0_99 vw_X0_topAt (fun _ _ hc => cg_X0_topAt ha0 hc) rfl ⟨(Nat.le_of_ble_eq_true rfl), (Nat.le_of_ble_eq_true rfl)⟩ (Nat.le_of_ble_eq_true rfl) rfl (fun v4 V3 h => ?_)
    refine r_iadd (pc := 20) dX0_layerUnder_20 ?_
    refine r_iload_n (pc := 21) dX0_layerUnder_21 rfl rfl ?_
    refine r_icmp_le (pc := 22) (tgt := 27) h dX0_layerUnder_22 (by decide) (fun h => ?_) (fun h => ?_)
    · refine r_iinc (ln := fun w => [some (sj_r (some a0)), some (sj_i x1), some (sj_i x2), some (sj_i w)]) (pc := 27) h dX0_layerUnder_27 rfl (Nat.le_of_ble_eq_true rfl) (fun _ => rfl) (fun v5 h => ?_)
      refine r_goto (pc := 30) (tgt := 2) dX0_layerUnder_30 (by decide) ?_
      exact sj_weak (l2 := [some (sj_r (some a0)), some (sj_i x1), some (sj_i x2), some (sj_i v5)]) (⟨rfl, ⟨rfl, ⟨rfl, ⟨rfl, trivial⟩⟩⟩⟩) (hk2 a0 x1 x2 v5 V3 ha0 h)
    · refine r_iload_n (pc := 25) dX0_layerUnder_25 rfl rfl ?_
      exact r_irets (pc := 26) h rfl dX0_layerUnder_26
set_option maxHeartbeats 4000000 in
theorem st_X0_layerUnder_2 {X : sj_X} {g : sj_G} {s0 : sj_Mem} {N : Nat} {q : Int × sj_VV} :
    ∀ (n : Nat) (a0 : Nat) (x1 : Int) (x2 : Int) (x3 : Int) (V : sj_VV), OK0 g a0 → g_X0_layerUnder_2 N n a0 x1 x2 x3 V = some q → sj_T X m_X0_layerUnder s0 (some (sj_i q.1), (g, q.2)) 2 [some (sj_r (some a0)), some (sj_i x1), some (sj_i x2), some (sj_i x3)] [] (g, V) := by
  intro n
  induction n with
  | zero => intro a0 x1 x2 x3 V ha0 h; exact nomatch h
  | succ n ih => intro a0 x1 x2 x3 V ha0 h; exact st_X0_layerUnder_2_b (N := N) ih a0 x1 x2 x3 V ha0 h
set_option maxHeartbeats 4000000 in
theorem st_X0_layerUnder_0 {X : sj_X} {g : sj_G} {s0 : sj_Mem} {N : Nat} {q : Int × sj_VV} :
    ∀ (a0 : Nat) (x1 : Int) (x2 : Int) (V : sj_VV), OK0 g a0 → g_X0_layerUnder N a0 x1 x2 V = some q → sj_T X m_X0_layerUnder s0 (some (sj_i q.1), (g, q.2)) 0 [some (sj_r (some a0)), some (sj_i x1), some (sj_i x2), none] [] (g, V) := by
  intro a0 x1 x2 V ha0 h
  unfold g_X0_layerUnder at h
  refine r_iconst (pc := 0) dX0_layerUnder_0 ?_
  refine r_istore_n (ln := [some (sj_r (some a0)), some (sj_i x1), some (sj_i x2), some (sj_i 3)]) (pc := 1) dX0_layerUnder_1 rfl (Nat.le_of_ble_eq_true rfl) rfl ?_
  exact sj_weak (l2 := [some (sj_r (some a0)), some (sj_i x1), some (sj_i x2), some (sj_i 3)]) (⟨rfl, ⟨rfl, ⟨rfl, ⟨rfl, trivial⟩⟩⟩⟩) (st_X0_layerUnder_2 N a0 x1 x2 3 V ha0 h)
set_option maxHeartbeats 4000000 in
theorem cg_X0_layerUnder {X : sj_X} {g : sj_G} {N : Nat} {a0 : Nat} {x1 : Int} {x2 : Int} {V : sj_VV} {q : Int × sj_VV} (ha0 : OK0 g a0) (h : g_X0_layerUnder N a0 x1 x2 V = some q) : sj_C X m_X0_layerUnder [sj_r (some a0), sj_i x1, sj_i x2] (g, V) (some (sj_i q.1), (g, q.2)) :=
  sj_C_of (by decide +kernel) (Nat.le_of_ble_eq_true rfl) (lo := [some (sj_r (some a0)), some (sj_i x1), some (sj_i x2), none]) rfl (sj_weak (l2 := [some (sj_r (some a0)), some (sj_i x1), some (sj_i x2), none]) (⟨rfl, ⟨rfl, ⟨rfl, trivial⟩⟩⟩) (st_X0_layerUnder_0 a0 x1 x2 V ha0 h))
set_option maxHeartbeats 4000000 in
theorem c_X0_layerUnder {X : sj_X} {N : Nat} {a0 : Nat} {x1 : Int} {x2 : Int} {s : sj_Mem} {q : Int × sj_Mem} (h : f_X0_layerUnder N a0 x1 x2 s = some q) : sj_C X m_X0_layerUnder [sj_r (some a0), sj_i x1, sj_i x2] s (some (sj_i q.1), q.2) := by
  obtain ⟨g, V⟩ := s
  unfold f_X0_layerUnder at h
  obtain ⟨ho, h1⟩ := e_ok_some h
  obtain ⟨q2, h2, rfl⟩ := sj_map_some h1
  exact cg_X0_layerUnder ho h2
theorem dX5_isNone_0 : decode cX5_isNone 0 = .ok (.aload_n 0, 1) := by decide +kernel
theorem dX5_isNone_1 : decode cX5_isNone 1 = .ok (.getfield 15, 3) := by decide +kernel
theorem dX5_isNone_4 : decode cX5_isNone 4 = .ok (.ifCond .ge 7, 3) := by decide +kernel
theorem dX5_isNone_7 : decode cX5_isNone 7 = .ok (.iconst 1, 1) := by decide +kernel
theorem dX5_isNone_8 : decode cX5_isNone 8 = .ok (.goto 4, 3) := by decide +kernel
theorem dX5_isNone_11 : decode cX5_isNone 11 = .ok (.iconst 0, 1) := by decide +kernel
theorem dX5_isNone_12 : decode cX5_isNone 12 = .ok (.ireturn, 1) := by decide +kernel
set_option maxHeartbeats 4000000 in
theorem st_X5_isNone_0 {X : sj_X} {g : sj_G} {s0 : sj_Mem} {N : Nat} {q : Int × sj_VV} :
    ∀ (a0 : Nat) (V : sj_VV), OK5 g a0 → g_X5_isNone N a0 V = some q → sj_T X m_X5_isNone s0 (some (sj_i q.1), (g, q.2)) 0 [some (sj_r (some a0))] [] (g, V) := by
  intro a0 V ha0 h
  unfold g_X5_isNone at h
  refine r_aload_n (pc := 0) dX5_isNone_0 rfl rfl ?_
  refine r_gIs (pc := 1) dX5_isNone_1 fw_X5_15 rfl (ok5 ha0) ?_
  refine r_if_ge (pc := 4) (tgt := 11) h dX5_isNone_4 (by decide) (fun h => ?_) (fun h => ?_)
  · refine r_iconst (pc := 11) dX5_isNone_11 ?_
    exact r_zrets (pc := 12) h rfl dX5_isNone_12
  · refine r_iconst (pc := 7) dX5_isNone_7 ?_
    refine r_goto (pc := 8) (tgt := 12) dX5_isNone_8 (by decide) ?_
    exact r_zrets (pc := 12) h rfl dX5_isNone_12
set_option maxHeartbeats 4000000 in
theorem cg_X5_isNone {X : sj_X} {g : sj_G} {N : Nat} {a0 : Nat} {V : sj_VV} {q : Int × sj_VV} (ha0 : OK5 g a0) (h : g_X5_isNone N a0 V = some q) : sj_C X m_X5_isNone [sj_r (some a0)] (g, V) (some (sj_i q.1), (g, q.2)) :=
  sj_C_of (by decide +kernel) (Nat.le_of_ble_eq_true rfl) (lo := [some (sj_r (some a0))]) rfl (sj_weak (l2 := [some (sj_r (some a0))]) (⟨rfl, trivial⟩) (st_X5_isNone_0 a0 V ha0 h))
set_option maxHeartbeats 4000000 in
theorem c_X5_isNone {X : sj_X} {N : Nat} {a0 : Nat} {s : sj_Mem} {q : Int × sj_Mem} (h : f_X5_isNone N a0 s = some q) : sj_C X m_X5_isNone [sj_r (some a0)] s (some (sj_i q.1), q.2) := by
  obtain ⟨g, V⟩ := s
  unfold f_X5_isNone at h
  obtain ⟨ho, h1⟩ := e_ok_some h
  obtain ⟨q2, h2, rfl⟩ := sj_map_some h1
  exact cg_X5_isNone ho h2
theorem dX0_anchorCounts_0 : decode cX0_anchorCounts 0 = .ok (.aload_n 0, 1) := by decide +kernel
theorem dX0_anchorCounts_1 : decode cX0_anchorCounts 1 = .ok (.getfield 36, 3) := by decide +kernel
theorem dX0_anchorCounts_4 : decode cX0_anchorCounts 4 = .ok (.iload_n 1, 1) := by decide +kernel
theorem dX0_anchorCounts_5 : decode cX0_anchorCounts 5 = .ok (.iaload, 1) := by decide +kernel
theorem dX0_anchorCounts_6 : decode cX0_anchorCounts 6 = .ok (.istore_n 3, 1) := by decide +kernel
theorem dX0_anchorCounts_7 : decode cX0_anchorCounts 7 = .ok (.aload_n 0, 1) := by decide +kernel
theorem dX0_anchorCounts_8 : decode cX0_anchorCounts 8 = .ok (.getfield 42, 3) := by decide +kernel
theorem dX0_anchorCounts_11 : decode cX0_anchorCounts 11 = .ok (.iload_n 1, 1) := by decide +kernel
theorem dX0_anchorCounts_12 : decode cX0_anchorCounts 12 = .ok (.iaload, 1) := by decide +kernel
theorem dX0_anchorCounts_13 : decode cX0_anchorCounts 13 = .ok (.ifCond .le 45, 3) := by decide +kernel
theorem dX0_anchorCounts_16 : decode cX0_anchorCounts 16 = .ok (.aload_n 2, 1) := by decide +kernel
theorem dX0_anchorCounts_17 : decode cX0_anchorCounts 17 = .ok (.invokevirtual 102, 3) := by decide +kernel
theorem dX0_anchorCounts_20 : decode cX0_anchorCounts 20 = .ok (.ifCond .ne 38, 3) := by decide +kernel
theorem dX0_anchorCounts_23 : decode cX0_anchorCounts 23 = .ok (.iload_n 3, 1) := by decide +kernel
theorem dX0_anchorCounts_24 : decode cX0_anchorCounts 24 = .ok (.aload_n 2, 1) := by decide +kernel
theorem dX0_anchorCounts_25 : decode cX0_anchorCounts 25 = .ok (.getfield 106, 3) := by decide +kernel
theorem dX0_anchorCounts_28 : decode cX0_anchorCounts 28 = .ok (.if_icmp .lt 30, 3) := by decide +kernel
theorem dX0_anchorCounts_31 : decode cX0_anchorCounts 31 = .ok (.iload_n 3, 1) := by decide +kernel
theorem dX0_anchorCounts_32 : decode cX0_anchorCounts 32 = .ok (.aload_n 2, 1) := by decide +kernel
theorem dX0_anchorCounts_33 : decode cX0_anchorCounts 33 = .ok (.getfield 109, 3) := by decide +kernel
theorem dX0_anchorCounts_36 : decode cX0_anchorCounts 36 = .ok (.if_icmp .ge 22, 3) := by decide +kernel
theorem dX0_anchorCounts_39 : decode cX0_anchorCounts 39 = .ok (.aload_n 0, 1) := by decide +kernel
theorem dX0_anchorCounts_40 : decode cX0_anchorCounts 40 = .ok (.getfield 39, 3) := by decide +kernel
theorem dX0_anchorCounts_43 : decode cX0_anchorCounts 43 = .ok (.iload_n 1, 1) := by decide +kernel
theorem dX0_anchorCounts_44 : decode cX0_anchorCounts 44 = .ok (.iaload, 1) := by decide +kernel
theorem dX0_anchorCounts_45 : decode cX0_anchorCounts 45 = .ok (.aload_n 2, 1) := by decide +kernel
theorem dX0_anchorCounts_46 : decode cX0_anchorCounts 46 = .ok (.getfield 112, 3) := by decide +kernel
theorem dX0_anchorCounts_49 : decode cX0_anchorCounts 49 = .ok (.iload_n 3, 1) := by decide +kernel
theorem dX0_anchorCounts_50 : decode cX0_anchorCounts 50 = .ok (.iaload, 1) := by decide +kernel
theorem dX0_anchorCounts_51 : decode cX0_anchorCounts 51 = .ok (.if_icmp .le 7, 3) := by decide +kernel
theorem dX0_anchorCounts_54 : decode cX0_anchorCounts 54 = .ok (.iconst 1, 1) := by decide +kernel
theorem dX0_anchorCounts_55 : decode cX0_anchorCounts 55 = .ok (.goto 4, 3) := by decide +kernel
theorem dX0_anchorCounts_58 : decode cX0_anchorCounts 58 = .ok (.iconst 0, 1) := by decide +kernel
theorem dX0_anchorCounts_59 : decode cX0_anchorCounts 59 = .ok (.ireturn, 1) := by decide +kernel
set_option maxHeartbeats 4000000 in
theorem st_X0_anchorCounts_0 {X : sj_X} {g : sj_G} {s0 : sj_Mem} {N : Nat} {q : Int × sj_VV} :
    ∀ (a0 : Nat) (x1 : Int) (x2 : Nat) (V : sj_VV), OK0 g a0 → OK5 g x2 → g_X0_anchorCounts N a0 x1 x2 V = some q → sj_T X m_X0_anchorCounts s0 (some (sj_i q.1), (g, q.2)) 0 [some (sj_r (some a0)), some (sj_i x1), some (sj_r (some x2)), none] [] (g, V) := by
  intro a0 x1 x2 V ha0 hx2 h
  unfold g_X0_anchorCounts at h
  refine r_aload_n (pc := 0) dX0_anchorCounts_0 rfl rfl ?_
  refine r_gRs (b := a0 + 9) (pc := 1) dX0_anchorCounts_1 fw_X0_36 rfl (ok0 ha0) (ok0_11 ha0).1 ?_
  refine r_iload_n (pc := 4) dX0_anchorCounts_4 rfl rfl ?_
  refine r_ialoads (pc := 5) h dX0_anchorCounts_5 (ok0_11 ha0).2 (fun h => ?_)
  refine r_istore_nL (ln := fun w => [some (sj_r (some a0)), some (sj_i x1), some (sj_r (some x2)), some (sj_i w)]) (pc := 6) h dX0_anchorCounts_6 rfl (Nat.le_of_ble_eq_true rfl) (fun _ => rfl) (fun v1 h => ?_)
  refine r_aload_n (pc := 7) dX0_anchorCounts_7 rfl rfl ?_
  refine r_gRs (b := a0 + 11) (pc := 8) dX0_anchorCounts_8 fw_X0_42 rfl (ok0 ha0) (ok0_13 ha0).1 ?_
  refine r_iload_n (pc := 11) dX0_anchorCounts_11 rfl rfl ?_
  refine r_ialoads (pc := 12) h dX0_anchorCounts_12 (ok0_13 ha0).2 (fun h => ?_)
  refine r_if_le (pc := 13) (tgt := 58) h dX0_anchorCounts_13 (by decide) (fun h => ?_) (fun h => ?_)
  · refine r_iconst (pc := 58) dX0_anchorCounts_58 ?_
    exact r_zrets (pc := 59) h rfl dX0_anchorCounts_59
  · refine r_aload_n (pc := 16) dX0_anchorCounts_16 rfl rfl ?_
    refine r_callVs (pc := 17) (fun v => some (sj_i v)) (As := []) (rest := []) (b := x2) (ok5 hx2) h dX0_anchorCounts_17 mw_X0_102 vw_X5_isNone (fun _ _ hc => cg_X5_isNone hx2 hc) rfl ⟨(Nat.le_of_ble_eq_true rfl), (Nat.le_of_ble_eq_true rfl)⟩ (Nat.le_of_ble_eq_true rfl) rfl (fun v3 V2 h => ?_)
    refine r_if_ne (pc := 20) (tgt := 58) h dX0_anchorCounts_20 (by decide) (fun h => ?_) (fun h => ?_)
    · refine r_iload_n (pc := 23) dX0_anchorCounts_23 rfl rfl ?_
      refine r_aload_n (pc := 24) dX0_anchorCounts_24 rfl rfl ?_
      refine r_gIs (pc := 25) dX0_anchorCounts_25 fw_X0_106 rfl (ok5 hx2) ?_
      refine r_icmp_lt (pc := 28) (tgt := 58) h dX0_anchorCounts_28 (by decide) (fun h => ?_) (fun h => ?_)
      · refine r_iconst (pc := 58) dX0_anchorCounts_58 ?_
        exact r_zrets (pc := 59) h rfl dX0_anchorCounts_59
      · refine r_iload_n (pc := 31) dX0_anchorCounts_31 rfl rfl ?_
        refine r_aload_n (pc := 32) dX0_anchorCounts_32 rfl rfl ?_
        refine r_gIs (pc := 33) dX0_anchorCounts_33 fw_X0_109 rfl (ok5 hx2) ?_
        refine r_icmp_ge (pc := 36) (tgt := 58) h dX0_anchorCounts_36 (by decide) (fun h => ?_) (fun h => ?_)
        · refine r_iconst (pc := 58) dX0_anchorCounts_58 ?_
          exact r_zrets (pc := 59) h rfl dX0_anchorCounts_59
        · refine r_aload_n (pc := 39) dX0_anchorCounts_39 rfl rfl ?_
          refine r_gRs (b := a0 + 10) (pc := 40) dX0_anchorCounts_40 fw_X0_39 rfl (ok0 ha0) (ok0_12 ha0).1 ?_
          refine r_iload_n (pc := 43) dX0_anchorCounts_43 rfl rfl ?_
          refine r_ialoads (pc := 44) h dX0_anchorCounts_44 (ok0_12 ha0).2 (fun h => ?_)
          refine r_aload_n (pc := 45) dX0_anchorCounts_45 rfl rfl ?_
          refine r_gRs (b := x2 + 1) (pc := 46) dX0_anchorCounts_46 fw_X0_112 rfl (ok5 hx2) (ok5_0 hx2).1 ?_
          refine r_iload_n (pc := 49) dX0_anchorCounts_49 rfl rfl ?_
          refine r_ialoads (pc := 50) h dX0_anchorCounts_50 (ok5_0 hx2).2 (fun h => ?_)
          refine r_icmp_le (pc := 51) (tgt := 58) h dX0_anchorCounts_51 (by decide) (fun h => ?_) (fun h => ?_)
          · refine r_iconst (pc := 58) dX0_anchorCounts_58 ?_
            exact r_zrets (pc := 59) h rfl dX0_anchorCounts_59
          · refine r_iconst (pc := 54) dX0_anchorCounts_54 ?_
            refine r_goto (pc := 55) (tgt := 59) dX0_anchorCounts_55 (by decide) ?_
            exact r_zrets (pc := 59) h rfl dX0_anchorCounts_59
    · refine r_iconst (pc := 58) dX0_anchorCounts_58 ?_
      exact r_zrets (pc := 59) h rfl dX0_anchorCounts_59
set_option maxHeartbeats 4000000 in
theorem cg_X0_anchorCounts {X : sj_X} {g : sj_G} {N : Nat} {a0 : Nat} {x1 : Int} {x2 : Nat} {V : sj_VV} {q : Int × sj_VV} (ha0 : OK0 g a0) (hx2 : OK5 g x2) (h : g_X0_anchorCounts N a0 x1 x2 V = some q) : sj_C X m_X0_anchorCounts [sj_r (some a0), sj_i x1, sj_r (some x2)] (g, V) (some (sj_i q.1), (g, q.2)) :=
  sj_C_of (by decide +kernel) (Nat.le_of_ble_eq_true rfl) (lo := [some (sj_r (some a0)), some (sj_i x1), some (sj_r (some x2)), none]) rfl (sj_weak (l2 := [some (sj_r (some a0)), some (sj_i x1), some (sj_r (some x2)), none]) (⟨rfl, ⟨rfl, ⟨rfl, trivial⟩⟩⟩) (st_X0_anchorCounts_0 a0 x1 x2 V ha0 hx2 h))
set_option maxHeartbeats 4000000 in
theorem c_X0_anchorCounts {X : sj_X} {N : Nat} {a0 : Nat} {x1 : Int} {x2 : Option Nat} {s : sj_Mem} {q : Int × sj_Mem} (h : f_X0_anchorCounts N a0 x1 x2 s = some q) : sj_C X m_X0_anchorCounts [sj_r (some a0), sj_i x1, sj_r x2] s (some (sj_i q.1), q.2) := by
  obtain ⟨g, V⟩ := s
  unfold f_X0_anchorCounts at h
  obtain ⟨ho, h1⟩ := e_ok_some h
  obtain ⟨q2, h2, rfl⟩ := sj_map_some h1
  obtain ⟨z2, hz2⟩ : ∃ z, x2 = some z := ⟨_, ho.2.1⟩
  subst hz2
  exact cg_X0_anchorCounts ho.1 ho.2.2 h2
theorem dX0_pullsOn_0 : decode cX0_pullsOn 0 = .ok (.lconst 0, 1) := by decide +kernel
theorem dX0_pullsOn_1 : decode cX0_pullsOn 1 = .ok (.lstore_n 2, 1) := by decide +kernel
theorem dX0_pullsOn_2 : decode cX0_pullsOn 2 = .ok (.iconst 0, 1) := by decide +kernel
theorem dX0_pullsOn_3 : decode cX0_pullsOn 3 = .ok (.istore 4, 2) := by decide +kernel
theorem dX0_pullsOn_5 : decode cX0_pullsOn 5 = .ok (.iload 4, 2) := by decide +kernel
theorem dX0_pullsOn_7 : decode cX0_pullsOn 7 = .ok (.bipush 6, 2) := by decide +kernel
theorem dX0_pullsOn_9 : decode cX0_pullsOn 9 = .ok (.if_icmp .ge 40, 3) := by decide +kernel
theorem dX0_pullsOn_12 : decode cX0_pullsOn 12 = .ok (.aload_n 0, 1) := by decide +kernel
theorem dX0_pullsOn_13 : decode cX0_pullsOn 13 = .ok (.iload 4, 2) := by decide +kernel
theorem dX0_pullsOn_15 : decode cX0_pullsOn 15 = .ok (.aload_n 1, 1) := by decide +kernel
theorem dX0_pullsOn_16 : decode cX0_pullsOn 16 = .ok (.invokevirtual 115, 3) := by decide +kernel
theorem dX0_pullsOn_19 : decode cX0_pullsOn 19 = .ok (.ifCond .eq 24, 3) := by decide +kernel
theorem dX0_pullsOn_22 : decode cX0_pullsOn 22 = .ok (.lload_n 2, 1) := by decide +kernel
theorem dX0_pullsOn_23 : decode cX0_pullsOn 23 = .ok (.ldc2_w 119, 3) := by decide +kernel
theorem dX0_pullsOn_26 : decode cX0_pullsOn 26 = .ok (.aload_n 0, 1) := by decide +kernel
theorem dX0_pullsOn_27 : decode cX0_pullsOn 27 = .ok (.getfield 56, 3) := by decide +kernel
theorem dX0_pullsOn_30 : decode cX0_pullsOn 30 = .ok (.i2l, 1) := by decide +kernel
theorem dX0_pullsOn_31 : decode cX0_pullsOn 31 = .ok (.lmul, 1) := by decide +kernel
theorem dX0_pullsOn_32 : decode cX0_pullsOn 32 = .ok (.aload_n 0, 1) := by decide +kernel
theorem dX0_pullsOn_33 : decode cX0_pullsOn 33 = .ok (.getfield 42, 3) := by decide +kernel
theorem dX0_pullsOn_36 : decode cX0_pullsOn 36 = .ok (.iload 4, 2) := by decide +kernel
theorem dX0_pullsOn_38 : decode cX0_pullsOn 38 = .ok (.iaload, 1) := by decide +kernel
theorem dX0_pullsOn_39 : decode cX0_pullsOn 39 = .ok (.i2l, 1) := by decide +kernel
theorem dX0_pullsOn_40 : decode cX0_pullsOn 40 = .ok (.lmul, 1) := by decide +kernel
theorem dX0_pullsOn_41 : decode cX0_pullsOn 41 = .ok (.ladd, 1) := by decide +kernel
theorem dX0_pullsOn_42 : decode cX0_pullsOn 42 = .ok (.lstore_n 2, 1) := by decide +kernel
theorem dX0_pullsOn_43 : decode cX0_pullsOn 43 = .ok (.iinc 4 1, 3) := by decide +kernel
theorem dX0_pullsOn_46 : decode cX0_pullsOn 46 = .ok (.goto (-41), 3) := by decide +kernel
theorem dX0_pullsOn_49 : decode cX0_pullsOn 49 = .ok (.lload_n 2, 1) := by decide +kernel
theorem dX0_pullsOn_50 : decode cX0_pullsOn 50 = .ok (.lreturn, 1) := by decide +kernel
set_option maxHeartbeats 4000000 in
theorem st_X0_pullsOn_43 {X : sj_X} {g : sj_G} {s0 : sj_Mem} {N : Nat} {q : Int × sj_VV} {k5 : Nat → Nat → Int → Int → sj_VV → Option (Int × sj_VV)} (hk5 : ∀ (a0 : Nat) (x1 : Nat) (x2 : Int) (x4 : Int) (V : sj_VV), OK0 g a0 → OK5 g x1 → k5 a0 x1 x2 x4 V = some q → sj_T X m_X0_pullsOn s0 (some (sj_j q.1), (g, q.2)) 5 [some (sj_r (some a0)), some (sj_r (some x1)), some (sj_j x2), none, some (sj_i x4)] [] (g, V)) :
    ∀ (a0 : Nat) (x1 : Nat) (x2 : Int) (x4 : Int) (V : sj_VV), OK0 g a0 → OK5 g x1 → g_X0_pullsOn_43 N k5 a0 x1 x2 x4 V = some q → sj_T X m_X0_pullsOn s0 (some (sj_j q.1), (g, q.2)) 43 [some (sj_r (some a0)), some (sj_r (some x1)), some (sj_j x2), none, some (sj_i x4)] [] (g, V) := by
  intro a0 x1 x2 x4 V ha0 hx1 h
  unfold g_X0_pullsOn_43 at h
  refine r_iinc (ln := fun w => [some (sj_r (some a0)), some (sj_r (some x1)), some (sj_j x2), none, some (sj_i w)]) (pc := 43) h dX0_pullsOn_43 rfl (Nat.le_of_ble_eq_true rfl) (fun _ => rfl) (fun v1 h => ?_)
  refine r_goto (pc := 46) (tgt := 5) dX0_pullsOn_46 (by decide) ?_
  exact sj_weak (l2 := [some (sj_r (some a0)), some (sj_r (some x1)), some (sj_j x2), none, some (sj_i v1)]) (⟨rfl, ⟨rfl, ⟨rfl, ⟨rfl, trivial⟩⟩⟩⟩) (hk5 a0 x1 x2 v1 V ha0 hx1 h)
set_option maxHeartbeats 4000000 in
theorem st_X0_pullsOn_5_b {X : sj_X} {g : sj_G} {s0 : sj_Mem} {N : Nat} {q : Int × sj_VV} {k5 : Nat → Nat → Int → Int → sj_VV → Option (Int × sj_VV)} (hk5 : ∀ (a0 : Nat) (x1 : Nat) (x2 : Int) (x4 : Int) (V : sj_VV), OK0 g a0 → OK5 g x1 → k5 a0 x1 x2 x4 V = some q → sj_T X m_X0_pullsOn s0 (some (sj_j q.1), (g, q.2)) 5 [some (sj_r (some a0)), some (sj_r (some x1)), some (sj_j x2), none, some (sj_i x4)] [] (g, V)) :
    ∀ (a0 : Nat) (x1 : Nat) (x2 : Int) (x4 : Int) (V : sj_VV), OK0 g a0 → OK5 g x1 → g_X0_pullsOn_5_b N k5 a0 x1 x2 x4 V = some q → sj_T X m_X0_pullsOn s0 (some (sj_j q.1), (g, q.2)) 5 [some (sj_r (some a0)), some (sj_r (some x1)), some (sj_j x2), none, some (sj_i x4)] [] (g, V) := by
  intro a0 x1 x2 x4 V ha0 hx1 h
  unfold g_X0_pullsOn_5_b at h
  refine r_iload (pc := 5) dX0_pullsOn_5 rfl ?_
  refine r_bipush (pc := 7) dX0_pullsOn_7 ⟨by decide, by decide⟩ ?_
  refine r_icmp_ge (pc := 9) (tgt := 49) h dX0_pullsOn_9 (by decide) (fun h => ?_) (fun h => ?_)
  · refine r_lload_n (pc := 49) dX0_pullsOn_49 rfl rfl ?_
    exact r_lrets (pc := 50) h rfl dX0_pullsOn_50
  · refine r_aload_n (pc := 12) dX0_pullsOn_12 rfl rfl ?_
    refine r_iload (pc := 13) dX0_pullsOn_13 rfl ?_
    refine r_aload_n (pc := 15) dX0_pullsOn_15 rfl rfl ?_
    refine r_callVs (pc := 16) (fun v => some (sj_i v)) (As := [sj_i x4, sj_r (some x1)]) (rest := []) (b := a0) (ok0 ha0) h dX0_pullsOn_16 mw_X0_115 vw_X0_anchorCounts (fun _ _ hc => cg_X0_anchorCounts ha0 hx1 hc) rfl ⟨(Nat.le_of_ble_eq_true rfl), (Nat.le_of_ble_eq_true rfl)⟩ (Nat.le_of_ble_eq_true rfl) rfl (fun v2 V1 h => ?_)
    refine r_if_eq (pc := 19) (tgt := 43) h dX0_pullsOn_19 (by decide) (fun h => ?_) (fun h => ?_)
    · exact sj_weak (l2 := [some (sj_r (some a0)), some (sj_r (some x1)), some (sj_j x2), none, some (sj_i x4)]) (⟨rfl, ⟨rfl, ⟨rfl, ⟨rfl, trivial⟩⟩⟩⟩) (st_X0_pullsOn_43 hk5 a0 x1 x2 x4 V1 ha0 hx1 h)
    · refine r_lload_n (pc := 22) dX0_pullsOn_22 rfl rfl ?_
      refine r_ldc2 (n := 2000) (pc := 23) dX0_pullsOn_23 kc_X0_119 ?_
      refine r_aload_n (pc := 26) dX0_pullsOn_26 rfl rfl ?_
      refine r_gIs (pc := 27) dX0_pullsOn_27 fw_X0_56 rfl (ok0 ha0) ?_
      refine r_i2l (pc := 30) h dX0_pullsOn_30 (fun v3 h => ?_)
      refine r_lmul (pc := 31) dX0_pullsOn_31 ?_
      refine r_aload_n (pc := 32) dX0_pullsOn_32 rfl rfl ?_
      refine r_gRs (b := a0 + 11) (pc := 33) dX0_pullsOn_33 fw_X0_42 rfl (ok0 ha0) (ok0_13 ha0).1 ?_
      refine r_iload (pc := 36) dX0_pullsOn_36 rfl ?_
      refine r_ialoads (pc := 38) h dX0_pullsOn_38 (ok0_13 ha0).2 (fun h => ?_)
      refine r_i2l (pc := 39) h dX0_pullsOn_39 (fun v4 h => ?_)
      refine r_lmul (pc := 40) dX0_pullsOn_40 ?_
      refine r_ladd (pc := 41) dX0_pullsOn_41 ?_
      refine r_lstore_nL (ln := fun w => [some (sj_r (some a0)), some (sj_r (some x1)), some (sj_j w), none, some (sj_i x4)]) (pc := 42) h dX0_pullsOn_42 rfl (Nat.le_of_ble_eq_true rfl) (fun _ => rfl) (fun v5 h => ?_)
      exact sj_weak (l2 := [some (sj_r (some a0)), some (sj_r (some x1)), some (sj_j v5), none, some (sj_i x4)]) (⟨rfl, ⟨rfl, ⟨rfl, ⟨rfl, trivial⟩⟩⟩⟩) (st_X0_pullsOn_43 hk5 a0 x1 v5 x4 V1 ha0 hx1 h)
set_option maxHeartbeats 4000000 in
theorem st_X0_pullsOn_5 {X : sj_X} {g : sj_G} {s0 : sj_Mem} {N : Nat} {q : Int × sj_VV} :
    ∀ (n : Nat) (a0 : Nat) (x1 : Nat) (x2 : Int) (x4 : Int) (V : sj_VV), OK0 g a0 → OK5 g x1 → g_X0_pullsOn_5 N n a0 x1 x2 x4 V = some q → sj_T X m_X0_pullsOn s0 (some (sj_j q.1), (g, q.2)) 5 [some (sj_r (some a0)), some (sj_r (some x1)), some (sj_j x2), none, some (sj_i x4)] [] (g, V) := by
  intro n
  induction n with
  | zero => intro a0 x1 x2 x4 V ha0 hx1 h; exact nomatch h
  | succ n ih => intro a0 x1 x2 x4 V ha0 hx1 h; exact st_X0_pullsOn_5_b (N := N) ih a0 x1 x2 x4 V ha0 hx1 h
set_option maxHeartbeats 4000000 in
theorem st_X0_pullsOn_0 {X : sj_X} {g : sj_G} {s0 : sj_Mem} {N : Nat} {q : Int × sj_VV} :
    ∀ (a0 : Nat) (x1 : Nat) (V : sj_VV), OK0 g a0 → OK5 g x1 → g_X0_pullsOn N a0 x1 V = some q → sj_T X m_X0_pullsOn s0 (some (sj_j q.1), (g, q.2)) 0 [some (sj_r (some a0)), some (sj_r (some x1)), none, none, none] [] (g, V) := by
  intro a0 x1 V ha0 hx1 h
  unfold g_X0_pullsOn at h
  refine r_lconst0 (pc := 0) dX0_pullsOn_0 ?_
  refine r_lstore_n (ln := [some (sj_r (some a0)), some (sj_r (some x1)), some (sj_j 0), none, none]) (pc := 1) dX0_pullsOn_1 rfl (Nat.le_of_ble_eq_true rfl) rfl ?_
  refine r_iconst (pc := 2) dX0_pullsOn_2 ?_
  refine r_istore (ln := [some (sj_r (some a0)), some (sj_r (some x1)), some (sj_j 0), none, some (sj_i 0)]) (pc := 3) dX0_pullsOn_3 (Nat.le_of_ble_eq_true rfl) rfl ?_
  exact sj_weak (l2 := [some (sj_r (some a0)), some (sj_r (some x1)), some (sj_j 0), none, some (sj_i 0)]) (⟨rfl, ⟨rfl, ⟨rfl, ⟨rfl, trivial⟩⟩⟩⟩) (st_X0_pullsOn_5 N a0 x1 0 0 V ha0 hx1 h)
set_option maxHeartbeats 4000000 in
theorem cg_X0_pullsOn {X : sj_X} {g : sj_G} {N : Nat} {a0 : Nat} {x1 : Nat} {V : sj_VV} {q : Int × sj_VV} (ha0 : OK0 g a0) (hx1 : OK5 g x1) (h : g_X0_pullsOn N a0 x1 V = some q) : sj_C X m_X0_pullsOn [sj_r (some a0), sj_r (some x1)] (g, V) (some (sj_j q.1), (g, q.2)) :=
  sj_C_of (by decide +kernel) (Nat.le_of_ble_eq_true rfl) (lo := [some (sj_r (some a0)), some (sj_r (some x1)), none, none, none]) rfl (sj_weak (l2 := [some (sj_r (some a0)), some (sj_r (some x1)), none, none, none]) (⟨rfl, ⟨rfl, trivial⟩⟩) (st_X0_pullsOn_0 a0 x1 V ha0 hx1 h))
set_option maxHeartbeats 4000000 in
theorem c_X0_pullsOn {X : sj_X} {N : Nat} {a0 : Nat} {x1 : Option Nat} {s : sj_Mem} {q : Int × sj_Mem} (h : f_X0_pullsOn N a0 x1 s = some q) : sj_C X m_X0_pullsOn [sj_r (some a0), sj_r x1] s (some (sj_j q.1), q.2) := by
  obtain ⟨g, V⟩ := s
  unfold f_X0_pullsOn at h
  obtain ⟨ho, h1⟩ := e_ok_some h
  obtain ⟨q2, h2, rfl⟩ := sj_map_some h1
  obtain ⟨z1, hz1⟩ : ∃ z, x1 = some z := ⟨_, ho.2.1⟩
  subst hz1
  exact cg_X0_pullsOn ho.1 ho.2.2 h2
theorem dX0_anchorSet_0 : decode cX0_anchorSet 0 = .ok (.iconst 0, 1) := by decide +kernel
theorem dX0_anchorSet_1 : decode cX0_anchorSet 1 = .ok (.istore_n 1, 1) := by decide +kernel
theorem dX0_anchorSet_2 : decode cX0_anchorSet 2 = .ok (.iconst 0, 1) := by decide +kernel
theorem dX0_anchorSet_3 : decode cX0_anchorSet 3 = .ok (.istore_n 2, 1) := by decide +kernel
theorem dX0_anchorSet_4 : decode cX0_anchorSet 4 = .ok (.iload_n 2, 1) := by decide +kernel
theorem dX0_anchorSet_5 : decode cX0_anchorSet 5 = .ok (.bipush 6, 2) := by decide +kernel
theorem dX0_anchorSet_7 : decode cX0_anchorSet 7 = .ok (.if_icmp .ge 24, 3) := by decide +kernel
theorem dX0_anchorSet_10 : decode cX0_anchorSet 10 = .ok (.aload_n 0, 1) := by decide +kernel
theorem dX0_anchorSet_11 : decode cX0_anchorSet 11 = .ok (.getfield 42, 3) := by decide +kernel
theorem dX0_anchorSet_14 : decode cX0_anchorSet 14 = .ok (.iload_n 2, 1) := by decide +kernel
theorem dX0_anchorSet_15 : decode cX0_anchorSet 15 = .ok (.iaload, 1) := by decide +kernel
theorem dX0_anchorSet_16 : decode cX0_anchorSet 16 = .ok (.ifCond .le 9, 3) := by decide +kernel
theorem dX0_anchorSet_19 : decode cX0_anchorSet 19 = .ok (.iload_n 1, 1) := by decide +kernel
theorem dX0_anchorSet_20 : decode cX0_anchorSet 20 = .ok (.iconst 1, 1) := by decide +kernel
theorem dX0_anchorSet_21 : decode cX0_anchorSet 21 = .ok (.iload_n 2, 1) := by decide +kernel
theorem dX0_anchorSet_22 : decode cX0_anchorSet 22 = .ok (.ishl, 1) := by decide +kernel
theorem dX0_anchorSet_23 : decode cX0_anchorSet 23 = .ok (.ior, 1) := by decide +kernel
theorem dX0_anchorSet_24 : decode cX0_anchorSet 24 = .ok (.istore_n 1, 1) := by decide +kernel
theorem dX0_anchorSet_25 : decode cX0_anchorSet 25 = .ok (.iinc 2 1, 3) := by decide +kernel
theorem dX0_anchorSet_28 : decode cX0_anchorSet 28 = .ok (.goto (-24), 3) := by decide +kernel
theorem dX0_anchorSet_31 : decode cX0_anchorSet 31 = .ok (.iload_n 1, 1) := by decide +kernel
theorem dX0_anchorSet_32 : decode cX0_anchorSet 32 = .ok (.ireturn, 1) := by decide +kernel
set_option maxHeartbeats 4000000 in
theorem st_X0_anchorSet_25 {X : sj_X} {g : sj_G} {s0 : sj_Mem} {N : Nat} {q : Int × sj_VV} {k4 : Nat → Int → Int → sj_VV → Option (Int × sj_VV)} (hk4 : ∀ (a0 : Nat) (x1 : Int) (x2 : Int) (V : sj_VV), OK0 g a0 → k4 a0 x1 x2 V = some q → sj_T X m_X0_anchorSet s0 (some (sj_i q.1), (g, q.2)) 4 [some (sj_r (some a0)), some (sj_i x1), some (sj_i x2)] [] (g, V)) :
    ∀ (a0 : Nat) (x1 : Int) (x2 : Int) (V : sj_VV), OK0 g a0 → g_X0_anchorSet_25 N k4 a0 x1 x2 V = some q → sj_T X m_X0_anchorSet s0 (some (sj_i q.1), (g, q.2)) 25 [some (sj_r (some a0)), some (sj_i x1), some (sj_i x2)] [] (g, V) := by
  intro a0 x1 x2 V ha0 h
  unfold g_X0_anchorSet_25 at h
  refine r_iinc (ln := fun w => [some (sj_r (some a0)), some (sj_i x1), some (sj_i w)]) (pc := 25) h dX0_anchorSet_25 rfl (Nat.le_of_ble_eq_true rfl) (fun _ => rfl) (fun v1 h => ?_)
  refine r_goto (pc := 28) (tgt := 4) dX0_anchorSet_28 (by decide) ?_
  exact sj_weak (l2 := [some (sj_r (some a0)), some (sj_i x1), some (sj_i v1)]) (⟨rfl, ⟨rfl, ⟨rfl, trivial⟩⟩⟩) (hk4 a0 x1 v1 V ha0 h)
set_option maxHeartbeats 4000000 in
theorem st_X0_anchorSet_4_b {X : sj_X} {g : sj_G} {s0 : sj_Mem} {N : Nat} {q : Int × sj_VV} {k4 : Nat → Int → Int → sj_VV → Option (Int × sj_VV)} (hk4 : ∀ (a0 : Nat) (x1 : Int) (x2 : Int) (V : sj_VV), OK0 g a0 → k4 a0 x1 x2 V = some q → sj_T X m_X0_anchorSet s0 (some (sj_i q.1), (g, q.2)) 4 [some (sj_r (some a0)), some (sj_i x1), some (sj_i x2)] [] (g, V)) :
    ∀ (a0 : Nat) (x1 : Int) (x2 : Int) (V : sj_VV), OK0 g a0 → g_X0_anchorSet_4_b N k4 a0 x1 x2 V = some q → sj_T X m_X0_anchorSet s0 (some (sj_i q.1), (g, q.2)) 4 [some (sj_r (some a0)), some (sj_i x1), some (sj_i x2)] [] (g, V) := by
  intro a0 x1 x2 V ha0 h
  unfold g_X0_anchorSet_4_b at h
  refine r_iload_n (pc := 4) dX0_anchorSet_4 rfl rfl ?_
  refine r_bipush (pc := 5) dX0_anchorSet_5 ⟨by decide, by decide⟩ ?_
  refine r_icmp_ge (pc := 7) (tgt := 31) h dX0_anchorSet_7 (by decide) (fun h => ?_) (fun h => ?_)
  · refine r_iload_n (pc := 31) dX0_anchorSet_31 rfl rfl ?_
    exact r_irets (pc := 32) h rfl dX0_anchorSet_32
  · refine r_aload_n (pc := 10) dX0_anchorSet_10 rfl rfl ?_
    refine r_gRs (b := a0 + 11) (pc := 11) dX0_anchorSet_11 fw_X0_42 rfl (ok0 ha0) (ok0_13 ha0).1 ?_
    refine r_iload_n (pc := 14) dX0_anchorSet_14 rfl rfl ?_
    refine r_ialoads (pc := 15) h dX0_anchorSet_15 (ok0_13 ha0).2 (fun h => ?_)
    refine r_if_le (pc := 16) (tgt := 25) h dX0_anchorSet_16 (by decide) (fun h => ?_) (fun h => ?_)
    · exact sj_weak (l2 := [some (sj_r (some a0)), some (sj_i x1), some (sj_i x2)]) (⟨rfl, ⟨rfl, ⟨rfl, trivial⟩⟩⟩) (st_X0_anchorSet_25 hk4 a0 x1 x2 V ha0 h)
    · refine r_iload_n (pc := 19) dX0_anchorSet_19 rfl rfl ?_
      refine r_iconst (pc := 20) dX0_anchorSet_20 ?_
      refine r_iload_n (pc := 21) dX0_anchorSet_21 rfl rfl ?_
      refine r_ishl (pc := 22) h dX0_anchorSet_22 (fun v1 h => ?_)
      refine r_ior (pc := 23) dX0_anchorSet_23 ?_
      refine r_istore_nL (ln := fun w => [some (sj_r (some a0)), some (sj_i w), some (sj_i x2)]) (pc := 24) h dX0_anchorSet_24 rfl (Nat.le_of_ble_eq_true rfl) (fun _ => rfl) (fun v2 h => ?_)
      exact sj_weak (l2 := [some (sj_r (some a0)), some (sj_i v2), some (sj_i x2)]) (⟨rfl, ⟨rfl, ⟨rfl, trivial⟩⟩⟩) (st_X0_anchorSet_25 hk4 a0 v2 x2 V ha0 h)
set_option maxHeartbeats 4000000 in
theorem st_X0_anchorSet_4 {X : sj_X} {g : sj_G} {s0 : sj_Mem} {N : Nat} {q : Int × sj_VV} :
    ∀ (n : Nat) (a0 : Nat) (x1 : Int) (x2 : Int) (V : sj_VV), OK0 g a0 → g_X0_anchorSet_4 N n a0 x1 x2 V = some q → sj_T X m_X0_anchorSet s0 (some (sj_i q.1), (g, q.2)) 4 [some (sj_r (some a0)), some (sj_i x1), some (sj_i x2)] [] (g, V) := by
  intro n
  induction n with
  | zero => intro a0 x1 x2 V ha0 h; exact nomatch h
  | succ n ih => intro a0 x1 x2 V ha0 h; exact st_X0_anchorSet_4_b (N := N) ih a0 x1 x2 V ha0 h
set_option maxHeartbeats 4000000 in
theorem st_X0_anchorSet_0 {X : sj_X} {g : sj_G} {s0 : sj_Mem} {N : Nat} {q : Int × sj_VV} :
    ∀ (a0 : Nat) (V : sj_VV), OK0 g a0 → g_X0_anchorSet N a0 V = some q → sj_T X m_X0_anchorSet s0 (some (sj_i q.1), (g, q.2)) 0 [some (sj_r (some a0)), none, none] [] (g, V) := by
  intro a0 V ha0 h
  unfold g_X0_anchorSet at h
  refine r_iconst (pc := 0) dX0_anchorSet_0 ?_
  refine r_istore_n (ln := [some (sj_r (some a0)), some (sj_i 0), none]) (pc := 1) dX0_anchorSet_1 rfl (Nat.le_of_ble_eq_true rfl) rfl ?_
  refine r_iconst (pc := 2) dX0_anchorSet_2 ?_
  refine r_istore_n (ln := [some (sj_r (some a0)), some (sj_i 0), some (sj_i 0)]) (pc := 3) dX0_anchorSet_3 rfl (Nat.le_of_ble_eq_true rfl) rfl ?_
  exact sj_weak (l2 := [some (sj_r (some a0)), some (sj_i 0), some (sj_i 0)]) (⟨rfl, ⟨rfl, ⟨rfl, trivial⟩⟩⟩) (st_X0_anchorSet_4 N a0 0 0 V ha0 h)
set_option maxHeartbeats 4000000 in
theorem cg_X0_anchorSet {X : sj_X} {g : sj_G} {N : Nat} {a0 : Nat} {V : sj_VV} {q : Int × sj_VV} (ha0 : OK0 g a0) (h : g_X0_anchorSet N a0 V = some q) : sj_C X m_X0_anchorSet [sj_r (some a0)] (g, V) (some (sj_i q.1), (g, q.2)) :=
  sj_C_of (by decide +kernel) (Nat.le_of_ble_eq_true rfl) (lo := [some (sj_r (some a0)), none, none]) rfl (sj_weak (l2 := [some (sj_r (some a0)), none, none]) (⟨rfl, trivial⟩) (st_X0_anchorSet_0 a0 V ha0 h))
set_option maxHeartbeats 4000000 in
theorem c_X0_anchorSet {X : sj_X} {N : Nat} {a0 : Nat} {s : sj_Mem} {q : Int × sj_Mem} (h : f_X0_anchorSet N a0 s = some q) : sj_C X m_X0_anchorSet [sj_r (some a0)] s (some (sj_i q.1), q.2) := by
  obtain ⟨g, V⟩ := s
  unfold f_X0_anchorSet at h
  obtain ⟨ho, h1⟩ := e_ok_some h
  obtain ⟨q2, h2, rfl⟩ := sj_map_some h1
  exact cg_X0_anchorSet ho h2
theorem dX0_greatestGround_0 : decode cX0_greatestGround 0 = .ok (.iconst 0, 1) := by decide +kernel
theorem dX0_greatestGround_1 : decode cX0_greatestGround 1 = .ok (.istore_n 1, 1) := by decide +kernel
theorem dX0_greatestGround_2 : decode cX0_greatestGround 2 = .ok (.iconst 0, 1) := by decide +kernel
theorem dX0_greatestGround_3 : decode cX0_greatestGround 3 = .ok (.istore_n 2, 1) := by decide +kernel
theorem dX0_greatestGround_4 : decode cX0_greatestGround 4 = .ok (.iload_n 2, 1) := by decide +kernel
theorem dX0_greatestGround_5 : decode cX0_greatestGround 5 = .ok (.aload_n 0, 1) := by decide +kernel
theorem dX0_greatestGround_6 : decode cX0_greatestGround 6 = .ok (.getfield 52, 3) := by decide +kernel
theorem dX0_greatestGround_9 : decode cX0_greatestGround 9 = .ok (.if_icmp .gt 20, 3) := by decide +kernel
theorem dX0_greatestGround_12 : decode cX0_greatestGround 12 = .ok (.iload_n 1, 1) := by decide +kernel
theorem dX0_greatestGround_13 : decode cX0_greatestGround 13 = .ok (.aload_n 0, 1) := by decide +kernel
theorem dX0_greatestGround_14 : decode cX0_greatestGround 14 = .ok (.getfield 9, 3) := by decide +kernel
theorem dX0_greatestGround_17 : decode cX0_greatestGround 17 = .ok (.iload_n 2, 1) := by decide +kernel
theorem dX0_greatestGround_18 : decode cX0_greatestGround 18 = .ok (.iaload, 1) := by decide +kernel
theorem dX0_greatestGround_19 : decode cX0_greatestGround 19 = .ok (.invokestatic 96, 3) := by decide +kernel
theorem dX0_greatestGround_22 : decode cX0_greatestGround 22 = .ok (.istore_n 1, 1) := by decide +kernel
theorem dX0_greatestGround_23 : decode cX0_greatestGround 23 = .ok (.iinc 2 1, 3) := by decide +kernel
theorem dX0_greatestGround_26 : decode cX0_greatestGround 26 = .ok (.goto (-22), 3) := by decide +kernel
theorem dX0_greatestGround_29 : decode cX0_greatestGround 29 = .ok (.iload_n 1, 1) := by decide +kernel
theorem dX0_greatestGround_30 : decode cX0_greatestGround 30 = .ok (.ireturn, 1) := by decide +kernel
set_option maxHeartbeats 4000000 in
theorem st_X0_greatestGround_4_b {X : sj_X} {g : sj_G} {s0 : sj_Mem} {N : Nat} {q : Int × sj_VV} {k4 : Nat → Int → Int → sj_VV → Option (Int × sj_VV)} (hk4 : ∀ (a0 : Nat) (x1 : Int) (x2 : Int) (V : sj_VV), OK0 g a0 → k4 a0 x1 x2 V = some q → sj_T X m_X0_greatestGround s0 (some (sj_i q.1), (g, q.2)) 4 [some (sj_r (some a0)), some (sj_i x1), some (sj_i x2)] [] (g, V)) :
    ∀ (a0 : Nat) (x1 : Int) (x2 : Int) (V : sj_VV), OK0 g a0 → g_X0_greatestGround_4_b N k4 a0 x1 x2 V = some q → sj_T X m_X0_greatestGround s0 (some (sj_i q.1), (g, q.2)) 4 [some (sj_r (some a0)), some (sj_i x1), some (sj_i x2)] [] (g, V) := by
  intro a0 x1 x2 V ha0 h
  unfold g_X0_greatestGround_4_b at h
  refine r_iload_n (pc := 4) dX0_greatestGround_4 rfl rfl ?_
  refine r_aload_n (pc := 5) dX0_greatestGround_5 rfl rfl ?_
  refine r_gIs (pc := 6) dX0_greatestGround_6 fw_X0_52 rfl (ok0 ha0) ?_
  refine r_icmp_gt (pc := 9) (tgt := 29) h dX0_greatestGround_9 (by decide) (fun h => ?_) (fun h => ?_)
  · refine r_iload_n (pc := 29) dX0_greatestGround_29 rfl rfl ?_
    exact r_irets (pc := 30) h rfl dX0_greatestGround_30
  · refine r_iload_n (pc := 12) dX0_greatestGround_12 rfl rfl ?_
    refine r_aload_n (pc := 13) dX0_greatestGround_13 rfl rfl ?_
    refine r_gRs (b := a0 + 1) (pc := 14) dX0_greatestGround_14 fw_X0_9 rfl (ok0 ha0) (ok0_3 ha0).1 ?_
    refine r_iload_n (pc := 17) dX0_greatestGround_17 rfl rfl ?_
    refine r_ialoads (pc := 18) h dX0_greatestGround_18 (ok0_3 ha0).2 (fun h => ?_)
    refine r_mmax (pc := 19) h dX0_greatestGround_19 mx_X0_96 (Nat.le_of_ble_eq_true rfl) (Nat.le_of_ble_eq_true rfl) (fun v1 h => ?_)
    refine r_istore_n (ln := [some (sj_r (some a0)), some (sj_i v1), some (sj_i x2)]) (pc := 22) dX0_greatestGround_22 rfl (Nat.le_of_ble_eq_true rfl) rfl ?_
    refine r_iinc (ln := fun w => [some (sj_r (some a0)), some (sj_i v1), some (sj_i w)]) (pc := 23) h dX0_greatestGround_23 rfl (Nat.le_of_ble_eq_true rfl) (fun _ => rfl) (fun v2 h => ?_)
    refine r_goto (pc := 26) (tgt := 4) dX0_greatestGround_26 (by decide) ?_
    exact sj_weak (l2 := [some (sj_r (some a0)), some (sj_i v1), some (sj_i v2)]) (⟨rfl, ⟨rfl, ⟨rfl, trivial⟩⟩⟩) (hk4 a0 v1 v2 V ha0 h)
set_option maxHeartbeats 4000000 in
theorem st_X0_greatestGround_4 {X : sj_X} {g : sj_G} {s0 : sj_Mem} {N : Nat} {q : Int × sj_VV} :
    ∀ (n : Nat) (a0 : Nat) (x1 : Int) (x2 : Int) (V : sj_VV), OK0 g a0 → g_X0_greatestGround_4 N n a0 x1 x2 V = some q → sj_T X m_X0_greatestGround s0 (some (sj_i q.1), (g, q.2)) 4 [some (sj_r (some a0)), some (sj_i x1), some (sj_i x2)] [] (g, V) := by
  intro n
  induction n with
  | zero => intro a0 x1 x2 V ha0 h; exact nomatch h
  | succ n ih => intro a0 x1 x2 V ha0 h; exact st_X0_greatestGround_4_b (N := N) ih a0 x1 x2 V ha0 h
set_option maxHeartbeats 4000000 in
theorem st_X0_greatestGround_0 {X : sj_X} {g : sj_G} {s0 : sj_Mem} {N : Nat} {q : Int × sj_VV} :
    ∀ (a0 : Nat) (V : sj_VV), OK0 g a0 → g_X0_greatestGround N a0 V = some q → sj_T X m_X0_greatestGround s0 (some (sj_i q.1), (g, q.2)) 0 [some (sj_r (some a0)), none, none] [] (g, V) := by
  intro a0 V ha0 h
  unfold g_X0_greatestGround at h
  refine r_iconst (pc := 0) dX0_greatestGround_0 ?_
  refine r_istore_n (ln := [some (sj_r (some a0)), some (sj_i 0), none]) (pc := 1) dX0_greatestGround_1 rfl (Nat.le_of_ble_eq_true rfl) rfl ?_
  refine r_iconst (pc := 2) dX0_greatestGround_2 ?_
  refine r_istore_n (ln := [some (sj_r (some a0)), some (sj_i 0), some (sj_i 0)]) (pc := 3) dX0_greatestGround_3 rfl (Nat.le_of_ble_eq_true rfl) rfl ?_
  exact sj_weak (l2 := [some (sj_r (some a0)), some (sj_i 0), some (sj_i 0)]) (⟨rfl, ⟨rfl, ⟨rfl, trivial⟩⟩⟩) (st_X0_greatestGround_4 N a0 0 0 V ha0 h)
set_option maxHeartbeats 4000000 in
theorem cg_X0_greatestGround {X : sj_X} {g : sj_G} {N : Nat} {a0 : Nat} {V : sj_VV} {q : Int × sj_VV} (ha0 : OK0 g a0) (h : g_X0_greatestGround N a0 V = some q) : sj_C X m_X0_greatestGround [sj_r (some a0)] (g, V) (some (sj_i q.1), (g, q.2)) :=
  sj_C_of (by decide +kernel) (Nat.le_of_ble_eq_true rfl) (lo := [some (sj_r (some a0)), none, none]) rfl (sj_weak (l2 := [some (sj_r (some a0)), none, none]) (⟨rfl, trivial⟩) (st_X0_greatestGround_0 a0 V ha0 h))
set_option maxHeartbeats 4000000 in
theorem c_X0_greatestGround {X : sj_X} {N : Nat} {a0 : Nat} {s : sj_Mem} {q : Int × sj_Mem} (h : f_X0_greatestGround N a0 s = some q) : sj_C X m_X0_greatestGround [sj_r (some a0)] s (some (sj_i q.1), q.2) := by
  obtain ⟨g, V⟩ := s
  unfold f_X0_greatestGround at h
  obtain ⟨ho, h1⟩ := e_ok_some h
  obtain ⟨q2, h2, rfl⟩ := sj_map_some h1
  exact cg_X0_greatestGround ho h2
theorem dX0_allSoil_0 : decode cX0_allSoil 0 = .ok (.iconst 0, 1) := by decide +kernel
theorem dX0_allSoil_1 : decode cX0_allSoil 1 = .ok (.istore_n 1, 1) := by decide +kernel
theorem dX0_allSoil_2 : decode cX0_allSoil 2 = .ok (.iconst 0, 1) := by decide +kernel
theorem dX0_allSoil_3 : decode cX0_allSoil 3 = .ok (.istore_n 2, 1) := by decide +kernel
theorem dX0_allSoil_4 : decode cX0_allSoil 4 = .ok (.iload_n 2, 1) := by decide +kernel
theorem dX0_allSoil_5 : decode cX0_allSoil 5 = .ok (.aload_n 0, 1) := by decide +kernel
theorem dX0_allSoil_6 : decode cX0_allSoil 6 = .ok (.getfield 52, 3) := by decide +kernel
theorem dX0_allSoil_9 : decode cX0_allSoil 9 = .ok (.if_icmp .gt 25, 3) := by decide +kernel
theorem dX0_allSoil_12 : decode cX0_allSoil 12 = .ok (.iload_n 1, 1) := by decide +kernel
theorem dX0_allSoil_13 : decode cX0_allSoil 13 = .ok (.aload_n 0, 1) := by decide +kernel
theorem dX0_allSoil_14 : decode cX0_allSoil 14 = .ok (.getfield 9, 3) := by decide +kernel
theorem dX0_allSoil_17 : decode cX0_allSoil 17 = .ok (.iload_n 2, 1) := by decide +kernel
theorem dX0_allSoil_18 : decode cX0_allSoil 18 = .ok (.iaload, 1) := by decide +kernel
theorem dX0_allSoil_19 : decode cX0_allSoil 19 = .ok (.aload_n 0, 1) := by decide +kernel
theorem dX0_allSoil_20 : decode cX0_allSoil 20 = .ok (.getfield 15, 3) := by decide +kernel
theorem dX0_allSoil_23 : decode cX0_allSoil 23 = .ok (.iload_n 2, 1) := by decide +kernel
theorem dX0_allSoil_24 : decode cX0_allSoil 24 = .ok (.iaload, 1) := by decide +kernel
theorem dX0_allSoil_25 : decode cX0_allSoil 25 = .ok (.isub, 1) := by decide +kernel
theorem dX0_allSoil_26 : decode cX0_allSoil 26 = .ok (.iadd, 1) := by decide +kernel
theorem dX0_allSoil_27 : decode cX0_allSoil 27 = .ok (.istore_n 1, 1) := by decide +kernel
theorem dX0_allSoil_28 : decode cX0_allSoil 28 = .ok (.iinc 2 1, 3) := by decide +kernel
theorem dX0_allSoil_31 : decode cX0_allSoil 31 = .ok (.goto (-27), 3) := by decide +kernel
theorem dX0_allSoil_34 : decode cX0_allSoil 34 = .ok (.iload_n 1, 1) := by decide +kernel
theorem dX0_allSoil_35 : decode cX0_allSoil 35 = .ok (.ireturn, 1) := by decide +kernel
set_option maxHeartbeats 4000000 in
theorem st_X0_allSoil_4_b {X : sj_X} {g : sj_G} {s0 : sj_Mem} {N : Nat} {q : Int × sj_VV} {k4 : Nat → Int → Int → sj_VV → Option (Int × sj_VV)} (hk4 : ∀ (a0 : Nat) (x1 : Int) (x2 : Int) (V : sj_VV), OK0 g a0 → k4 a0 x1 x2 V = some q → sj_T X m_X0_allSoil s0 (some (sj_i q.1), (g, q.2)) 4 [some (sj_r (some a0)), some (sj_i x1), some (sj_i x2)] [] (g, V)) :
    ∀ (a0 : Nat) (x1 : Int) (x2 : Int) (V : sj_VV), OK0 g a0 → g_X0_allSoil_4_b N k4 a0 x1 x2 V = some q → sj_T X m_X0_allSoil s0 (some (sj_i q.1), (g, q.2)) 4 [some (sj_r (some a0)), some (sj_i x1), some (sj_i x2)] [] (g, V) := by
  intro a0 x1 x2 V ha0 h
  unfold g_X0_allSoil_4_b at h
  refine r_iload_n (pc := 4) dX0_allSoil_4 rfl rfl ?_
  refine r_aload_n (pc := 5) dX0_allSoil_5 rfl rfl ?_
  refine r_gIs (pc := 6) dX0_allSoil_6 fw_X0_52 rfl (ok0 ha0) ?_
  refine r_icmp_gt (pc := 9) (tgt := 34) h dX0_allSoil_9 (by decide) (fun h => ?_) (fun h => ?_)
  · refine r_iload_n (pc := 34) dX0_allSoil_34 rfl rfl ?_
    exact r_irets (pc := 35) h rfl dX0_allSoil_35
  · refine r_iload_n (pc := 12) dX0_allSoil_12 rfl rfl ?_
    refine r_aload_n (pc := 13) dX0_allSoil_13 rfl rfl ?_
    refine r_gRs (b := a0 + 1) (pc := 14) dX0_allSoil_14 fw_X0_9 rfl (ok0 ha0) (ok0_3 ha0).1 ?_
    refine r_iload_n (pc := 17) dX0_allSoil_17 rfl rfl ?_
    refine r_ialoads (pc := 18) h dX0_allSoil_18 (ok0_3 ha0).2 (fun h => ?_)
    refine r_aload_n (pc := 19) dX0_allSoil_19 rfl rfl ?_
    refine r_gRs (b := a0 + 2) (pc := 20) dX0_allSoil_20 fw_X0_15 rfl (ok0 ha0) (ok0_4 ha0).1 ?_
    refine r_iload_n (pc := 23) dX0_allSoil_23 rfl rfl ?_
    refine r_ialoads (pc := 24) h dX0_allSoil_24 (ok0_4 ha0).2 (fun h => ?_)
    refine r_isub (pc := 25) dX0_allSoil_25 ?_
    refine r_iadd (pc := 26) dX0_allSoil_26 ?_
    refine r_istore_nL (ln := fun w => [some (sj_r (some a0)), some (sj_i w), some (sj_i x2)]) (pc := 27) h dX0_allSoil_27 rfl (Nat.le_of_ble_eq_true rfl) (fun _ => rfl) (fun v1 h => ?_)
    refine r_iinc (ln := fun w => [some (sj_r (some a0)), some (sj_i v1), some (sj_i w)]) (pc := 28) h dX0_allSoil_28 rfl (Nat.le_of_ble_eq_true rfl) (fun _ => rfl) (fun v2 h => ?_)
    refine r_goto (pc := 31) (tgt := 4) dX0_allSoil_31 (by decide) ?_
    exact sj_weak (l2 := [some (sj_r (some a0)), some (sj_i v1), some (sj_i v2)]) (⟨rfl, ⟨rfl, ⟨rfl, trivial⟩⟩⟩) (hk4 a0 v1 v2 V ha0 h)
set_option maxHeartbeats 4000000 in
theorem st_X0_allSoil_4 {X : sj_X} {g : sj_G} {s0 : sj_Mem} {N : Nat} {q : Int × sj_VV} :
    ∀ (n : Nat) (a0 : Nat) (x1 : Int) (x2 : Int) (V : sj_VV), OK0 g a0 → g_X0_allSoil_4 N n a0 x1 x2 V = some q → sj_T X m_X0_allSoil s0 (some (sj_i q.1), (g, q.2)) 4 [some (sj_r (some a0)), some (sj_i x1), some (sj_i x2)] [] (g, V) := by
  intro n
  induction n with
  | zero => intro a0 x1 x2 V ha0 h; exact nomatch h
  | succ n ih => intro a0 x1 x2 V ha0 h; exact st_X0_allSoil_4_b (N := N) ih a0 x1 x2 V ha0 h
set_option maxHeartbeats 4000000 in
theorem st_X0_allSoil_0 {X : sj_X} {g : sj_G} {s0 : sj_Mem} {N : Nat} {q : Int × sj_VV} :
    ∀ (a0 : Nat) (V : sj_VV), OK0 g a0 → g_X0_allSoil N a0 V = some q → sj_T X m_X0_allSoil s0 (some (sj_i q.1), (g, q.2)) 0 [some (sj_r (some a0)), none, none] [] (g, V) := by
  intro a0 V ha0 h
  unfold g_X0_allSoil at h
  refine r_iconst (pc := 0) dX0_allSoil_0 ?_
  refine r_istore_n (ln := [some (sj_r (some a0)), some (sj_i 0), none]) (pc := 1) dX0_allSoil_1 rfl (Nat.le_of_ble_eq_true rfl) rfl ?_
  refine r_iconst (pc := 2) dX0_allSoil_2 ?_
  refine r_istore_n (ln := [some (sj_r (some a0)), some (sj_i 0), some (sj_i 0)]) (pc := 3) dX0_allSoil_3 rfl (Nat.le_of_ble_eq_true rfl) rfl ?_
  exact sj_weak (l2 := [some (sj_r (some a0)), some (sj_i 0), some (sj_i 0)]) (⟨rfl, ⟨rfl, ⟨rfl, trivial⟩⟩⟩) (st_X0_allSoil_4 N a0 0 0 V ha0 h)
set_option maxHeartbeats 4000000 in
theorem cg_X0_allSoil {X : sj_X} {g : sj_G} {N : Nat} {a0 : Nat} {V : sj_VV} {q : Int × sj_VV} (ha0 : OK0 g a0) (h : g_X0_allSoil N a0 V = some q) : sj_C X m_X0_allSoil [sj_r (some a0)] (g, V) (some (sj_i q.1), (g, q.2)) :=
  sj_C_of (by decide +kernel) (Nat.le_of_ble_eq_true rfl) (lo := [some (sj_r (some a0)), none, none]) rfl (sj_weak (l2 := [some (sj_r (some a0)), none, none]) (⟨rfl, trivial⟩) (st_X0_allSoil_0 a0 V ha0 h))
set_option maxHeartbeats 4000000 in
theorem c_X0_allSoil {X : sj_X} {N : Nat} {a0 : Nat} {s : sj_Mem} {q : Int × sj_Mem} (h : f_X0_allSoil N a0 s = some q) : sj_C X m_X0_allSoil [sj_r (some a0)] s (some (sj_i q.1), q.2) := by
  obtain ⟨g, V⟩ := s
  unfold f_X0_allSoil at h
  obtain ⟨ho, h1⟩ := e_ok_some h
  obtain ⟨q2, h2, rfl⟩ := sj_map_some h1
  exact cg_X0_allSoil ho h2
theorem dX0_thickAt_0 : decode cX0_thickAt 0 = .ok (.iload_n 1, 1) := by decide +kernel
theorem dX0_thickAt_1 : decode cX0_thickAt 1 = .ok (.ifCond .lt 13, 3) := by decide +kernel
theorem dX0_thickAt_4 : decode cX0_thickAt 4 = .ok (.aload_n 0, 1) := by decide +kernel
theorem dX0_thickAt_5 : decode cX0_thickAt 5 = .ok (.getfield 48, 3) := by decide +kernel
theorem dX0_thickAt_8 : decode cX0_thickAt 8 = .ok (.invokevirtual 102, 3) := by decide +kernel
theorem dX0_thickAt_11 : decode cX0_thickAt 11 = .ok (.ifCond .eq 7, 3) := by decide +kernel
theorem dX0_thickAt_14 : decode cX0_thickAt 14 = .ok (.iconst 0, 1) := by decide +kernel
theorem dX0_thickAt_15 : decode cX0_thickAt 15 = .ok (.goto 19, 3) := by decide +kernel
theorem dX0_thickAt_18 : decode cX0_thickAt 18 = .ok (.aload_n 0, 1) := by decide +kernel
theorem dX0_thickAt_19 : decode cX0_thickAt 19 = .ok (.getfield 9, 3) := by decide +kernel
theorem dX0_thickAt_22 : decode cX0_thickAt 22 = .ok (.iload_n 1, 1) := by decide +kernel
theorem dX0_thickAt_23 : decode cX0_thickAt 23 = .ok (.iaload, 1) := by decide +kernel
theorem dX0_thickAt_24 : decode cX0_thickAt 24 = .ok (.aload_n 0, 1) := by decide +kernel
theorem dX0_thickAt_25 : decode cX0_thickAt 25 = .ok (.getfield 48, 3) := by decide +kernel
theorem dX0_thickAt_28 : decode cX0_thickAt 28 = .ok (.getfield 112, 3) := by decide +kernel
theorem dX0_thickAt_31 : decode cX0_thickAt 31 = .ok (.iload_n 1, 1) := by decide +kernel
theorem dX0_thickAt_32 : decode cX0_thickAt 32 = .ok (.iaload, 1) := by decide +kernel
theorem dX0_thickAt_33 : decode cX0_thickAt 33 = .ok (.isub, 1) := by decide +kernel
theorem dX0_thickAt_34 : decode cX0_thickAt 34 = .ok (.ireturn, 1) := by decide +kernel
set_option maxHeartbeats 4000000 in
theorem st_X0_thickAt_14 {X : sj_X} {g : sj_G} {s0 : sj_Mem} {N : Nat} {q : Int × sj_VV} :
    ∀ (V : sj_VV), g_X0_thickAt_14 N V = some q → sj_T X m_X0_thickAt s0 (some (sj_i q.1), (g, q.2)) 14 [none, none] [] (g, V) := by
  intro  V  h
  unfold g_X0_thickAt_14 at h
  refine r_iconst (pc := 14) dX0_thickAt_14 ?_
  refine r_goto (pc := 15) (tgt := 34) dX0_thickAt_15 (by decide) ?_
  exact r_irets (pc := 34) h rfl dX0_thickAt_34
set_option maxHeartbeats 4000000 in
theorem st_X0_thickAt_0 {X : sj_X} {g : sj_G} {s0 : sj_Mem} {N : Nat} {q : Int × sj_VV} :
    ∀ (a0 : Nat) (x1 : Int) (V : sj_VV), OK0 g a0 → g_X0_thickAt N a0 x1 V = some q → sj_T X m_X0_thickAt s0 (some (sj_i q.1), (g, q.2)) 0 [some (sj_r (some a0)), some (sj_i x1)] [] (g, V) := by
  intro a0 x1 V ha0 h
  unfold g_X0_thickAt at h
  refine r_iload_n (pc := 0) dX0_thickAt_0 rfl rfl ?_
  refine r_if_lt (pc := 1) (tgt := 14) h dX0_thickAt_1 (by decide) (fun h => ?_) (fun h => ?_)
  · exact sj_weak (l2 := [none, none]) (trivial) (st_X0_thickAt_14 V h)
  · refine r_aload_n (pc := 4) dX0_thickAt_4 rfl rfl ?_
    refine r_gRs (b := a0 + 12) (pc := 5) dX0_thickAt_5 fw_X0_48 rfl (ok0 ha0) (ok0_14 ha0).1 ?_
    refine r_callVs (pc := 8) (fun v => some (sj_i v)) (As := []) (rest := []) (b := (a0 + 12)) (ok5 (ok0_14 ha0).2) h dX0_thickAt_8 mw_X0_102 vw_X5_isNone (fun _ _ hc => cg_X5_isNone (ok0_14 ha0).2 hc) rfl ⟨(Nat.le_of_ble_eq_true rfl), (Nat.le_of_ble_eq_true rfl)⟩ (Nat.le_of_ble_eq_true rfl) rfl (fun v2 V1 h => ?_)
    refine r_if_eq (pc := 11) (tgt := 18) h dX0_thickAt_11 (by decide) (fun h => ?_) (fun h => ?_)
    · refine r_aload_n (pc := 18) dX0_thickAt_18 rfl rfl ?_
      refine r_gRs (b := a0 + 1) (pc := 19) dX0_thickAt_19 fw_X0_9 rfl (ok0 ha0) (ok0_3 ha0).1 ?_
      refine r_iload_n (pc := 22) dX0_thickAt_22 rfl rfl ?_
      refine r_ialoads (pc := 23) h dX0_thickAt_23 (ok0_3 ha0).2 (fun h => ?_)
      refine r_aload_n (pc := 24) dX0_thickAt_24 rfl rfl ?_
      refine r_gRs (b := a0 + 12) (pc := 25) dX0_thickAt_25 fw_X0_48 rfl (ok0 ha0) (ok0_14 ha0).1 ?_
      refine r_gRs (b := (a0 + 12) + 1) (pc := 28) dX0_thickAt_28 fw_X0_112 rfl (ok5 (ok0_14 ha0).2) (ok5_0 (ok0_14 ha0).2).1 ?_
      refine r_iload_n (pc := 31) dX0_thickAt_31 rfl rfl ?_
      refine r_ialoads (pc := 32) h dX0_thickAt_32 (ok5_0 (ok0_14 ha0).2).2 (fun h => ?_)
      refine r_isub (pc := 33) dX0_thickAt_33 ?_
      exact r_irets (pc := 34) h rfl dX0_thickAt_34
    · exact sj_weak (l2 := [none, none]) (trivial) (st_X0_thickAt_14 V1 h)
set_option maxHeartbeats 4000000 in
theorem cg_X0_thickAt {X : sj_X} {g : sj_G} {N : Nat} {a0 : Nat} {x1 : Int} {V : sj_VV} {q : Int × sj_VV} (ha0 : OK0 g a0) (h : g_X0_thickAt N a0 x1 V = some q) : sj_C X m_X0_thickAt [sj_r (some a0), sj_i x1] (g, V) (some (sj_i q.1), (g, q.2)) :=
  sj_C_of (by decide +kernel) (Nat.le_of_ble_eq_true rfl) (lo := [some (sj_r (some a0)), some (sj_i x1)]) rfl (sj_weak (l2 := [some (sj_r (some a0)), some (sj_i x1)]) (⟨rfl, ⟨rfl, trivial⟩⟩) (st_X0_thickAt_0 a0 x1 V ha0 h))
set_option maxHeartbeats 4000000 in
theorem c_X0_thickAt {X : sj_X} {N : Nat} {a0 : Nat} {x1 : Int} {s : sj_Mem} {q : Int × sj_Mem} (h : f_X0_thickAt N a0 x1 s = some q) : sj_C X m_X0_thickAt [sj_r (some a0), sj_i x1] s (some (sj_i q.1), q.2) := by
  obtain ⟨g, V⟩ := s
  unfold f_X0_thickAt at h
  obtain ⟨ho, h1⟩ := e_ok_some h
  obtain ⟨q2, h2, rfl⟩ := sj_map_some h1
  exact cg_X0_thickAt ho h2
theorem dX0_thickest_0 : decode cX0_thickest 0 = .ok (.aload_n 0, 1) := by decide +kernel
theorem dX0_thickest_1 : decode cX0_thickest 1 = .ok (.getfield 48, 3) := by decide +kernel
theorem dX0_thickest_4 : decode cX0_thickest 4 = .ok (.getfield 106, 3) := by decide +kernel
theorem dX0_thickest_7 : decode cX0_thickest 7 = .ok (.istore_n 1, 1) := by decide +kernel
theorem dX0_thickest_8 : decode cX0_thickest 8 = .ok (.aload_n 0, 1) := by decide +kernel
theorem dX0_thickest_9 : decode cX0_thickest 9 = .ok (.getfield 48, 3) := by decide +kernel
theorem dX0_thickest_12 : decode cX0_thickest 12 = .ok (.getfield 106, 3) := by decide +kernel
theorem dX0_thickest_15 : decode cX0_thickest 15 = .ok (.iconst 0, 1) := by decide +kernel
theorem dX0_thickest_16 : decode cX0_thickest 16 = .ok (.invokestatic 96, 3) := by decide +kernel
theorem dX0_thickest_19 : decode cX0_thickest 19 = .ok (.istore_n 2, 1) := by decide +kernel
theorem dX0_thickest_20 : decode cX0_thickest 20 = .ok (.iload_n 2, 1) := by decide +kernel
theorem dX0_thickest_21 : decode cX0_thickest 21 = .ok (.aload_n 0, 1) := by decide +kernel
theorem dX0_thickest_22 : decode cX0_thickest 22 = .ok (.getfield 48, 3) := by decide +kernel
theorem dX0_thickest_25 : decode cX0_thickest 25 = .ok (.getfield 109, 3) := by decide +kernel
theorem dX0_thickest_28 : decode cX0_thickest 28 = .ok (.if_icmp .gt 24, 3) := by decide +kernel
theorem dX0_thickest_31 : decode cX0_thickest 31 = .ok (.aload_n 0, 1) := by decide +kernel
theorem dX0_thickest_32 : decode cX0_thickest 32 = .ok (.iload_n 2, 1) := by decide +kernel
theorem dX0_thickest_33 : decode cX0_thickest 33 = .ok (.invokevirtual 121, 3) := by decide +kernel
theorem dX0_thickest_36 : decode cX0_thickest 36 = .ok (.aload_n 0, 1) := by decide +kernel
theorem dX0_thickest_37 : decode cX0_thickest 37 = .ok (.iload_n 1, 1) := by decide +kernel
theorem dX0_thickest_38 : decode cX0_thickest 38 = .ok (.invokevirtual 121, 3) := by decide +kernel
theorem dX0_thickest_41 : decode cX0_thickest 41 = .ok (.if_icmp .le 5, 3) := by decide +kernel
theorem dX0_thickest_44 : decode cX0_thickest 44 = .ok (.iload_n 2, 1) := by decide +kernel
theorem dX0_thickest_45 : decode cX0_thickest 45 = .ok (.istore_n 1, 1) := by decide +kernel
theorem dX0_thickest_46 : decode cX0_thickest 46 = .ok (.iinc 2 1, 3) := by decide +kernel
theorem dX0_thickest_49 : decode cX0_thickest 49 = .ok (.goto (-29), 3) := by decide +kernel
theorem dX0_thickest_52 : decode cX0_thickest 52 = .ok (.iload_n 1, 1) := by decide +kernel
theorem dX0_thickest_53 : decode cX0_thickest 53 = .ok (.ireturn, 1) := by decide +kernel
set_option maxHeartbeats 4000000 in
theorem st_X0_thickest_46 {X : sj_X} {g : sj_G} {s0 : sj_Mem} {N : Nat} {q : Int × sj_VV} {k20 : Nat → Int → Int → sj_VV → Option (Int × sj_VV)} (hk20 : ∀ (a0 : Nat) (x1 : Int) (x2 : Int) (V : sj_VV), OK0 g a0 → k20 a0 x1 x2 V = some q → sj_T X m_X0_thickest s0 (some (sj_i q.1), (g, q.2)) 20 [some (sj_r (some a0)), some (sj_i x1), some (sj_i x2)] [] (g, V)) :
    ∀ (a0 : Nat) (x1 : Int) (x2 : Int) (V : sj_VV), OK0 g a0 → g_X0_thickest_46 N k20 a0 x1 x2 V = some q → sj_T X m_X0_thickest s0 (some (sj_i q.1), (g, q.2)) 46 [some (sj_r (some a0)), some (sj_i x1), some (sj_i x2)] [] (g, V) := by
  intro a0 x1 x2 V ha0 h
  unfold g_X0_thickest_46 at h
  refine r_iinc (ln := fun w => [some (sj_r (some a0)), some (sj_i x1), some (sj_i w)]) (pc := 46) h dX0_thickest_46 rfl (Nat.le_of_ble_eq_true rfl) (fun _ => rfl) (fun v1 h => ?_)
  refine r_goto (pc := 49) (tgt := 20) dX0_thickest_49 (by decide) ?_
  exact sj_weak (l2 := [some (sj_r (some a0)), some (sj_i x1), some (sj_i v1)]) (⟨rfl, ⟨rfl, ⟨rfl, trivial⟩⟩⟩) (hk20 a0 x1 v1 V ha0 h)
set_option maxHeartbeats 4000000 in
theorem st_X0_thickest_20_b {X : sj_X} {g : sj_G} {s0 : sj_Mem} {N : Nat} {q : Int × sj_VV} {k20 : Nat → Int → Int → sj_VV → Option (Int × sj_VV)} (hk20 : ∀ (a0 : Nat) (x1 : Int) (x2 : Int) (V : sj_VV), OK0 g a0 → k20 a0 x1 x2 V = some q → sj_T X m_X0_thickest s0 (some (sj_i q.1), (g, q.2)) 20 [some (sj_r (some a0)), some (sj_i x1), some (sj_i x2)] [] (g, V)) :
    ∀ (a0 : Nat) (x1 : Int) (x2 : Int) (V : sj_VV), OK0 g a0 → g_X0_thickest_20_b N k20 a0 x1 x2 V = some q → sj_T X m_X0_thickest s0 (some (sj_i q.1), (g, q.2)) 20 [some (sj_r (some a0)), some (sj_i x1), some (sj_i x2)] [] (g, V) := by
  intro a0 x1 x2 V ha0 h
  unfold g_X0_thickest_20_b at h
  refine r_iload_n (pc := 20) dX0_thickest_20 rfl rfl ?_
  refine r_aload_n (pc := 21) dX0_thickest_21 rfl rfl ?_
  refine r_gRs (b := a0 + 12) (pc := 22) dX0_thickest_22 fw_X0_48 rfl (ok0 ha0) (ok0_14 ha0).1 ?_
  refine r_gIs (pc := 25) dX0_thickest_25 fw_X0_109 rfl (ok5 (ok0_14 ha0).2) ?_
  refine r_icmp_gt (pc := 28) (tgt := 52) h dX0_thickest_28 (by decide) (fun h => ?_) (fun h => ?_)
  · refine r_iload_n (pc := 52) dX0_thickest_52 rfl rfl ?_
    exact r_irets (pc := 53) h rfl dX0_thickest_53
  · refine r_aload_n (pc := 31) dX0_thickest_31 rfl rfl ?_
    refine r_iload_n (pc := 32) dX0_thickest_32 rfl rfl ?_
    refine r_callVs (pc := 33) (fun v => some (sj_i v)) (As := [sj_i x2]) (rest := []) (b := a0) (ok0 ha0) h dX0_thickest_33 mw_X0_121 vw_X0_thickAt (fun _ _ hc => cg_X0_thickAt ha0 hc) rfl ⟨(Nat.le_of_ble_eq_true rfl), (Nat.le_of_ble_eq_true rfl)⟩ (Nat.le_of_ble_eq_true rfl) rfl (fun v2 V1 h => ?_)
    refine r_aload_n (pc := 36) dX0_thickest_36 rfl rfl ?_
    refine r_iload_n (pc := 37) dX0_thickest_37 rfl rfl ?_
    refine r_callVs (pc := 38) (fun v => some (sj_i v)) (As := [sj_i x1]) (rest := [(sj_i v2)]) (b := a0) (ok0 ha0) h dX0_thickest_38 mw_X0_121 vw_X0_thickAt (fun _ _ hc => cg_X0_thickAt ha0 hc) rfl ⟨(Nat.le_of_ble_eq_true rfl), (Nat.le_of_ble_eq_true rfl)⟩ (Nat.le_of_ble_eq_true rfl) rfl (fun v4 V3 h => ?_)
    refine r_icmp_le (pc := 41) (tgt := 46) h dX0_thickest_41 (by decide) (fun h => ?_) (fun h => ?_)
    · exact sj_weak (l2 := [some (sj_r (some a0)), some (sj_i x1), some (sj_i x2)]) (⟨rfl, ⟨rfl, ⟨rfl, trivial⟩⟩⟩) (st_X0_thickest_46 hk20 a0 x1 x2 V3 ha0 h)
    · refine r_iload_n (pc := 44) dX0_thickest_44 rfl rfl ?_
      refine r_istore_n (ln := [some (sj_r (some a0)), some (sj_i x2), some (sj_i x2)]) (pc := 45) dX0_thickest_45 rfl (Nat.le_of_ble_eq_true rfl) rfl ?_
      exact sj_weak (l2 := [some (sj_r (some a0)), some (sj_i x2), some (sj_i x2)]) (⟨rfl, ⟨rfl, ⟨rfl, trivial⟩⟩⟩) (st_X0_thickest_46 hk20 a0 x2 x2 V3 ha0 h)
set_option maxHeartbeats 4000000 in
theorem st_X0_thickest_20 {X : sj_X} {g : sj_G} {s0 : sj_Mem} {N : Nat} {q : Int × sj_VV} :
    ∀ (n : Nat) (a0 : Nat) (x1 : Int) (x2 : Int) (V : sj_VV), OK0 g a0 → g_X0_thickest_20 N n a0 x1 x2 V = some q → sj_T X m_X0_thickest s0 (some (sj_i q.1), (g, q.2)) 20 [some (sj_r (some a0)), some (sj_i x1), some (sj_i x2)] [] (g, V) := by
  intro n
  induction n with
  | zero => intro a0 x1 x2 V ha0 h; exact nomatch h
  | succ n ih => intro a0 x1 x2 V ha0 h; exact st_X0_thickest_20_b (N := N) ih a0 x1 x2 V ha0 h
set_option maxHeartbeats 4000000 in
theorem st_X0_thickest_0 {X : sj_X} {g : sj_G} {s0 : sj_Mem} {N : Nat} {q : Int × sj_VV} :
    ∀ (a0 : Nat) (V : sj_VV), OK0 g a0 → g_X0_thickest N a0 V = some q → sj_T X m_X0_thickest s0 (some (sj_i q.1), (g, q.2)) 0 [some (sj_r (some a0)), none, none] [] (g, V) := by
  intro a0 V ha0 h
  unfold g_X0_thickest at h
  refine r_aload_n (pc := 0) dX0_thickest_0 rfl rfl ?_
  refine r_gRs (b := a0 + 12) (pc := 1) dX0_thickest_1 fw_X0_48 rfl (ok0 ha0) (ok0_14 ha0).1 ?_
  refine r_gIs (pc := 4) dX0_thickest_4 fw_X0_106 rfl (ok5 (ok0_14 ha0).2) ?_
  refine r_istore_nL (ln := fun w => [some (sj_r (some a0)), some (sj_i w), none]) (pc := 7) h dX0_thickest_7 rfl (Nat.le_of_ble_eq_true rfl) (fun _ => rfl) (fun v1 h => ?_)
  refine r_aload_n (pc := 8) dX0_thickest_8 rfl rfl ?_
  refine r_gRs (b := a0 + 12) (pc := 9) dX0_thickest_9 fw_X0_48 rfl (ok0 ha0) (ok0_14 ha0).1 ?_
  refine r_gIs (pc := 12) dX0_thickest_12 fw_X0_106 rfl (ok5 (ok0_14 ha0).2) ?_
  refine r_iconst (pc := 15) dX0_thickest_15 ?_
  refine r_mmax (pc := 16) h dX0_thickest_16 mx_X0_96 (Nat.le_of_ble_eq_true rfl) (Nat.le_of_ble_eq_true rfl) (fun v2 h => ?_)
  refine r_istore_n (ln := [some (sj_r (some a0)), some (sj_i v1), some (sj_i v2)]) (pc := 19) dX0_thickest_19 rfl (Nat.le_of_ble_eq_true rfl) rfl ?_
  exact sj_weak (l2 := [some (sj_r (some a0)), some (sj_i v1), some (sj_i v2)]) (⟨rfl, ⟨rfl, ⟨rfl, trivial⟩⟩⟩) (st_X0_thickest_20 N a0 v1 v2 V ha0 h)
set_option maxHeartbeats 4000000 in
theorem cg_X0_thickest {X : sj_X} {g : sj_G} {N : Nat} {a0 : Nat} {V : sj_VV} {q : Int × sj_VV} (ha0 : OK0 g a0) (h : g_X0_thickest N a0 V = some q) : sj_C X m_X0_thickest [sj_r (some a0)] (g, V) (some (sj_i q.1), (g, q.2)) :=
  sj_C_of (by decide +kernel) (Nat.le_of_ble_eq_true rfl) (lo := [some (sj_r (some a0)), none, none]) rfl (sj_weak (l2 := [some (sj_r (some a0)), none, none]) (⟨rfl, trivial⟩) (st_X0_thickest_0 a0 V ha0 h))
set_option maxHeartbeats 4000000 in
theorem c_X0_thickest {X : sj_X} {N : Nat} {a0 : Nat} {s : sj_Mem} {q : Int × sj_Mem} (h : f_X0_thickest N a0 s = some q) : sj_C X m_X0_thickest [sj_r (some a0)] s (some (sj_i q.1), q.2) := by
  obtain ⟨g, V⟩ := s
  unfold f_X0_thickest at h
  obtain ⟨ho, h1⟩ := e_ok_some h
  obtain ⟨q2, h2, rfl⟩ := sj_map_some h1
  exact cg_X0_thickest ho h2
theorem dX0_slipArea_0 : decode cX0_slipArea 0 = .ok (.iconst 0, 1) := by decide +kernel
theorem dX0_slipArea_1 : decode cX0_slipArea 1 = .ok (.istore_n 1, 1) := by decide +kernel
theorem dX0_slipArea_2 : decode cX0_slipArea 2 = .ok (.aload_n 0, 1) := by decide +kernel
theorem dX0_slipArea_3 : decode cX0_slipArea 3 = .ok (.getfield 48, 3) := by decide +kernel
theorem dX0_slipArea_6 : decode cX0_slipArea 6 = .ok (.getfield 106, 3) := by decide +kernel
theorem dX0_slipArea_9 : decode cX0_slipArea 9 = .ok (.iconst 0, 1) := by decide +kernel
theorem dX0_slipArea_10 : decode cX0_slipArea 10 = .ok (.invokestatic 96, 3) := by decide +kernel
theorem dX0_slipArea_13 : decode cX0_slipArea 13 = .ok (.istore_n 2, 1) := by decide +kernel
theorem dX0_slipArea_14 : decode cX0_slipArea 14 = .ok (.iload_n 2, 1) := by decide +kernel
theorem dX0_slipArea_15 : decode cX0_slipArea 15 = .ok (.aload_n 0, 1) := by decide +kernel
theorem dX0_slipArea_16 : decode cX0_slipArea 16 = .ok (.getfield 48, 3) := by decide +kernel
theorem dX0_slipArea_19 : decode cX0_slipArea 19 = .ok (.getfield 109, 3) := by decide +kernel
theorem dX0_slipArea_22 : decode cX0_slipArea 22 = .ok (.if_icmp .ge 30, 3) := by decide +kernel
theorem dX0_slipArea_25 : decode cX0_slipArea 25 = .ok (.iload_n 1, 1) := by decide +kernel
theorem dX0_slipArea_26 : decode cX0_slipArea 26 = .ok (.aload_n 0, 1) := by decide +kernel
theorem dX0_slipArea_27 : decode cX0_slipArea 27 = .ok (.getfield 56, 3) := by decide +kernel
theorem dX0_slipArea_30 : decode cX0_slipArea 30 = .ok (.aload_n 0, 1) := by decide +kernel
theorem dX0_slipArea_31 : decode cX0_slipArea 31 = .ok (.iload_n 2, 1) := by decide +kernel
theorem dX0_slipArea_32 : decode cX0_slipArea 32 = .ok (.invokevirtual 121, 3) := by decide +kernel
theorem dX0_slipArea_35 : decode cX0_slipArea 35 = .ok (.aload_n 0, 1) := by decide +kernel
theorem dX0_slipArea_36 : decode cX0_slipArea 36 = .ok (.iload_n 2, 1) := by decide +kernel
theorem dX0_slipArea_37 : decode cX0_slipArea 37 = .ok (.iconst 1, 1) := by decide +kernel
theorem dX0_slipArea_38 : decode cX0_slipArea 38 = .ok (.iadd, 1) := by decide +kernel
theorem dX0_slipArea_39 : decode cX0_slipArea 39 = .ok (.invokevirtual 121, 3) := by decide +kernel
theorem dX0_slipArea_42 : decode cX0_slipArea 42 = .ok (.iadd, 1) := by decide +kernel
theorem dX0_slipArea_43 : decode cX0_slipArea 43 = .ok (.imul, 1) := by decide +kernel
theorem dX0_slipArea_44 : decode cX0_slipArea 44 = .ok (.iadd, 1) := by decide +kernel
theorem dX0_slipArea_45 : decode cX0_slipArea 45 = .ok (.istore_n 1, 1) := by decide +kernel
theorem dX0_slipArea_46 : decode cX0_slipArea 46 = .ok (.iinc 2 1, 3) := by decide +kernel
theorem dX0_slipArea_49 : decode cX0_slipArea 49 = .ok (.goto (-35), 3) := by decide +kernel
theorem dX0_slipArea_52 : decode cX0_slipArea 52 = .ok (.iload_n 1, 1) := by decide +kernel
theorem dX0_slipArea_53 : decode cX0_slipArea 53 = .ok (.ireturn, 1) := by decide +kernel
set_option maxHeartbeats 4000000 in
theorem st_X0_slipArea_14_b {X : sj_X} {g : sj_G} {s0 : sj_Mem} {N : Nat} {q : Int × sj_VV} {k14 : Nat → Int → Int → sj_VV → Option (Int × sj_VV)} (hk14 : ∀ (a0 : Nat) (x1 : Int) (x2 : Int) (V : sj_VV), OK0 g a0 → k14 a0 x1 x2 V = some q → sj_T X m_X0_slipArea s0 (some (sj_i q.1), (g, q.2)) 14 [some (sj_r (some a0)), some (sj_i x1), some (sj_i x2)] [] (g, V)) :
    ∀ (a0 : Nat) (x1 : Int) (x2 : Int) (V : sj_VV), OK0 g a0 → g_X0_slipArea_14_b N k14 a0 x1 x2 V = some q → sj_T X m_X0_slipArea s0 (some (sj_i q.1), (g, q.2)) 14 [some (sj_r (some a0)), some (sj_i x1), some (sj_i x2)] [] (g, V) := by
  intro a0 x1 x2 V ha0 h
  unfold g_X0_slipArea_14_b at h
  refine r_iload_n (pc := 14) dX0_slipArea_14 rfl rfl ?_
  refine r_aload_n (pc := 15) dX0_slipArea_15 rfl rfl ?_
  refine r_gRs (b := a0 + 12) (pc := 16) dX0_slipArea_16 fw_X0_48 rfl (ok0 ha0) (ok0_14 ha0).1 ?_
  refine r_gIs (pc := 19) dX0_slipArea_19 fw_X0_109 rfl (ok5 (ok0_14 ha0).2) ?_
  refine r_icmp_ge (pc := 22) (tgt := 52) h dX0_slipArea_22 (by decide) (fun h => ?_) (fun h => ?_)
  · refine r_iload_n (pc := 52) dX0_slipArea_52 rfl rfl ?_
    exact r_irets (pc := 53) h rfl dX0_slipArea_53
  · refine r_iload_n (pc := 25) dX0_slipArea_25 rfl rfl ?_
    refine r_aload_n (pc := 26) dX0_slipArea_26 rfl rfl ?_
    refine r_gIs (pc := 27) dX0_slipArea_27 fw_X0_56 rfl (ok0 ha0) ?_
    refine r_aload_n (pc := 30) dX0_slipArea_30 rfl rfl ?_
    refine r_iload_n (pc := 31) dX0_slipArea_31 rfl rfl ?_
    refine r_callVs (pc := 32) (fun v => some (sj_i v)) (As := [sj_i x2]) (rest := [(sj_i (V a0 1)), (sj_i x1)]) (b := a0) (ok0 ha0) h dX0_slipArea_32 mw_X0_121 vw_X0_thickAt (fun _ _ hc => cg_X0_thickAt ha0 hc) rfl ⟨(Nat.le_of_ble_eq_true rfl), (Nat.le_of_ble_eq_true rfl)⟩ (Nat.le_of_ble_eq_true rfl) rfl (fun v2 V1 h => ?_)
    refine r_aload_n (pc := 35) dX0_slipArea_35 rfl rfl ?_
    refine r_iload_n (pc := 36) dX0_slipArea_36 rfl rfl ?_
    refine r_iconst (pc := 37) dX0_slipArea_37 ?_
    refine r_iadd (pc := 38) dX0_slipArea_38 ?_
    refine r_callVs (pc := 39) (fun v => some (sj_i v)) (As := [sj_i (x2 + 1)]) (rest := [(sj_i v2), (sj_i (V a0 1)), (sj_i x1)]) (b := a0) (ok0 ha0) h dX0_slipArea_39 mw_X0_121 vw_X0_thickAt (fun _ _ hc => cg_X0_thickAt ha0 hc) rfl ⟨(Nat.le_of_ble_eq_true rfl), (Nat.le_of_ble_eq_true rfl)⟩ (Nat.le_of_ble_eq_true rfl) rfl (fun v4 V3 h => ?_)
    refine r_iadd (pc := 42) dX0_slipArea_42 ?_
    refine r_imul (pc := 43) dX0_slipArea_43 ?_
    refine r_iadd (pc := 44) dX0_slipArea_44 ?_
    refine r_istore_nL (ln := fun w => [some (sj_r (some a0)), some (sj_i w), some (sj_i x2)]) (pc := 45) h dX0_slipArea_45 rfl (Nat.le_of_ble_eq_true rfl) (fun _ => rfl) (fun v5 h => ?_)
    refine r_iinc (ln := fun w => [some (sj_r (some a0)), some (sj_i v5), some (sj_i w)]) (pc := 46) h dX0_slipArea_46 rfl (Nat.le_of_ble_eq_true rfl) (fun _ => rfl) (fun v6 h => ?_)
    refine r_goto (pc := 49) (tgt := 14) dX0_slipArea_49 (by decide) ?_
    exact sj_weak (l2 := [some (sj_r (some a0)), some (sj_i v5), some (sj_i v6)]) (⟨rfl, ⟨rfl, ⟨rfl, trivial⟩⟩⟩) (hk14 a0 v5 v6 V3 ha0 h)
set_option maxHeartbeats 4000000 in
theorem st_X0_slipArea_14 {X : sj_X} {g : sj_G} {s0 : sj_Mem} {N : Nat} {q : Int × sj_VV} :
    ∀ (n : Nat) (a0 : Nat) (x1 : Int) (x2 : Int) (V : sj_VV), OK0 g a0 → g_X0_slipArea_14 N n a0 x1 x2 V = some q → sj_T X m_X0_slipArea s0 (some (sj_i q.1), (g, q.2)) 14 [some (sj_r (some a0)), some (sj_i x1), some (sj_i x2)] [] (g, V) := by
  intro n
  induction n with
  | zero => intro a0 x1 x2 V ha0 h; exact nomatch h
  | succ n ih => intro a0 x1 x2 V ha0 h; exact st_X0_slipArea_14_b (N := N) ih a0 x1 x2 V ha0 h
set_option maxHeartbeats 4000000 in
theorem st_X0_slipArea_0 {X : sj_X} {g : sj_G} {s0 : sj_Mem} {N : Nat} {q : Int × sj_VV} :
    ∀ (a0 : Nat) (V : sj_VV), OK0 g a0 → g_X0_slipArea N a0 V = some q → sj_T X m_X0_slipArea s0 (some (sj_i q.1), (g, q.2)) 0 [some (sj_r (some a0)), none, none] [] (g, V) := by
  intro a0 V ha0 h
  unfold g_X0_slipArea at h
  refine r_iconst (pc := 0) dX0_slipArea_0 ?_
  refine r_istore_n (ln := [some (sj_r (some a0)), some (sj_i 0), none]) (pc := 1) dX0_slipArea_1 rfl (Nat.le_of_ble_eq_true rfl) rfl ?_
  refine r_aload_n (pc := 2) dX0_slipArea_2 rfl rfl ?_
  refine r_gRs (b := a0 + 12) (pc := 3) dX0_slipArea_3 fw_X0_48 rfl (ok0 ha0) (ok0_14 ha0).1 ?_
  refine r_gIs (pc := 6) dX0_slipArea_6 fw_X0_106 rfl (ok5 (ok0_14 ha0).2) ?_
  refine r_iconst (pc := 9) dX0_slipArea_9 ?_
  refine r_mmax (pc := 10) h dX0_slipArea_10 mx_X0_96 (Nat.le_of_ble_eq_true rfl) (Nat.le_of_ble_eq_true rfl) (fun v1 h => ?_)
  refine r_istore_n (ln := [some (sj_r (some a0)), some (sj_i 0), some (sj_i v1)]) (pc := 13) dX0_slipArea_13 rfl (Nat.le_of_ble_eq_true rfl) rfl ?_
  exact sj_weak (l2 := [some (sj_r (some a0)), some (sj_i 0), some (sj_i v1)]) (⟨rfl, ⟨rfl, ⟨rfl, trivial⟩⟩⟩) (st_X0_slipArea_14 N a0 0 v1 V ha0 h)
set_option maxHeartbeats 4000000 in
theorem cg_X0_slipArea {X : sj_X} {g : sj_G} {N : Nat} {a0 : Nat} {V : sj_VV} {q : Int × sj_VV} (ha0 : OK0 g a0) (h : g_X0_slipArea N a0 V = some q) : sj_C X m_X0_slipArea [sj_r (some a0)] (g, V) (some (sj_i q.1), (g, q.2)) :=
  sj_C_of (by decide +kernel) (Nat.le_of_ble_eq_true rfl) (lo := [some (sj_r (some a0)), none, none]) rfl (sj_weak (l2 := [some (sj_r (some a0)), none, none]) (⟨rfl, trivial⟩) (st_X0_slipArea_0 a0 V ha0 h))
set_option maxHeartbeats 4000000 in
theorem c_X0_slipArea {X : sj_X} {N : Nat} {a0 : Nat} {s : sj_Mem} {q : Int × sj_Mem} (h : f_X0_slipArea N a0 s = some q) : sj_C X m_X0_slipArea [sj_r (some a0)] s (some (sj_i q.1), q.2) := by
  obtain ⟨g, V⟩ := s
  unfold f_X0_slipArea at h
  obtain ⟨ho, h1⟩ := e_ok_some h
  obtain ⟨q2, h2, rfl⟩ := sj_map_some h1
  exact cg_X0_slipArea ho h2
theorem dX0_dryUp_0 : decode cX0_dryUp 0 = .ok (.aload_n 0, 1) := by decide +kernel
theorem dX0_dryUp_1 : decode cX0_dryUp 1 = .ok (.getfield 18, 3) := by decide +kernel
theorem dX0_dryUp_4 : decode cX0_dryUp 4 = .ok (.iconst 0, 1) := by decide +kernel
theorem dX0_dryUp_5 : decode cX0_dryUp 5 = .ok (.invokestatic 62, 3) := by decide +kernel
theorem dX0_dryUp_8 : decode cX0_dryUp 8 = .ok (.return_, 1) := by decide +kernel
set_option maxHeartbeats 4000000 in
theorem st_X0_dryUp_0 {X : sj_X} {g : sj_G} {s0 : sj_Mem} {N : Nat} {q : Unit × sj_VV} :
    ∀ (a0 : Nat) (V : sj_VV), OK0 g a0 → g_X0_dryUp N a0 V = some q → sj_T X m_X0_dryUp s0 (none, (g, q.2)) 0 [some (sj_r (some a0))] [] (g, V) := by
  intro a0 V ha0 h
  unfold g_X0_dryUp at h
  refine r_aload_n (pc := 0) dX0_dryUp_0 rfl rfl ?_
  refine r_gRs (b := a0 + 3) (pc := 1) dX0_dryUp_1 fw_X0_18 rfl (ok0 ha0) (ok0_5 ha0).1 ?_
  refine r_iconst (pc := 4) dX0_dryUp_4 ?_
  refine r_callSs (pc := 5) (fun _ => none) (As := [sj_r (some (a0 + 3)), sj_i 0]) (rest := []) h dX0_dryUp_5 mw_X0_62 kw_321 (fun _ _ hc => cg_J7_fill_53178 (ok0_5 ha0).2 hc) rfl ⟨(Nat.le_of_ble_eq_true rfl), (Nat.le_of_ble_eq_true rfl)⟩ (Nat.le_of_ble_eq_true rfl) rfl (fun _u V1 h => ?_)
  exact r_vrets (pc := 8) h rfl dX0_dryUp_8
set_option maxHeartbeats 4000000 in
theorem cg_X0_dryUp {X : sj_X} {g : sj_G} {N : Nat} {a0 : Nat} {V : sj_VV} {q : Unit × sj_VV} (ha0 : OK0 g a0) (h : g_X0_dryUp N a0 V = some q) : sj_C X m_X0_dryUp [sj_r (some a0)] (g, V) (none, (g, q.2)) :=
  sj_C_of (by decide +kernel) (Nat.le_of_ble_eq_true rfl) (lo := [some (sj_r (some a0))]) rfl (sj_weak (l2 := [some (sj_r (some a0))]) (⟨rfl, trivial⟩) (st_X0_dryUp_0 a0 V ha0 h))
set_option maxHeartbeats 4000000 in
theorem c_X0_dryUp {X : sj_X} {N : Nat} {a0 : Nat} {s : sj_Mem} {q : Unit × sj_Mem} (h : f_X0_dryUp N a0 s = some q) : sj_C X m_X0_dryUp [sj_r (some a0)] s (none, q.2) := by
  obtain ⟨g, V⟩ := s
  unfold f_X0_dryUp at h
  obtain ⟨ho, h1⟩ := e_ok_some h
  obtain ⟨q2, h2, rfl⟩ := sj_map_some h1
  exact cg_X0_dryUp ho h2
theorem dX0_raiseWater_0 : decode cX0_raiseWater 0 = .ok (.iconst 0, 1) := by decide +kernel
theorem dX0_raiseWater_1 : decode cX0_raiseWater 1 = .ok (.istore_n 1, 1) := by decide +kernel
theorem dX0_raiseWater_2 : decode cX0_raiseWater 2 = .ok (.iload_n 1, 1) := by decide +kernel
theorem dX0_raiseWater_3 : decode cX0_raiseWater 3 = .ok (.aload_n 0, 1) := by decide +kernel
theorem dX0_raiseWater_4 : decode cX0_raiseWater 4 = .ok (.getfield 52, 3) := by decide +kernel
theorem dX0_raiseWater_7 : decode cX0_raiseWater 7 = .ok (.if_icmp .gt 28, 3) := by decide +kernel
theorem dX0_raiseWater_10 : decode cX0_raiseWater 10 = .ok (.aload_n 0, 1) := by decide +kernel
theorem dX0_raiseWater_11 : decode cX0_raiseWater 11 = .ok (.getfield 18, 3) := by decide +kernel
theorem dX0_raiseWater_14 : decode cX0_raiseWater 14 = .ok (.iload_n 1, 1) := by decide +kernel
theorem dX0_raiseWater_15 : decode cX0_raiseWater 15 = .ok (.aload_n 0, 1) := by decide +kernel
theorem dX0_raiseWater_16 : decode cX0_raiseWater 16 = .ok (.getfield 18, 3) := by decide +kernel
theorem dX0_raiseWater_19 : decode cX0_raiseWater 19 = .ok (.iload_n 1, 1) := by decide +kernel
theorem dX0_raiseWater_20 : decode cX0_raiseWater 20 = .ok (.iaload, 1) := by decide +kernel
theorem dX0_raiseWater_21 : decode cX0_raiseWater 21 = .ok (.iconst 1, 1) := by decide +kernel
theorem dX0_raiseWater_22 : decode cX0_raiseWater 22 = .ok (.iadd, 1) := by decide +kernel
theorem dX0_raiseWater_23 : decode cX0_raiseWater 23 = .ok (.bipush 100, 2) := by decide +kernel
theorem dX0_raiseWater_25 : decode cX0_raiseWater 25 = .ok (.invokestatic 87, 3) := by decide +kernel
theorem dX0_raiseWater_28 : decode cX0_raiseWater 28 = .ok (.iastore, 1) := by decide +kernel
theorem dX0_raiseWater_29 : decode cX0_raiseWater 29 = .ok (.iinc 1 1, 3) := by decide +kernel
theorem dX0_raiseWater_32 : decode cX0_raiseWater 32 = .ok (.goto (-30), 3) := by decide +kernel
theorem dX0_raiseWater_35 : decode cX0_raiseWater 35 = .ok (.return_, 1) := by decide +kernel
set_option maxHeartbeats 4000000 in
theorem st_X0_raiseWater_2_b {X : sj_X} {g : sj_G} {s0 : sj_Mem} {N : Nat} {q : Unit × sj_VV} {k2 : Nat → Int → sj_VV → Option (Unit × sj_VV)} (hk2 : ∀ (a0 : Nat) (x1 : Int) (V : sj_VV), OK0 g a0 → k2 a0 x1 V = some q → sj_T X m_X0_raiseWater s0 (none, (g, q.2)) 2 [some (sj_r (some a0)), some (sj_i x1)] [] (g, V)) :
    ∀ (a0 : Nat) (x1 : Int) (V : sj_VV), OK0 g a0 → g_X0_raiseWater_2_b N k2 a0 x1 V = some q → sj_T X m_X0_raiseWater s0 (none, (g, q.2)) 2 [some (sj_r (some a0)), some (sj_i x1)] [] (g, V) := by
  intro a0 x1 V ha0 h
  unfold g_X0_raiseWater_2_b at h
  refine r_iload_n (pc := 2) dX0_raiseWater_2 rfl rfl ?_
  refine r_aload_n (pc := 3) dX0_raiseWater_3 rfl rfl ?_
  refine r_gIs (pc := 4) dX0_raiseWater_4 fw_X0_52 rfl (ok0 ha0) ?_
  refine r_icmp_gt (pc := 7) (tgt := 35) h dX0_raiseWater_7 (by decide) (fun h => ?_) (fun h => ?_)
  · exact r_vrets (pc := 35) h rfl dX0_raiseWater_35
  · refine r_aload_n (pc := 10) dX0_raiseWater_10 rfl rfl ?_
    refine r_gRs (b := a0 + 3) (pc := 11) dX0_raiseWater_11 fw_X0_18 rfl (ok0 ha0) (ok0_5 ha0).1 ?_
    refine r_iload_n (pc := 14) dX0_raiseWater_14 rfl rfl ?_
    refine r_aload_n (pc := 15) dX0_raiseWater_15 rfl rfl ?_
    refine r_gRs (b := a0 + 3) (pc := 16) dX0_raiseWater_16 fw_X0_18 rfl (ok0 ha0) (ok0_5 ha0).1 ?_
    refine r_iload_n (pc := 19) dX0_raiseWater_19 rfl rfl ?_
    refine r_ialoads (pc := 20) h dX0_raiseWater_20 (ok0_5 ha0).2 (fun h => ?_)
    refine r_iconst (pc := 21) dX0_raiseWater_21 ?_
    refine r_iadd (pc := 22) dX0_raiseWater_22 ?_
    refine r_bipush (pc := 23) dX0_raiseWater_23 ⟨by decide, by decide⟩ ?_
    refine r_mmin (pc := 25) h dX0_raiseWater_25 mx_X0_87 (Nat.le_of_ble_eq_true rfl) (Nat.le_of_ble_eq_true rfl) (fun v1 h => ?_)
    refine r_iastores (pc := 28) h dX0_raiseWater_28 (ok0_5 ha0).2 (fun V2 h => ?_)
    refine r_iinc (ln := fun w => [some (sj_r (some a0)), some (sj_i w)]) (pc := 29) h dX0_raiseWater_29 rfl (Nat.le_of_ble_eq_true rfl) (fun _ => rfl) (fun v3 h => ?_)
    refine r_goto (pc := 32) (tgt := 2) dX0_raiseWater_32 (by decide) ?_
    exact sj_weak (l2 := [some (sj_r (some a0)), some (sj_i v3)]) (⟨rfl, ⟨rfl, trivial⟩⟩) (hk2 a0 v3 V2 ha0 h)
set_option maxHeartbeats 4000000 in
theorem st_X0_raiseWater_2 {X : sj_X} {g : sj_G} {s0 : sj_Mem} {N : Nat} {q : Unit × sj_VV} :
    ∀ (n : Nat) (a0 : Nat) (x1 : Int) (V : sj_VV), OK0 g a0 → g_X0_raiseWater_2 N n a0 x1 V = some q → sj_T X m_X0_raiseWater s0 (none, (g, q.2)) 2 [some (sj_r (some a0)), some (sj_i x1)] [] (g, V) := by
  intro n
  induction n with
  | zero => intro a0 x1 V ha0 h; exact nomatch h
  | succ n ih => intro a0 x1 V ha0 h; exact st_X0_raiseWater_2_b (N := N) ih a0 x1 V ha0 h
set_option maxHeartbeats 4000000 in
theorem st_X0_raiseWater_0 {X : sj_X} {g : sj_G} {s0 : sj_Mem} {N : Nat} {q : Unit × sj_VV} :
    ∀ (a0 : Nat) (V : sj_VV), OK0 g a0 → g_X0_raiseWater N a0 V = some q → sj_T X m_X0_raiseWater s0 (none, (g, q.2)) 0 [some (sj_r (some a0)), none] [] (g, V) := by
  intro a0 V ha0 h
  unfold g_X0_raiseWater at h
  refine r_iconst (pc := 0) dX0_raiseWater_0 ?_
  refine r_istore_n (ln := [some (sj_r (some a0)), some (sj_i 0)]) (pc := 1) dX0_raiseWater_1 rfl (Nat.le_of_ble_eq_true rfl) rfl ?_
  exact sj_weak (l2 := [some (sj_r (some a0)), some (sj_i 0)]) (⟨rfl, ⟨rfl, trivial⟩⟩) (st_X0_raiseWater_2 N a0 0 V ha0 h)
set_option maxHeartbeats 4000000 in
theorem cg_X0_raiseWater {X : sj_X} {g : sj_G} {N : Nat} {a0 : Nat} {V : sj_VV} {q : Unit × sj_VV} (ha0 : OK0 g a0) (h : g_X0_raiseWater N a0 V = some q) : sj_C X m_X0_raiseWater [sj_r (some a0)] (g, V) (none, (g, q.2)) :=
  sj_C_of (by decide +kernel) (Nat.le_of_ble_eq_true rfl) (lo := [some (sj_r (some a0)), none]) rfl (sj_weak (l2 := [some (sj_r (some a0)), none]) (⟨rfl, trivial⟩) (st_X0_raiseWater_0 a0 V ha0 h))
set_option maxHeartbeats 4000000 in
theorem c_X0_raiseWater {X : sj_X} {N : Nat} {a0 : Nat} {s : sj_Mem} {q : Unit × sj_Mem} (h : f_X0_raiseWater N a0 s = some q) : sj_C X m_X0_raiseWater [sj_r (some a0)] s (none, q.2) := by
  obtain ⟨g, V⟩ := s
  unfold f_X0_raiseWater at h
  obtain ⟨ho, h1⟩ := e_ok_some h
  obtain ⟨q2, h2, rfl⟩ := sj_map_some h1
  exact cg_X0_raiseWater ho h2
theorem dX0_turnRow_0 : decode cX0_turnRow 0 = .ok (.iconst 0, 1) := by decide +kernel
theorem dX0_turnRow_1 : decode cX0_turnRow 1 = .ok (.istore_n 3, 1) := by decide +kernel
theorem dX0_turnRow_2 : decode cX0_turnRow 2 = .ok (.iload_n 3, 1) := by decide +kernel
theorem dX0_turnRow_3 : decode cX0_turnRow 3 = .ok (.aload_n 0, 1) := by decide +kernel
theorem dX0_turnRow_4 : decode cX0_turnRow 4 = .ok (.getfield 52, 3) := by decide +kernel
theorem dX0_turnRow_7 : decode cX0_turnRow 7 = .ok (.iload_n 3, 1) := by decide +kernel
theorem dX0_turnRow_8 : decode cX0_turnRow 8 = .ok (.isub, 1) := by decide +kernel
theorem dX0_turnRow_9 : decode cX0_turnRow 9 = .ok (.if_icmp .ge 43, 3) := by decide +kernel
theorem dX0_turnRow_12 : decode cX0_turnRow 12 = .ok (.aload_n 1, 1) := by decide +kernel
theorem dX0_turnRow_13 : decode cX0_turnRow 13 = .ok (.iload_n 2, 1) := by decide +kernel
theorem dX0_turnRow_14 : decode cX0_turnRow 14 = .ok (.iload_n 3, 1) := by decide +kernel
theorem dX0_turnRow_15 : decode cX0_turnRow 15 = .ok (.iadd, 1) := by decide +kernel
theorem dX0_turnRow_16 : decode cX0_turnRow 16 = .ok (.iaload, 1) := by decide +kernel
theorem dX0_turnRow_17 : decode cX0_turnRow 17 = .ok (.istore 4, 2) := by decide +kernel
theorem dX0_turnRow_19 : decode cX0_turnRow 19 = .ok (.aload_n 1, 1) := by decide +kernel
theorem dX0_turnRow_20 : decode cX0_turnRow 20 = .ok (.iload_n 2, 1) := by decide +kernel
theorem dX0_turnRow_21 : decode cX0_turnRow 21 = .ok (.iload_n 3, 1) := by decide +kernel
theorem dX0_turnRow_22 : decode cX0_turnRow 22 = .ok (.iadd, 1) := by decide +kernel
theorem dX0_turnRow_23 : decode cX0_turnRow 23 = .ok (.aload_n 1, 1) := by decide +kernel
theorem dX0_turnRow_24 : decode cX0_turnRow 24 = .ok (.iload_n 2, 1) := by decide +kernel
theorem dX0_turnRow_25 : decode cX0_turnRow 25 = .ok (.aload_n 0, 1) := by decide +kernel
theorem dX0_turnRow_26 : decode cX0_turnRow 26 = .ok (.getfield 52, 3) := by decide +kernel
theorem dX0_turnRow_29 : decode cX0_turnRow 29 = .ok (.iadd, 1) := by decide +kernel
theorem dX0_turnRow_30 : decode cX0_turnRow 30 = .ok (.iload_n 3, 1) := by decide +kernel
theorem dX0_turnRow_31 : decode cX0_turnRow 31 = .ok (.isub, 1) := by decide +kernel
theorem dX0_turnRow_32 : decode cX0_turnRow 32 = .ok (.iaload, 1) := by decide +kernel
theorem dX0_turnRow_33 : decode cX0_turnRow 33 = .ok (.iastore, 1) := by decide +kernel
theorem dX0_turnRow_34 : decode cX0_turnRow 34 = .ok (.aload_n 1, 1) := by decide +kernel
theorem dX0_turnRow_35 : decode cX0_turnRow 35 = .ok (.iload_n 2, 1) := by decide +kernel
theorem dX0_turnRow_36 : decode cX0_turnRow 36 = .ok (.aload_n 0, 1) := by decide +kernel
theorem dX0_turnRow_37 : decode cX0_turnRow 37 = .ok (.getfield 52, 3) := by decide +kernel
theorem dX0_turnRow_40 : decode cX0_turnRow 40 = .ok (.iadd, 1) := by decide +kernel
theorem dX0_turnRow_41 : decode cX0_turnRow 41 = .ok (.iload_n 3, 1) := by decide +kernel
theorem dX0_turnRow_42 : decode cX0_turnRow 42 = .ok (.isub, 1) := by decide +kernel
theorem dX0_turnRow_43 : decode cX0_turnRow 43 = .ok (.iload 4, 2) := by decide +kernel
theorem dX0_turnRow_45 : decode cX0_turnRow 45 = .ok (.iastore, 1) := by decide +kernel
theorem dX0_turnRow_46 : decode cX0_turnRow 46 = .ok (.iinc 3 1, 3) := by decide +kernel
theorem dX0_turnRow_49 : decode cX0_turnRow 49 = .ok (.goto (-47), 3) := by decide +kernel
theorem dX0_turnRow_52 : decode cX0_turnRow 52 = .ok (.return_, 1) := by decide +kernel
set_option maxHeartbeats 4000000 in
theorem st_X0_turnRow_2_b {X : sj_X} {g : sj_G} {s0 : sj_Mem} {N : Nat} {q : Unit × sj_VV} {k2 : Nat → Nat → Nat → Int → Int → sj_VV → Option (Unit × sj_VV)} (hk2 : ∀ (a0 : Nat) (x1 : Nat) (n1 : Nat) (x2 : Int) (x3 : Int) (V : sj_VV), OK0 g a0 → OKA g 100 x1 n1 → k2 a0 x1 n1 x2 x3 V = some q → sj_T X m_X0_turnRow s0 (none, (g, q.2)) 2 [some (sj_r (some a0)), some (sj_r (some x1)), some (sj_i x2), some (sj_i x3), none] [] (g, V)) :
    ∀ (a0 : Nat) (x1 : Nat) (n1 : Nat) (x2 : Int) (x3 : Int) (V : sj_VV), OK0 g a0 → OKA g 100 x1 n1 → g_X0_turnRow_2_b N k2 a0 x1 n1 x2 x3 V = some q → sj_T X m_X0_turnRow s0 (none, (g, q.2)) 2 [some (sj_r (some a0)), some (sj_r (some x1)), some (sj_i x2), some (sj_i x3), none] [] (g, V) := by
  intro a0 x1 n1 x2 x3 V ha0 hx1 h
  unfold g_X0_turnRow_2_b at h
  refine r_iload_n (pc := 2) dX0_turnRow_2 rfl rfl ?_
  refine r_aload_n (pc := 3) dX0_turnRow_3 rfl rfl ?_
  refine r_gIs (pc := 4) dX0_turnRow_4 fw_X0_52 rfl (ok0 ha0) ?_
  refine r_iload_n (pc := 7) dX0_turnRow_7 rfl rfl ?_
  refine r_isub (pc := 8) dX0_turnRow_8 ?_
  refine r_icmp_ge (pc := 9) (tgt := 52) h dX0_turnRow_9 (by decide) (fun h => ?_) (fun h => ?_)
  · exact r_vrets (pc := 52) h rfl dX0_turnRow_52
  · refine r_aload_n (pc := 12) dX0_turnRow_12 rfl rfl ?_
    refine r_iload_n (pc := 13) dX0_turnRow_13 rfl rfl ?_
    refine r_iload_n (pc := 14) dX0_turnRow_14 rfl rfl ?_
    refine r_iadd (pc := 15) dX0_turnRow_15 ?_
    refine r_ialoads (pc := 16) h dX0_turnRow_16 hx1 (fun h => ?_)
    refine r_istoreL (ln := fun w => [some (sj_r (some a0)), some (sj_r (some x1)), some (sj_i x2), some (sj_i x3), some (sj_i w)]) (pc := 17) h dX0_turnRow_17 (Nat.le_of_ble_eq_true rfl) (fun _ => rfl) (fun v1 h => ?_)
    refine r_aload_n (pc := 19) dX0_turnRow_19 rfl rfl ?_
    refine r_iload_n (pc := 20) dX0_turnRow_20 rfl rfl ?_
    refine r_iload_n (pc := 21) dX0_turnRow_21 rfl rfl ?_
    refine r_iadd (pc := 22) dX0_turnRow_22 ?_
    refine r_aload_n (pc := 23) dX0_turnRow_23 rfl rfl ?_
    refine r_iload_n (pc := 24) dX0_turnRow_24 rfl rfl ?_
    refine r_aload_n (pc := 25) dX0_turnRow_25 rfl rfl ?_
    refine r_gIs (pc := 26) dX0_turnRow_26 fw_X0_52 rfl (ok0 ha0) ?_
    refine r_iadd (pc := 29) dX0_turnRow_29 ?_
    refine r_iload_n (pc := 30) dX0_turnRow_30 rfl rfl ?_
    refine r_isub (pc := 31) dX0_turnRow_31 ?_
    refine r_ialoads (pc := 32) h dX0_turnRow_32 hx1 (fun h => ?_)
    refine r_iastores (pc := 33) h dX0_turnRow_33 hx1 (fun V2 h => ?_)
    refine r_aload_n (pc := 34) dX0_turnRow_34 rfl rfl ?_
    refine r_iload_n (pc := 35) dX0_turnRow_35 rfl rfl ?_
    refine r_aload_n (pc := 36) dX0_turnRow_36 rfl rfl ?_
    refine r_gIs (pc := 37) dX0_turnRow_37 fw_X0_52 rfl (ok0 ha0) ?_
    refine r_iadd (pc := 40) dX0_turnRow_40 ?_
    refine r_iload_n (pc := 41) dX0_turnRow_41 rfl rfl ?_
    refine r_isub (pc := 42) dX0_turnRow_42 ?_
    refine r_iload (pc := 43) dX0_turnRow_43 rfl ?_
    refine r_iastores (pc := 45) h dX0_turnRow_45 hx1 (fun V3 h => ?_)
    refine r_iinc (ln := fun w => [some (sj_r (some a0)), some (sj_r (some x1)), some (sj_i x2), some (sj_i w), some (sj_i v1)]) (pc := 46) h dX0_turnRow_46 rfl (Nat.le_of_ble_eq_true rfl) (fun _ => rfl) (fun v4 h => ?_)
    refine r_goto (pc := 49) (tgt := 2) dX0_turnRow_49 (by decide) ?_
    exact sj_weak (l2 := [some (sj_r (some a0)), some (sj_r (some x1)), some (sj_i x2), some (sj_i v4), none]) (⟨rfl, ⟨rfl, ⟨rfl, ⟨rfl, trivial⟩⟩⟩⟩) (hk2 a0 x1 n1 x2 v4 V3 ha0 hx1 h)
set_option maxHeartbeats 4000000 in
theorem st_X0_turnRow_2 {X : sj_X} {g : sj_G} {s0 : sj_Mem} {N : Nat} {q : Unit × sj_VV} :
    ∀ (n : Nat) (a0 : Nat) (x1 : Nat) (n1 : Nat) (x2 : Int) (x3 : Int) (V : sj_VV), OK0 g a0 → OKA g 100 x1 n1 → g_X0_turnRow_2 N n a0 x1 n1 x2 x3 V = some q → sj_T X m_X0_turnRow s0 (none, (g, q.2)) 2 [some (sj_r (some a0)), some (sj_r (some x1)), some (sj_i x2), some (sj_i x3), none] [] (g, V) := by
  intro n
  induction n with
  | zero => intro a0 x1 n1 x2 x3 V ha0 hx1 h; exact nomatch h
  | succ n ih => intro a0 x1 n1 x2 x3 V ha0 hx1 h; exact st_X0_turnRow_2_b (N := N) ih a0 x1 n1 x2 x3 V ha0 hx1 h
set_option maxHeartbeats 4000000 in
theorem st_X0_turnRow_0 {X : sj_X} {g : sj_G} {s0 : sj_Mem} {N : Nat} {q : Unit × sj_VV} :
    ∀ (a0 : Nat) (x1 : Nat) (n1 : Nat) (x2 : Int) (V : sj_VV), OK0 g a0 → OKA g 100 x1 n1 → g_X0_turnRow N a0 x1 n1 x2 V = some q → sj_T X m_X0_turnRow s0 (none, (g, q.2)) 0 [some (sj_r (some a0)), some (sj_r (some x1)), some (sj_i x2), none, none] [] (g, V) := by
  intro a0 x1 n1 x2 V ha0 hx1 h
  unfold g_X0_turnRow at h
  refine r_iconst (pc := 0) dX0_turnRow_0 ?_
  refine r_istore_n (ln := [some (sj_r (some a0)), some (sj_r (some x1)), some (sj_i x2), some (sj_i 0), none]) (pc := 1) dX0_turnRow_1 rfl (Nat.le_of_ble_eq_true rfl) rfl ?_
  exact sj_weak (l2 := [some (sj_r (some a0)), some (sj_r (some x1)), some (sj_i x2), some (sj_i 0), none]) (⟨rfl, ⟨rfl, ⟨rfl, ⟨rfl, trivial⟩⟩⟩⟩) (st_X0_turnRow_2 N a0 x1 n1 x2 0 V ha0 hx1 h)
set_option maxHeartbeats 4000000 in
theorem cg_X0_turnRow {X : sj_X} {g : sj_G} {N : Nat} {a0 : Nat} {x1 : Nat} {n1 : Nat} {x2 : Int} {V : sj_VV} {q : Unit × sj_VV} (ha0 : OK0 g a0) (hx1 : OKA g 100 x1 n1) (h : g_X0_turnRow N a0 x1 n1 x2 V = some q) : sj_C X m_X0_turnRow [sj_r (some a0), sj_r (some x1), sj_i x2] (g, V) (none, (g, q.2)) :=
  sj_C_of (by decide +kernel) (Nat.le_of_ble_eq_true rfl) (lo := [some (sj_r (some a0)), some (sj_r (some x1)), some (sj_i x2), none, none]) rfl (sj_weak (l2 := [some (sj_r (some a0)), some (sj_r (some x1)), some (sj_i x2), none, none]) (⟨rfl, ⟨rfl, ⟨rfl, trivial⟩⟩⟩) (st_X0_turnRow_0 a0 x1 n1 x2 V ha0 hx1 h))
theorem dX0_turn_0 : decode cX0_turn 0 = .ok (.aload_n 0, 1) := by decide +kernel
theorem dX0_turn_1 : decode cX0_turn 1 = .ok (.aload_n 0, 1) := by decide +kernel
theorem dX0_turn_2 : decode cX0_turn 2 = .ok (.getfield 9, 3) := by decide +kernel
theorem dX0_turn_5 : decode cX0_turn 5 = .ok (.iconst 0, 1) := by decide +kernel
theorem dX0_turn_6 : decode cX0_turn 6 = .ok (.invokevirtual 125, 3) := by decide +kernel
theorem dX0_turn_9 : decode cX0_turn 9 = .ok (.aload_n 0, 1) := by decide +kernel
theorem dX0_turn_10 : decode cX0_turn 10 = .ok (.aload_n 0, 1) := by decide +kernel
theorem dX0_turn_11 : decode cX0_turn 11 = .ok (.getfield 15, 3) := by decide +kernel
theorem dX0_turn_14 : decode cX0_turn 14 = .ok (.iconst 0, 1) := by decide +kernel
theorem dX0_turn_15 : decode cX0_turn 15 = .ok (.invokevirtual 125, 3) := by decide +kernel
theorem dX0_turn_18 : decode cX0_turn 18 = .ok (.aload_n 0, 1) := by decide +kernel
theorem dX0_turn_19 : decode cX0_turn 19 = .ok (.aload_n 0, 1) := by decide +kernel
theorem dX0_turn_20 : decode cX0_turn 20 = .ok (.getfield 18, 3) := by decide +kernel
theorem dX0_turn_23 : decode cX0_turn 23 = .ok (.iconst 0, 1) := by decide +kernel
theorem dX0_turn_24 : decode cX0_turn 24 = .ok (.invokevirtual 125, 3) := by decide +kernel
theorem dX0_turn_27 : decode cX0_turn 27 = .ok (.aload_n 0, 1) := by decide +kernel
theorem dX0_turn_28 : decode cX0_turn 28 = .ok (.aload_n 0, 1) := by decide +kernel
theorem dX0_turn_29 : decode cX0_turn 29 = .ok (.getfield 21, 3) := by decide +kernel
theorem dX0_turn_32 : decode cX0_turn 32 = .ok (.iconst 0, 1) := by decide +kernel
theorem dX0_turn_33 : decode cX0_turn 33 = .ok (.invokevirtual 125, 3) := by decide +kernel
theorem dX0_turn_36 : decode cX0_turn 36 = .ok (.iconst 1, 1) := by decide +kernel
theorem dX0_turn_37 : decode cX0_turn 37 = .ok (.istore_n 1, 1) := by decide +kernel
theorem dX0_turn_38 : decode cX0_turn 38 = .ok (.iload_n 1, 1) := by decide +kernel
theorem dX0_turn_39 : decode cX0_turn 39 = .ok (.iconst 4, 1) := by decide +kernel
theorem dX0_turn_40 : decode cX0_turn 40 = .ok (.if_icmp .ge 22, 3) := by decide +kernel
theorem dX0_turn_43 : decode cX0_turn 43 = .ok (.aload_n 0, 1) := by decide +kernel
theorem dX0_turn_44 : decode cX0_turn 44 = .ok (.aload_n 0, 1) := by decide +kernel
theorem dX0_turn_45 : decode cX0_turn 45 = .ok (.getfield 24, 3) := by decide +kernel
theorem dX0_turn_48 : decode cX0_turn 48 = .ok (.iload_n 1, 1) := by decide +kernel
theorem dX0_turn_49 : decode cX0_turn 49 = .ok (.iconst 0, 1) := by decide +kernel
theorem dX0_turn_50 : decode cX0_turn 50 = .ok (.invokestatic 93, 3) := by decide +kernel
theorem dX0_turn_53 : decode cX0_turn 53 = .ok (.invokevirtual 125, 3) := by decide +kernel
theorem dX0_turn_56 : decode cX0_turn 56 = .ok (.iinc 1 1, 3) := by decide +kernel
theorem dX0_turn_59 : decode cX0_turn 59 = .ok (.goto (-21), 3) := by decide +kernel
theorem dX0_turn_62 : decode cX0_turn 62 = .ok (.iconst 0, 1) := by decide +kernel
theorem dX0_turn_63 : decode cX0_turn 63 = .ok (.istore_n 1, 1) := by decide +kernel
theorem dX0_turn_64 : decode cX0_turn 64 = .ok (.iload_n 1, 1) := by decide +kernel
theorem dX0_turn_65 : decode cX0_turn 65 = .ok (.bipush 6, 2) := by decide +kernel
theorem dX0_turn_67 : decode cX0_turn 67 = .ok (.if_icmp .ge 26, 3) := by decide +kernel
theorem dX0_turn_70 : decode cX0_turn 70 = .ok (.aload_n 0, 1) := by decide +kernel
theorem dX0_turn_71 : decode cX0_turn 71 = .ok (.getfield 36, 3) := by decide +kernel
theorem dX0_turn_74 : decode cX0_turn 74 = .ok (.iload_n 1, 1) := by decide +kernel
theorem dX0_turn_75 : decode cX0_turn 75 = .ok (.aload_n 0, 1) := by decide +kernel
theorem dX0_turn_76 : decode cX0_turn 76 = .ok (.getfield 52, 3) := by decide +kernel
theorem dX0_turn_79 : decode cX0_turn 79 = .ok (.aload_n 0, 1) := by decide +kernel
theorem dX0_turn_80 : decode cX0_turn 80 = .ok (.getfield 36, 3) := by decide +kernel
theorem dX0_turn_83 : decode cX0_turn 83 = .ok (.iload_n 1, 1) := by decide +kernel
theorem dX0_turn_84 : decode cX0_turn 84 = .ok (.iaload, 1) := by decide +kernel
theorem dX0_turn_85 : decode cX0_turn 85 = .ok (.isub, 1) := by decide +kernel
theorem dX0_turn_86 : decode cX0_turn 86 = .ok (.iastore, 1) := by decide +kernel
theorem dX0_turn_87 : decode cX0_turn 87 = .ok (.iinc 1 1, 3) := by decide +kernel
theorem dX0_turn_90 : decode cX0_turn 90 = .ok (.goto (-26), 3) := by decide +kernel
theorem dX0_turn_93 : decode cX0_turn 93 = .ok (.aload_n 0, 1) := by decide +kernel
theorem dX0_turn_94 : decode cX0_turn 94 = .ok (.aload_n 0, 1) := by decide +kernel
theorem dX0_turn_95 : decode cX0_turn 95 = .ok (.getfield 48, 3) := by decide +kernel
theorem dX0_turn_98 : decode cX0_turn 98 = .ok (.getfield 112, 3) := by decide +kernel
theorem dX0_turn_101 : decode cX0_turn 101 = .ok (.iconst 0, 1) := by decide +kernel
theorem dX0_turn_102 : decode cX0_turn 102 = .ok (.invokevirtual 125, 3) := by decide +kernel
theorem dX0_turn_105 : decode cX0_turn 105 = .ok (.aload_n 0, 1) := by decide +kernel
theorem dX0_turn_106 : decode cX0_turn 106 = .ok (.getfield 48, 3) := by decide +kernel
theorem dX0_turn_109 : decode cX0_turn 109 = .ok (.invokevirtual 102, 3) := by decide +kernel
theorem dX0_turn_112 : decode cX0_turn 112 = .ok (.ifCond .ne 65, 3) := by decide +kernel
theorem dX0_turn_115 : decode cX0_turn 115 = .ok (.aload_n 0, 1) := by decide +kernel
theorem dX0_turn_116 : decode cX0_turn 116 = .ok (.getfield 52, 3) := by decide +kernel
theorem dX0_turn_119 : decode cX0_turn 119 = .ok (.aload_n 0, 1) := by decide +kernel
theorem dX0_turn_120 : decode cX0_turn 120 = .ok (.getfield 48, 3) := by decide +kernel
theorem dX0_turn_123 : decode cX0_turn 123 = .ok (.getfield 109, 3) := by decide +kernel
theorem dX0_turn_126 : decode cX0_turn 126 = .ok (.isub, 1) := by decide +kernel
theorem dX0_turn_127 : decode cX0_turn 127 = .ok (.istore_n 1, 1) := by decide +kernel
theorem dX0_turn_128 : decode cX0_turn 128 = .ok (.aload_n 0, 1) := by decide +kernel
theorem dX0_turn_129 : decode cX0_turn 129 = .ok (.getfield 48, 3) := by decide +kernel
theorem dX0_turn_132 : decode cX0_turn 132 = .ok (.aload_n 0, 1) := by decide +kernel
theorem dX0_turn_133 : decode cX0_turn 133 = .ok (.getfield 52, 3) := by decide +kernel
theorem dX0_turn_136 : decode cX0_turn 136 = .ok (.aload_n 0, 1) := by decide +kernel
theorem dX0_turn_137 : decode cX0_turn 137 = .ok (.getfield 48, 3) := by decide +kernel
theorem dX0_turn_140 : decode cX0_turn 140 = .ok (.getfield 106, 3) := by decide +kernel
theorem dX0_turn_143 : decode cX0_turn 143 = .ok (.isub, 1) := by decide +kernel
theorem dX0_turn_144 : decode cX0_turn 144 = .ok (.putfield 109, 3) := by decide +kernel
theorem dX0_turn_147 : decode cX0_turn 147 = .ok (.aload_n 0, 1) := by decide +kernel
theorem dX0_turn_148 : decode cX0_turn 148 = .ok (.getfield 48, 3) := by decide +kernel
theorem dX0_turn_151 : decode cX0_turn 151 = .ok (.iload_n 1, 1) := by decide +kernel
theorem dX0_turn_152 : decode cX0_turn 152 = .ok (.putfield 106, 3) := by decide +kernel
theorem dX0_turn_155 : decode cX0_turn 155 = .ok (.aload_n 0, 1) := by decide +kernel
theorem dX0_turn_156 : decode cX0_turn 156 = .ok (.getfield 48, 3) := by decide +kernel
theorem dX0_turn_159 : decode cX0_turn 159 = .ok (.aload_n 0, 1) := by decide +kernel
theorem dX0_turn_160 : decode cX0_turn 160 = .ok (.getfield 48, 3) := by decide +kernel
theorem dX0_turn_163 : decode cX0_turn 163 = .ok (.getfield 128, 3) := by decide +kernel
theorem dX0_turn_166 : decode cX0_turn 166 = .ok (.ifCond .ne 7, 3) := by decide +kernel
theorem dX0_turn_169 : decode cX0_turn 169 = .ok (.iconst 1, 1) := by decide +kernel
theorem dX0_turn_170 : decode cX0_turn 170 = .ok (.goto 4, 3) := by decide +kernel
theorem dX0_turn_173 : decode cX0_turn 173 = .ok (.iconst 0, 1) := by decide +kernel
theorem dX0_turn_174 : decode cX0_turn 174 = .ok (.putfield 128, 3) := by decide +kernel
theorem dX0_turn_177 : decode cX0_turn 177 = .ok (.return_, 1) := by decide +kernel
set_option maxHeartbeats 4000000 in
theorem st_X0_turn_64_b {X : sj_X} {g : sj_G} {s0 : sj_Mem} {N : Nat} {q : Unit × sj_VV} {k64 : Nat → Int → sj_VV → Option (Unit × sj_VV)} (hk64 : ∀ (a0 : Nat) (x1 : Int) (V : sj_VV), OK0 g a0 → k64 a0 x1 V = some q → sj_T X m_X0_turn s0 (none, (g, q.2)) 64 [some (sj_r (some a0)), some (sj_i x1)] [] (g, V)) :
    ∀ (a0 : Nat) (x1 : Int) (V : sj_VV), OK0 g a0 → g_X0_turn_64_b N k64 a0 x1 V = some q → sj_T X m_X0_turn s0 (none, (g, q.2)) 64 [some (sj_r (some a0)), some (sj_i x1)] [] (g, V) := by
  intro a0 x1 V ha0 h
  unfold g_X0_turn_64_b at h
  refine r_iload_n (pc := 64) dX0_turn_64 rfl rfl ?_
  refine r_bipush (pc := 65) dX0_turn_65 ⟨by decide, by decide⟩ ?_
  refine r_icmp_ge (pc := 67) (tgt := 93) h dX0_turn_67 (by decide) (fun h => ?_) (fun h => ?_)
  · refine r_aload_n (pc := 93) dX0_turn_93 rfl rfl ?_
    refine r_aload_n (pc := 94) dX0_turn_94 rfl rfl ?_
    refine r_gRs (b := a0 + 12) (pc := 95) dX0_turn_95 fw_X0_48 rfl (ok0 ha0) (ok0_14 ha0).1 ?_
    refine r_gRs (b := (a0 + 12) + 1) (pc := 98) dX0_turn_98 fw_X0_112 rfl (ok5 (ok0_14 ha0).2) (ok5_0 (ok0_14 ha0).2).1 ?_
    refine r_iconst (pc := 101) dX0_turn_101 ?_
    refine r_callVs (pc := 102) (fun _ => none) (As := [sj_r (some ((a0 + 12) + 1)), sj_i 0]) (rest := []) (b := a0) (ok0 ha0) h dX0_turn_102 mw_X0_125 vw_X0_turnRow (fun _ _ hc => cg_X0_turnRow ha0 (ok5_0 (ok0_14 ha0).2).2 hc) rfl ⟨(Nat.le_of_ble_eq_true rfl), (Nat.le_of_ble_eq_true rfl)⟩ (Nat.le_of_ble_eq_true rfl) rfl (fun _u V1 h => ?_)
    refine r_aload_n (pc := 105) dX0_turn_105 rfl rfl ?_
    refine r_gRs (b := a0 + 12) (pc := 106) dX0_turn_106 fw_X0_48 rfl (ok0 ha0) (ok0_14 ha0).1 ?_
    refine r_callVs (pc := 109) (fun v => some (sj_i v)) (As := []) (rest := []) (b := (a0 + 12)) (ok5 (ok0_14 ha0).2) h dX0_turn_109 mw_X0_102 vw_X5_isNone (fun _ _ hc => cg_X5_isNone (ok0_14 ha0).2 hc) rfl ⟨(Nat.le_of_ble_eq_true rfl), (Nat.le_of_ble_eq_true rfl)⟩ (Nat.le_of_ble_eq_true rfl) rfl (fun v3 V2 h => ?_)
    refine r_if_ne (pc := 112) (tgt := 177) h dX0_turn_112 (by decide) (fun h => ?_) (fun h => ?_)
    · refine r_aload_n (pc := 115) dX0_turn_115 rfl rfl ?_
      refine r_gIs (pc := 116) dX0_turn_116 fw_X0_52 rfl (ok0 ha0) ?_
      refine r_aload_n (pc := 119) dX0_turn_119 rfl rfl ?_
      refine r_gRs (b := a0 + 12) (pc := 120) dX0_turn_120 fw_X0_48 rfl (ok0 ha0) (ok0_14 ha0).1 ?_
      refine r_gIs (pc := 123) dX0_turn_123 fw_X0_109 rfl (ok5 (ok0_14 ha0).2) ?_
      refine r_isub (pc := 126) dX0_turn_126 ?_
      refine r_istore_nL (ln := fun w => [some (sj_r (some a0)), some (sj_i w)]) (pc := 127) h dX0_turn_127 rfl (Nat.le_of_ble_eq_true rfl) (fun _ => rfl) (fun v4 h => ?_)
      refine r_aload_n (pc := 128) dX0_turn_128 rfl rfl ?_
      refine r_gRs (b := a0 + 12) (pc := 129) dX0_turn_129 fw_X0_48 rfl (ok0 ha0) (ok0_14 ha0).1 ?_
      refine r_aload_n (pc := 132) dX0_turn_132 rfl rfl ?_
      refine r_gIs (pc := 133) dX0_turn_133 fw_X0_52 rfl (ok0 ha0) ?_
      refine r_aload_n (pc := 136) dX0_turn_136 rfl rfl ?_
      refine r_gRs (b := a0 + 12) (pc := 137) dX0_turn_137 fw_X0_48 rfl (ok0 ha0) (ok0_14 ha0).1 ?_
      refine r_gIs (pc := 140) dX0_turn_140 fw_X0_106 rfl (ok5 (ok0_14 ha0).2) ?_
      refine r_isub (pc := 143) dX0_turn_143 ?_
      refine r_pIs (pc := 144) h dX0_turn_144 fw_X0_109 rfl rfl (nf5_2) (ok5 (ok0_14 ha0).2) (fun V5 h => ?_)
      refine r_aload_n (pc := 147) dX0_turn_147 rfl rfl ?_
      refine r_gRs (b := a0 + 12) (pc := 148) dX0_turn_148 fw_X0_48 rfl (ok0 ha0) (ok0_14 ha0).1 ?_
      refine r_iload_n (pc := 151) dX0_turn_151 rfl rfl ?_
      refine r_pIs (pc := 152) h dX0_turn_152 fw_X0_106 rfl rfl (nf5_1) (ok5 (ok0_14 ha0).2) (fun V6 h => ?_)
      refine r_aload_n (pc := 155) dX0_turn_155 rfl rfl ?_
      refine r_gRs (b := a0 + 12) (pc := 156) dX0_turn_156 fw_X0_48 rfl (ok0 ha0) (ok0_14 ha0).1 ?_
      refine r_aload_n (pc := 159) dX0_turn_159 rfl rfl ?_
      refine r_gRs (b := a0 + 12) (pc := 160) dX0_turn_160 fw_X0_48 rfl (ok0 ha0) (ok0_14 ha0).1 ?_
      refine r_gIs (pc := 163) dX0_turn_163 fw_X0_128 rfl (ok5 (ok0_14 ha0).2) ?_
      refine r_if_ne (pc := 166) (tgt := 173) h dX0_turn_166 (by decide) (fun h => ?_) (fun h => ?_)
      · refine r_iconst (pc := 169) dX0_turn_169 ?_
        refine r_goto (pc := 170) (tgt := 174) dX0_turn_170 (by decide) ?_
        refine r_pZs (pc := 174) h dX0_turn_174 fw_X0_128 rfl rfl (nf5_3) (ok5 (ok0_14 ha0).2) (fun V8 h => ?_)
        exact r_vrets (pc := 177) h rfl dX0_turn_177
      · refine r_iconst (pc := 173) dX0_turn_173 ?_
        refine r_pZs (pc := 174) h dX0_turn_174 fw_X0_128 rfl rfl (nf5_3) (ok5 (ok0_14 ha0).2) (fun V7 h => ?_)
        exact r_vrets (pc := 177) h rfl dX0_turn_177
    · exact r_vrets (pc := 177) h rfl dX0_turn_177
  · refine r_aload_n (pc := 70) dX0_turn_70 rfl rfl ?_
    refine r_gRs (b := a0 + 9) (pc := 71) dX0_turn_71 fw_X0_36 rfl (ok0 ha0) (ok0_11 ha0).1 ?_
    refine r_iload_n (pc := 74) dX0_turn_74 rfl rfl ?_
    refine r_aload_n (pc := 75) dX0_turn_75 rfl rfl ?_
    refine r_gIs (pc := 76) dX0_turn_76 fw_X0_52 rfl (ok0 ha0) ?_
    refine r_aload_n (pc := 79) dX0_turn_79 rfl rfl ?_
    refine r_gRs (b := a0 + 9) (pc := 80) dX0_turn_80 fw_X0_36 rfl (ok0 ha0) (ok0_11 ha0).1 ?_
    refine r_iload_n (pc := 83) dX0_turn_83 rfl rfl ?_
    refine r_ialoads (pc := 84) h dX0_turn_84 (ok0_11 ha0).2 (fun h => ?_)
    refine r_isub (pc := 85) dX0_turn_85 ?_
    refine r_iastores (pc := 86) h dX0_turn_86 (ok0_11 ha0).2 (fun V9 h => ?_)
    refine r_iinc (ln := fun w => [some (sj_r (some a0)), some (sj_i w)]) (pc := 87) h dX0_turn_87 rfl (Nat.le_of_ble_eq_true rfl) (fun _ => rfl) (fun v10 h => ?_)
    refine r_goto (pc := 90) (tgt := 64) dX0_turn_90 (by decide) ?_
    exact sj_weak (l2 := [some (sj_r (some a0)), some (sj_i v10)]) (⟨rfl, ⟨rfl, trivial⟩⟩) (hk64 a0 v10 V9 ha0 h)
set_option maxHeartbeats 4000000 in
theorem st_X0_turn_64 {X : sj_X} {g : sj_G} {s0 : sj_Mem} {N : Nat} {q : Unit × sj_VV} :
    ∀ (n : Nat) (a0 : Nat) (x1 : Int) (V : sj_VV), OK0 g a0 → g_X0_turn_64 N n a0 x1 V = some q → sj_T X m_X0_turn s0 (none, (g, q.2)) 64 [some (sj_r (some a0)), some (sj_i x1)] [] (g, V) := by
  intro n
  induction n with
  | zero => intro a0 x1 V ha0 h; exact nomatch h
  | succ n ih => intro a0 x1 V ha0 h; exact st_X0_turn_64_b (N := N) ih a0 x1 V ha0 h
set_option maxHeartbeats 4000000 in
theorem st_X0_turn_38_b {X : sj_X} {g : sj_G} {s0 : sj_Mem} {N : Nat} {q : Unit × sj_VV} {k38 : Nat → Int → sj_VV → Option (Unit × sj_VV)} (hk38 : ∀ (a0 : Nat) (x1 : Int) (V : sj_VV), OK0 g a0 → k38 a0 x1 V = some q → sj_T X m_X0_turn s0 (none, (g, q.2)) 38 [some (sj_r (some a0)), some (sj_i x1)] [] (g, V)) :
    ∀ (a0 : Nat) (x1 : Int) (V : sj_VV), OK0 g a0 → g_X0_turn_38_b N k38 a0 x1 V = some q → sj_T X m_X0_turn s0 (none, (g, q.2)) 38 [some (sj_r (some a0)), some (sj_i x1)] [] (g, V) := by
  intro a0 x1 V ha0 h
  unfold g_X0_turn_38_b at h
  refine r_iload_n (pc := 38) dX0_turn_38 rfl rfl ?_
  refine r_iconst (pc := 39) dX0_turn_39 ?_
  refine r_icmp_ge (pc := 40) (tgt := 62) h dX0_turn_40 (by decide) (fun h => ?_) (fun h => ?_)
  · refine r_iconst (pc := 62) dX0_turn_62 ?_
    refine r_istore_n (ln := [some (sj_r (some a0)), some (sj_i 0)]) (pc := 63) dX0_turn_63 rfl (Nat.le_of_ble_eq_true rfl) rfl ?_
    exact sj_weak (l2 := [some (sj_r (some a0)), some (sj_i 0)]) (⟨rfl, ⟨rfl, trivial⟩⟩) (st_X0_turn_64 N a0 0 V ha0 h)
  · refine r_aload_n (pc := 43) dX0_turn_43 rfl rfl ?_
    refine r_aload_n (pc := 44) dX0_turn_44 rfl rfl ?_
    refine r_gRs (b := a0 + 5) (pc := 45) dX0_turn_45 fw_X0_24 rfl (ok0 ha0) (ok0_7 ha0).1 ?_
    refine r_iload_n (pc := 48) dX0_turn_48 rfl rfl ?_
    refine r_iconst (pc := 49) dX0_turn_49 ?_
    refine r_callSs (pc := 50) (fun v => some (sj_i v)) (As := [sj_i x1, sj_i 0]) (rest := [(sj_r (some (a0 + 5))), (sj_r (some a0))]) h dX0_turn_50 mw_X0_93 kw_407 (fun _ _ hc => cg_X8_topPlace  hc) rfl ⟨(Nat.le_of_ble_eq_true rfl), (Nat.le_of_ble_eq_true rfl)⟩ (Nat.le_of_ble_eq_true rfl) rfl (fun v2 V1 h => ?_)
    refine r_callVs (pc := 53) (fun _ => none) (As := [sj_r (some (a0 + 5)), sj_i v2]) (rest := []) (b := a0) (ok0 ha0) h dX0_turn_53 mw_X0_125 vw_X0_turnRow (fun _ _ hc => cg_X0_turnRow ha0 (ok0_7 ha0).2 hc) rfl ⟨(Nat.le_of_ble_eq_true rfl), (Nat.le_of_ble_eq_true rfl)⟩ (Nat.le_of_ble_eq_true rfl) rfl (fun _u V3 h => ?_)
    refine r_iinc (ln := fun w => [some (sj_r (some a0)), some (sj_i w)]) (pc := 56) h dX0_turn_56 rfl (Nat.le_of_ble_eq_true rfl) (fun _ => rfl) (fun v4 h => ?_)
    refine r_goto (pc := 59) (tgt := 38) dX0_turn_59 (by decide) ?_
    exact sj_weak (l2 := [some (sj_r (some a0)), some (sj_i v4)]) (⟨rfl, ⟨rfl, trivial⟩⟩) (hk38 a0 v4 V3 ha0 h)
set_option maxHeartbeats 4000000 in
theorem st_X0_turn_38 {X : sj_X} {g : sj_G} {s0 : sj_Mem} {N : Nat} {q : Unit × sj_VV} :
    ∀ (n : Nat) (a0 : Nat) (x1 : Int) (V : sj_VV), OK0 g a0 → g_X0_turn_38 N n a0 x1 V = some q → sj_T X m_X0_turn s0 (none, (g, q.2)) 38 [some (sj_r (some a0)), some (sj_i x1)] [] (g, V) := by
  intro n
  induction n with
  | zero => intro a0 x1 V ha0 h; exact nomatch h
  | succ n ih => intro a0 x1 V ha0 h; exact st_X0_turn_38_b (N := N) ih a0 x1 V ha0 h
set_option maxHeartbeats 4000000 in
theorem st_X0_turn_0 {X : sj_X} {g : sj_G} {s0 : sj_Mem} {N : Nat} {q : Unit × sj_VV} :
    ∀ (a0 : Nat) (V : sj_VV), OK0 g a0 → g_X0_turn N a0 V = some q → sj_T X m_X0_turn s0 (none, (g, q.2)) 0 [some (sj_r (some a0)), none] [] (g, V) := by
  intro a0 V ha0 h
  unfold g_X0_turn at h
  refine r_aload_n (pc := 0) dX0_turn_0 rfl rfl ?_
  refine r_aload_n (pc := 1) dX0_turn_1 rfl rfl ?_
  refine r_gRs (b := a0 + 1) (pc := 2) dX0_turn_2 fw_X0_9 rfl (ok0 ha0) (ok0_3 ha0).1 ?_
  refine r_iconst (pc := 5) dX0_turn_5 ?_
  refine r_callVs (pc := 6) (fun _ => none) (As := [sj_r (some (a0 + 1)), sj_i 0]) (rest := []) (b := a0) (ok0 ha0) h dX0_turn_6 mw_X0_125 vw_X0_turnRow (fun _ _ hc => cg_X0_turnRow ha0 (ok0_3 ha0).2 hc) rfl ⟨(Nat.le_of_ble_eq_true rfl), (Nat.le_of_ble_eq_true rfl)⟩ (Nat.le_of_ble_eq_true rfl) rfl (fun _u V1 h => ?_)
  refine r_aload_n (pc := 9) dX0_turn_9 rfl rfl ?_
  refine r_aload_n (pc := 10) dX0_turn_10 rfl rfl ?_
  refine r_gRs (b := a0 + 2) (pc := 11) dX0_turn_11 fw_X0_15 rfl (ok0 ha0) (ok0_4 ha0).1 ?_
  refine r_iconst (pc := 14) dX0_turn_14 ?_
  refine r_callVs (pc := 15) (fun _ => none) (As := [sj_r (some (a0 + 2)), sj_i 0]) (rest := []) (b := a0) (ok0 ha0) h dX0_turn_15 mw_X0_125 vw_X0_turnRow (fun _ _ hc => cg_X0_turnRow ha0 (ok0_4 ha0).2 hc) rfl ⟨(Nat.le_of_ble_eq_true rfl), (Nat.le_of_ble_eq_true rfl)⟩ (Nat.le_of_ble_eq_true rfl) rfl (fun _u V2 h => ?_)
  refine r_aload_n (pc := 18) dX0_turn_18 rfl rfl ?_
  refine r_aload_n (pc := 19) dX0_turn_19 rfl rfl ?_
  refine r_gRs (b := a0 + 3) (pc := 20) dX0_turn_20 fw_X0_18 rfl (ok0 ha0) (ok0_5 ha0).1 ?_
  refine r_iconst (pc := 23) dX0_turn_23 ?_
  refine r_callVs (pc := 24) (fun _ => none) (As := [sj_r (some (a0 + 3)), sj_i 0]) (rest := []) (b := a0) (ok0 ha0) h dX0_turn_24 mw_X0_125 vw_X0_turnRow (fun _ _ hc => cg_X0_turnRow ha0 (ok0_5 ha0).2 hc) rfl ⟨(Nat.le_of_ble_eq_true rfl), (Nat.le_of_ble_eq_true rfl)⟩ (Nat.le_of_ble_eq_true rfl) rfl (fun _u V3 h => ?_)
  refine r_aload_n (pc := 27) dX0_turn_27 rfl rfl ?_
  refine r_aload_n (pc := 28) dX0_turn_28 rfl rfl ?_
  refine r_gRs (b := a0 + 4) (pc := 29) dX0_turn_29 fw_X0_21 rfl (ok0 ha0) (ok0_6 ha0).1 ?_
  refine r_iconst (pc := 32) dX0_turn_32 ?_
  refine r_callVs (pc := 33) (fun _ => none) (As := [sj_r (some (a0 + 4)), sj_i 0]) (rest := []) (b := a0) (ok0 ha0) h dX0_turn_33 mw_X0_125 vw_X0_turnRow (fun _ _ hc => cg_X0_turnRow ha0 (ok0_6 ha0).2 hc) rfl ⟨(Nat.le_of_ble_eq_true rfl), (Nat.le_of_ble_eq_true rfl)⟩ (Nat.le_of_ble_eq_true rfl) rfl (fun _u V4 h => ?_)
  refine r_iconst (pc := 36) dX0_turn_36 ?_
  refine r_istore_n (ln := [some (sj_r (some a0)), some (sj_i 1)]) (pc := 37) dX0_turn_37 rfl (Nat.le_of_ble_eq_true rfl) rfl ?_
  exact sj_weak (l2 := [some (sj_r (some a0)), some (sj_i 1)]) (⟨rfl, ⟨rfl, trivial⟩⟩) (st_X0_turn_38 N a0 1 V4 ha0 h)
set_option maxHeartbeats 4000000 in
theorem cg_X0_turn {X : sj_X} {g : sj_G} {N : Nat} {a0 : Nat} {V : sj_VV} {q : Unit × sj_VV} (ha0 : OK0 g a0) (h : g_X0_turn N a0 V = some q) : sj_C X m_X0_turn [sj_r (some a0)] (g, V) (none, (g, q.2)) :=
  sj_C_of (by decide +kernel) (Nat.le_of_ble_eq_true rfl) (lo := [some (sj_r (some a0)), none]) rfl (sj_weak (l2 := [some (sj_r (some a0)), none]) (⟨rfl, trivial⟩) (st_X0_turn_0 a0 V ha0 h))
set_option maxHeartbeats 4000000 in
theorem c_X0_turn {X : sj_X} {N : Nat} {a0 : Nat} {s : sj_Mem} {q : Unit × sj_Mem} (h : f_X0_turn N a0 s = some q) : sj_C X m_X0_turn [sj_r (some a0)] s (none, q.2) := by
  obtain ⟨g, V⟩ := s
  unfold f_X0_turn at h
  obtain ⟨ho, h1⟩ := e_ok_some h
  obtain ⟨q2, h2, rfl⟩ := sj_map_some h1
  exact cg_X0_turn ho h2
theorem dX1_copy_0 : decode cX1_copy 0 = .ok (.aload_n 1, 1) := by decide +kernel
theorem dX1_copy_1 : decode cX1_copy 1 = .ok (.getfield 9, 3) := by decide +kernel
theorem dX1_copy_4 : decode cX1_copy 4 = .ok (.iconst 0, 1) := by decide +kernel
theorem dX1_copy_5 : decode cX1_copy 5 = .ok (.aload_n 0, 1) := by decide +kernel
theorem dX1_copy_6 : decode cX1_copy 6 = .ok (.getfield 9, 3) := by decide +kernel
theorem dX1_copy_9 : decode cX1_copy 9 = .ok (.iconst 0, 1) := by decide +kernel
theorem dX1_copy_10 : decode cX1_copy 10 = .ok (.bipush 12, 2) := by decide +kernel
theorem dX1_copy_12 : decode cX1_copy 12 = .ok (.invokestatic 18, 3) := by decide +kernel
theorem dX1_copy_15 : decode cX1_copy 15 = .ok (.aload_n 1, 1) := by decide +kernel
theorem dX1_copy_16 : decode cX1_copy 16 = .ok (.getfield 15, 3) := by decide +kernel
theorem dX1_copy_19 : decode cX1_copy 19 = .ok (.iconst 0, 1) := by decide +kernel
theorem dX1_copy_20 : decode cX1_copy 20 = .ok (.aload_n 0, 1) := by decide +kernel
theorem dX1_copy_21 : decode cX1_copy 21 = .ok (.getfield 15, 3) := by decide +kernel
theorem dX1_copy_24 : decode cX1_copy 24 = .ok (.iconst 0, 1) := by decide +kernel
theorem dX1_copy_25 : decode cX1_copy 25 = .ok (.bipush 12, 2) := by decide +kernel
theorem dX1_copy_27 : decode cX1_copy 27 = .ok (.invokestatic 18, 3) := by decide +kernel
theorem dX1_copy_30 : decode cX1_copy 30 = .ok (.aload_n 0, 1) := by decide +kernel
theorem dX1_copy_31 : decode cX1_copy 31 = .ok (.aload_n 1, 1) := by decide +kernel
theorem dX1_copy_32 : decode cX1_copy 32 = .ok (.getfield 24, 3) := by decide +kernel
theorem dX1_copy_35 : decode cX1_copy 35 = .ok (.putfield 24, 3) := by decide +kernel
theorem dX1_copy_38 : decode cX1_copy 38 = .ok (.aload_n 0, 1) := by decide +kernel
theorem dX1_copy_39 : decode cX1_copy 39 = .ok (.aload_n 1, 1) := by decide +kernel
theorem dX1_copy_40 : decode cX1_copy 40 = .ok (.getfield 28, 3) := by decide +kernel
theorem dX1_copy_43 : decode cX1_copy 43 = .ok (.putfield 28, 3) := by decide +kernel
theorem dX1_copy_46 : decode cX1_copy 46 = .ok (.return_, 1) := by decide +kernel
set_option maxHeartbeats 4000000 in
theorem st_X1_copy_0 {X : sj_X} {g : sj_G} {s0 : sj_Mem} {N : Nat} {q : Unit × sj_VV} :
    ∀ (a0 : Nat) (x1 : Nat) (V : sj_VV), OK1 g a0 → OK1 g x1 → g_X1_copy N a0 x1 V = some q → sj_T X m_X1_copy s0 (none, (g, q.2)) 0 [some (sj_r (some a0)), some (sj_r (some x1))] [] (g, V) := by
  intro a0 x1 V ha0 hx1 h
  unfold g_X1_copy at h
  refine r_aload_n (pc := 0) dX1_copy_0 rfl rfl ?_
  refine r_gRs (b := x1 + 1) (pc := 1) dX1_copy_1 fw_X1_9 rfl (ok1 hx1) (ok1_0 hx1).1 ?_
  refine r_iconst (pc := 4) dX1_copy_4 ?_
  refine r_aload_n (pc := 5) dX1_copy_5 rfl rfl ?_
  refine r_gRs (b := a0 + 1) (pc := 6) dX1_copy_6 fw_X1_9 rfl (ok1 ha0) (ok1_0 ha0).1 ?_
  refine r_iconst (pc := 9) dX1_copy_9 ?_
  refine r_bipush (pc := 10) dX1_copy_10 ⟨by decide, by decide⟩ ?_
  refine r_copys (pc := 12) h dX1_copy_12 yw_X1_18 (Nat.le_of_ble_eq_true rfl) (Nat.le_of_ble_eq_true rfl) (ok1_0 hx1).2 (ok1_0 ha0).2 (fun V1 h => ?_)
  refine r_aload_n (pc := 15) dX1_copy_15 rfl rfl ?_
  refine r_gRs (b := x1 + 2) (pc := 16) dX1_copy_16 fw_X1_15 rfl (ok1 hx1) (ok1_1 hx1).1 ?_
  refine r_iconst (pc := 19) dX1_copy_19 ?_
  refine r_aload_n (pc := 20) dX1_copy_20 rfl rfl ?_
  refine r_gRs (b := a0 + 2) (pc := 21) dX1_copy_21 fw_X1_15 rfl (ok1 ha0) (ok1_1 ha0).1 ?_
  refine r_iconst (pc := 24) dX1_copy_24 ?_
  refine r_bipush (pc := 25) dX1_copy_25 ⟨by decide, by decide⟩ ?_
  refine r_copys (pc := 27) h dX1_copy_27 yw_X1_18 (Nat.le_of_ble_eq_true rfl) (Nat.le_of_ble_eq_true rfl) (ok1_1 hx1).2 (ok1_1 ha0).2 (fun V2 h => ?_)
  refine r_aload_n (pc := 30) dX1_copy_30 rfl rfl ?_
  refine r_aload_n (pc := 31) dX1_copy_31 rfl rfl ?_
  refine r_gIs (pc := 32) dX1_copy_32 fw_X1_24 rfl (ok1 hx1) ?_
  refine r_pIs (pc := 35) h dX1_copy_35 fw_X1_24 rfl rfl (nf1_2) (ok1 ha0) (fun V3 h => ?_)
  refine r_aload_n (pc := 38) dX1_copy_38 rfl rfl ?_
  refine r_aload_n (pc := 39) dX1_copy_39 rfl rfl ?_
  refine r_gIs (pc := 40) dX1_copy_40 fw_X1_28 rfl (ok1 hx1) ?_
  refine r_pIs (pc := 43) h dX1_copy_43 fw_X1_28 rfl rfl (nf1_3) (ok1 ha0) (fun V4 h => ?_)
  exact r_vrets (pc := 46) h rfl dX1_copy_46
set_option maxHeartbeats 4000000 in
theorem cg_X1_copy {X : sj_X} {g : sj_G} {N : Nat} {a0 : Nat} {x1 : Nat} {V : sj_VV} {q : Unit × sj_VV} (ha0 : OK1 g a0) (hx1 : OK1 g x1) (h : g_X1_copy N a0 x1 V = some q) : sj_C X m_X1_copy [sj_r (some a0), sj_r (some x1)] (g, V) (none, (g, q.2)) :=
  sj_C_of (by decide +kernel) (Nat.le_of_ble_eq_true rfl) (lo := [some (sj_r (some a0)), some (sj_r (some x1))]) rfl (sj_weak (l2 := [some (sj_r (some a0)), some (sj_r (some x1))]) (⟨rfl, ⟨rfl, trivial⟩⟩) (st_X1_copy_0 a0 x1 V ha0 hx1 h))
set_option maxHeartbeats 4000000 in
theorem c_X1_copy {X : sj_X} {N : Nat} {a0 : Nat} {x1 : Option Nat} {s : sj_Mem} {q : Unit × sj_Mem} (h : f_X1_copy N a0 x1 s = some q) : sj_C X m_X1_copy [sj_r (some a0), sj_r x1] s (none, q.2) := by
  obtain ⟨g, V⟩ := s
  unfold f_X1_copy at h
  obtain ⟨ho, h1⟩ := e_ok_some h
  obtain ⟨q2, h2, rfl⟩ := sj_map_some h1
  obtain ⟨z1, hz1⟩ : ∃ z, x1 = some z := ⟨_, ho.2.1⟩
  subst hz1
  exact cg_X1_copy ho.1 ho.2.2 h2
theorem dX1_draw_0 : decode cX1_draw 0 = .ok (.aload_n 0, 1) := by decide +kernel
theorem dX1_draw_1 : decode cX1_draw 1 = .ok (.ldc 31, 2) := by decide +kernel
theorem dX1_draw_3 : decode cX1_draw 3 = .ok (.aload_n 0, 1) := by decide +kernel
theorem dX1_draw_4 : decode cX1_draw 4 = .ok (.getfield 28, 3) := by decide +kernel
theorem dX1_draw_7 : decode cX1_draw 7 = .ok (.imul, 1) := by decide +kernel
theorem dX1_draw_8 : decode cX1_draw 8 = .ok (.ldc 32, 2) := by decide +kernel
theorem dX1_draw_10 : decode cX1_draw 10 = .ok (.iadd, 1) := by decide +kernel
theorem dX1_draw_11 : decode cX1_draw 11 = .ok (.putfield 28, 3) := by decide +kernel
theorem dX1_draw_14 : decode cX1_draw 14 = .ok (.iload_n 1, 1) := by decide +kernel
theorem dX1_draw_15 : decode cX1_draw 15 = .ok (.ifCond .gt 7, 3) := by decide +kernel
theorem dX1_draw_18 : decode cX1_draw 18 = .ok (.iconst 0, 1) := by decide +kernel
theorem dX1_draw_19 : decode cX1_draw 19 = .ok (.goto 12, 3) := by decide +kernel
theorem dX1_draw_22 : decode cX1_draw 22 = .ok (.aload_n 0, 1) := by decide +kernel
theorem dX1_draw_23 : decode cX1_draw 23 = .ok (.getfield 28, 3) := by decide +kernel
theorem dX1_draw_26 : decode cX1_draw 26 = .ok (.bipush 8, 2) := by decide +kernel
theorem dX1_draw_28 : decode cX1_draw 28 = .ok (.iushr, 1) := by decide +kernel
theorem dX1_draw_29 : decode cX1_draw 29 = .ok (.iload_n 1, 1) := by decide +kernel
theorem dX1_draw_30 : decode cX1_draw 30 = .ok (.irem, 1) := by decide +kernel
theorem dX1_draw_31 : decode cX1_draw 31 = .ok (.ireturn, 1) := by decide +kernel
set_option maxHeartbeats 4000000 in
theorem st_X1_draw_0 {X : sj_X} {g : sj_G} {s0 : sj_Mem} {N : Nat} {q : Int × sj_VV} :
    ∀ (a0 : Nat) (x1 : Int) (V : sj_VV), OK1 g a0 → g_X1_draw N a0 x1 V = some q → sj_T X m_X1_draw s0 (some (sj_i q.1), (g, q.2)) 0 [some (sj_r (some a0)), some (sj_i x1)] [] (g, V) := by
  intro a0 x1 V ha0 h
  unfold g_X1_draw at h
  refine r_aload_n (pc := 0) dX1_draw_0 rfl rfl ?_
  refine r_ldc (n := 1664525) (pc := 1) dX1_draw_1 kc_X1_31 ?_
  refine r_aload_n (pc := 3) dX1_draw_3 rfl rfl ?_
  refine r_gIs (pc := 4) dX1_draw_4 fw_X1_28 rfl (ok1 ha0) ?_
  refine r_imul (pc := 7) dX1_draw_7 ?_
  refine r_ldc (n := 1013904223) (pc := 8) dX1_draw_8 kc_X1_32 ?_
  refine r_iadd (pc := 10) dX1_draw_10 ?_
  refine r_pIs (pc := 11) h dX1_draw_11 fw_X1_28 rfl rfl (nf1_3) (ok1 ha0) (fun V1 h => ?_)
  refine r_iload_n (pc := 14) dX1_draw_14 rfl rfl ?_
  refine r_if_gt (pc := 15) (tgt := 22) h dX1_draw_15 (by decide) (fun h => ?_) (fun h => ?_)
  · refine r_aload_n (pc := 22) dX1_draw_22 rfl rfl ?_
    refine r_gIs (pc := 23) dX1_draw_23 fw_X1_28 rfl (ok1 ha0) ?_
    refine r_bipush (pc := 26) dX1_draw_26 ⟨by decide, by decide⟩ ?_
    refine r_iushr (pc := 28) h dX1_draw_28 (fun v2 h => ?_)
    refine r_iload_n (pc := 29) dX1_draw_29 rfl rfl ?_
    refine r_irem (pc := 30) h dX1_draw_30 (fun v3 h => ?_)
    exact r_irets (pc := 31) h rfl dX1_draw_31
  · refine r_iconst (pc := 18) dX1_draw_18 ?_
    refine r_goto (pc := 19) (tgt := 31) dX1_draw_19 (by decide) ?_
    exact r_irets (pc := 31) h rfl dX1_draw_31
set_option maxHeartbeats 4000000 in
theorem cg_X1_draw {X : sj_X} {g : sj_G} {N : Nat} {a0 : Nat} {x1 : Int} {V : sj_VV} {q : Int × sj_VV} (ha0 : OK1 g a0) (h : g_X1_draw N a0 x1 V = some q) : sj_C X m_X1_draw [sj_r (some a0), sj_i x1] (g, V) (some (sj_i q.1), (g, q.2)) :=
  sj_C_of (by decide +kernel) (Nat.le_of_ble_eq_true rfl) (lo := [some (sj_r (some a0)), some (sj_i x1)]) rfl (sj_weak (l2 := [some (sj_r (some a0)), some (sj_i x1)]) (⟨rfl, ⟨rfl, trivial⟩⟩) (st_X1_draw_0 a0 x1 V ha0 h))
set_option maxHeartbeats 4000000 in
theorem c_X1_draw {X : sj_X} {N : Nat} {a0 : Nat} {x1 : Int} {s : sj_Mem} {q : Int × sj_Mem} (h : f_X1_draw N a0 x1 s = some q) : sj_C X m_X1_draw [sj_r (some a0), sj_i x1] s (some (sj_i q.1), q.2) := by
  obtain ⟨g, V⟩ := s
  unfold f_X1_draw at h
  obtain ⟨ho, h1⟩ := e_ok_some h
  obtain ⟨q2, h2, rfl⟩ := sj_map_some h1
  exact cg_X1_draw ho h2
theorem dX2_write_0 : decode cX2_write 0 = .ok (.aload_n 0, 1) := by decide +kernel
theorem dX2_write_1 : decode cX2_write 1 = .ok (.getfield 15, 3) := by decide +kernel
theorem dX2_write_4 : decode cX2_write 4 = .ok (.bipush 16, 2) := by decide +kernel
theorem dX2_write_6 : decode cX2_write 6 = .ok (.if_icmp .ge 23, 3) := by decide +kernel
theorem dX2_write_9 : decode cX2_write 9 = .ok (.aload_n 0, 1) := by decide +kernel
theorem dX2_write_10 : decode cX2_write 10 = .ok (.getfield 9, 3) := by decide +kernel
theorem dX2_write_13 : decode cX2_write 13 = .ok (.aload_n 0, 1) := by decide +kernel
theorem dX2_write_14 : decode cX2_write 14 = .ok (.getfield 15, 3) := by decide +kernel
theorem dX2_write_17 : decode cX2_write 17 = .ok (.iload_n 1, 1) := by decide +kernel
theorem dX2_write_18 : decode cX2_write 18 = .ok (.iastore, 1) := by decide +kernel
theorem dX2_write_19 : decode cX2_write 19 = .ok (.aload_n 0, 1) := by decide +kernel
theorem dX2_write_20 : decode cX2_write 20 = .ok (.dup, 1) := by decide +kernel
theorem dX2_write_21 : decode cX2_write 21 = .ok (.getfield 15, 3) := by decide +kernel
theorem dX2_write_24 : decode cX2_write 24 = .ok (.iconst 1, 1) := by decide +kernel
theorem dX2_write_25 : decode cX2_write 25 = .ok (.iadd, 1) := by decide +kernel
theorem dX2_write_26 : decode cX2_write 26 = .ok (.putfield 15, 3) := by decide +kernel
theorem dX2_write_29 : decode cX2_write 29 = .ok (.return_, 1) := by decide +kernel
set_option maxHeartbeats 4000000 in
theorem st_X2_write_0 {X : sj_X} {g : sj_G} {s0 : sj_Mem} {N : Nat} {q : Unit × sj_VV} :
    ∀ (a0 : Nat) (x1 : Int) (V : sj_VV), OK2 g a0 → g_X2_write N a0 x1 V = some q → sj_T X m_X2_write s0 (none, (g, q.2)) 0 [some (sj_r (some a0)), some (sj_i x1)] [] (g, V) := by
  intro a0 x1 V ha0 h
  unfold g_X2_write at h
  refine r_aload_n (pc := 0) dX2_write_0 rfl rfl ?_
  refine r_gIs (pc := 1) dX2_write_1 fw_X2_15 rfl (ok2 ha0) ?_
  refine r_bipush (pc := 4) dX2_write_4 ⟨by decide, by decide⟩ ?_
  refine r_icmp_ge (pc := 6) (tgt := 29) h dX2_write_6 (by decide) (fun h => ?_) (fun h => ?_)
  · exact r_vrets (pc := 29) h rfl dX2_write_29
  · refine r_aload_n (pc := 9) dX2_write_9 rfl rfl ?_
    refine r_gRs (b := a0 + 1) (pc := 10) dX2_write_10 fw_X2_9 rfl (ok2 ha0) (ok2_0 ha0).1 ?_
    refine r_aload_n (pc := 13) dX2_write_13 rfl rfl ?_
    refine r_gIs (pc := 14) dX2_write_14 fw_X2_15 rfl (ok2 ha0) ?_
    refine r_iload_n (pc := 17) dX2_write_17 rfl rfl ?_
    refine r_iastores (pc := 18) h dX2_write_18 (ok2_0 ha0).2 (fun V1 h => ?_)
    refine r_aload_n (pc := 19) dX2_write_19 rfl rfl ?_
    refine r_dup (pc := 20) dX2_write_20 rfl ?_
    refine r_gIs (pc := 21) dX2_write_21 fw_X2_15 rfl (ok2 ha0) ?_
    refine r_iconst (pc := 24) dX2_write_24 ?_
    refine r_iadd (pc := 25) dX2_write_25 ?_
    refine r_pIs (pc := 26) h dX2_write_26 fw_X2_15 rfl rfl (nf2_1) (ok2 ha0) (fun V2 h => ?_)
    exact r_vrets (pc := 29) h rfl dX2_write_29
set_option maxHeartbeats 4000000 in
theorem cg_X2_write {X : sj_X} {g : sj_G} {N : Nat} {a0 : Nat} {x1 : Int} {V : sj_VV} {q : Unit × sj_VV} (ha0 : OK2 g a0) (h : g_X2_write N a0 x1 V = some q) : sj_C X m_X2_write [sj_r (some a0), sj_i x1] (g, V) (none, (g, q.2)) :=
  sj_C_of (by decide +kernel) (Nat.le_of_ble_eq_true rfl) (lo := [some (sj_r (some a0)), some (sj_i x1)]) rfl (sj_weak (l2 := [some (sj_r (some a0)), some (sj_i x1)]) (⟨rfl, ⟨rfl, trivial⟩⟩) (st_X2_write_0 a0 x1 V ha0 h))
set_option maxHeartbeats 4000000 in
theorem c_X2_write {X : sj_X} {N : Nat} {a0 : Nat} {x1 : Int} {s : sj_Mem} {q : Unit × sj_Mem} (h : f_X2_write N a0 x1 s = some q) : sj_C X m_X2_write [sj_r (some a0), sj_i x1] s (none, q.2) := by
  obtain ⟨g, V⟩ := s
  unfold f_X2_write at h
  obtain ⟨ho, h1⟩ := e_ok_some h
  obtain ⟨q2, h2, rfl⟩ := sj_map_some h1
  exact cg_X2_write ho h2
theorem dX2_writeNumber_0 : decode cX2_writeNumber 0 = .ok (.iload_n 1, 1) := by decide +kernel
theorem dX2_writeNumber_1 : decode cX2_writeNumber 1 = .ok (.bipush 10, 2) := by decide +kernel
theorem dX2_writeNumber_3 : decode cX2_writeNumber 3 = .ok (.if_icmp .lt 17, 3) := by decide +kernel
theorem dX2_writeNumber_6 : decode cX2_writeNumber 6 = .ok (.aload_n 0, 1) := by decide +kernel
theorem dX2_writeNumber_7 : decode cX2_writeNumber 7 = .ok (.bipush 48, 2) := by decide +kernel
theorem dX2_writeNumber_9 : decode cX2_writeNumber 9 = .ok (.iload_n 1, 1) := by decide +kernel
theorem dX2_writeNumber_10 : decode cX2_writeNumber 10 = .ok (.bipush 10, 2) := by decide +kernel
theorem dX2_writeNumber_12 : decode cX2_writeNumber 12 = .ok (.idiv, 1) := by decide +kernel
theorem dX2_writeNumber_13 : decode cX2_writeNumber 13 = .ok (.bipush 10, 2) := by decide +kernel
theorem dX2_writeNumber_15 : decode cX2_writeNumber 15 = .ok (.irem, 1) := by decide +kernel
theorem dX2_writeNumber_16 : decode cX2_writeNumber 16 = .ok (.iadd, 1) := by decide +kernel
theorem dX2_writeNumber_17 : decode cX2_writeNumber 17 = .ok (.invokevirtual 23, 3) := by decide +kernel
theorem dX2_writeNumber_20 : decode cX2_writeNumber 20 = .ok (.aload_n 0, 1) := by decide +kernel
theorem dX2_writeNumber_21 : decode cX2_writeNumber 21 = .ok (.bipush 48, 2) := by decide +kernel
theorem dX2_writeNumber_23 : decode cX2_writeNumber 23 = .ok (.iload_n 1, 1) := by decide +kernel
theorem dX2_writeNumber_24 : decode cX2_writeNumber 24 = .ok (.bipush 10, 2) := by decide +kernel
theorem dX2_writeNumber_26 : decode cX2_writeNumber 26 = .ok (.irem, 1) := by decide +kernel
theorem dX2_writeNumber_27 : decode cX2_writeNumber 27 = .ok (.iadd, 1) := by decide +kernel
theorem dX2_writeNumber_28 : decode cX2_writeNumber 28 = .ok (.invokevirtual 23, 3) := by decide +kernel
theorem dX2_writeNumber_31 : decode cX2_writeNumber 31 = .ok (.return_, 1) := by decide +kernel
set_option maxHeartbeats 4000000 in
theorem st_X2_writeNumber_20 {X : sj_X} {g : sj_G} {s0 : sj_Mem} {N : Nat} {q : Unit × sj_VV} :
    ∀ (a0 : Nat) (x1 : Int) (V : sj_VV), OK2 g a0 → g_X2_writeNumber_20 N a0 x1 V = some q → sj_T X m_X2_writeNumber s0 (none, (g, q.2)) 20 [some (sj_r (some a0)), some (sj_i x1)] [] (g, V) := by
  intro a0 x1 V ha0 h
  unfold g_X2_writeNumber_20 at h
  refine r_aload_n (pc := 20) dX2_writeNumber_20 rfl rfl ?_
  refine r_bipush (pc := 21) dX2_writeNumber_21 ⟨by decide, by decide⟩ ?_
  refine r_iload_n (pc := 23) dX2_writeNumber_23 rfl rfl ?_
  refine r_bipush (pc := 24) dX2_writeNumber_24 ⟨by decide, by decide⟩ ?_
  refine r_irem (pc := 26) h dX2_writeNumber_26 (fun v1 h => ?_)
  refine r_iadd (pc := 27) dX2_writeNumber_27 ?_
  refine r_callVs (pc := 28) (fun _ => none) (As := [sj_i (48 + v1)]) (rest := []) (b := a0) (ok2 ha0) h dX2_writeNumber_28 mw_X2_23 vw_X2_write (fun _ _ hc => cg_X2_write ha0 hc) rfl ⟨(Nat.le_of_ble_eq_true rfl), (Nat.le_of_ble_eq_true rfl)⟩ (Nat.le_of_ble_eq_true rfl) rfl (fun _u V2 h => ?_)
  exact r_vrets (pc := 31) h rfl dX2_writeNumber_31
set_option maxHeartbeats 4000000 in
theorem st_X2_writeNumber_0 {X : sj_X} {g : sj_G} {s0 : sj_Mem} {N : Nat} {q : Unit × sj_VV} :
    ∀ (a0 : Nat) (x1 : Int) (V : sj_VV), OK2 g a0 → g_X2_writeNumber N a0 x1 V = some q → sj_T X m_X2_writeNumber s0 (none, (g, q.2)) 0 [some (sj_r (some a0)), some (sj_i x1)] [] (g, V) := by
  intro a0 x1 V ha0 h
  unfold g_X2_writeNumber at h
  refine r_iload_n (pc := 0) dX2_writeNumber_0 rfl rfl ?_
  refine r_bipush (pc := 1) dX2_writeNumber_1 ⟨by decide, by decide⟩ ?_
  refine r_icmp_lt (pc := 3) (tgt := 20) h dX2_writeNumber_3 (by decide) (fun h => ?_) (fun h => ?_)
  · exact sj_weak (l2 := [some (sj_r (some a0)), some (sj_i x1)]) (⟨rfl, ⟨rfl, trivial⟩⟩) (st_X2_writeNumber_20 a0 x1 V ha0 h)
  · refine r_aload_n (pc := 6) dX2_writeNumber_6 rfl rfl ?_
    refine r_bipush (pc := 7) dX2_writeNumber_7 ⟨by decide, by decide⟩ ?_
    refine r_iload_n (pc := 9) dX2_writeNumber_9 rfl rfl ?_
    refine r_bipush (pc := 10) dX2_writeNumber_10 ⟨by decide, by decide⟩ ?_
    refine r_idiv (pc := 12) h dX2_writeNumber_12 (fun v1 h => ?_)
    refine r_bipush (pc := 13) dX2_writeNumber_13 ⟨by decide, by decide⟩ ?_
    refine r_irem (pc := 15) h dX2_writeNumber_15 (fun v2 h => ?_)
    refine r_iadd (pc := 16) dX2_writeNumber_16 ?_
    refine r_callVs (pc := 17) (fun _ => none) (As := [sj_i (48 + v2)]) (rest := []) (b := a0) (ok2 ha0) h dX2_writeNumber_17 mw_X2_23 vw_X2_write (fun _ _ hc => cg_X2_write ha0 hc) rfl ⟨(Nat.le_of_ble_eq_true rfl), (Nat.le_of_ble_eq_true rfl)⟩ (Nat.le_of_ble_eq_true rfl) rfl (fun _u V3 h => ?_)
    exact sj_weak (l2 := [some (sj_r (some a0)), some (sj_i x1)]) (⟨rfl, ⟨rfl, trivial⟩⟩) (st_X2_writeNumber_20 a0 x1 V3 ha0 h)
set_option maxHeartbeats 4000000 in
theorem cg_X2_writeNumber {X : sj_X} {g : sj_G} {N : Nat} {a0 : Nat} {x1 : Int} {V : sj_VV} {q : Unit × sj_VV} (ha0 : OK2 g a0) (h : g_X2_writeNumber N a0 x1 V = some q) : sj_C X m_X2_writeNumber [sj_r (some a0), sj_i x1] (g, V) (none, (g, q.2)) :=
  sj_C_of (by decide +kernel) (Nat.le_of_ble_eq_true rfl) (lo := [some (sj_r (some a0)), some (sj_i x1)]) rfl (sj_weak (l2 := [some (sj_r (some a0)), some (sj_i x1)]) (⟨rfl, ⟨rfl, trivial⟩⟩) (st_X2_writeNumber_0 a0 x1 V ha0 h))
set_option maxHeartbeats 4000000 in
theorem c_X2_writeNumber {X : sj_X} {N : Nat} {a0 : Nat} {x1 : Int} {s : sj_Mem} {q : Unit × sj_Mem} (h : f_X2_writeNumber N a0 x1 s = some q) : sj_C X m_X2_writeNumber [sj_r (some a0), sj_i x1] s (none, q.2) := by
  obtain ⟨g, V⟩ := s
  unfold f_X2_writeNumber at h
  obtain ⟨ho, h1⟩ := e_ok_some h
  obtain ⟨q2, h2, rfl⟩ := sj_map_some h1
  exact cg_X2_writeNumber ho h2
theorem dX2_writeFactor_0 : decode cX2_writeFactor 0 = .ok (.aload_n 0, 1) := by decide +kernel
theorem dX2_writeFactor_1 : decode cX2_writeFactor 1 = .ok (.iload_n 1, 1) := by decide +kernel
theorem dX2_writeFactor_2 : decode cX2_writeFactor 2 = .ok (.sipush 1000, 3) := by decide +kernel
theorem dX2_writeFactor_5 : decode cX2_writeFactor 5 = .ok (.idiv, 1) := by decide +kernel
theorem dX2_writeFactor_6 : decode cX2_writeFactor 6 = .ok (.invokevirtual 19, 3) := by decide +kernel
theorem dX2_writeFactor_9 : decode cX2_writeFactor 9 = .ok (.aload_n 0, 1) := by decide +kernel
theorem dX2_writeFactor_10 : decode cX2_writeFactor 10 = .ok (.bipush 46, 2) := by decide +kernel
theorem dX2_writeFactor_12 : decode cX2_writeFactor 12 = .ok (.invokevirtual 23, 3) := by decide +kernel
theorem dX2_writeFactor_15 : decode cX2_writeFactor 15 = .ok (.aload_n 0, 1) := by decide +kernel
theorem dX2_writeFactor_16 : decode cX2_writeFactor 16 = .ok (.bipush 48, 2) := by decide +kernel
theorem dX2_writeFactor_18 : decode cX2_writeFactor 18 = .ok (.iload_n 1, 1) := by decide +kernel
theorem dX2_writeFactor_19 : decode cX2_writeFactor 19 = .ok (.bipush 100, 2) := by decide +kernel
theorem dX2_writeFactor_21 : decode cX2_writeFactor 21 = .ok (.idiv, 1) := by decide +kernel
theorem dX2_writeFactor_22 : decode cX2_writeFactor 22 = .ok (.bipush 10, 2) := by decide +kernel
theorem dX2_writeFactor_24 : decode cX2_writeFactor 24 = .ok (.irem, 1) := by decide +kernel
theorem dX2_writeFactor_25 : decode cX2_writeFactor 25 = .ok (.iadd, 1) := by decide +kernel
theorem dX2_writeFactor_26 : decode cX2_writeFactor 26 = .ok (.invokevirtual 23, 3) := by decide +kernel
theorem dX2_writeFactor_29 : decode cX2_writeFactor 29 = .ok (.aload_n 0, 1) := by decide +kernel
theorem dX2_writeFactor_30 : decode cX2_writeFactor 30 = .ok (.bipush 48, 2) := by decide +kernel
theorem dX2_writeFactor_32 : decode cX2_writeFactor 32 = .ok (.iload_n 1, 1) := by decide +kernel
theorem dX2_writeFactor_33 : decode cX2_writeFactor 33 = .ok (.bipush 10, 2) := by decide +kernel
theorem dX2_writeFactor_35 : decode cX2_writeFactor 35 = .ok (.idiv, 1) := by decide +kernel
theorem dX2_writeFactor_36 : decode cX2_writeFactor 36 = .ok (.bipush 10, 2) := by decide +kernel
theorem dX2_writeFactor_38 : decode cX2_writeFactor 38 = .ok (.irem, 1) := by decide +kernel
theorem dX2_writeFactor_39 : decode cX2_writeFactor 39 = .ok (.iadd, 1) := by decide +kernel
theorem dX2_writeFactor_40 : decode cX2_writeFactor 40 = .ok (.invokevirtual 23, 3) := by decide +kernel
theorem dX2_writeFactor_43 : decode cX2_writeFactor 43 = .ok (.aload_n 0, 1) := by decide +kernel
theorem dX2_writeFactor_44 : decode cX2_writeFactor 44 = .ok (.bipush 48, 2) := by decide +kernel
theorem dX2_writeFactor_46 : decode cX2_writeFactor 46 = .ok (.iload_n 1, 1) := by decide +kernel
theorem dX2_writeFactor_47 : decode cX2_writeFactor 47 = .ok (.bipush 10, 2) := by decide +kernel
theorem dX2_writeFactor_49 : decode cX2_writeFactor 49 = .ok (.irem, 1) := by decide +kernel
theorem dX2_writeFactor_50 : decode cX2_writeFactor 50 = .ok (.iadd, 1) := by decide +kernel
theorem dX2_writeFactor_51 : decode cX2_writeFactor 51 = .ok (.invokevirtual 23, 3) := by decide +kernel
theorem dX2_writeFactor_54 : decode cX2_writeFactor 54 = .ok (.return_, 1) := by decide +kernel
set_option maxHeartbeats 4000000 in
theorem st_X2_writeFactor_0 {X : sj_X} {g : sj_G} {s0 : sj_Mem} {N : Nat} {q : Unit × sj_VV} :
    ∀ (a0 : Nat) (x1 : Int) (V : sj_VV), OK2 g a0 → g_X2_writeFactor N a0 x1 V = some q → sj_T X m_X2_writeFactor s0 (none, (g, q.2)) 0 [some (sj_r (some a0)), some (sj_i x1)] [] (g, V) := by
  intro a0 x1 V ha0 h
  unfold g_X2_writeFactor at h
  refine r_aload_n (pc := 0) dX2_writeFactor_0 rfl rfl ?_
  refine r_iload_n (pc := 1) dX2_writeFactor_1 rfl rfl ?_
  refine r_sipush (pc := 2) dX2_writeFactor_2 ⟨by decide, by decide⟩ ?_
  refine r_idiv (pc := 5) h dX2_writeFactor_5 (fun v1 h => ?_)
  refine r_callVs (pc := 6) (fun _ => none) (As := [sj_i v1]) (rest := []) (b := a0) (ok2 ha0) h dX2_writeFactor_6 mw_X2_19 vw_X2_writeNumber (fun _ _ hc => cg_X2_writeNumber ha0 hc) rfl ⟨(Nat.le_of_ble_eq_true rfl), (Nat.le_of_ble_eq_true rfl)⟩ (Nat.le_of_ble_eq_true rfl) rfl (fun _u V2 h => ?_)
  refine r_aload_n (pc := 9) dX2_writeFactor_9 rfl rfl ?_
  refine r_bipush (pc := 10) dX2_writeFactor_10 ⟨by decide, by decide⟩ ?_
  refine r_callVs (pc := 12) (fun _ => none) (As := [sj_i 46]) (rest := []) (b := a0) (ok2 ha0) h dX2_writeFactor_12 mw_X2_23 vw_X2_write (fun _ _ hc => cg_X2_write ha0 hc) rfl ⟨(Nat.le_of_ble_eq_true rfl), (Nat.le_of_ble_eq_true rfl)⟩ (Nat.le_of_ble_eq_true rfl) rfl (fun _u V3 h => ?_)
  refine r_aload_n (pc := 15) dX2_writeFactor_15 rfl rfl ?_
  refine r_bipush (pc := 16) dX2_writeFactor_16 ⟨by decide, by decide⟩ ?_
  refine r_iload_n (pc := 18) dX2_writeFactor_18 rfl rfl ?_
  refine r_bipush (pc := 19) dX2_writeFactor_19 ⟨by decide, by decide⟩ ?_
  refine r_idiv (pc := 21) h dX2_writeFactor_21 (fun v4 h => ?_)
  refine r_bipush (pc := 22) dX2_writeFactor_22 ⟨by decide, by decide⟩ ?_
  refine r_irem (pc := 24) h dX2_writeFactor_24 (fun v5 h => ?_)
  refine r_iadd (pc := 25) dX2_writeFactor_25 ?_
  refine r_callVs (pc := 26) (fun _ => none) (As := [sj_i (48 + v5)]) (rest := []) (b := a0) (ok2 ha0) h dX2_writeFactor_26 mw_X2_23 vw_X2_write (fun _ _ hc => cg_X2_write ha0 hc) rfl ⟨(Nat.le_of_ble_eq_true rfl), (Nat.le_of_ble_eq_true rfl)⟩ (Nat.le_of_ble_eq_true rfl) rfl (fun _u V6 h => ?_)
  refine r_aload_n (pc := 29) dX2_writeFactor_29 rfl rfl ?_
  refine r_bipush (pc := 30) dX2_writeFactor_30 ⟨by decide, by decide⟩ ?_
  refine r_iload_n (pc := 32) dX2_writeFactor_32 rfl rfl ?_
  refine r_bipush (pc := 33) dX2_writeFactor_33 ⟨by decide, by decide⟩ ?_
  refine r_idiv (pc := 35) h dX2_writeFactor_35 (fun v7 h => ?_)
  refine r_bipush (pc := 36) dX2_writeFactor_36 ⟨by decide, by decide⟩ ?_
  refine r_irem (pc := 38) h dX2_writeFactor_38 (fun v8 h => ?_)
  refine r_iadd (pc := 39) dX2_writeFactor_39 ?_
  refine r_callVs (pc := 40) (fun _ => none) (As := [sj_i (48 + v8)]) (rest := []) (b := a0) (ok2 ha0) h dX2_writeFactor_40 mw_X2_23 vw_X2_write (fun _ _ hc => cg_X2_write ha0 hc) rfl ⟨(Nat.le_of_ble_eq_true rfl), (Nat.le_of_ble_eq_true rfl)⟩ (Nat.le_of_ble_eq_true rfl) rfl (fun _u V9 h => ?_)
  refine r_aload_n (pc := 43) dX2_writeFactor_43 rfl rfl ?_
  refine r_bipush (pc := 44) dX2_writeFactor_44 ⟨by decide, by decide⟩ ?_
  refine r_iload_n (pc := 46) dX2_writeFactor_46 rfl rfl ?_
  refine r_bipush (pc := 47) dX2_writeFactor_47 ⟨by decide, by decide⟩ ?_
  refine r_irem (pc := 49) h dX2_writeFactor_49 (fun v10 h => ?_)
  refine r_iadd (pc := 50) dX2_writeFactor_50 ?_
  refine r_callVs (pc := 51) (fun _ => none) (As := [sj_i (48 + v10)]) (rest := []) (b := a0) (ok2 ha0) h dX2_writeFactor_51 mw_X2_23 vw_X2_write (fun _ _ hc => cg_X2_write ha0 hc) rfl ⟨(Nat.le_of_ble_eq_true rfl), (Nat.le_of_ble_eq_true rfl)⟩ (Nat.le_of_ble_eq_true rfl) rfl (fun _u V11 h => ?_)
  exact r_vrets (pc := 54) h rfl dX2_writeFactor_54
set_option maxHeartbeats 4000000 in
theorem cg_X2_writeFactor {X : sj_X} {g : sj_G} {N : Nat} {a0 : Nat} {x1 : Int} {V : sj_VV} {q : Unit × sj_VV} (ha0 : OK2 g a0) (h : g_X2_writeFactor N a0 x1 V = some q) : sj_C X m_X2_writeFactor [sj_r (some a0), sj_i x1] (g, V) (none, (g, q.2)) :=
  sj_C_of (by decide +kernel) (Nat.le_of_ble_eq_true rfl) (lo := [some (sj_r (some a0)), some (sj_i x1)]) rfl (sj_weak (l2 := [some (sj_r (some a0)), some (sj_i x1)]) (⟨rfl, ⟨rfl, trivial⟩⟩) (st_X2_writeFactor_0 a0 x1 V ha0 h))
set_option maxHeartbeats 4000000 in
theorem c_X2_writeFactor {X : sj_X} {N : Nat} {a0 : Nat} {x1 : Int} {s : sj_Mem} {q : Unit × sj_Mem} (h : f_X2_writeFactor N a0 x1 s = some q) : sj_C X m_X2_writeFactor [sj_r (some a0), sj_i x1] s (none, q.2) := by
  obtain ⟨g, V⟩ := s
  unfold f_X2_writeFactor at h
  obtain ⟨ho, h1⟩ := e_ok_some h
  obtain ⟨q2, h2, rfl⟩ := sj_map_some h1
  exact cg_X2_writeFactor ho h2
theorem dX8_isCircle_0 : decode cX8_isCircle 0 = .ok (.iload_n 0, 1) := by decide +kernel
theorem dX8_isCircle_1 : decode cX8_isCircle 1 = .ok (.bipush (-50), 2) := by decide +kernel
theorem dX8_isCircle_3 : decode cX8_isCircle 3 = .ok (.if_icmp .lt 39, 3) := by decide +kernel
theorem dX8_isCircle_6 : decode cX8_isCircle 6 = .ok (.iload_n 0, 1) := by decide +kernel
theorem dX8_isCircle_7 : decode cX8_isCircle 7 = .ok (.sipush 450, 3) := by decide +kernel
theorem dX8_isCircle_10 : decode cX8_isCircle 10 = .ok (.if_icmp .gt 32, 3) := by decide +kernel
theorem dX8_isCircle_13 : decode cX8_isCircle 13 = .ok (.iload_n 1, 1) := by decide +kernel
theorem dX8_isCircle_14 : decode cX8_isCircle 14 = .ok (.bipush (-50), 2) := by decide +kernel
theorem dX8_isCircle_16 : decode cX8_isCircle 16 = .ok (.if_icmp .lt 26, 3) := by decide +kernel
theorem dX8_isCircle_19 : decode cX8_isCircle 19 = .ok (.iload_n 1, 1) := by decide +kernel
theorem dX8_isCircle_20 : decode cX8_isCircle 20 = .ok (.sipush 450, 3) := by decide +kernel
theorem dX8_isCircle_23 : decode cX8_isCircle 23 = .ok (.if_icmp .gt 19, 3) := by decide +kernel
theorem dX8_isCircle_26 : decode cX8_isCircle 26 = .ok (.iload_n 2, 1) := by decide +kernel
theorem dX8_isCircle_27 : decode cX8_isCircle 27 = .ok (.iconst 1, 1) := by decide +kernel
theorem dX8_isCircle_28 : decode cX8_isCircle 28 = .ok (.if_icmp .lt 14, 3) := by decide +kernel
theorem dX8_isCircle_31 : decode cX8_isCircle 31 = .ok (.iload_n 2, 1) := by decide +kernel
theorem dX8_isCircle_32 : decode cX8_isCircle 32 = .ok (.sipush 500, 3) := by decide +kernel
theorem dX8_isCircle_35 : decode cX8_isCircle 35 = .ok (.if_icmp .gt 7, 3) := by decide +kernel
theorem dX8_isCircle_38 : decode cX8_isCircle 38 = .ok (.iconst 1, 1) := by decide +kernel
theorem dX8_isCircle_39 : decode cX8_isCircle 39 = .ok (.goto 4, 3) := by decide +kernel
theorem dX8_isCircle_42 : decode cX8_isCircle 42 = .ok (.iconst 0, 1) := by decide +kernel
theorem dX8_isCircle_43 : decode cX8_isCircle 43 = .ok (.ireturn, 1) := by decide +kernel
set_option maxHeartbeats 4000000 in
theorem st_X8_isCircle_0 {X : sj_X} {g : sj_G} {s0 : sj_Mem} {N : Nat} {q : Int × sj_VV} :
    ∀ (x0 : Int) (x1 : Int) (x2 : Int) (V : sj_VV), g_X8_isCircle N x0 x1 x2 V = some q → sj_T X m_X8_isCircle s0 (some (sj_i q.1), (g, q.2)) 0 [some (sj_i x0), some (sj_i x1), some (sj_i x2)] [] (g, V) := by
  intro x0 x1 x2 V  h
  unfold g_X8_isCircle at h
  refine r_iload_n (pc := 0) dX8_isCircle_0 rfl rfl ?_
  refine r_bipush (pc := 1) dX8_isCircle_1 ⟨by decide, by decide⟩ ?_
  refine r_icmp_lt (pc := 3) (tgt := 42) h dX8_isCircle_3 (by decide) (fun h => ?_) (fun h => ?_)
  · refine r_iconst (pc := 42) dX8_isCircle_42 ?_
    exact r_zrets (pc := 43) h rfl dX8_isCircle_43
  · refine r_iload_n (pc := 6) dX8_isCircle_6 rfl rfl ?_
    refine r_sipush (pc := 7) dX8_isCircle_7 ⟨by decide, by decide⟩ ?_
    refine r_icmp_gt (pc := 10) (tgt := 42) h dX8_isCircle_10 (by decide) (fun h => ?_) (fun h => ?_)
    · refine r_iconst (pc := 42) dX8_isCircle_42 ?_
      exact r_zrets (pc := 43) h rfl dX8_isCircle_43
    · refine r_iload_n (pc := 13) dX8_isCircle_13 rfl rfl ?_
      refine r_bipush (pc := 14) dX8_isCircle_14 ⟨by decide, by decide⟩ ?_
      refine r_icmp_lt (pc := 16) (tgt := 42) h dX8_isCircle_16 (by decide) (fun h => ?_) (fun h => ?_)
      · refine r_iconst (pc := 42) dX8_isCircle_42 ?_
        exact r_zrets (pc := 43) h rfl dX8_isCircle_43
      · refine r_iload_n (pc := 19) dX8_isCircle_19 rfl rfl ?_
        refine r_sipush (pc := 20) dX8_isCircle_20 ⟨by decide, by decide⟩ ?_
        refine r_icmp_gt (pc := 23) (tgt := 42) h dX8_isCircle_23 (by decide) (fun h => ?_) (fun h => ?_)
        · refine r_iconst (pc := 42) dX8_isCircle_42 ?_
          exact r_zrets (pc := 43) h rfl dX8_isCircle_43
        · refine r_iload_n (pc := 26) dX8_isCircle_26 rfl rfl ?_
          refine r_iconst (pc := 27) dX8_isCircle_27 ?_
          refine r_icmp_lt (pc := 28) (tgt := 42) h dX8_isCircle_28 (by decide) (fun h => ?_) (fun h => ?_)
          · refine r_iconst (pc := 42) dX8_isCircle_42 ?_
            exact r_zrets (pc := 43) h rfl dX8_isCircle_43
          · refine r_iload_n (pc := 31) dX8_isCircle_31 rfl rfl ?_
            refine r_sipush (pc := 32) dX8_isCircle_32 ⟨by decide, by decide⟩ ?_
            refine r_icmp_gt (pc := 35) (tgt := 42) h dX8_isCircle_35 (by decide) (fun h => ?_) (fun h => ?_)
            · refine r_iconst (pc := 42) dX8_isCircle_42 ?_
              exact r_zrets (pc := 43) h rfl dX8_isCircle_43
            · refine r_iconst (pc := 38) dX8_isCircle_38 ?_
              refine r_goto (pc := 39) (tgt := 43) dX8_isCircle_39 (by decide) ?_
              exact r_zrets (pc := 43) h rfl dX8_isCircle_43
set_option maxHeartbeats 4000000 in
theorem cg_X8_isCircle {X : sj_X} {g : sj_G} {N : Nat} {x0 : Int} {x1 : Int} {x2 : Int} {V : sj_VV} {q : Int × sj_VV} (h : g_X8_isCircle N x0 x1 x2 V = some q) : sj_C X m_X8_isCircle [sj_i x0, sj_i x1, sj_i x2] (g, V) (some (sj_i q.1), (g, q.2)) :=
  sj_C_of (by decide +kernel) (Nat.le_of_ble_eq_true rfl) (lo := [some (sj_i x0), some (sj_i x1), some (sj_i x2)]) rfl (sj_weak (l2 := [some (sj_i x0), some (sj_i x1), some (sj_i x2)]) (⟨rfl, ⟨rfl, ⟨rfl, trivial⟩⟩⟩) (st_X8_isCircle_0 x0 x1 x2 V h))
set_option maxHeartbeats 4000000 in
theorem c_X8_isCircle {X : sj_X} {N : Nat} {x0 : Int} {x1 : Int} {x2 : Int} {s : sj_Mem} {q : Int × sj_Mem} (h : f_X8_isCircle N x0 x1 x2 s = some q) : sj_C X m_X8_isCircle [sj_i x0, sj_i x1, sj_i x2] s (some (sj_i q.1), q.2) := by
  obtain ⟨g, V⟩ := s
  unfold f_X8_isCircle at h
  obtain ⟨ho, h1⟩ := e_ok_some h
  obtain ⟨q2, h2, rfl⟩ := sj_map_some h1
  exact cg_X8_isCircle  h2
theorem dX5_span_0 : decode cX5_span 0 = .ok (.aload_n 0, 1) := by decide +kernel
theorem dX5_span_1 : decode cX5_span 1 = .ok (.iload_n 2, 1) := by decide +kernel
theorem dX5_span_2 : decode cX5_span 2 = .ok (.putfield 15, 3) := by decide +kernel
theorem dX5_span_5 : decode cX5_span 5 = .ok (.aload_n 0, 1) := by decide +kernel
theorem dX5_span_6 : decode cX5_span 6 = .ok (.iload_n 3, 1) := by decide +kernel
theorem dX5_span_7 : decode cX5_span 7 = .ok (.putfield 19, 3) := by decide +kernel
theorem dX5_span_10 : decode cX5_span 10 = .ok (.aload_n 0, 1) := by decide +kernel
theorem dX5_span_11 : decode cX5_span 11 = .ok (.iload 4, 2) := by decide +kernel
theorem dX5_span_13 : decode cX5_span 13 = .ok (.putfield 28, 3) := by decide +kernel
theorem dX5_span_16 : decode cX5_span 16 = .ok (.aload_n 0, 1) := by decide +kernel
theorem dX5_span_17 : decode cX5_span 17 = .ok (.getfield 9, 3) := by decide +kernel
theorem dX5_span_20 : decode cX5_span 20 = .ok (.iload_n 2, 1) := by decide +kernel
theorem dX5_span_21 : decode cX5_span 21 = .ok (.aload_n 1, 1) := by decide +kernel
theorem dX5_span_22 : decode cX5_span 22 = .ok (.getfield 45, 3) := by decide +kernel
theorem dX5_span_25 : decode cX5_span 25 = .ok (.iload_n 2, 1) := by decide +kernel
theorem dX5_span_26 : decode cX5_span 26 = .ok (.iaload, 1) := by decide +kernel
theorem dX5_span_27 : decode cX5_span 27 = .ok (.iastore, 1) := by decide +kernel
theorem dX5_span_28 : decode cX5_span 28 = .ok (.aload_n 0, 1) := by decide +kernel
theorem dX5_span_29 : decode cX5_span 29 = .ok (.getfield 9, 3) := by decide +kernel
theorem dX5_span_32 : decode cX5_span 32 = .ok (.iload_n 3, 1) := by decide +kernel
theorem dX5_span_33 : decode cX5_span 33 = .ok (.aload_n 1, 1) := by decide +kernel
theorem dX5_span_34 : decode cX5_span 34 = .ok (.getfield 45, 3) := by decide +kernel
theorem dX5_span_37 : decode cX5_span 37 = .ok (.iload_n 3, 1) := by decide +kernel
theorem dX5_span_38 : decode cX5_span 38 = .ok (.iaload, 1) := by decide +kernel
theorem dX5_span_39 : decode cX5_span 39 = .ok (.iastore, 1) := by decide +kernel
theorem dX5_span_40 : decode cX5_span 40 = .ok (.return_, 1) := by decide +kernel
set_option maxHeartbeats 4000000 in
theorem st_X5_span_0 {X : sj_X} {g : sj_G} {s0 : sj_Mem} {N : Nat} {q : Unit × sj_VV} :
    ∀ (a0 : Nat) (x1 : Nat) (x2 : Int) (x3 : Int) (x4 : Int) (V : sj_VV), OK5 g a0 → OK0 g x1 → g_X5_span N a0 x1 x2 x3 x4 V = some q → sj_T X m_X5_span s0 (none, (g, q.2)) 0 [some (sj_r (some a0)), some (sj_r (some x1)), some (sj_i x2), some (sj_i x3), some (sj_i x4)] [] (g, V) := by
  intro a0 x1 x2 x3 x4 V ha0 hx1 h
  unfold g_X5_span at h
  refine r_aload_n (pc := 0) dX5_span_0 rfl rfl ?_
  refine r_iload_n (pc := 1) dX5_span_1 rfl rfl ?_
  refine r_pIs (pc := 2) h dX5_span_2 fw_X5_15 rfl rfl (nf5_1) (ok5 ha0) (fun V1 h => ?_)
  refine r_aload_n (pc := 5) dX5_span_5 rfl rfl ?_
  refine r_iload_n (pc := 6) dX5_span_6 rfl rfl ?_
  refine r_pIs (pc := 7) h dX5_span_7 fw_X5_19 rfl rfl (nf5_2) (ok5 ha0) (fun V2 h => ?_)
  refine r_aload_n (pc := 10) dX5_span_10 rfl rfl ?_
  refine r_iload (pc := 11) dX5_span_11 rfl ?_
  refine r_pZs (pc := 13) h dX5_span_13 fw_X5_28 rfl rfl (nf5_3) (ok5 ha0) (fun V3 h => ?_)
  refine r_aload_n (pc := 16) dX5_span_16 rfl rfl ?_
  refine r_gRs (b := a0 + 1) (pc := 17) dX5_span_17 fw_X5_9 rfl (ok5 ha0) (ok5_0 ha0).1 ?_
  refine r_iload_n (pc := 20) dX5_span_20 rfl rfl ?_
  refine r_aload_n (pc := 21) dX5_span_21 rfl rfl ?_
  refine r_gRs (b := x1 + 1) (pc := 22) dX5_span_22 fw_X5_45 rfl (ok0 hx1) (ok0_3 hx1).1 ?_
  refine r_iload_n (pc := 25) dX5_span_25 rfl rfl ?_
  refine r_ialoads (pc := 26) h dX5_span_26 (ok0_3 hx1).2 (fun h => ?_)
  refine r_iastores (pc := 27) h dX5_span_27 (ok5_0 ha0).2 (fun V4 h => ?_)
  refine r_aload_n (pc := 28) dX5_span_28 rfl rfl ?_
  refine r_gRs (b := a0 + 1) (pc := 29) dX5_span_29 fw_X5_9 rfl (ok5 ha0) (ok5_0 ha0).1 ?_
  refine r_iload_n (pc := 32) dX5_span_32 rfl rfl ?_
  refine r_aload_n (pc := 33) dX5_span_33 rfl rfl ?_
  refine r_gRs (b := x1 + 1) (pc := 34) dX5_span_34 fw_X5_45 rfl (ok0 hx1) (ok0_3 hx1).1 ?_
  refine r_iload_n (pc := 37) dX5_span_37 rfl rfl ?_
  refine r_ialoads (pc := 38) h dX5_span_38 (ok0_3 hx1).2 (fun h => ?_)
  refine r_iastores (pc := 39) h dX5_span_39 (ok5_0 ha0).2 (fun V5 h => ?_)
  exact r_vrets (pc := 40) h rfl dX5_span_40
set_option maxHeartbeats 4000000 in
theorem cg_X5_span {X : sj_X} {g : sj_G} {N : Nat} {a0 : Nat} {x1 : Nat} {x2 : Int} {x3 : Int} {x4 : Int} {V : sj_VV} {q : Unit × sj_VV} (ha0 : OK5 g a0) (hx1 : OK0 g x1) (h : g_X5_span N a0 x1 x2 x3 x4 V = some q) : sj_C X m_X5_span [sj_r (some a0), sj_r (some x1), sj_i x2, sj_i x3, sj_i x4] (g, V) (none, (g, q.2)) :=
  sj_C_of (by decide +kernel) (Nat.le_of_ble_eq_true rfl) (lo := [some (sj_r (some a0)), some (sj_r (some x1)), some (sj_i x2), some (sj_i x3), some (sj_i x4)]) rfl (sj_weak (l2 := [some (sj_r (some a0)), some (sj_r (some x1)), some (sj_i x2), some (sj_i x3), some (sj_i x4)]) (⟨rfl, ⟨rfl, ⟨rfl, ⟨rfl, ⟨rfl, trivial⟩⟩⟩⟩⟩) (st_X5_span_0 a0 x1 x2 x3 x4 V ha0 hx1 h))
set_option maxHeartbeats 4000000 in
theorem c_X5_span {X : sj_X} {N : Nat} {a0 : Nat} {x1 : Option Nat} {x2 : Int} {x3 : Int} {x4 : Int} {s : sj_Mem} {q : Unit × sj_Mem} (h : f_X5_span N a0 x1 x2 x3 x4 s = some q) : sj_C X m_X5_span [sj_r (some a0), sj_r x1, sj_i x2, sj_i x3, sj_i x4] s (none, q.2) := by
  obtain ⟨g, V⟩ := s
  unfold f_X5_span at h
  obtain ⟨ho, h1⟩ := e_ok_some h
  obtain ⟨q2, h2, rfl⟩ := sj_map_some h1
  obtain ⟨z1, hz1⟩ : ∃ z, x1 = some z := ⟨_, ho.2.1⟩
  subst hz1
  exact cg_X5_span ho.1 ho.2.2 h2
theorem dX8_rootOf_0 : decode cX8_rootOf 0 = .ok (.iconst 0, 1) := by decide +kernel
theorem dX8_rootOf_1 : decode cX8_rootOf 1 = .ok (.istore_n 1, 1) := by decide +kernel
theorem dX8_rootOf_2 : decode cX8_rootOf 2 = .ok (.sipush 256, 3) := by decide +kernel
theorem dX8_rootOf_5 : decode cX8_rootOf 5 = .ok (.istore_n 2, 1) := by decide +kernel
theorem dX8_rootOf_6 : decode cX8_rootOf 6 = .ok (.iload_n 2, 1) := by decide +kernel
theorem dX8_rootOf_7 : decode cX8_rootOf 7 = .ok (.ifCond .le 23, 3) := by decide +kernel
theorem dX8_rootOf_10 : decode cX8_rootOf 10 = .ok (.iload_n 1, 1) := by decide +kernel
theorem dX8_rootOf_11 : decode cX8_rootOf 11 = .ok (.iload_n 2, 1) := by decide +kernel
theorem dX8_rootOf_12 : decode cX8_rootOf 12 = .ok (.iadd, 1) := by decide +kernel
theorem dX8_rootOf_13 : decode cX8_rootOf 13 = .ok (.istore_n 3, 1) := by decide +kernel
theorem dX8_rootOf_14 : decode cX8_rootOf 14 = .ok (.iload_n 3, 1) := by decide +kernel
theorem dX8_rootOf_15 : decode cX8_rootOf 15 = .ok (.iload_n 3, 1) := by decide +kernel
theorem dX8_rootOf_16 : decode cX8_rootOf 16 = .ok (.imul, 1) := by decide +kernel
theorem dX8_rootOf_17 : decode cX8_rootOf 17 = .ok (.iload_n 0, 1) := by decide +kernel
theorem dX8_rootOf_18 : decode cX8_rootOf 18 = .ok (.if_icmp .gt 5, 3) := by decide +kernel
theorem dX8_rootOf_21 : decode cX8_rootOf 21 = .ok (.iload_n 3, 1) := by decide +kernel
theorem dX8_rootOf_22 : decode cX8_rootOf 22 = .ok (.istore_n 1, 1) := by decide +kernel
theorem dX8_rootOf_23 : decode cX8_rootOf 23 = .ok (.iload_n 2, 1) := by decide +kernel
theorem dX8_rootOf_24 : decode cX8_rootOf 24 = .ok (.iconst 2, 1) := by decide +kernel
theorem dX8_rootOf_25 : decode cX8_rootOf 25 = .ok (.idiv, 1) := by decide +kernel
theorem dX8_rootOf_26 : decode cX8_rootOf 26 = .ok (.istore_n 2, 1) := by decide +kernel
theorem dX8_rootOf_27 : decode cX8_rootOf 27 = .ok (.goto (-21), 3) := by decide +kernel
theorem dX8_rootOf_30 : decode cX8_rootOf 30 = .ok (.iload_n 1, 1) := by decide +kernel
theorem dX8_rootOf_31 : decode cX8_rootOf 31 = .ok (.ireturn, 1) := by decide +kernel
set_option maxHeartbeats 4000000 in
theorem st_X8_rootOf_23 {X : sj_X} {g : sj_G} {s0 : sj_Mem} {N : Nat} {q : Int × sj_VV} {k6 : Int → Int → Int → sj_VV → Option (Int × sj_VV)} (hk6 : ∀ (x0 : Int) (x1 : Int) (x2 : Int) (V : sj_VV), k6 x0 x1 x2 V = some q → sj_T X m_X8_rootOf s0 (some (sj_i q.1), (g, q.2)) 6 [some (sj_i x0), some (sj_i x1), some (sj_i x2), none] [] (g, V)) :
    ∀ (x0 : Int) (x1 : Int) (x2 : Int) (V : sj_VV), g_X8_rootOf_23 N k6 x0 x1 x2 V = some q → sj_T X m_X8_rootOf s0 (some (sj_i q.1), (g, q.2)) 23 [some (sj_i x0), some (sj_i x1), some (sj_i x2), none] [] (g, V) := by
  intro x0 x1 x2 V  h
  unfold g_X8_rootOf_23 at h
  refine r_iload_n (pc := 23) dX8_rootOf_23 rfl rfl ?_
  refine r_iconst (pc := 24) dX8_rootOf_24 ?_
  refine r_idiv (pc := 25) h dX8_rootOf_25 (fun v1 h => ?_)
  refine r_istore_n (ln := [some (sj_i x0), some (sj_i x1), some (sj_i v1), none]) (pc := 26) dX8_rootOf_26 rfl (Nat.le_of_ble_eq_true rfl) rfl ?_
  refine r_goto (pc := 27) (tgt := 6) dX8_rootOf_27 (by decide) ?_
  exact sj_weak (l2 := [some (sj_i x0), some (sj_i x1), some (sj_i v1), none]) (⟨rfl, ⟨rfl, ⟨rfl, trivial⟩⟩⟩) (hk6 x0 x1 v1 V h)
set_option maxHeartbeats 4000000 in
theorem st_X8_rootOf_6_b {X : sj_X} {g : sj_G} {s0 : sj_Mem} {N : Nat} {q : Int × sj_VV} {k6 : Int → Int → Int → sj_VV → Option (Int × sj_VV)} (hk6 : ∀ (x0 : Int) (x1 : Int) (x2 : Int) (V : sj_VV), k6 x0 x1 x2 V = some q → sj_T X m_X8_rootOf s0 (some (sj_i q.1), (g, q.2)) 6 [some (sj_i x0), some (sj_i x1), some (sj_i x2), none] [] (g, V)) :
    ∀ (x0 : Int) (x1 : Int) (x2 : Int) (V : sj_VV), g_X8_rootOf_6_b N k6 x0 x1 x2 V = some q → sj_T X m_X8_rootOf s0 (some (sj_i q.1), (g, q.2)) 6 [some (sj_i x0), some (sj_i x1), some (sj_i x2), none] [] (g, V) := by
  intro x0 x1 x2 V  h
  unfold g_X8_rootOf_6_b at h
  refine r_iload_n (pc := 6) dX8_rootOf_6 rfl rfl ?_
  refine r_if_le (pc := 7) (tgt := 30) h dX8_rootOf_7 (by decide) (fun h => ?_) (fun h => ?_)
  · refine r_iload_n (pc := 30) dX8_rootOf_30 rfl rfl ?_
    exact r_irets (pc := 31) h rfl dX8_rootOf_31
  · refine r_iload_n (pc := 10) dX8_rootOf_10 rfl rfl ?_
    refine r_iload_n (pc := 11) dX8_rootOf_11 rfl rfl ?_
    refine r_iadd (pc := 12) dX8_rootOf_12 ?_
    refine r_istore_nL (ln := fun w => [some (sj_i x0), some (sj_i x1), some (sj_i x2), some (sj_i w)]) (pc := 13) h dX8_rootOf_13 rfl (Nat.le_of_ble_eq_true rfl) (fun _ => rfl) (fun v1 h => ?_)
    refine r_iload_n (pc := 14) dX8_rootOf_14 rfl rfl ?_
    refine r_iload_n (pc := 15) dX8_rootOf_15 rfl rfl ?_
    refine r_imul (pc := 16) dX8_rootOf_16 ?_
    refine r_iload_n (pc := 17) dX8_rootOf_17 rfl rfl ?_
    refine r_icmp_gt (pc := 18) (tgt := 23) h dX8_rootOf_18 (by decide) (fun h => ?_) (fun h => ?_)
    · exact sj_weak (l2 := [some (sj_i x0), some (sj_i x1), some (sj_i x2), none]) (⟨rfl, ⟨rfl, ⟨rfl, trivial⟩⟩⟩) (st_X8_rootOf_23 hk6 x0 x1 x2 V h)
    · refine r_iload_n (pc := 21) dX8_rootOf_21 rfl rfl ?_
      refine r_istore_n (ln := [some (sj_i x0), some (sj_i v1), some (sj_i x2), some (sj_i v1)]) (pc := 22) dX8_rootOf_22 rfl (Nat.le_of_ble_eq_true rfl) rfl ?_
      exact sj_weak (l2 := [some (sj_i x0), some (sj_i v1), some (sj_i x2), none]) (⟨rfl, ⟨rfl, ⟨rfl, trivial⟩⟩⟩) (st_X8_rootOf_23 hk6 x0 v1 x2 V h)
set_option maxHeartbeats 4000000 in
theorem st_X8_rootOf_6 {X : sj_X} {g : sj_G} {s0 : sj_Mem} {N : Nat} {q : Int × sj_VV} :
    ∀ (n : Nat) (x0 : Int) (x1 : Int) (x2 : Int) (V : sj_VV), g_X8_rootOf_6 N n x0 x1 x2 V = some q → sj_T X m_X8_rootOf s0 (some (sj_i q.1), (g, q.2)) 6 [some (sj_i x0), some (sj_i x1), some (sj_i x2), none] [] (g, V) := by
  intro n
  induction n with
  | zero => intro x0 x1 x2 V  h; exact nomatch h
  | succ n ih => intro x0 x1 x2 V  h; exact st_X8_rootOf_6_b (N := N) ih x0 x1 x2 V  h
set_option maxHeartbeats 4000000 in
theorem st_X8_rootOf_0 {X : sj_X} {g : sj_G} {s0 : sj_Mem} {N : Nat} {q : Int × sj_VV} :
    ∀ (x0 : Int) (V : sj_VV), g_X8_rootOf N x0 V = some q → sj_T X m_X8_rootOf s0 (some (sj_i q.1), (g, q.2)) 0 [some (sj_i x0), none, none, none] [] (g, V) := by
  intro x0 V  h
  unfold g_X8_rootOf at h
  refine r_iconst (pc := 0) dX8_rootOf_0 ?_
  refine r_istore_n (ln := [some (sj_i x0), some (sj_i 0), none, none]) (pc := 1) dX8_rootOf_1 rfl (Nat.le_of_ble_eq_true rfl) rfl ?_
  refine r_sipush (pc := 2) dX8_rootOf_2 ⟨by decide, by decide⟩ ?_
  refine r_istore_n (ln := [some (sj_i x0), some (sj_i 0), some (sj_i 256), none]) (pc := 5) dX8_rootOf_5 rfl (Nat.le_of_ble_eq_true rfl) rfl ?_
  exact sj_weak (l2 := [some (sj_i x0), some (sj_i 0), some (sj_i 256), none]) (⟨rfl, ⟨rfl, ⟨rfl, trivial⟩⟩⟩) (st_X8_rootOf_6 N x0 0 256 V h)
set_option maxHeartbeats 4000000 in
theorem cg_X8_rootOf {X : sj_X} {g : sj_G} {N : Nat} {x0 : Int} {V : sj_VV} {q : Int × sj_VV} (h : g_X8_rootOf N x0 V = some q) : sj_C X m_X8_rootOf [sj_i x0] (g, V) (some (sj_i q.1), (g, q.2)) :=
  sj_C_of (by decide +kernel) (Nat.le_of_ble_eq_true rfl) (lo := [some (sj_i x0), none, none, none]) rfl (sj_weak (l2 := [some (sj_i x0), none, none, none]) (⟨rfl, trivial⟩) (st_X8_rootOf_0 x0 V h))
set_option maxHeartbeats 4000000 in
theorem c_X8_rootOf {X : sj_X} {N : Nat} {x0 : Int} {s : sj_Mem} {q : Int × sj_Mem} (h : f_X8_rootOf N x0 s = some q) : sj_C X m_X8_rootOf [sj_i x0] s (some (sj_i q.1), q.2) := by
  obtain ⟨g, V⟩ := s
  unfold f_X8_rootOf at h
  obtain ⟨ho, h1⟩ := e_ok_some h
  obtain ⟨q2, h2, rfl⟩ := sj_map_some h1
  exact cg_X8_rootOf  h2
theorem dX5_cut_0 : decode cX5_cut 0 = .ok (.iconst (-1), 1) := by decide +kernel
theorem dX5_cut_1 : decode cX5_cut 1 = .ok (.istore 6, 2) := by decide +kernel
theorem dX5_cut_3 : decode cX5_cut 3 = .ok (.iconst (-1), 1) := by decide +kernel
theorem dX5_cut_4 : decode cX5_cut 4 = .ok (.istore 7, 2) := by decide +kernel
theorem dX5_cut_6 : decode cX5_cut 6 = .ok (.iconst 0, 1) := by decide +kernel
theorem dX5_cut_7 : decode cX5_cut 7 = .ok (.istore 8, 2) := by decide +kernel
theorem dX5_cut_9 : decode cX5_cut 9 = .ok (.iload 8, 2) := by decide +kernel
theorem dX5_cut_11 : decode cX5_cut 11 = .ok (.aload_n 1, 1) := by decide +kernel
theorem dX5_cut_12 : decode cX5_cut 12 = .ok (.getfield 50, 3) := by decide +kernel
theorem dX5_cut_15 : decode cX5_cut 15 = .ok (.if_icmp .gt 114, 3) := by decide +kernel
theorem dX5_cut_18 : decode cX5_cut 18 = .ok (.aload_n 1, 1) := by decide +kernel
theorem dX5_cut_19 : decode cX5_cut 19 = .ok (.getfield 53, 3) := by decide +kernel
theorem dX5_cut_22 : decode cX5_cut 22 = .ok (.iload 8, 2) := by decide +kernel
theorem dX5_cut_24 : decode cX5_cut 24 = .ok (.imul, 1) := by decide +kernel
theorem dX5_cut_25 : decode cX5_cut 25 = .ok (.iload_n 2, 1) := by decide +kernel
theorem dX5_cut_26 : decode cX5_cut 26 = .ok (.isub, 1) := by decide +kernel
theorem dX5_cut_27 : decode cX5_cut 27 = .ok (.istore 9, 2) := by decide +kernel
theorem dX5_cut_29 : decode cX5_cut 29 = .ok (.iload 4, 2) := by decide +kernel
theorem dX5_cut_31 : decode cX5_cut 31 = .ok (.iload 4, 2) := by decide +kernel
theorem dX5_cut_33 : decode cX5_cut 33 = .ok (.imul, 1) := by decide +kernel
theorem dX5_cut_34 : decode cX5_cut 34 = .ok (.iload 9, 2) := by decide +kernel
theorem dX5_cut_36 : decode cX5_cut 36 = .ok (.iload 9, 2) := by decide +kernel
theorem dX5_cut_38 : decode cX5_cut 38 = .ok (.imul, 1) := by decide +kernel
theorem dX5_cut_39 : decode cX5_cut 39 = .ok (.isub, 1) := by decide +kernel
theorem dX5_cut_40 : decode cX5_cut 40 = .ok (.istore 10, 2) := by decide +kernel
theorem dX5_cut_42 : decode cX5_cut 42 = .ok (.iload 10, 2) := by decide +kernel
theorem dX5_cut_44 : decode cX5_cut 44 = .ok (.ifCond .ge 13, 3) := by decide +kernel
theorem dX5_cut_47 : decode cX5_cut 47 = .ok (.aload_n 1, 1) := by decide +kernel
theorem dX5_cut_48 : decode cX5_cut 48 = .ok (.getfield 45, 3) := by decide +kernel
theorem dX5_cut_51 : decode cX5_cut 51 = .ok (.iload 8, 2) := by decide +kernel
theorem dX5_cut_53 : decode cX5_cut 53 = .ok (.iaload, 1) := by decide +kernel
theorem dX5_cut_54 : decode cX5_cut 54 = .ok (.goto 20, 3) := by decide +kernel
theorem dX5_cut_57 : decode cX5_cut 57 = .ok (.iload_n 3, 1) := by decide +kernel
theorem dX5_cut_58 : decode cX5_cut 58 = .ok (.iload 10, 2) := by decide +kernel
theorem dX5_cut_60 : decode cX5_cut 60 = .ok (.invokestatic 56, 3) := by decide +kernel
theorem dX5_cut_63 : decode cX5_cut 63 = .ok (.isub, 1) := by decide +kernel
theorem dX5_cut_64 : decode cX5_cut 64 = .ok (.aload_n 1, 1) := by decide +kernel
theorem dX5_cut_65 : decode cX5_cut 65 = .ok (.getfield 60, 3) := by decide +kernel
theorem dX5_cut_68 : decode cX5_cut 68 = .ok (.iload 8, 2) := by decide +kernel
theorem dX5_cut_70 : decode cX5_cut 70 = .ok (.iaload, 1) := by decide +kernel
theorem dX5_cut_71 : decode cX5_cut 71 = .ok (.invokestatic 36, 3) := by decide +kernel
theorem dX5_cut_74 : decode cX5_cut 74 = .ok (.istore 11, 2) := by decide +kernel
theorem dX5_cut_76 : decode cX5_cut 76 = .ok (.iload 11, 2) := by decide +kernel
theorem dX5_cut_78 : decode cX5_cut 78 = .ok (.aload_n 1, 1) := by decide +kernel
theorem dX5_cut_79 : decode cX5_cut 79 = .ok (.getfield 45, 3) := by decide +kernel
theorem dX5_cut_82 : decode cX5_cut 82 = .ok (.iload 8, 2) := by decide +kernel
theorem dX5_cut_84 : decode cX5_cut 84 = .ok (.iaload, 1) := by decide +kernel
theorem dX5_cut_85 : decode cX5_cut 85 = .ok (.if_icmp .ge 29, 3) := by decide +kernel
theorem dX5_cut_88 : decode cX5_cut 88 = .ok (.aload_n 0, 1) := by decide +kernel
theorem dX5_cut_89 : decode cX5_cut 89 = .ok (.getfield 9, 3) := by decide +kernel
theorem dX5_cut_92 : decode cX5_cut 92 = .ok (.iload 8, 2) := by decide +kernel
theorem dX5_cut_94 : decode cX5_cut 94 = .ok (.iload 11, 2) := by decide +kernel
theorem dX5_cut_96 : decode cX5_cut 96 = .ok (.iastore, 1) := by decide +kernel
theorem dX5_cut_97 : decode cX5_cut 97 = .ok (.iload 8, 2) := by decide +kernel
theorem dX5_cut_99 : decode cX5_cut 99 = .ok (.istore 7, 2) := by decide +kernel
theorem dX5_cut_101 : decode cX5_cut 101 = .ok (.iload 6, 2) := by decide +kernel
theorem dX5_cut_103 : decode cX5_cut 103 = .ok (.iconst (-1), 1) := by decide +kernel
theorem dX5_cut_104 : decode cX5_cut 104 = .ok (.if_icmp .ne 19, 3) := by decide +kernel
theorem dX5_cut_107 : decode cX5_cut 107 = .ok (.iload 8, 2) := by decide +kernel
theorem dX5_cut_109 : decode cX5_cut 109 = .ok (.istore 6, 2) := by decide +kernel
theorem dX5_cut_111 : decode cX5_cut 111 = .ok (.goto 12, 3) := by decide +kernel
theorem dX5_cut_114 : decode cX5_cut 114 = .ok (.iload 6, 2) := by decide +kernel
theorem dX5_cut_116 : decode cX5_cut 116 = .ok (.iconst (-1), 1) := by decide +kernel
theorem dX5_cut_117 : decode cX5_cut 117 = .ok (.if_icmp .eq 6, 3) := by decide +kernel
theorem dX5_cut_120 : decode cX5_cut 120 = .ok (.goto 9, 3) := by decide +kernel
theorem dX5_cut_123 : decode cX5_cut 123 = .ok (.iinc 8 1, 3) := by decide +kernel
theorem dX5_cut_126 : decode cX5_cut 126 = .ok (.goto (-117), 3) := by decide +kernel
theorem dX5_cut_129 : decode cX5_cut 129 = .ok (.iload 6, 2) := by decide +kernel
theorem dX5_cut_131 : decode cX5_cut 131 = .ok (.iconst 1, 1) := by decide +kernel
theorem dX5_cut_132 : decode cX5_cut 132 = .ok (.if_icmp .lt 12, 3) := by decide +kernel
theorem dX5_cut_135 : decode cX5_cut 135 = .ok (.iload 7, 2) := by decide +kernel
theorem dX5_cut_137 : decode cX5_cut 137 = .ok (.aload_n 1, 1) := by decide +kernel
theorem dX5_cut_138 : decode cX5_cut 138 = .ok (.getfield 50, 3) := by decide +kernel
theorem dX5_cut_141 : decode cX5_cut 141 = .ok (.if_icmp .lt 5, 3) := by decide +kernel
theorem dX5_cut_144 : decode cX5_cut 144 = .ok (.iconst 0, 1) := by decide +kernel
theorem dX5_cut_145 : decode cX5_cut 145 = .ok (.ireturn, 1) := by decide +kernel
theorem dX5_cut_146 : decode cX5_cut 146 = .ok (.aload_n 0, 1) := by decide +kernel
theorem dX5_cut_147 : decode cX5_cut 147 = .ok (.aload_n 1, 1) := by decide +kernel
theorem dX5_cut_148 : decode cX5_cut 148 = .ok (.iload 6, 2) := by decide +kernel
theorem dX5_cut_150 : decode cX5_cut 150 = .ok (.iconst 1, 1) := by decide +kernel
theorem dX5_cut_151 : decode cX5_cut 151 = .ok (.isub, 1) := by decide +kernel
theorem dX5_cut_152 : decode cX5_cut 152 = .ok (.iload 7, 2) := by decide +kernel
theorem dX5_cut_154 : decode cX5_cut 154 = .ok (.iconst 1, 1) := by decide +kernel
theorem dX5_cut_155 : decode cX5_cut 155 = .ok (.iadd, 1) := by decide +kernel
theorem dX5_cut_156 : decode cX5_cut 156 = .ok (.iload 5, 2) := by decide +kernel
theorem dX5_cut_158 : decode cX5_cut 158 = .ok (.invokevirtual 63, 3) := by decide +kernel
theorem dX5_cut_161 : decode cX5_cut 161 = .ok (.iconst 1, 1) := by decide +kernel
theorem dX5_cut_162 : decode cX5_cut 162 = .ok (.ireturn, 1) := by decide +kernel
set_option maxHeartbeats 4000000 in
theorem st_X5_cut_123 {X : sj_X} {g : sj_G} {s0 : sj_Mem} {N : Nat} {q : Int × sj_VV} {k9 : Nat → Nat → Int → Int → Int → Int → Int → Int → Int → sj_VV → Option (Int × sj_VV)} (hk9 : ∀ (a0 : Nat) (x1 : Nat) (x2 : Int) (x3 : Int) (x4 : Int) (x5 : Int) (x6 : Int) (x7 : Int) (x8 : Int) (V : sj_VV), OK5 g a0 → OK0 g x1 → k9 a0 x1 x2 x3 x4 x5 x6 x7 x8 V = some q → sj_T X m_X5_cut s0 (some (sj_i q.1), (g, q.2)) 9 [some (sj_r (some a0)), some (sj_r (some x1)), some (sj_i x2), some (sj_i x3), some (sj_i x4), some (sj_i x5), some (sj_i x6), some (sj_i x7), some (sj_i x8), none, none, none] [] (g, V)) :
    ∀ (a0 : Nat) (x1 : Nat) (x2 : Int) (x3 : Int) (x4 : Int) (x5 : Int) (x6 : Int) (x7 : Int) (x8 : Int) (V : sj_VV), OK5 g a0 → OK0 g x1 → g_X5_cut_123 N k9 a0 x1 x2 x3 x4 x5 x6 x7 x8 V = some q → sj_T X m_X5_cut s0 (some (sj_i q.1), (g, q.2)) 123 [some (sj_r (some a0)), some (sj_r (some x1)), some (sj_i x2), some (sj_i x3), some (sj_i x4), some (sj_i x5), some (sj_i x6), some (sj_i x7), some (sj_i x8), none, none, none] [] (g, V) := by
  intro a0 x1 x2 x3 x4 x5 x6 x7 x8 V ha0 hx1 h
  unfold g_X5_cut_123 at h
  refine r_iinc (ln := fun w => [some (sj_r (some a0)), some (sj_r (some x1)), some (sj_i x2), some (sj_i x3), some (sj_i x4), some (sj_i x5), some (sj_i x6), some (sj_i x7), some (sj_i w), none, none, none]) (pc := 123) h dX5_cut_123 rfl (Nat.le_of_ble_eq_true rfl) (fun _ => rfl) (fun v1 h => ?_)
  refine r_goto (pc := 126) (tgt := 9) dX5_cut_126 (by decide) ?_
  exact sj_weak (l2 := [some (sj_r (some a0)), some (sj_r (some x1)), some (sj_i x2), some (sj_i x3), some (sj_i x4), some (sj_i x5), some (sj_i x6), some (sj_i x7), some (sj_i v1), none, none, none]) (⟨rfl, ⟨rfl, ⟨rfl, ⟨rfl, ⟨rfl, ⟨rfl, ⟨rfl, ⟨rfl, ⟨rfl, trivial⟩⟩⟩⟩⟩⟩⟩⟩⟩) (hk9 a0 x1 x2 x3 x4 x5 x6 x7 v1 V ha0 hx1 h)
set_option maxHeartbeats 4000000 in
theorem st_X5_cut_129 {X : sj_X} {g : sj_G} {s0 : sj_Mem} {N : Nat} {q : Int × sj_VV} :
    ∀ (a0 : Nat) (x1 : Nat) (x5 : Int) (x6 : Int) (x7 : Int) (V : sj_VV), OK5 g a0 → OK0 g x1 → g_X5_cut_129 N a0 x1 x5 x6 x7 V = some q → sj_T X m_X5_cut s0 (some (sj_i q.1), (g, q.2)) 129 [some (sj_r (some a0)), some (sj_r (some x1)), none, none, none, some (sj_i x5), some (sj_i x6), some (sj_i x7), none, none, none, none] [] (g, V) := by
  intro a0 x1 x5 x6 x7 V ha0 hx1 h
  unfold g_X5_cut_129 at h
  refine r_iload (pc := 129) dX5_cut_129 rfl ?_
  refine r_iconst (pc := 131) dX5_cut_131 ?_
  refine r_icmp_lt (pc := 132) (tgt := 144) h dX5_cut_132 (by decide) (fun h => ?_) (fun h => ?_)
  · refine r_iconst (pc := 144) dX5_cut_144 ?_
    exact r_zrets (pc := 145) h rfl dX5_cut_145
  · refine r_iload (pc := 135) dX5_cut_135 rfl ?_
    refine r_aload_n (pc := 137) dX5_cut_137 rfl rfl ?_
    refine r_gIs (pc := 138) dX5_cut_138 fw_X5_50 rfl (ok0 hx1) ?_
    refine r_icmp_lt (pc := 141) (tgt := 146) h dX5_cut_141 (by decide) (fun h => ?_) (fun h => ?_)
    · refine r_aload_n (pc := 146) dX5_cut_146 rfl rfl ?_
      refine r_aload_n (pc := 147) dX5_cut_147 rfl rfl ?_
      refine r_iload (pc := 148) dX5_cut_148 rfl ?_
      refine r_iconst (pc := 150) dX5_cut_150 ?_
      refine r_isub (pc := 151) dX5_cut_151 ?_
      refine r_iload (pc := 152) dX5_cut_152 rfl ?_
      refine r_iconst (pc := 154) dX5_cut_154 ?_
      refine r_iadd (pc := 155) dX5_cut_155 ?_
      refine r_iload (pc := 156) dX5_cut_156 rfl ?_
      refine r_callVs (pc := 158) (fun _ => none) (As := [sj_r (some x1), sj_i (x6 - 1), sj_i (x7 + 1), sj_i x5]) (rest := []) (b := a0) (ok5 ha0) h dX5_cut_158 mw_X5_63 vw_X5_span (fun _ _ hc => cg_X5_span ha0 hx1 hc) rfl ⟨(Nat.le_of_ble_eq_true rfl), (Nat.le_of_ble_eq_true rfl)⟩ (Nat.le_of_ble_eq_true rfl) rfl (fun _u V1 h => ?_)
      refine r_iconst (pc := 161) dX5_cut_161 ?_
      exact r_zrets (pc := 162) h rfl dX5_cut_162
    · refine r_iconst (pc := 144) dX5_cut_144 ?_
      exact r_zrets (pc := 145) h rfl dX5_cut_145
set_option maxHeartbeats 4000000 in
theorem st_X5_cut_74 {X : sj_X} {g : sj_G} {s0 : sj_Mem} {N : Nat} {q : Int × sj_VV} {k9 : Nat → Nat → Int → Int → Int → Int → Int → Int → Int → sj_VV → Option (Int × sj_VV)} (hk9 : ∀ (a0 : Nat) (x1 : Nat) (x2 : Int) (x3 : Int) (x4 : Int) (x5 : Int) (x6 : Int) (x7 : Int) (x8 : Int) (V : sj_VV), OK5 g a0 → OK0 g x1 → k9 a0 x1 x2 x3 x4 x5 x6 x7 x8 V = some q → sj_T X m_X5_cut s0 (some (sj_i q.1), (g, q.2)) 9 [some (sj_r (some a0)), some (sj_r (some x1)), some (sj_i x2), some (sj_i x3), some (sj_i x4), some (sj_i x5), some (sj_i x6), some (sj_i x7), some (sj_i x8), none, none, none] [] (g, V)) :
    ∀ (a0 : Nat) (x1 : Nat) (x2 : Int) (x3 : Int) (x4 : Int) (x5 : Int) (x6 : Int) (x7 : Int) (x8 : Int) (y0 : Int) (V : sj_VV), OK5 g a0 → OK0 g x1 → g_X5_cut_74 N k9 a0 x1 x2 x3 x4 x5 x6 x7 x8 y0 V = some q → sj_T X m_X5_cut s0 (some (sj_i q.1), (g, q.2)) 74 [some (sj_r (some a0)), some (sj_r (some x1)), some (sj_i x2), some (sj_i x3), some (sj_i x4), some (sj_i x5), some (sj_i x6), some (sj_i x7), some (sj_i x8), none, none, none] [(sj_i y0)] (g, V) := by
  intro a0 x1 x2 x3 x4 x5 x6 x7 x8 y0 V ha0 hx1 h
  unfold g_X5_cut_74 at h
  refine r_istore (ln := [some (sj_r (some a0)), some (sj_r (some x1)), some (sj_i x2), some (sj_i x3), some (sj_i x4), some (sj_i x5), some (sj_i x6), some (sj_i x7), some (sj_i x8), none, none, some (sj_i y0)]) (pc := 74) dX5_cut_74 (Nat.le_of_ble_eq_true rfl) rfl ?_
  refine r_iload (pc := 76) dX5_cut_76 rfl ?_
  refine r_aload_n (pc := 78) dX5_cut_78 rfl rfl ?_
  refine r_gRs (b := x1 + 1) (pc := 79) dX5_cut_79 fw_X5_45 rfl (ok0 hx1) (ok0_3 hx1).1 ?_
  refine r_iload (pc := 82) dX5_cut_82 rfl ?_
  refine r_ialoads (pc := 84) h dX5_cut_84 (ok0_3 hx1).2 (fun h => ?_)
  refine r_icmp_ge (pc := 85) (tgt := 114) h dX5_cut_85 (by decide) (fun h => ?_) (fun h => ?_)
  · refine r_iload (pc := 114) dX5_cut_114 rfl ?_
    refine r_iconst (pc := 116) dX5_cut_116 ?_
    refine r_icmp_eq (pc := 117) (tgt := 123) h dX5_cut_117 (by decide) (fun h => ?_) (fun h => ?_)
    · exact sj_weak (l2 := [some (sj_r (some a0)), some (sj_r (some x1)), some (sj_i x2), some (sj_i x3), some (sj_i x4), some (sj_i x5), some (sj_i x6), some (sj_i x7), some (sj_i x8), none, none, none]) (⟨rfl, ⟨rfl, ⟨rfl, ⟨rfl, ⟨rfl, ⟨rfl, ⟨rfl, ⟨rfl, ⟨rfl, trivial⟩⟩⟩⟩⟩⟩⟩⟩⟩) (st_X5_cut_123 hk9 a0 x1 x2 x3 x4 x5 x6 x7 x8 V ha0 hx1 h)
    · refine r_goto (pc := 120) (tgt := 129) dX5_cut_120 (by decide) ?_
      exact sj_weak (l2 := [some (sj_r (some a0)), some (sj_r (some x1)), none, none, none, some (sj_i x5), some (sj_i x6), some (sj_i x7), none, none, none, none]) (⟨rfl, ⟨rfl, ⟨rfl, ⟨rfl, ⟨rfl, trivial⟩⟩⟩⟩⟩) (st_X5_cut_129 a0 x1 x5 x6 x7 V ha0 hx1 h)
  · refine r_aload_n (pc := 88) dX5_cut_88 rfl rfl ?_
    refine r_gRs (b := a0 + 1) (pc := 89) dX5_cut_89 fw_X5_9 rfl (ok5 ha0) (ok5_0 ha0).1 ?_
    refine r_iload (pc := 92) dX5_cut_92 rfl ?_
    refine r_iload (pc := 94) dX5_cut_94 rfl ?_
    refine r_iastores (pc := 96) h dX5_cut_96 (ok5_0 ha0).2 (fun V1 h => ?_)
    refine r_iload (pc := 97) dX5_cut_97 rfl ?_
    refine r_istore (ln := [some (sj_r (some a0)), some (sj_r (some x1)), some (sj_i x2), some (sj_i x3), some (sj_i x4), some (sj_i x5), some (sj_i x6), some (sj_i x8), some (sj_i x8), none, none, some (sj_i y0)]) (pc := 99) dX5_cut_99 (Nat.le_of_ble_eq_true rfl) rfl ?_
    refine r_iload (pc := 101) dX5_cut_101 rfl ?_
    refine r_iconst (pc := 103) dX5_cut_103 ?_
    refine r_icmp_ne (pc := 104) (tgt := 123) h dX5_cut_104 (by decide) (fun h => ?_) (fun h => ?_)
    · refine r_iload (pc := 107) dX5_cut_107 rfl ?_
      refine r_istore (ln := [some (sj_r (some a0)), some (sj_r (some x1)), some (sj_i x2), some (sj_i x3), some (sj_i x4), some (sj_i x5), some (sj_i x8), some (sj_i x8), some (sj_i x8), none, none, some (sj_i y0)]) (pc := 109) dX5_cut_109 (Nat.le_of_ble_eq_true rfl) rfl ?_
      refine r_goto (pc := 111) (tgt := 123) dX5_cut_111 (by decide) ?_
      exact sj_weak (l2 := [some (sj_r (some a0)), some (sj_r (some x1)), some (sj_i x2), some (sj_i x3), some (sj_i x4), some (sj_i x5), some (sj_i x8), some (sj_i x8), some (sj_i x8), none, none, none]) (⟨rfl, ⟨rfl, ⟨rfl, ⟨rfl, ⟨rfl, ⟨rfl, ⟨rfl, ⟨rfl, ⟨rfl, trivial⟩⟩⟩⟩⟩⟩⟩⟩⟩) (st_X5_cut_123 hk9 a0 x1 x2 x3 x4 x5 x8 x8 x8 V1 ha0 hx1 h)
    · exact sj_weak (l2 := [some (sj_r (some a0)), some (sj_r (some x1)), some (sj_i x2), some (sj_i x3), some (sj_i x4), some (sj_i x5), some (sj_i x6), some (sj_i x8), some (sj_i x8), none, none, none]) (⟨rfl, ⟨rfl, ⟨rfl, ⟨rfl, ⟨rfl, ⟨rfl, ⟨rfl, ⟨rfl, ⟨rfl, trivial⟩⟩⟩⟩⟩⟩⟩⟩⟩) (st_X5_cut_123 hk9 a0 x1 x2 x3 x4 x5 x6 x8 x8 V1 ha0 hx1 h)
set_option maxHeartbeats 4000000 in
theorem st_X5_cut_9_b {X : sj_X} {g : sj_G} {s0 : sj_Mem} {N : Nat} {q : Int × sj_VV} {k9 : Nat → Nat → Int → Int → Int → Int → Int → Int → Int → sj_VV → Option (Int × sj_VV)} (hk9 : ∀ (a0 : Nat) (x1 : Nat) (x2 : Int) (x3 : Int) (x4 : Int) (x5 : Int) (x6 : Int) (x7 : Int) (x8 : Int) (V : sj_VV), OK5 g a0 → OK0 g x1 → k9 a0 x1 x2 x3 x4 x5 x6 x7 x8 V = some q → sj_T X m_X5_cut s0 (some (sj_i q.1), (g, q.2)) 9 [some (sj_r (some a0)), some (sj_r (some x1)), some (sj_i x2), some (sj_i x3), some (sj_i x4), some (sj_i x5), some (sj_i x6), some (sj_i x7), some (sj_i x8), none, none, none] [] (g, V)) :
    ∀ (a0 : Nat) (x1 : Nat) (x2 : Int) (x3 : Int) (x4 : Int) (x5 : Int) (x6 : Int) (x7 : Int) (x8 : Int) (V : sj_VV), OK5 g a0 → OK0 g x1 → g_X5_cut_9_b N k9 a0 x1 x2 x3 x4 x5 x6 x7 x8 V = some q → sj_T X m_X5_cut s0 (some (sj_i q.1), (g, q.2)) 9 [some (sj_r (some a0)), some (sj_r (some x1)), some (sj_i x2), some (sj_i x3), some (sj_i x4), some (sj_i x5), some (sj_i x6), some (sj_i x7), some (sj_i x8), none, none, none] [] (g, V) := by
  intro a0 x1 x2 x3 x4 x5 x6 x7 x8 V ha0 hx1 h
  unfold g_X5_cut_9_b at h
  refine r_iload (pc := 9) dX5_cut_9 rfl ?_
  refine r_aload_n (pc := 11) dX5_cut_11 rfl rfl ?_
  refine r_gIs (pc := 12) dX5_cut_12 fw_X5_50 rfl (ok0 hx1) ?_
  refine r_icmp_gt (pc := 15) (tgt := 129) h dX5_cut_15 (by decide) (fun h => ?_) (fun h => ?_)
  · exact sj_weak (l2 := [some (sj_r (some a0)), some (sj_r (some x1)), none, none, none, some (sj_i x5), some (sj_i x6), some (sj_i x7), none, none, none, none]) (⟨rfl, ⟨rfl, ⟨rfl, ⟨rfl, ⟨rfl, trivial⟩⟩⟩⟩⟩) (st_X5_cut_129 a0 x1 x5 x6 x7 V ha0 hx1 h)
  · refine r_aload_n (pc := 18) dX5_cut_18 rfl rfl ?_
    refine r_gIs (pc := 19) dX5_cut_19 fw_X5_53 rfl (ok0 hx1) ?_
    refine r_iload (pc := 22) dX5_cut_22 rfl ?_
    refine r_imul (pc := 24) dX5_cut_24 ?_
    refine r_iload_n (pc := 25) dX5_cut_25 rfl rfl ?_
    refine r_isub (pc := 26) dX5_cut_26 ?_
    refine r_istoreL (ln := fun w => [some (sj_r (some a0)), some (sj_r (some x1)), some (sj_i x2), some (sj_i x3), some (sj_i x4), some (sj_i x5), some (sj_i x6), some (sj_i x7), some (sj_i x8), some (sj_i w), none, none]) (pc := 27) h dX5_cut_27 (Nat.le_of_ble_eq_true rfl) (fun _ => rfl) (fun v1 h => ?_)
    refine r_iload (pc := 29) dX5_cut_29 rfl ?_
    refine r_iload (pc := 31) dX5_cut_31 rfl ?_
    refine r_imul (pc := 33) dX5_cut_33 ?_
    refine r_iload (pc := 34) dX5_cut_34 rfl ?_
    refine r_iload (pc := 36) dX5_cut_36 rfl ?_
    refine r_imul (pc := 38) dX5_cut_38 ?_
    refine r_isub (pc := 39) dX5_cut_39 ?_
    refine r_istoreL (ln := fun w => [some (sj_r (some a0)), some (sj_r (some x1)), some (sj_i x2), some (sj_i x3), some (sj_i x4), some (sj_i x5), some (sj_i x6), some (sj_i x7), some (sj_i x8), some (sj_i v1), some (sj_i w), none]) (pc := 40) h dX5_cut_40 (Nat.le_of_ble_eq_true rfl) (fun _ => rfl) (fun v2 h => ?_)
    refine r_iload (pc := 42) dX5_cut_42 rfl ?_
    refine r_if_ge (pc := 44) (tgt := 57) h dX5_cut_44 (by decide) (fun h => ?_) (fun h => ?_)
    · refine r_iload_n (pc := 57) dX5_cut_57 rfl rfl ?_
      refine r_iload (pc := 58) dX5_cut_58 rfl ?_
      refine r_callSs (pc := 60) (fun v => some (sj_i v)) (As := [sj_i v2]) (rest := [(sj_i x3)]) h dX5_cut_60 mw_X5_56 kw_607 (fun _ _ hc => cg_X8_rootOf  hc) rfl ⟨(Nat.le_of_ble_eq_true rfl), (Nat.le_of_ble_eq_true rfl)⟩ (Nat.le_of_ble_eq_true rfl) rfl (fun v4 V3 h => ?_)
      refine r_isub (pc := 63) dX5_cut_63 ?_
      refine r_aload_n (pc := 64) dX5_cut_64 rfl rfl ?_
      refine r_gRs (b := x1 + 2) (pc := 65) dX5_cut_65 fw_X5_60 rfl (ok0 hx1) (ok0_4 hx1).1 ?_
      refine r_iload (pc := 68) dX5_cut_68 rfl ?_
      refine r_ialoads (pc := 70) h dX5_cut_70 (ok0_4 hx1).2 (fun h => ?_)
      refine r_mmax (pc := 71) h dX5_cut_71 mx_X5_36 (Nat.le_of_ble_eq_true rfl) (Nat.le_of_ble_eq_true rfl) (fun v5 h => ?_)
      exact sj_weak (l2 := [some (sj_r (some a0)), some (sj_r (some x1)), some (sj_i x2), some (sj_i x3), some (sj_i x4), some (sj_i x5), some (sj_i x6), some (sj_i x7), some (sj_i x8), none, none, none]) (⟨rfl, ⟨rfl, ⟨rfl, ⟨rfl, ⟨rfl, ⟨rfl, ⟨rfl, ⟨rfl, ⟨rfl, trivial⟩⟩⟩⟩⟩⟩⟩⟩⟩) (st_X5_cut_74 hk9 a0 x1 x2 x3 x4 x5 x6 x7 x8 v5 V3 ha0 hx1 h)
    · refine r_aload_n (pc := 47) dX5_cut_47 rfl rfl ?_
      refine r_gRs (b := x1 + 1) (pc := 48) dX5_cut_48 fw_X5_45 rfl (ok0 hx1) (ok0_3 hx1).1 ?_
      refine r_iload (pc := 51) dX5_cut_51 rfl ?_
      refine r_ialoads (pc := 53) h dX5_cut_53 (ok0_3 hx1).2 (fun h => ?_)
      refine r_goto (pc := 54) (tgt := 74) dX5_cut_54 (by decide) ?_
      exact sj_weak (l2 := [some (sj_r (some a0)), some (sj_r (some x1)), some (sj_i x2), some (sj_i x3), some (sj_i x4), some (sj_i x5), some (sj_i x6), some (sj_i x7), some (sj_i x8), none, none, none]) (⟨rfl, ⟨rfl, ⟨rfl, ⟨rfl, ⟨rfl, ⟨rfl, ⟨rfl, ⟨rfl, ⟨rfl, trivial⟩⟩⟩⟩⟩⟩⟩⟩⟩) (st_X5_cut_74 hk9 a0 x1 x2 x3 x4 x5 x6 x7 x8 (V (x1 + 1) x8.toNat) V ha0 hx1 h)
set_option maxHeartbeats 4000000 in
theorem st_X5_cut_9 {X : sj_X} {g : sj_G} {s0 : sj_Mem} {N : Nat} {q : Int × sj_VV} :
    ∀ (n : Nat) (a0 : Nat) (x1 : Nat) (x2 : Int) (x3 : Int) (x4 : Int) (x5 : Int) (x6 : Int) (x7 : Int) (x8 : Int) (V : sj_VV), OK5 g a0 → OK0 g x1 → g_X5_cut_9 N n a0 x1 x2 x3 x4 x5 x6 x7 x8 V = some q → sj_T X m_X5_cut s0 (some (sj_i q.1), (g, q.2)) 9 [some (sj_r (some a0)), some (sj_r (some x1)), some (sj_i x2), some (sj_i x3), some (sj_i x4), some (sj_i x5), some (sj_i x6), some (sj_i x7), some (sj_i x8), none, none, none] [] (g, V) := by
  intro n
  induction n with
  | zero => intro a0 x1 x2 x3 x4 x5 x6 x7 x8 V ha0 hx1 h; exact nomatch h
  | succ n ih => intro a0 x1 x2 x3 x4 x5 x6 x7 x8 V ha0 hx1 h; exact st_X5_cut_9_b (N := N) ih a0 x1 x2 x3 x4 x5 x6 x7 x8 V ha0 hx1 h
set_option maxHeartbeats 4000000 in
theorem st_X5_cut_0 {X : sj_X} {g : sj_G} {s0 : sj_Mem} {N : Nat} {q : Int × sj_VV} :
    ∀ (a0 : Nat) (x1 : Nat) (x2 : Int) (x3 : Int) (x4 : Int) (x5 : Int) (V : sj_VV), OK5 g a0 → OK0 g x1 → g_X5_cut N a0 x1 x2 x3 x4 x5 V = some q → sj_T X m_X5_cut s0 (some (sj_i q.1), (g, q.2)) 0 [some (sj_r (some a0)), some (sj_r (some x1)), some (sj_i x2), some (sj_i x3), some (sj_i x4), some (sj_i x5), none, none, none, none, none, none] [] (g, V) := by
  intro a0 x1 x2 x3 x4 x5 V ha0 hx1 h
  unfold g_X5_cut at h
  refine r_iconst (pc := 0) dX5_cut_0 ?_
  refine r_istore (ln := [some (sj_r (some a0)), some (sj_r (some x1)), some (sj_i x2), some (sj_i x3), some (sj_i x4), some (sj_i x5), some (sj_i ((-1))), none, none, none, none, none]) (pc := 1) dX5_cut_1 (Nat.le_of_ble_eq_true rfl) rfl ?_
  refine r_iconst (pc := 3) dX5_cut_3 ?_
  refine r_istore (ln := [some (sj_r (some a0)), some (sj_r (some x1)), some (sj_i x2), some (sj_i x3), some (sj_i x4), some (sj_i x5), some (sj_i ((-1))), some (sj_i ((-1))), none, none, none, none]) (pc := 4) dX5_cut_4 (Nat.le_of_ble_eq_true rfl) rfl ?_
  refine r_iconst (pc := 6) dX5_cut_6 ?_
  refine r_istore (ln := [some (sj_r (some a0)), some (sj_r (some x1)), some (sj_i x2), some (sj_i x3), some (sj_i x4), some (sj_i x5), some (sj_i ((-1))), some (sj_i ((-1))), some (sj_i 0), none, none, none]) (pc := 7) dX5_cut_7 (Nat.le_of_ble_eq_true rfl) rfl ?_
  exact sj_weak (l2 := [some (sj_r (some a0)), some (sj_r (some x1)), some (sj_i x2), some (sj_i x3), some (sj_i x4), some (sj_i x5), some (sj_i ((-1))), some (sj_i ((-1))), some (sj_i 0), none, none, none]) (⟨rfl, ⟨rfl, ⟨rfl, ⟨rfl, ⟨rfl, ⟨rfl, ⟨rfl, ⟨rfl, ⟨rfl, trivial⟩⟩⟩⟩⟩⟩⟩⟩⟩) (st_X5_cut_9 N a0 x1 x2 x3 x4 x5 ((-1)) ((-1)) 0 V ha0 hx1 h)
set_option maxHeartbeats 4000000 in
theorem cg_X5_cut {X : sj_X} {g : sj_G} {N : Nat} {a0 : Nat} {x1 : Nat} {x2 : Int} {x3 : Int} {x4 : Int} {x5 : Int} {V : sj_VV} {q : Int × sj_VV} (ha0 : OK5 g a0) (hx1 : OK0 g x1) (h : g_X5_cut N a0 x1 x2 x3 x4 x5 V = some q) : sj_C X m_X5_cut [sj_r (some a0), sj_r (some x1), sj_i x2, sj_i x3, sj_i x4, sj_i x5] (g, V) (some (sj_i q.1), (g, q.2)) :=
  sj_C_of (by decide +kernel) (Nat.le_of_ble_eq_true rfl) (lo := [some (sj_r (some a0)), some (sj_r (some x1)), some (sj_i x2), some (sj_i x3), some (sj_i x4), some (sj_i x5), none, none, none, none, none, none]) rfl (sj_weak (l2 := [some (sj_r (some a0)), some (sj_r (some x1)), some (sj_i x2), some (sj_i x3), some (sj_i x4), some (sj_i x5), none, none, none, none, none, none]) (⟨rfl, ⟨rfl, ⟨rfl, ⟨rfl, ⟨rfl, ⟨rfl, trivial⟩⟩⟩⟩⟩⟩) (st_X5_cut_0 a0 x1 x2 x3 x4 x5 V ha0 hx1 h))
set_option maxHeartbeats 4000000 in
theorem c_X5_cut {X : sj_X} {N : Nat} {a0 : Nat} {x1 : Option Nat} {x2 : Int} {x3 : Int} {x4 : Int} {x5 : Int} {s : sj_Mem} {q : Int × sj_Mem} (h : f_X5_cut N a0 x1 x2 x3 x4 x5 s = some q) : sj_C X m_X5_cut [sj_r (some a0), sj_r x1, sj_i x2, sj_i x3, sj_i x4, sj_i x5] s (some (sj_i q.1), q.2) := by
  obtain ⟨g, V⟩ := s
  unfold f_X5_cut at h
  obtain ⟨ho, h1⟩ := e_ok_some h
  obtain ⟨q2, h2, rfl⟩ := sj_map_some h1
  obtain ⟨z1, hz1⟩ : ∃ z, x1 = some z := ⟨_, ho.2.1⟩
  subst hz1
  exact cg_X5_cut ho.1 ho.2.2 h2
theorem dX5_count_0 : decode cX5_count 0 = .ok (.aload_n 0, 1) := by decide +kernel
theorem dX5_count_1 : decode cX5_count 1 = .ok (.getfield 19, 3) := by decide +kernel
theorem dX5_count_4 : decode cX5_count 4 = .ok (.aload_n 0, 1) := by decide +kernel
theorem dX5_count_5 : decode cX5_count 5 = .ok (.getfield 15, 3) := by decide +kernel
theorem dX5_count_8 : decode cX5_count 8 = .ok (.isub, 1) := by decide +kernel
theorem dX5_count_9 : decode cX5_count 9 = .ok (.ireturn, 1) := by decide +kernel
set_option maxHeartbeats 4000000 in
theorem st_X5_count_0 {X : sj_X} {g : sj_G} {s0 : sj_Mem} {N : Nat} {q : Int × sj_VV} :
    ∀ (a0 : Nat) (V : sj_VV), OK5 g a0 → g_X5_count N a0 V = some q → sj_T X m_X5_count s0 (some (sj_i q.1), (g, q.2)) 0 [some (sj_r (some a0))] [] (g, V) := by
  intro a0 V ha0 h
  unfold g_X5_count at h
  refine r_aload_n (pc := 0) dX5_count_0 rfl rfl ?_
  refine r_gIs (pc := 1) dX5_count_1 fw_X5_19 rfl (ok5 ha0) ?_
  refine r_aload_n (pc := 4) dX5_count_4 rfl rfl ?_
  refine r_gIs (pc := 5) dX5_count_5 fw_X5_15 rfl (ok5 ha0) ?_
  refine r_isub (pc := 8) dX5_count_8 ?_
  exact r_irets (pc := 9) h rfl dX5_count_9
set_option maxHeartbeats 4000000 in
theorem cg_X5_count {X : sj_X} {g : sj_G} {N : Nat} {a0 : Nat} {V : sj_VV} {q : Int × sj_VV} (ha0 : OK5 g a0) (h : g_X5_count N a0 V = some q) : sj_C X m_X5_count [sj_r (some a0)] (g, V) (some (sj_i q.1), (g, q.2)) :=
  sj_C_of (by decide +kernel) (Nat.le_of_ble_eq_true rfl) (lo := [some (sj_r (some a0))]) rfl (sj_weak (l2 := [some (sj_r (some a0))]) (⟨rfl, trivial⟩) (st_X5_count_0 a0 V ha0 h))
set_option maxHeartbeats 4000000 in
theorem c_X5_count {X : sj_X} {N : Nat} {a0 : Nat} {s : sj_Mem} {q : Int × sj_Mem} (h : f_X5_count N a0 s = some q) : sj_C X m_X5_count [sj_r (some a0)] s (some (sj_i q.1), q.2) := by
  obtain ⟨g, V⟩ := s
  unfold f_X5_count at h
  obtain ⟨ho, h1⟩ := e_ok_some h
  obtain ⟨q2, h2, rfl⟩ := sj_map_some h1
  exact cg_X5_count ho h2
