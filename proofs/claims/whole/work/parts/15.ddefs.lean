
noncomputable def f_X5_init (N : Nat) (a0 : Nat) (s : sj_Mem) : Option (Unit × sj_Mem) :=
  e_nA 100 41 s fun a1 s2 =>
  e_pR 5 0 a0 (some a1) s2 fun s3 =>
  e_pI 5 1 a0 ((-1)) s3 fun s4 =>
  e_pI 5 2 a0 ((-1)) s4 fun s5 =>
  some ((), s5)
noncomputable def f_X0_init (N : Nat) (a0 : Nat) (s : sj_Mem) : Option (Unit × sj_Mem) :=
  e_nA 100 41 s fun a1 s2 =>
  e_pR 0 3 a0 (some a1) s2 fun s3 =>
  e_nA 100 41 s3 fun a4 s5 =>
  e_pR 0 4 a0 (some a4) s5 fun s6 =>
  e_nA 100 41 s6 fun a7 s8 =>
  e_pR 0 5 a0 (some a7) s8 fun s9 =>
  e_nA 100 41 s9 fun a10 s11 =>
  e_pR 0 6 a0 (some a10) s11 fun s12 =>
  e_nA 100 123 s12 fun a13 s14 =>
  e_pR 0 7 a0 (some a13) s14 fun s15 =>
  e_nA 100 4 s15 fun a16 s17 =>
  e_pR 0 8 a0 (some a16) s17 fun s18 =>
  e_nA 100 4 s18 fun a19 s20 =>
  e_pR 0 9 a0 (some a19) s20 fun s21 =>
  e_nA 100 4 s21 fun a22 s23 =>
  e_pR 0 10 a0 (some a22) s23 fun s24 =>
  e_nA 100 6 s24 fun a25 s26 =>
  e_pR 0 11 a0 (some a25) s26 fun s27 =>
  e_nA 100 6 s27 fun a28 s29 =>
  e_pR 0 12 a0 (some a28) s29 fun s30 =>
  e_nA 100 6 s30 fun a31 s32 =>
  e_pR 0 13 a0 (some a31) s32 fun s33 =>
  e_nO 5 4 s33 fun a34 s35 =>
  e_cl (f_X5_init N a34 s35) fun _u s36 =>
  e_pR 0 14 a0 (some a34) s36 fun s37 =>
  some ((), s37)
noncomputable def f_J7_fill_53178_5_b (N : Nat) (k5 : Option Nat → Int → Int → Int → sj_Mem → Option (Unit × sj_Mem)) (x0 : Option Nat) (x1 : Int) (x2 : Int) (x3 : Int) (s : sj_Mem) : Option (Unit × sj_Mem) :=
  e_ile x3 x2 (
    some ((), s)) (
    e_nn x0 fun a1 =>
    e_uI 100 a1 x2 x1 s fun s2 =>
    e_lt (x2 + 1) fun v3 =>
    k5 (some a1) x1 v3 x3 s2)
noncomputable def f_J7_fill_53178_5 (N : Nat) : Nat → Option Nat → Int → Int → Int → sj_Mem → Option (Unit × sj_Mem)
  | 0 => fun _ _ _ _ _ => none
  | n + 1 => fun x0 x1 x2 x3 s => f_J7_fill_53178_5_b N (f_J7_fill_53178_5 N n) x0 x1 x2 x3 s
noncomputable def f_J7_fill_53178 (N : Nat) (x0 : Option Nat) (x1 : Int) (s : sj_Mem) : Option (Unit × sj_Mem) :=
  e_nn x0 fun a1 =>
  e_al a1 s fun v2 =>
  f_J7_fill_53178_5 N N (some a1) x1 0 v2 s
noncomputable def f_X5_drop (N : Nat) (a0 : Nat) (s : sj_Mem) : Option (Unit × sj_Mem) :=
  e_pI 5 1 a0 ((-1)) s fun s1 =>
  e_pI 5 2 a0 ((-1)) s1 fun s2 =>
  some ((), s2)
noncomputable def f_X0_begin (N : Nat) (a0 : Nat) (x1 : Int) (x2 : Int) (s : sj_Mem) : Option (Unit × sj_Mem) :=
  e_pI 0 0 a0 x1 s fun s1 =>
  e_pI 0 1 a0 x2 s1 fun s2 =>
  e_pI 0 2 a0 0 s2 fun s3 =>
  e_gR 0 3 a0 s3 fun r4 =>
  e_cl (f_J7_fill_53178 N r4 20 s3) fun _u s5 =>
  e_gR 0 4 a0 s5 fun r6 =>
  e_cl (f_J7_fill_53178 N r6 0 s5) fun _u s7 =>
  e_gR 0 5 a0 s7 fun r8 =>
  e_cl (f_J7_fill_53178 N r8 0 s7) fun _u s9 =>
  e_gR 0 6 a0 s9 fun r10 =>
  e_cl (f_J7_fill_53178 N r10 0 s9) fun _u s11 =>
  e_gR 0 7 a0 s11 fun r12 =>
  e_cl (f_J7_fill_53178 N r12 0 s11) fun _u s13 =>
  e_gR 0 8 a0 s13 fun r14 =>
  e_cl (f_J7_fill_53178 N r14 20 s13) fun _u s15 =>
  e_gR 0 9 a0 s15 fun r16 =>
  e_cl (f_J7_fill_53178 N r16 10 s15) fun _u s17 =>
  e_gR 0 10 a0 s17 fun r18 =>
  e_cl (f_J7_fill_53178 N r18 300 s17) fun _u s19 =>
  e_gR 0 13 a0 s19 fun r20 =>
  e_cl (f_J7_fill_53178 N r20 0 s19) fun _u s21 =>
  e_gR 0 14 a0 s21 fun r22 =>
  e_nn r22 fun a23 =>
  e_cv 5 a23 s21 (f_X5_drop N a23 s21) fun _u s24 =>
  some ((), s24)
noncomputable def f_X1_init (N : Nat) (a0 : Nat) (s : sj_Mem) : Option (Unit × sj_Mem) :=
  e_nA 100 12 s fun a1 s2 =>
  e_pR 1 0 a0 (some a1) s2 fun s3 =>
  e_nA 100 12 s3 fun a4 s5 =>
  e_pR 1 1 a0 (some a4) s5 fun s6 =>
  some ((), s6)
noncomputable def f_X2_init (N : Nat) (a0 : Nat) (s : sj_Mem) : Option (Unit × sj_Mem) :=
  e_nA 100 16 s fun a1 s2 =>
  e_pR 2 0 a0 (some a1) s2 fun s3 =>
  some ((), s3)
noncomputable def f_X4_init (N : Nat) (a0 : Nat) (s : sj_Mem) : Option (Unit × sj_Mem) :=
  e_nA 100 41 s fun a1 s2 =>
  e_pR 4 0 a0 (some a1) s2 fun s3 =>
  e_nA 100 41 s3 fun a4 s5 =>
  e_pR 4 1 a0 (some a4) s5 fun s6 =>
  e_nA 100 41 s6 fun a7 s8 =>
  e_pR 4 2 a0 (some a7) s8 fun s9 =>
  e_nA 100 41 s9 fun a10 s11 =>
  e_pR 4 3 a0 (some a10) s11 fun s12 =>
  e_nA 101 41 s12 fun a13 s14 =>
  e_pR 4 4 a0 (some a13) s14 fun s15 =>
  e_nA 101 41 s15 fun a16 s17 =>
  e_pR 4 5 a0 (some a16) s17 fun s18 =>
  e_nA 101 41 s18 fun a19 s20 =>
  e_pR 4 6 a0 (some a19) s20 fun s21 =>
  e_nA 101 41 s21 fun a22 s23 =>
  e_pR 4 7 a0 (some a22) s23 fun s24 =>
  some ((), s24)
noncomputable def f_X3_init (N : Nat) (a0 : Nat) (s : sj_Mem) : Option (Unit × sj_Mem) :=
  e_nO 5 4 s fun a1 s2 =>
  e_cl (f_X5_init N a1 s2) fun _u s3 =>
  e_pR 3 0 a0 (some a1) s3 fun s4 =>
  e_nO 4 11 s4 fun a5 s6 =>
  e_cl (f_X4_init N a5 s6) fun _u s7 =>
  e_pR 3 1 a0 (some a5) s7 fun s8 =>
  some ((), s8)
noncomputable def f_X6_init (N : Nat) (a0 : Nat) (s : sj_Mem) : Option (Unit × sj_Mem) :=
  e_nA 101 4141 s fun a1 s2 =>
  e_pR 6 0 a0 (some a1) s2 fun s3 =>
  e_nA 100 4141 s3 fun a4 s5 =>
  e_pR 6 1 a0 (some a4) s5 fun s6 =>
  e_nA 100 4141 s6 fun a7 s8 =>
  e_pR 6 2 a0 (some a7) s8 fun s9 =>
  e_nA 100 4 s9 fun a10 s11 =>
  e_pR 6 3 a0 (some a10) s11 fun s12 =>
  e_nO 5 4 s12 fun a13 s14 =>
  e_cl (f_X5_init N a13 s14) fun _u s15 =>
  e_pR 6 4 a0 (some a13) s15 fun s16 =>
  some ((), s16)
noncomputable def f_X6_judge_105 (N : Nat) (k39 : Nat → Int → Int → sj_Mem → Option (Unit × sj_Mem)) (a0 : Nat) (x4 : Int) (x5 : Int) (s : sj_Mem) : Option (Unit × sj_Mem) :=
  e_lt (x5 + 1) fun v1 =>
  k39 a0 x4 v1 s
noncomputable def f_X6_judge_92 (N : Nat) (k39 : Nat → Int → Int → sj_Mem → Option (Unit × sj_Mem)) (a0 : Nat) (x4 : Int) (x5 : Int) (x6 : Int) (s : sj_Mem) : Option (Unit × sj_Mem) :=
  e_pI 6 9 a0 x6 s fun s1 =>
  f_X6_judge_105 N k39 a0 x4 x5 s1
noncomputable def f_X6_judge_111 (N : Nat) (a0 : Nat) (s : sj_Mem) : Option (Unit × sj_Mem) :=
  e_gI 6 9 a0 s fun v1 =>
  e_ile 20000 v1 (
    some ((), s)) (
    e_gI 6 9 a0 s fun v2 =>
    e_cv 6 a0 s (f_X6_sweep N a0 (v2 + 1) 0 s) fun _u s3 =>
    e_cv 6 a0 s3 (f_X6_goBack N a0 s3) fun _u s4 =>
    some ((), s4))
noncomputable def f_X6_judge_39_b (N : Nat) (k39 : Nat → Int → Int → sj_Mem → Option (Unit × sj_Mem)) (a0 : Nat) (x4 : Int) (x5 : Int) (s : sj_Mem) : Option (Unit × sj_Mem) :=
  e_ile 15 x5 (
    f_X6_judge_111 N a0 s) (
    e_gI 6 9 a0 s fun v1 =>
    e_ile (x4 - v1) 1 (
      f_X6_judge_111 N a0 s) (
      e_gI 6 9 a0 s fun v2 =>
      e_dI (v2 + x4) 2 fun v3 =>
      e_cv 6 a0 s (f_X6_sweep N a0 v3 1 s) fun _u s4 =>
      e_gI 6 11 a0 s4 fun v5 =>
      e_ieq v5 ((-1)) (
        f_X6_judge_92 N k39 a0 x4 x5 v3 s4) (
        e_gI 6 10 a0 s4 fun v6 =>
        e_llt v6 0 (
          f_X6_judge_105 N k39 a0 v3 x5 s4) (
          f_X6_judge_92 N k39 a0 x4 x5 v3 s4))))
noncomputable def f_X6_judge_39 (N : Nat) : Nat → Nat → Int → Int → sj_Mem → Option (Unit × sj_Mem)
  | 0 => fun _ _ _ _ => none
  | n + 1 => fun a0 x4 x5 s => f_X6_judge_39_b N (f_X6_judge_39 N n) a0 x4 x5 s
noncomputable def f_X6_judge (N : Nat) (a0 : Nat) (x1 : Option Nat) (x2 : Int) (x3 : Int) (s : sj_Mem) : Option (Unit × sj_Mem) :=
  e_pR 6 5 a0 x1 s fun s1 =>
  e_pI 6 6 a0 x2 s1 fun s2 =>
  e_pZ 6 7 a0 x3 s2 fun s3 =>
  e_gR 6 4 a0 s3 fun r4 =>
  e_nn r4 fun a5 =>
  e_cv 5 a5 s3 (f_X5_drop N a5 s3) fun _u s6 =>
  e_cv 6 a0 s6 (f_X6_weighAll N a0 s6) fun _u s7 =>
  e_pI 6 9 a0 0 s7 fun s8 =>
  f_X6_judge_39 N N a0 20001 0 s8
noncomputable def f_X7_init (N : Nat) (a0 : Nat) (s : sj_Mem) : Option (Unit × sj_Mem) :=
  e_nA 100 600 s fun a1 s2 =>
  e_pR 7 0 a0 (some a1) s2 fun s3 =>
  e_pI 7 4 a0 ((-1)) s3 fun s4 =>
  some ((), s4)
noncomputable def f_X8_init_135_b (N : Nat) (k135 : Nat → Int → sj_Mem → Option (Unit × sj_Mem)) (a0 : Nat) (x1 : Int) (s : sj_Mem) : Option (Unit × sj_Mem) :=
  e_ile 8 x1 (
    some ((), s)) (
    e_gR 8 6 a0 s fun r1 =>
    e_nO 0 15 s fun a2 s3 =>
    e_cl (f_X0_init N a2 s3) fun _u s4 =>
    e_nn r1 fun a5 =>
    e_uR a5 x1 a2 s4 fun s6 =>
    e_lt (x1 + 1) fun v7 =>
    k135 a0 v7 s6)
noncomputable def f_X8_init_135 (N : Nat) : Nat → Nat → Int → sj_Mem → Option (Unit × sj_Mem)
  | 0 => fun _ _ _ => none
  | n + 1 => fun a0 x1 s => f_X8_init_135_b N (f_X8_init_135 N n) a0 x1 s
noncomputable def f_X8_init (N : Nat) (a0 : Nat) (s : sj_Mem) : Option (Unit × sj_Mem) :=
  e_nO 0 15 s fun a1 s2 =>
  e_cl (f_X0_init N a1 s2) fun _u s3 =>
  e_pR 8 0 a0 (some a1) s3 fun s4 =>
  e_nO 0 15 s4 fun a5 s6 =>
  e_cl (f_X0_init N a5 s6) fun _u s7 =>
  e_pR 8 1 a0 (some a5) s7 fun s8 =>
  e_nO 0 15 s8 fun a9 s10 =>
  e_cl (f_X0_init N a9 s10) fun _u s11 =>
  e_pR 8 2 a0 (some a9) s11 fun s12 =>
  e_nO 1 4 s12 fun a13 s14 =>
  e_cl (f_X1_init N a13 s14) fun _u s15 =>
  e_pR 8 3 a0 (some a13) s15 fun s16 =>
  e_nO 1 4 s16 fun a17 s18 =>
  e_cl (f_X1_init N a17 s18) fun _u s19 =>
  e_pR 8 4 a0 (some a17) s19 fun s20 =>
  e_nO 2 2 s20 fun a21 s22 =>
  e_cl (f_X2_init N a21 s22) fun _u s23 =>
  e_pR 8 5 a0 (some a21) s23 fun s24 =>
  e_nA 104 8 s24 fun a25 s26 =>
  e_pR 8 6 a0 (some a25) s26 fun s27 =>
  e_nO 7 8 s27 fun a28 s29 =>
  e_cl (f_X7_init N a28 s29) fun _u s30 =>
  e_pR 8 7 a0 (some a28) s30 fun s31 =>
  e_nO 4 11 s31 fun a32 s33 =>
  e_cl (f_X4_init N a32 s33) fun _u s34 =>
  e_pR 8 8 a0 (some a32) s34 fun s35 =>
  e_nO 3 7 s35 fun a36 s37 =>
  e_cl (f_X3_init N a36 s37) fun _u s38 =>
  e_pR 8 9 a0 (some a36) s38 fun s39 =>
  e_nO 5 4 s39 fun a40 s41 =>
  e_cl (f_X5_init N a40 s41) fun _u s42 =>
  e_pR 8 10 a0 (some a40) s42 fun s43 =>
  e_gR 8 0 a0 s43 fun r44 =>
  e_nn r44 fun a45 =>
  e_cv 0 a45 s43 (f_X0_begin N a45 20 4 s43) fun _u s46 =>
  f_X8_init_135 N N a0 0 s46
noncomputable def f_X8_tableOf_18 (N : Nat) (a0 : Nat) (x1 : Int) (x2 : Int) (s : sj_Mem) : Option (Option Nat × sj_Mem) :=
  e_gR 8 11 a0 s fun r1 =>
  e_gR 8 0 a0 s fun r2 =>
  e_nn r1 fun a3 =>
  e_cv 6 a3 s (f_X6_judge N a3 r2 x1 x2 s) fun _u s4 =>
  e_gR 8 11 a0 s4 fun r5 =>
  some (r5, s4)
noncomputable def f_X8_tableOf (N : Nat) (a0 : Nat) (x1 : Int) (x2 : Int) (s : sj_Mem) : Option (Option Nat × sj_Mem) :=
  e_gR 8 11 a0 s fun r1 =>
  e_nul r1 (
    e_nO 6 14 s fun a2 s3 =>
    e_cl (f_X6_init N a2 s3) fun _u s4 =>
    e_pR 8 11 a0 (some a2) s4 fun s5 =>
    f_X8_tableOf_18 N a0 x1 x2 s5) (
    f_X8_tableOf_18 N a0 x1 x2 s)
noncomputable def f_X8_worst (N : Nat) (a0 : Nat) (x1 : Int) (x2 : Int) (s : sj_Mem) : Option (Int × sj_Mem) :=
  e_ilt x1 1 (
    some ((-1), s)) (
    e_ile x1 12 (
      e_cv 8 a0 s (f_X8_tableOf N a0 x1 x2 s) fun r2 s1 =>
      e_nn r2 fun a3 =>
      e_gR 6 4 a3 s1 fun r4 =>
      e_nn r4 fun a5 =>
      e_cv 5 a5 s1 (f_X5_isNone N a5 s1) fun v7 s6 =>
      e_ieq v7 0 (
        e_gR 8 0 a0 s6 fun r8 =>
        e_nn r8 fun a9 =>
        e_gR 0 14 a9 s6 fun r10 =>
        e_gR 6 4 a3 s6 fun r11 =>
        e_nn r10 fun a12 =>
        e_cv 5 a12 s6 (f_X5_copy N a12 r11 s6) fun _u s13 =>
        e_gR 8 0 a0 s13 fun r14 =>
        e_nn r14 fun a15 =>
        e_gR 0 14 a15 s13 fun r16 =>
        e_nn r16 fun a17 =>
        e_cv 5 a17 s13 (f_X5_count N a17 s13) fun v19 s18 =>
        some (v19, s18)) (
        some ((-1), s6))) (
      some ((-1), s)))
noncomputable def f_X8_tables_34 (N : Nat) (a0 : Nat) (x1 : Int) (x2 : Int) (x3 : Int) (s : sj_Mem) : Option (Int × sj_Mem) :=
  e_cv 8 a0 s (f_X8_tableOf N a0 x1 x2 s) fun r2 s1 =>
  e_ieq x3 0 (
    e_nn r2 fun a16 =>
    e_gI 6 9 a16 s1 fun v17 =>
    some (v17, s1)) (
    e_ieq x3 1 (
      e_nn r2 fun a12 =>
      e_gR 6 4 a12 s1 fun r13 =>
      e_nn r13 fun a14 =>
      e_gI 5 1 a14 s1 fun v15 =>
      some (v15, s1)) (
      e_ieq x3 2 (
        e_nn r2 fun a8 =>
        e_gR 6 4 a8 s1 fun r9 =>
        e_nn r9 fun a10 =>
        e_gI 5 2 a10 s1 fun v11 =>
        some (v11, s1)) (
        e_nn r2 fun a3 =>
        e_gR 6 4 a3 s1 fun r4 =>
        e_nn r4 fun a5 =>
        e_cv 5 a5 s1 (f_X5_baseAt N a5 (x3 - 10) s1) fun v7 s6 =>
        some (v7, s6))))
noncomputable def f_X8_tables (N : Nat) (a0 : Nat) (x1 : Int) (x2 : Int) (x3 : Int) (s : sj_Mem) : Option (Int × sj_Mem) :=
  e_ilt x1 1 (
    some ((-1), s)) (
    e_ilt 12 x1 (
      some ((-1), s)) (
      e_ilt x3 0 (
        some ((-1), s)) (
        e_ilt 50 x3 (
          some ((-1), s)) (
          e_ile x3 2 (
            f_X8_tables_34 N a0 x1 x2 x3 s) (
            e_ile 10 x3 (
              f_X8_tables_34 N a0 x1 x2 x3 s) (
              some ((-1), s)))))))
noncomputable def f_X9_begins_62_b (N : Nat) (k62 : Nat → Int → sj_Mem → Option (Unit × sj_Mem)) (a0 : Nat) (x3 : Int) (s : sj_Mem) : Option (Unit × sj_Mem) :=
  e_ile 4 x3 (
    e_gR 9 0 a0 s fun r1 =>
    e_nn r1 fun a2 =>
    e_uI 100 a2 320 ((-1)) s fun s3 =>
    some ((), s3)) (
    e_gR 9 0 a0 s fun r4 =>
    e_nn r4 fun a5 =>
    e_uI 100 a5 (290 + (3 * x3)) 20 s fun s6 =>
    e_gR 9 0 a0 s6 fun r7 =>
    e_nn r7 fun a8 =>
    e_uI 100 a8 ((290 + (3 * x3)) + 1) 10 s6 fun s9 =>
    e_gR 9 0 a0 s9 fun r10 =>
    e_nn r10 fun a11 =>
    e_uI 100 a11 ((290 + (3 * x3)) + 2) 300 s9 fun s12 =>
    e_lt (x3 + 1) fun v13 =>
    k62 a0 v13 s12)
noncomputable def f_X9_begins_62 (N : Nat) : Nat → Nat → Int → sj_Mem → Option (Unit × sj_Mem)
  | 0 => fun _ _ _ => none
  | n + 1 => fun a0 x3 s => f_X9_begins_62_b N (f_X9_begins_62 N n) a0 x3 s
noncomputable def f_X9_begins_38_b (N : Nat) (k38 : Nat → Int → sj_Mem → Option (Unit × sj_Mem)) (a0 : Nat) (x3 : Int) (s : sj_Mem) : Option (Unit × sj_Mem) :=
  e_ile 41 x3 (
    f_X9_begins_62 N N a0 0 s) (
    e_gR 9 0 a0 s fun r1 =>
    e_nn r1 fun a2 =>
    e_uI 100 a2 (3 + x3) 20 s fun s3 =>
    e_lt (x3 + 1) fun v4 =>
    k38 a0 v4 s3)
noncomputable def f_X9_begins_38 (N : Nat) : Nat → Nat → Int → sj_Mem → Option (Unit × sj_Mem)
  | 0 => fun _ _ _ => none
  | n + 1 => fun a0 x3 s => f_X9_begins_38_b N (f_X9_begins_38 N n) a0 x3 s
noncomputable def f_X9_begins_2_b (N : Nat) (k2 : Nat → Int → Int → Int → sj_Mem → Option (Unit × sj_Mem)) (a0 : Nat) (x1 : Int) (x2 : Int) (x3 : Int) (s : sj_Mem) : Option (Unit × sj_Mem) :=
  e_ile 364 x3 (
    e_gR 9 0 a0 s fun r1 =>
    e_nn r1 fun a2 =>
    e_uI 100 a2 0 x1 s fun s3 =>
    e_gR 9 0 a0 s3 fun r4 =>
    e_nn r4 fun a5 =>
    e_uI 100 a5 1 x2 s3 fun s6 =>
    f_X9_begins_38 N N a0 0 s6) (
    e_gR 9 0 a0 s fun r7 =>
    e_nn r7 fun a8 =>
    e_uI 100 a8 x3 0 s fun s9 =>
    e_lt (x3 + 1) fun v10 =>
    k2 a0 x1 x2 v10 s9)
noncomputable def f_X9_begins_2 (N : Nat) : Nat → Nat → Int → Int → Int → sj_Mem → Option (Unit × sj_Mem)
  | 0 => fun _ _ _ _ _ => none
  | n + 1 => fun a0 x1 x2 x3 s => f_X9_begins_2_b N (f_X9_begins_2 N n) a0 x1 x2 x3 s
noncomputable def f_X9_begins (N : Nat) (a0 : Nat) (x1 : Int) (x2 : Int) (s : sj_Mem) : Option (Unit × sj_Mem) :=
  f_X9_begins_2 N N a0 x1 x2 0 s
noncomputable def f_X9_init (N : Nat) (a0 : Nat) (s : sj_Mem) : Option (Unit × sj_Mem) :=
  e_nA 100 390 s fun a1 s2 =>
  e_pR 9 0 a0 (some a1) s2 fun s3 =>
  e_nA 100 390 s3 fun a4 s5 =>
  e_pR 9 1 a0 (some a4) s5 fun s6 =>
  e_nA 100 390 s6 fun a7 s8 =>
  e_pR 9 2 a0 (some a7) s8 fun s9 =>
  e_nA 100 2912 s9 fun a10 s11 =>
  e_pR 9 3 a0 (some a10) s11 fun s12 =>
  e_pI 9 13 a0 ((-1)) s12 fun s13 =>
  e_nA 100 41 s13 fun a14 s15 =>
  e_pR 9 16 a0 (some a14) s15 fun s16 =>
  e_nA 101 4141 s16 fun a17 s18 =>
  e_pR 9 22 a0 (some a17) s18 fun s19 =>
  e_nA 100 4141 s19 fun a20 s21 =>
  e_pR 9 23 a0 (some a20) s21 fun s22 =>
  e_nA 101 41 s22 fun a23 s24 =>
  e_pR 9 24 a0 (some a23) s24 fun s25 =>
  e_nA 100 40 s25 fun a26 s27 =>
  e_pR 9 25 a0 (some a26) s27 fun s28 =>
  e_nA 103 600 s28 fun a29 s30 =>
  e_pR 9 27 a0 (some a29) s30 fun s31 =>
  e_pI 9 31 a0 ((-1)) s31 fun s32 =>
  e_nA 102 20 s32 fun a33 s34 =>
  e_pR 9 34 a0 (some a33) s34 fun s35 =>
  e_cv 9 a0 s35 (f_X9_begins N a0 20 4 s35) fun _u s36 =>
  some ((), s36)
noncomputable def f_L_law_1900 (N : Nat) (L : Nat) (xs : Nat → Int) (k18 : Option Nat → Option Nat → Int → sj_Mem → Option (Int × sj_Mem)) (x1 : Option Nat) (x2 : Option Nat) (x3 : Int) (s : sj_Mem) : Option (Int × sj_Mem) :=
  e_lt (x3 + 8) fun v1 =>
  k18 x1 x2 v1 s
noncomputable def f_L_law_645 (N : Nat) (L : Nat) (xs : Nat → Int) (k18 : Option Nat → Option Nat → Int → sj_Mem → Option (Int × sj_Mem)) (x1 : Option Nat) (x2 : Option Nat) (x3 : Int) (y0 : Int) (y1 : Int) (y2 : Int) (y3 : Int) (y4 : Option Nat) (y5 : Int) (s : sj_Mem) : Option (Int × sj_Mem) :=
  e_nn y4 fun a1 =>
  e_cv 9 a1 s (f_X9_circle N a1 y3 y2 y1 y0 s) fun v3 s2 =>
  e_ieq y5 v3 (
    f_L_law_1900 N L xs k18 x1 x2 x3 s2) (
    e_z 0 s2)
noncomputable def f_L_law_613 (N : Nat) (L : Nat) (xs : Nat → Int) (k18 : Option Nat → Option Nat → Int → sj_Mem → Option (Int × sj_Mem)) (x1 : Option Nat) (x2 : Option Nat) (x3 : Int) (y0 : Int) (y1 : Int) (y2 : Int) (y3 : Int) (y4 : Option Nat) (s : sj_Mem) : Option (Int × sj_Mem) :=
  e_nn y4 fun a1 =>
  e_cv 8 a1 s (f_X8_circle N a1 y3 y2 y1 y0 s) fun v3 s2 =>
  e_aS L xs (x3 + 1) fun v4 =>
  e_aS L xs (x3 + 2) fun v5 =>
  e_aS L xs (x3 + 3) fun v6 =>
  e_aS L xs (x3 + 4) fun v7 =>
  e_ieq v7 0 (
    f_L_law_645 N L xs k18 x1 x2 x3 0 v6 v5 v4 x2 v3 s2) (
    f_L_law_645 N L xs k18 x1 x2 x3 1 v6 v5 v4 x2 v3 s2)
noncomputable def f_L_law_717 (N : Nat) (L : Nat) (xs : Nat → Int) (k18 : Option Nat → Option Nat → Int → sj_Mem → Option (Int × sj_Mem)) (x1 : Option Nat) (x2 : Option Nat) (x3 : Int) (y0 : Int) (y1 : Option Nat) (y2 : Int) (s : sj_Mem) : Option (Int × sj_Mem) :=
  e_nn y1 fun a1 =>
  e_cv 9 a1 s (f_X9_points N a1 y0 s) fun v3 s2 =>
  e_ieq y2 v3 (
    f_L_law_1900 N L xs k18 x1 x2 x3 s2) (
    e_z 0 s2)
noncomputable def f_L_law_700 (N : Nat) (L : Nat) (xs : Nat → Int) (k18 : Option Nat → Option Nat → Int → sj_Mem → Option (Int × sj_Mem)) (x1 : Option Nat) (x2 : Option Nat) (x3 : Int) (y0 : Int) (y1 : Option Nat) (s : sj_Mem) : Option (Int × sj_Mem) :=
  e_nn y1 fun a1 =>
  e_cv 8 a1 s (f_X8_points N a1 y0 s) fun v3 s2 =>
  e_aS L xs (x3 + 1) fun v4 =>
  e_ieq v4 0 (
    f_L_law_717 N L xs k18 x1 x2 x3 0 x2 v3 s2) (
    f_L_law_717 N L xs k18 x1 x2 x3 1 x2 v3 s2)
noncomputable def f_L_law_766 (N : Nat) (L : Nat) (xs : Nat → Int) (k18 : Option Nat → Option Nat → Int → sj_Mem → Option (Int × sj_Mem)) (x1 : Option Nat) (x2 : Option Nat) (x3 : Int) (y0 : Int) (y1 : Int) (y2 : Option Nat) (y3 : Int) (s : sj_Mem) : Option (Int × sj_Mem) :=
  e_nn y2 fun a1 =>
  e_cv 9 a1 s (f_X9_worst N a1 y1 y0 s) fun v3 s2 =>
  e_ieq y3 v3 (
    f_L_law_1900 N L xs k18 x1 x2 x3 s2) (
    e_z 0 s2)
noncomputable def f_L_law_744 (N : Nat) (L : Nat) (xs : Nat → Int) (k18 : Option Nat → Option Nat → Int → sj_Mem → Option (Int × sj_Mem)) (x1 : Option Nat) (x2 : Option Nat) (x3 : Int) (y0 : Int) (y1 : Int) (y2 : Option Nat) (s : sj_Mem) : Option (Int × sj_Mem) :=
  e_nn y2 fun a1 =>
  e_cv 8 a1 s (f_X8_worst N a1 y1 y0 s) fun v3 s2 =>
  e_aS L xs (x3 + 1) fun v4 =>
  e_aS L xs (x3 + 2) fun v5 =>
  e_ieq v5 0 (
    f_L_law_766 N L xs k18 x1 x2 x3 0 v4 x2 v3 s2) (
    f_L_law_766 N L xs k18 x1 x2 x3 1 v4 x2 v3 s2)
noncomputable def f_L_law_1157 (N : Nat) (L : Nat) (xs : Nat → Int) (k18 : Option Nat → Option Nat → Int → sj_Mem → Option (Int × sj_Mem)) (x1 : Option Nat) (x2 : Option Nat) (x3 : Int) (y0 : Int) (y1 : Int) (y2 : Int) (y3 : Int) (y4 : Option Nat) (y5 : Int) (s : sj_Mem) : Option (Int × sj_Mem) :=
  e_nn y4 fun a1 =>
  e_cv 9 a1 s (f_X9_tried N a1 y3 y2 y1 y0 s) fun v3 s2 =>
  e_ieq y5 v3 (
    f_L_law_1900 N L xs k18 x1 x2 x3 s2) (
    e_z 0 s2)
noncomputable def f_L_law_1125 (N : Nat) (L : Nat) (xs : Nat → Int) (k18 : Option Nat → Option Nat → Int → sj_Mem → Option (Int × sj_Mem)) (x1 : Option Nat) (x2 : Option Nat) (x3 : Int) (y0 : Int) (y1 : Int) (y2 : Int) (y3 : Int) (y4 : Option Nat) (s : sj_Mem) : Option (Int × sj_Mem) :=
  e_nn y4 fun a1 =>
  e_cv 8 a1 s (f_X8_tried N a1 y3 y2 y1 y0 s) fun v3 s2 =>
  e_aS L xs (x3 + 1) fun v4 =>
  e_aS L xs (x3 + 2) fun v5 =>
  e_aS L xs (x3 + 3) fun v6 =>
  e_aS L xs (x3 + 4) fun v7 =>
  e_ieq v7 0 (
    f_L_law_1157 N L xs k18 x1 x2 x3 0 v6 v5 v4 x2 v3 s2) (
    f_L_law_1157 N L xs k18 x1 x2 x3 1 v6 v5 v4 x2 v3 s2)
noncomputable def f_L_law_1242 (N : Nat) (L : Nat) (xs : Nat → Int) (k18 : Option Nat → Option Nat → Int → sj_Mem → Option (Int × sj_Mem)) (x1 : Option Nat) (x2 : Option Nat) (x3 : Int) (y0 : Int) (y1 : Int) (y2 : Int) (y3 : Int) (y4 : Int) (y5 : Option Nat) (y6 : Int) (s : sj_Mem) : Option (Int × sj_Mem) :=
  e_aS L xs (x3 + 6) fun v1 =>
  e_nn y5 fun a2 =>
  e_cv 9 a2 s (f_X9_boxes N a2 y4 y3 y2 y1 y0 v1 s) fun v4 s3 =>
  e_ieq y6 v4 (
    f_L_law_1900 N L xs k18 x1 x2 x3 s3) (
    e_z 0 s3)
noncomputable def f_L_law_1199 (N : Nat) (L : Nat) (xs : Nat → Int) (k18 : Option Nat → Option Nat → Int → sj_Mem → Option (Int × sj_Mem)) (x1 : Option Nat) (x2 : Option Nat) (x3 : Int) (y0 : Int) (y1 : Int) (y2 : Int) (y3 : Int) (y4 : Int) (y5 : Option Nat) (s : sj_Mem) : Option (Int × sj_Mem) :=
  e_aS L xs (x3 + 6) fun v1 =>
  e_nn y5 fun a2 =>
  e_cv 8 a2 s (f_X8_boxes N a2 y4 y3 y2 y1 y0 v1 s) fun v4 s3 =>
  e_aS L xs (x3 + 1) fun v5 =>
  e_aS L xs (x3 + 2) fun v6 =>
  e_aS L xs (x3 + 3) fun v7 =>
  e_aS L xs (x3 + 4) fun v8 =>
  e_aS L xs (x3 + 5) fun v9 =>
  e_ieq v9 0 (
    f_L_law_1242 N L xs k18 x1 x2 x3 0 v8 v7 v6 v5 x2 v4 s3) (
    f_L_law_1242 N L xs k18 x1 x2 x3 1 v8 v7 v6 v5 x2 v4 s3)
noncomputable def f_L_law_1302 (N : Nat) (L : Nat) (xs : Nat → Int) (k18 : Option Nat → Option Nat → Int → sj_Mem → Option (Int × sj_Mem)) (x1 : Option Nat) (x2 : Option Nat) (x3 : Int) (y0 : Int) (y1 : Int) (y2 : Option Nat) (y3 : Int) (s : sj_Mem) : Option (Int × sj_Mem) :=
  e_aS L xs (x3 + 3) fun v1 =>
  e_nn y2 fun a2 =>
  e_cv 9 a2 s (f_X9_tables N a2 y1 y0 v1 s) fun v4 s3 =>
  e_ieq y3 v4 (
    f_L_law_1900 N L xs k18 x1 x2 x3 s3) (
    e_z 0 s3)
noncomputable def f_L_law_1275 (N : Nat) (L : Nat) (xs : Nat → Int) (k18 : Option Nat → Option Nat → Int → sj_Mem → Option (Int × sj_Mem)) (x1 : Option Nat) (x2 : Option Nat) (x3 : Int) (y0 : Int) (y1 : Int) (y2 : Option Nat) (s : sj_Mem) : Option (Int × sj_Mem) :=
  e_aS L xs (x3 + 3) fun v1 =>
  e_nn y2 fun a2 =>
  e_cv 8 a2 s (f_X8_tables N a2 y1 y0 v1 s) fun v4 s3 =>
  e_aS L xs (x3 + 1) fun v5 =>
  e_aS L xs (x3 + 2) fun v6 =>
  e_ieq v6 0 (
    f_L_law_1302 N L xs k18 x1 x2 x3 0 v5 x2 v4 s3) (
    f_L_law_1302 N L xs k18 x1 x2 x3 1 v5 x2 v4 s3)
noncomputable def f_L_law_1398 (N : Nat) (L : Nat) (xs : Nat → Int) (k18 : Option Nat → Option Nat → Int → sj_Mem → Option (Int × sj_Mem)) (x1 : Option Nat) (x2 : Option Nat) (x3 : Int) (y0 : Int) (y1 : Int) (y2 : Int) (y3 : Int) (y4 : Int) (y5 : Int) (y6 : Option Nat) (y7 : Int) (s : sj_Mem) : Option (Int × sj_Mem) :=
  e_nn y6 fun a1 =>
  e_cv 9 a1 s (f_X9_dug N a1 y5 y4 y3 y2 y1 y0 s) fun v3 s2 =>
  e_ieq y7 v3 (
    f_L_law_1900 N L xs k18 x1 x2 x3 s2) (
    e_z 0 s2)
noncomputable def f_L_law_1355 (N : Nat) (L : Nat) (xs : Nat → Int) (k18 : Option Nat → Option Nat → Int → sj_Mem → Option (Int × sj_Mem)) (x1 : Option Nat) (x2 : Option Nat) (x3 : Int) (y0 : Int) (y1 : Int) (y2 : Int) (y3 : Int) (y4 : Int) (y5 : Int) (y6 : Option Nat) (s : sj_Mem) : Option (Int × sj_Mem) :=
  e_nn y6 fun a1 =>
  e_cv 8 a1 s (f_X8_dug N a1 y5 y4 y3 y2 y1 y0 s) fun v3 s2 =>
  e_aS L xs (x3 + 1) fun v4 =>
  e_aS L xs (x3 + 2) fun v5 =>
  e_aS L xs (x3 + 3) fun v6 =>
  e_aS L xs (x3 + 4) fun v7 =>
  e_aS L xs (x3 + 5) fun v8 =>
  e_aS L xs (x3 + 6) fun v9 =>
  e_ieq v9 0 (
    f_L_law_1398 N L xs k18 x1 x2 x3 0 v8 v7 v6 v5 v4 x2 v3 s2) (
    f_L_law_1398 N L xs k18 x1 x2 x3 1 v8 v7 v6 v5 v4 x2 v3 s2)
noncomputable def f_L_law_1625 (N : Nat) (L : Nat) (xs : Nat → Int) (k18 : Option Nat → Option Nat → Int → sj_Mem → Option (Int × sj_Mem)) (x1 : Option Nat) (x2 : Option Nat) (x3 : Int) (y0 : Int) (y1 : Int) (y2 : Int) (y3 : Int) (y4 : Int) (y5 : Int) (y6 : Option Nat) (y7 : Int) (s : sj_Mem) : Option (Int × sj_Mem) :=
  e_nn y6 fun a1 =>
  e_cv 9 a1 s (f_X9_deep N a1 y5 y4 y3 y2 y1 y0 s) fun v3 s2 =>
  e_ieq y7 v3 (
    f_L_law_1900 N L xs k18 x1 x2 x3 s2) (
    e_z 0 s2)
noncomputable def f_L_law_1582 (N : Nat) (L : Nat) (xs : Nat → Int) (k18 : Option Nat → Option Nat → Int → sj_Mem → Option (Int × sj_Mem)) (x1 : Option Nat) (x2 : Option Nat) (x3 : Int) (y0 : Int) (y1 : Int) (y2 : Int) (y3 : Int) (y4 : Int) (y5 : Int) (y6 : Option Nat) (s : sj_Mem) : Option (Int × sj_Mem) :=
  e_nn y6 fun a1 =>
  e_cv 8 a1 s (f_X8_deep N a1 y5 y4 y3 y2 y1 y0 s) fun v3 s2 =>
  e_aS L xs (x3 + 1) fun v4 =>
  e_aS L xs (x3 + 2) fun v5 =>
  e_aS L xs (x3 + 3) fun v6 =>
  e_aS L xs (x3 + 4) fun v7 =>
  e_aS L xs (x3 + 5) fun v8 =>
  e_aS L xs (x3 + 6) fun v9 =>
  e_ieq v9 0 (
    f_L_law_1625 N L xs k18 x1 x2 x3 0 v8 v7 v6 v5 v4 x2 v3 s2) (
    f_L_law_1625 N L xs k18 x1 x2 x3 1 v8 v7 v6 v5 v4 x2 v3 s2)
noncomputable def f_L_law_1716 (N : Nat) (L : Nat) (xs : Nat → Int) (k18 : Option Nat → Option Nat → Int → sj_Mem → Option (Int × sj_Mem)) (x1 : Option Nat) (x2 : Option Nat) (x3 : Int) (y0 : Int) (y1 : Int) (y2 : Int) (y3 : Int) (y4 : Int) (y5 : Option Nat) (y6 : Int) (s : sj_Mem) : Option (Int × sj_Mem) :=
  e_aS L xs (x3 + 6) fun v1 =>
  e_aS L xs (x3 + 7) fun v2 =>
  e_nn y5 fun a3 =>
  e_cv 9 a3 s (f_X9_scan N a3 y4 y3 y2 y1 y0 v1 v2 s) fun v5 s4 =>
  e_ieq y6 v5 (
    f_L_law_1900 N L xs k18 x1 x2 x3 s4) (
    e_z 0 s4)
noncomputable def f_L_law_1667 (N : Nat) (L : Nat) (xs : Nat → Int) (k18 : Option Nat → Option Nat → Int → sj_Mem → Option (Int × sj_Mem)) (x1 : Option Nat) (x2 : Option Nat) (x3 : Int) (y0 : Int) (y1 : Int) (y2 : Int) (y3 : Int) (y4 : Int) (y5 : Option Nat) (s : sj_Mem) : Option (Int × sj_Mem) :=
  e_aS L xs (x3 + 6) fun v1 =>
  e_aS L xs (x3 + 7) fun v2 =>
  e_nn y5 fun a3 =>
  e_cv 8 a3 s (f_X8_scan N a3 y4 y3 y2 y1 y0 v1 v2 s) fun v5 s4 =>
  e_aS L xs (x3 + 1) fun v6 =>
  e_aS L xs (x3 + 2) fun v7 =>
  e_aS L xs (x3 + 3) fun v8 =>
  e_aS L xs (x3 + 4) fun v9 =>
  e_aS L xs (x3 + 5) fun v10 =>
  e_ieq v10 0 (
    f_L_law_1716 N L xs k18 x1 x2 x3 0 v9 v8 v7 v6 x2 v5 s4) (
    f_L_law_1716 N L xs k18 x1 x2 x3 1 v9 v8 v7 v6 x2 v5 s4)
noncomputable def f_L_law_1869 (N : Nat) (L : Nat) (xs : Nat → Int) (k18 : Option Nat → Option Nat → Int → sj_Mem → Option (Int × sj_Mem)) (x1 : Option Nat) (x2 : Option Nat) (x3 : Int) (y0 : Int) (y1 : Option Nat) (y2 : Int) (s : sj_Mem) : Option (Int × sj_Mem) :=
  e_nn y1 fun a1 =>
  e_cv 9 a1 s (f_X9_image N a1 y0 s) fun v3 s2 =>
  e_ieq y2 v3 (
    f_L_law_1900 N L xs k18 x1 x2 x3 s2) (
    e_z 0 s2)
noncomputable def f_L_law_1852 (N : Nat) (L : Nat) (xs : Nat → Int) (k18 : Option Nat → Option Nat → Int → sj_Mem → Option (Int × sj_Mem)) (x1 : Option Nat) (x2 : Option Nat) (x3 : Int) (y0 : Int) (y1 : Option Nat) (s : sj_Mem) : Option (Int × sj_Mem) :=
  e_nn y1 fun a1 =>
  e_cv 8 a1 s (f_X8_image N a1 y0 s) fun v3 s2 =>
  e_aS L xs (x3 + 1) fun v4 =>
  e_ieq v4 0 (
    f_L_law_1869 N L xs k18 x1 x2 x3 0 x2 v3 s2) (
    f_L_law_1869 N L xs k18 x1 x2 x3 1 x2 v3 s2)
noncomputable def f_L_law_18_b (N : Nat) (L : Nat) (xs : Nat → Int) (k18 : Option Nat → Option Nat → Int → sj_Mem → Option (Int × sj_Mem)) (x1 : Option Nat) (x2 : Option Nat) (x3 : Int) (s : sj_Mem) : Option (Int × sj_Mem) :=
  e_ilt (((L : Int)) - 8) x3 (
    e_z 1 s) (
    e_aS L xs x3 fun v1 =>
    e_sw (sj_and v1 63) (
    if (sj_and v1 63) = 0 then (
      e_aS L xs (x3 + 1) fun v2 =>
      e_aS L xs (x3 + 2) fun v3 =>
      e_nn x1 fun a4 =>
      e_cv 8 a4 s (f_X8_size N a4 v2 v3 s) fun v6 s5 =>
      e_aS L xs (x3 + 1) fun v7 =>
      e_aS L xs (x3 + 2) fun v8 =>
      e_nn x2 fun a9 =>
      e_cv 9 a9 s5 (f_X9_size N a9 v7 v8 s5) fun v11 s10 =>
      e_ieq v6 v11 (
        f_L_law_1900 N L xs k18 (some a4) (some a9) x3 s10) (
        e_z 0 s10)) else (
    if (sj_and v1 63) = 1 then (
      e_aS L xs (x3 + 1) fun v12 =>
      e_aS L xs (x3 + 2) fun v13 =>
      e_aS L xs (x3 + 3) fun v14 =>
      e_nn x1 fun a15 =>
      e_cv 8 a15 s (f_X8_tell N a15 v12 v13 v14 s) fun v17 s16 =>
      e_aS L xs (x3 + 1) fun v18 =>
      e_aS L xs (x3 + 2) fun v19 =>
      e_aS L xs (x3 + 3) fun v20 =>
      e_nn x2 fun a21 =>
      e_cv 9 a21 s16 (f_X9_tell N a21 v18 v19 v20 s16) fun v23 s22 =>
      e_ieq v17 v23 (
        f_L_law_1900 N L xs k18 (some a15) (some a21) x3 s22) (
        e_z 0 s22)) else (
    if (sj_and v1 63) = 2 then (
      e_aS L xs (x3 + 1) fun v24 =>
      e_aS L xs (x3 + 2) fun v25 =>
      e_nn x1 fun a26 =>
      e_cv 8 a26 s (f_X8_dig N a26 v24 v25 s) fun v28 s27 =>
      e_aS L xs (x3 + 1) fun v29 =>
      e_aS L xs (x3 + 2) fun v30 =>
      e_nn x2 fun a31 =>
      e_cv 9 a31 s27 (f_X9_dig N a31 v29 v30 s27) fun v33 s32 =>
      e_ieq v28 v33 (
        f_L_law_1900 N L xs k18 (some a26) (some a31) x3 s32) (
        e_z 0 s32)) else (
    if (sj_and v1 63) = 3 then (
      e_aS L xs (x3 + 1) fun v34 =>
      e_aS L xs (x3 + 2) fun v35 =>
      e_aS L xs (x3 + 3) fun v36 =>
      e_aS L xs (x3 + 4) fun v37 =>
      e_nn x1 fun a38 =>
      e_cv 8 a38 s (f_X8_soil N a38 v34 v35 v36 v37 s) fun v40 s39 =>
      e_aS L xs (x3 + 1) fun v41 =>
      e_aS L xs (x3 + 2) fun v42 =>
      e_aS L xs (x3 + 3) fun v43 =>
      e_aS L xs (x3 + 4) fun v44 =>
      e_nn x2 fun a45 =>
      e_cv 9 a45 s39 (f_X9_soil N a45 v41 v42 v43 v44 s39) fun v47 s46 =>
      e_ieq v40 v47 (
        f_L_law_1900 N L xs k18 (some a38) (some a45) x3 s46) (
        e_z 0 s46)) else (
    if (sj_and v1 63) = 4 then (
      e_aS L xs (x3 + 1) fun v48 =>
      e_nn x1 fun a49 =>
      e_cv 8 a49 s (f_X8_quake N a49 v48 s) fun v51 s50 =>
      e_aS L xs (x3 + 1) fun v52 =>
      e_nn x2 fun a53 =>
      e_cv 9 a53 s50 (f_X9_quake N a53 v52 s50) fun v55 s54 =>
      e_ieq v51 v55 (
        f_L_law_1900 N L xs k18 (some a49) (some a53) x3 s54) (
        e_z 0 s54)) else (
    if (sj_and v1 63) = 5 then (
      e_aS L xs (x3 + 1) fun v56 =>
      e_aS L xs (x3 + 2) fun v57 =>
      e_aS L xs (x3 + 3) fun v58 =>
      e_aS L xs (x3 + 4) fun v59 =>
      e_nn x1 fun a60 =>
      e_cv 8 a60 s (f_X8_anchor N a60 v56 v57 v58 v59 s) fun v62 s61 =>
      e_aS L xs (x3 + 1) fun v63 =>
      e_aS L xs (x3 + 2) fun v64 =>
      e_aS L xs (x3 + 3) fun v65 =>
      e_aS L xs (x3 + 4) fun v66 =>
      e_nn x2 fun a67 =>
      e_cv 9 a67 s61 (f_X9_anchor N a67 v63 v64 v65 v66 s61) fun v69 s68 =>
      e_ieq v62 v69 (
        f_L_law_1900 N L xs k18 (some a60) (some a67) x3 s68) (
        e_z 0 s68)) else (
    if (sj_and v1 63) = 6 then (
      e_aS L xs (x3 + 1) fun v70 =>
      e_aS L xs (x3 + 2) fun v71 =>
      e_aS L xs (x3 + 3) fun v72 =>
      e_aS L xs (x3 + 4) fun v73 =>
      e_aS L xs (x3 + 5) fun v74 =>
      e_nn x1 fun a75 =>
      e_cv 8 a75 s (f_X8_feed N a75 v70 v71 v72 v73 v74 s) fun v77 s76 =>
      e_aS L xs (x3 + 1) fun v78 =>
      e_aS L xs (x3 + 2) fun v79 =>
      e_aS L xs (x3 + 3) fun v80 =>
      e_aS L xs (x3 + 4) fun v81 =>
      e_aS L xs (x3 + 5) fun v82 =>
      e_nn x2 fun a83 =>
      e_cv 9 a83 s76 (f_X9_feed N a83 v78 v79 v80 v81 v82 s76) fun v85 s84 =>
      e_ieq v77 v85 (
        f_L_law_1900 N L xs k18 (some a75) (some a83) x3 s84) (
        e_z 0 s84)) else (
    if (sj_and v1 63) = 7 then (
      e_aS L xs (x3 + 1) fun v86 =>
      e_nn x1 fun a87 =>
      e_cv 8 a87 s (f_X8_end N a87 v86 s) fun v89 s88 =>
      e_aS L xs (x3 + 1) fun v90 =>
      e_nn x2 fun a91 =>
      e_cv 9 a91 s88 (f_X9_end N a91 v90 s88) fun v93 s92 =>
      e_ieq v89 v93 (
        f_L_law_1900 N L xs k18 (some a87) (some a91) x3 s92) (
        e_z 0 s92)) else (
    if (sj_and v1 63) = 8 then (
      e_nn x1 fun a94 =>
      e_cv 8 a94 s (f_X8_text N a94 s) fun v96 s95 =>
      e_nn x2 fun a97 =>
      e_cv 9 a97 s95 (f_X9_text N a97 s95) fun v99 s98 =>
      e_ieq v96 v99 (
        f_L_law_1900 N L xs k18 (some a94) (some a97) x3 s98) (
        e_z 0 s98)) else (
    if (sj_and v1 63) = 9 then (
      e_aS L xs (x3 + 1) fun v100 =>
      e_nn x1 fun a101 =>
      e_cv 8 a101 s (f_X8_fault N a101 v100 s) fun v103 s102 =>
      e_aS L xs (x3 + 1) fun v104 =>
      e_nn x2 fun a105 =>
      e_cv 9 a105 s102 (f_X9_fault N a105 v104 s102) fun v107 s106 =>
      e_ieq v103 v107 (
        f_L_law_1900 N L xs k18 (some a101) (some a105) x3 s106) (
        e_z 0 s106)) else (
    if (sj_and v1 63) = 10 then (
      e_aS L xs (x3 + 1) fun v108 =>
      e_aS L xs (x3 + 2) fun v109 =>
      e_aS L xs (x3 + 3) fun v110 =>
      e_aS L xs (x3 + 4) fun v111 =>
      e_ieq v111 0 (
        f_L_law_613 N L xs k18 x1 x2 x3 0 v110 v109 v108 x1 s) (
        f_L_law_613 N L xs k18 x1 x2 x3 1 v110 v109 v108 x1 s)) else (
    if (sj_and v1 63) = 11 then (
      e_aS L xs (x3 + 1) fun v112 =>
      e_aS L xs (x3 + 2) fun v113 =>
      e_nn x1 fun a114 =>
      e_cv 8 a114 s (f_X8_point N a114 v112 v113 s) fun v116 s115 =>
      e_aS L xs (x3 + 1) fun v117 =>
      e_aS L xs (x3 + 2) fun v118 =>
      e_nn x2 fun a119 =>
      e_cv 9 a119 s115 (f_X9_point N a119 v117 v118 s115) fun v121 s120 =>
      e_ieq v116 v121 (
        f_L_law_1900 N L xs k18 (some a114) (some a119) x3 s120) (
        e_z 0 s120)) else (
    if (sj_and v1 63) = 12 then (
      e_aS L xs (x3 + 1) fun v122 =>
      e_ieq v122 0 (
        f_L_law_700 N L xs k18 x1 x2 x3 0 x1 s) (
        f_L_law_700 N L xs k18 x1 x2 x3 1 x1 s)) else (
    if (sj_and v1 63) = 13 then (
      e_aS L xs (x3 + 1) fun v123 =>
      e_aS L xs (x3 + 2) fun v124 =>
      e_ieq v124 0 (
        f_L_law_744 N L xs k18 x1 x2 x3 0 v123 x1 s) (
        f_L_law_744 N L xs k18 x1 x2 x3 1 v123 x1 s)) else (
    if (sj_and v1 63) = 14 then (
      e_nn x1 fun a125 =>
      e_cv 8 a125 s (f_X8_undo N a125 s) fun v127 s126 =>
      e_nn x2 fun a128 =>
      e_cv 9 a128 s126 (f_X9_undo N a128 s126) fun v130 s129 =>
      e_ieq v127 v130 (
        f_L_law_1900 N L xs k18 (some a125) (some a128) x3 s129) (
        e_z 0 s129)) else (
    if (sj_and v1 63) = 15 then (
      e_aS L xs (x3 + 1) fun v131 =>
      e_aS L xs (x3 + 2) fun v132 =>
      e_nn x1 fun a133 =>
      e_cv 8 a133 s (f_X8_column N a133 v131 v132 s) fun v135 s134 =>
      e_aS L xs (x3 + 1) fun v136 =>
      e_aS L xs (x3 + 2) fun v137 =>
      e_nn x2 fun a138 =>
      e_cv 9 a138 s134 (f_X9_column N a138 v136 v137 s134) fun v140 s139 =>
      e_ieq v135 v140 (
        f_L_law_1900 N L xs k18 (some a133) (some a138) x3 s139) (
        e_z 0 s139)) else (
    if (sj_and v1 63) = 16 then (
      e_aS L xs (x3 + 1) fun v141 =>
      e_aS L xs (x3 + 2) fun v142 =>
      e_nn x1 fun a143 =>
      e_cv 8 a143 s (f_X8_layer N a143 v141 v142 s) fun v145 s144 =>
      e_aS L xs (x3 + 1) fun v146 =>
      e_aS L xs (x3 + 2) fun v147 =>
      e_nn x2 fun a148 =>
      e_cv 9 a148 s144 (f_X9_layer N a148 v146 v147 s144) fun v150 s149 =>
      e_ieq v145 v150 (
        f_L_law_1900 N L xs k18 (some a143) (some a148) x3 s149) (
        e_z 0 s149)) else (
    if (sj_and v1 63) = 17 then (
      e_aS L xs (x3 + 1) fun v151 =>
      e_aS L xs (x3 + 2) fun v152 =>
      e_nn x1 fun a153 =>
      e_cv 8 a153 s (f_X8_anchored N a153 v151 v152 s) fun v155 s154 =>
      e_aS L xs (x3 + 1) fun v156 =>
      e_aS L xs (x3 + 2) fun v157 =>
      e_nn x2 fun a158 =>
      e_cv 9 a158 s154 (f_X9_anchored N a158 v156 v157 s154) fun v160 s159 =>
      e_ieq v155 v160 (
        f_L_law_1900 N L xs k18 (some a153) (some a158) x3 s159) (
        e_z 0 s159)) else (
    if (sj_and v1 63) = 18 then (
      e_aS L xs (x3 + 1) fun v161 =>
      e_aS L xs (x3 + 2) fun v162 =>
      e_nn x1 fun a163 =>
      e_cv 8 a163 s (f_X8_slice N a163 v161 v162 s) fun v165 s164 =>
      e_aS L xs (x3 + 1) fun v166 =>
      e_aS L xs (x3 + 2) fun v167 =>
      e_nn x2 fun a168 =>
      e_cv 9 a168 s164 (f_X9_slice N a168 v166 v167 s164) fun v170 s169 =>
      e_leq v165 v170 (
        f_L_law_1900 N L xs k18 (some a163) (some a168) x3 s169) (
        e_z 0 s169)) else (
    if (sj_and v1 63) = 19 then (
      e_aS L xs (x3 + 1) fun v171 =>
      e_aS L xs (x3 + 2) fun v172 =>
      e_nn x1 fun a173 =>
      e_cv 8 a173 s (f_X8_rubs N a173 v171 v172 s) fun v175 s174 =>
      e_aS L xs (x3 + 1) fun v176 =>
      e_aS L xs (x3 + 2) fun v177 =>
      e_nn x2 fun a178 =>
      e_cv 9 a178 s174 (f_X9_rubs N a178 v176 v177 s174) fun v180 s179 =>
      e_leq v175 v180 (
        f_L_law_1900 N L xs k18 (some a173) (some a178) x3 s179) (
        e_z 0 s179)) else (
    if (sj_and v1 63) = 20 then (
      e_aS L xs (x3 + 1) fun v181 =>
      e_nn x1 fun a182 =>
      e_cv 8 a182 s (f_X8_stands N a182 v181 s) fun v184 s183 =>
      e_aS L xs (x3 + 1) fun v185 =>
      e_nn x2 fun a186 =>
      e_cv 9 a186 s183 (f_X9_stands N a186 v185 s183) fun v188 s187 =>
      e_ieq v184 v188 (
        f_L_law_1900 N L xs k18 (some a182) (some a186) x3 s187) (
        e_z 0 s187)) else (
    if (sj_and v1 63) = 21 then (
      e_nn x1 fun a189 =>
      e_cv 8 a189 s (f_X8_factor N a189 s) fun v191 s190 =>
      e_nn x2 fun a192 =>
      e_cv 9 a192 s190 (f_X9_factor N a192 s190) fun v194 s193 =>
      e_ieq v191 v194 (
        f_L_law_1900 N L xs k18 (some a189) (some a192) x3 s193) (
        e_z 0 s193)) else (
    if (sj_and v1 63) = 22 then (
      e_aS L xs (x3 + 1) fun v195 =>
      e_nn x1 fun a196 =>
      e_cv 8 a196 s (f_X8_sum N a196 v195 s) fun v198 s197 =>
      e_aS L xs (x3 + 1) fun v199 =>
      e_nn x2 fun a200 =>
      e_cv 9 a200 s197 (f_X9_sum N a200 v199 s197) fun v202 s201 =>
      e_leq v198 v202 (
        f_L_law_1900 N L xs k18 (some a196) (some a200) x3 s201) (
        e_z 0 s201)) else (
    if (sj_and v1 63) = 23 then (
      e_nn x1 fun a203 =>
      e_cv 8 a203 s (f_X8_dry N a203 s) fun v205 s204 =>
      e_nn x2 fun a206 =>
      e_cv 9 a206 s204 (f_X9_dry N a206 s204) fun v208 s207 =>
      e_ieq v205 v208 (
        f_L_law_1900 N L xs k18 (some a203) (some a206) x3 s207) (
        e_z 0 s207)) else (
    if (sj_and v1 63) = 24 then (
      e_aS L xs (x3 + 1) fun v209 =>
      e_nn x1 fun a210 =>
      e_cv 8 a210 s (f_X8_bears N a210 v209 s) fun v212 s211 =>
      e_aS L xs (x3 + 1) fun v213 =>
      e_nn x2 fun a214 =>
      e_cv 9 a214 s211 (f_X9_bears N a214 v213 s211) fun v216 s215 =>
      e_ieq v212 v216 (
        f_L_law_1900 N L xs k18 (some a210) (some a214) x3 s215) (
        e_z 0 s215)) else (
    if (sj_and v1 63) = 25 then (
      e_aS L xs (x3 + 1) fun v217 =>
      e_nn x1 fun a218 =>
      e_cv 8 a218 s (f_X8_needs N a218 v217 s) fun v220 s219 =>
      e_aS L xs (x3 + 1) fun v221 =>
      e_nn x2 fun a222 =>
      e_cv 9 a222 s219 (f_X9_needs N a222 v221 s219) fun v224 s223 =>
      e_ieq v220 v224 (
        f_L_law_1900 N L xs k18 (some a218) (some a222) x3 s223) (
        e_z 0 s223)) else (
    if (sj_and v1 63) = 26 then (
      e_aS L xs (x3 + 1) fun v225 =>
      e_nn x1 fun a226 =>
      e_cv 8 a226 s (f_X8_pull N a226 v225 s) fun v228 s227 =>
      e_aS L xs (x3 + 1) fun v229 =>
      e_nn x2 fun a230 =>
      e_cv 9 a230 s227 (f_X9_pull N a230 v229 s227) fun v232 s231 =>
      e_ieq v228 v232 (
        f_L_law_1900 N L xs k18 (some a226) (some a230) x3 s231) (
        e_z 0 s231)) else (
    if (sj_and v1 63) = 27 then (
      e_aS L xs (x3 + 1) fun v233 =>
      e_aS L xs (x3 + 2) fun v234 =>
      e_aS L xs (x3 + 3) fun v235 =>
      e_aS L xs (x3 + 4) fun v236 =>
      e_ieq v236 0 (
        f_L_law_1125 N L xs k18 x1 x2 x3 0 v235 v234 v233 x1 s) (
        f_L_law_1125 N L xs k18 x1 x2 x3 1 v235 v234 v233 x1 s)) else (
    if (sj_and v1 63) = 28 then (
      e_aS L xs (x3 + 1) fun v237 =>
      e_aS L xs (x3 + 2) fun v238 =>
      e_aS L xs (x3 + 3) fun v239 =>
      e_aS L xs (x3 + 4) fun v240 =>
      e_aS L xs (x3 + 5) fun v241 =>
      e_ieq v241 0 (
        f_L_law_1199 N L xs k18 x1 x2 x3 0 v240 v239 v238 v237 x1 s) (
        f_L_law_1199 N L xs k18 x1 x2 x3 1 v240 v239 v238 v237 x1 s)) else (
    if (sj_and v1 63) = 29 then (
      e_aS L xs (x3 + 1) fun v242 =>
      e_aS L xs (x3 + 2) fun v243 =>
      e_ieq v243 0 (
        f_L_law_1275 N L xs k18 x1 x2 x3 0 v242 x1 s) (
        f_L_law_1275 N L xs k18 x1 x2 x3 1 v242 x1 s)) else (
    if (sj_and v1 63) = 30 then (
      e_aS L xs (x3 + 1) fun v244 =>
      e_aS L xs (x3 + 2) fun v245 =>
      e_aS L xs (x3 + 3) fun v246 =>
      e_aS L xs (x3 + 4) fun v247 =>
      e_aS L xs (x3 + 5) fun v248 =>
      e_aS L xs (x3 + 6) fun v249 =>
      e_ieq v249 0 (
        f_L_law_1355 N L xs k18 x1 x2 x3 0 v248 v247 v246 v245 v244 x1 s) (
        f_L_law_1355 N L xs k18 x1 x2 x3 1 v248 v247 v246 v245 v244 x1 s)) else (
    if (sj_and v1 63) = 31 then (
      e_nn x1 fun a250 =>
      e_cv 8 a250 s (f_X8_mirror N a250 s) fun v252 s251 =>
      e_nn x2 fun a253 =>
      e_cv 9 a253 s251 (f_X9_mirror N a253 s251) fun v255 s254 =>
      e_ieq v252 v255 (
        f_L_law_1900 N L xs k18 (some a250) (some a253) x3 s254) (
        e_z 0 s254)) else (
    if (sj_and v1 63) = 32 then (
      e_aS L xs (x3 + 1) fun v256 =>
      e_aS L xs (x3 + 2) fun v257 =>
      e_aS L xs (x3 + 3) fun v258 =>
      e_nn x1 fun a259 =>
      e_cv 8 a259 s (f_X8_berm N a259 v256 v257 v258 s) fun v261 s260 =>
      e_aS L xs (x3 + 1) fun v262 =>
      e_aS L xs (x3 + 2) fun v263 =>
      e_aS L xs (x3 + 3) fun v264 =>
      e_nn x2 fun a265 =>
      e_cv 9 a265 s260 (f_X9_berm N a265 v262 v263 v264 s260) fun v267 s266 =>
      e_ieq v261 v267 (
        f_L_law_1900 N L xs k18 (some a259) (some a265) x3 s266) (
        e_z 0 s266)) else (
    if (sj_and v1 63) = 33 then (
      e_aS L xs (x3 + 1) fun v268 =>
      e_nn x1 fun a269 =>
      e_cv 8 a269 s (f_X8_shape N a269 v268 s) fun v271 s270 =>
      e_aS L xs (x3 + 1) fun v272 =>
      e_nn x2 fun a273 =>
      e_cv 9 a273 s270 (f_X9_shape N a273 v272 s270) fun v275 s274 =>
      e_ieq v271 v275 (
        f_L_law_1900 N L xs k18 (some a269) (some a273) x3 s274) (
        e_z 0 s274)) else (
    if (sj_and v1 63) = 34 then (
      e_aS L xs (x3 + 1) fun v276 =>
      e_aS L xs (x3 + 2) fun v277 =>
      e_nn x1 fun a278 =>
      e_cv 8 a278 s (f_X8_thrust N a278 v276 v277 s) fun v280 s279 =>
      e_aS L xs (x3 + 1) fun v281 =>
      e_aS L xs (x3 + 2) fun v282 =>
      e_nn x2 fun a283 =>
      e_cv 9 a283 s279 (f_X9_thrust N a283 v281 v282 s279) fun v285 s284 =>
      e_leq v280 v285 (
        f_L_law_1900 N L xs k18 (some a278) (some a283) x3 s284) (
        e_z 0 s284)) else (
    if (sj_and v1 63) = 35 then (
      e_aS L xs (x3 + 1) fun v286 =>
      e_nn x1 fun a287 =>
      e_cv 8 a287 s (f_X8_crest N a287 v286 s) fun v289 s288 =>
      e_aS L xs (x3 + 1) fun v290 =>
      e_nn x2 fun a291 =>
      e_cv 9 a291 s288 (f_X9_crest N a291 v290 s288) fun v293 s292 =>
      e_ieq v289 v293 (
        f_L_law_1900 N L xs k18 (some a287) (some a291) x3 s292) (
        e_z 0 s292)) else (
    if (sj_and v1 63) = 36 then (
      e_aS L xs (x3 + 1) fun v294 =>
      e_aS L xs (x3 + 2) fun v295 =>
      e_aS L xs (x3 + 3) fun v296 =>
      e_aS L xs (x3 + 4) fun v297 =>
      e_aS L xs (x3 + 5) fun v298 =>
      e_aS L xs (x3 + 6) fun v299 =>
      e_ieq v299 0 (
        f_L_law_1582 N L xs k18 x1 x2 x3 0 v298 v297 v296 v295 v294 x1 s) (
        f_L_law_1582 N L xs k18 x1 x2 x3 1 v298 v297 v296 v295 v294 x1 s)) else (
    if (sj_and v1 63) = 37 then (
      e_aS L xs (x3 + 1) fun v300 =>
      e_aS L xs (x3 + 2) fun v301 =>
      e_aS L xs (x3 + 3) fun v302 =>
      e_aS L xs (x3 + 4) fun v303 =>
      e_aS L xs (x3 + 5) fun v304 =>
      e_ieq v304 0 (
        f_L_law_1667 N L xs k18 x1 x2 x3 0 v303 v302 v301 v300 x1 s) (
        f_L_law_1667 N L xs k18 x1 x2 x3 1 v303 v302 v301 v300 x1 s)) else (
    if (sj_and v1 63) = 38 then (
      e_aS L xs (x3 + 1) fun v305 =>
      e_nn x1 fun a306 =>
      e_cv 8 a306 s (f_X8_state N a306 v305 s) fun v308 s307 =>
      e_aS L xs (x3 + 1) fun v309 =>
      e_nn x2 fun a310 =>
      e_cv 9 a310 s307 (f_X9_state N a310 v309 s307) fun v312 s311 =>
      e_ieq v308 v312 (
        f_L_law_1900 N L xs k18 (some a306) (some a310) x3 s311) (
        e_z 0 s311)) else (
    if (sj_and v1 63) = 39 then (
      e_aS L xs (x3 + 1) fun v313 =>
      e_aS L xs (x3 + 2) fun v314 =>
      e_aS L xs (x3 + 3) fun v315 =>
      e_nn x1 fun a316 =>
      e_cv 8 a316 s (f_X8_chance N a316 v313 v314 v315 s) fun v318 s317 =>
      e_aS L xs (x3 + 1) fun v319 =>
      e_aS L xs (x3 + 2) fun v320 =>
      e_aS L xs (x3 + 3) fun v321 =>
      e_nn x2 fun a322 =>
      e_cv 9 a322 s317 (f_X9_chance N a322 v319 v320 v321 s317) fun v324 s323 =>
      e_ieq v318 v324 (
        f_L_law_1900 N L xs k18 (some a316) (some a322) x3 s323) (
        e_z 0 s323)) else (
    if (sj_and v1 63) = 40 then (
      e_nn x1 fun a325 =>
      e_cv 8 a325 s (f_X8_report N a325 s) fun v327 s326 =>
      e_nn x2 fun a328 =>
      e_cv 9 a328 s326 (f_X9_report N a328 s326) fun v330 s329 =>
      e_ieq v327 v330 (
        f_L_law_1900 N L xs k18 (some a325) (some a328) x3 s329) (
        e_z 0 s329)) else (
    if (sj_and v1 63) = 41 then (
      e_aS L xs (x3 + 1) fun v331 =>
      e_nn x1 fun a332 =>
      e_cv 8 a332 s (f_X8_sign N a332 v331 s) fun v334 s333 =>
      e_aS L xs (x3 + 1) fun v335 =>
      e_nn x2 fun a336 =>
      e_cv 9 a336 s333 (f_X9_sign N a336 v335 s333) fun v338 s337 =>
      e_ieq v334 v338 (
        f_L_law_1900 N L xs k18 (some a332) (some a336) x3 s337) (
        e_z 0 s337)) else (
    if (sj_and v1 63) = 42 then (
      e_aS L xs (x3 + 1) fun v339 =>
      e_ieq v339 0 (
        f_L_law_1852 N L xs k18 x1 x2 x3 0 x1 s) (
        f_L_law_1852 N L xs k18 x1 x2 x3 1 x1 s)) else (
    if (sj_and v1 63) = 43 then (
      e_aS L xs (x3 + 1) fun v340 =>
      e_nn x1 fun a341 =>
      e_cv 8 a341 s (f_X8_look N a341 v340 s) fun v343 s342 =>
      e_aS L xs (x3 + 1) fun v344 =>
      e_nn x2 fun a345 =>
      e_cv 9 a345 s342 (f_X9_look N a345 v344 s342) fun v347 s346 =>
      e_ieq v343 v347 (
        f_L_law_1900 N L xs k18 (some a341) (some a345) x3 s346) (
        e_z 0 s346)) else (
      f_L_law_1900 N L xs k18 x1 x2 x3 s))))))))))))))))))))))))))))))))))))))))))))))
noncomputable def f_L_law_18 (N : Nat) (L : Nat) (xs : Nat → Int) : Nat → Option Nat → Option Nat → Int → sj_Mem → Option (Int × sj_Mem)
  | 0 => fun _ _ _ _ => none
  | n + 1 => fun x1 x2 x3 s => f_L_law_18_b N L xs (f_L_law_18 N L xs n) x1 x2 x3 s
noncomputable def f_L_law (N : Nat) (L : Nat) (xs : Nat → Int) (s : sj_Mem) : Option (Int × sj_Mem) :=
  e_nO 8 15 s fun a1 s2 =>
  e_cl (f_X8_init N a1 s2) fun _u s3 =>
  e_nO 9 35 s3 fun a4 s5 =>
  e_cl (f_X9_init N a4 s5) fun _u s6 =>
  f_L_law_18 N L xs N (some a1) (some a4) 0 s6
