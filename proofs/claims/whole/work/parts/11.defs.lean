def f_X5_init (N : Nat) (a0 : Nat) (s : sj_Mem) : Option (Unit × sj_Mem) :=
  e_nA 100 41 s fun a1 s2 =>
  e_pR 5 0 a0 (some a1) s2 fun s3 =>
  e_pI 5 1 a0 ((-1)) s3 fun s4 =>
  e_pI 5 2 a0 ((-1)) s4 fun s5 =>
  some ((), s5)
def f_X0_init (N : Nat) (a0 : Nat) (s : sj_Mem) : Option (Unit × sj_Mem) :=
  e_nA 100 41 s fun a1 s2 =>
  e_pR 0 3 a0 (some a1) s2 fun s3 =>
  e_nA 100 41 s3 fun a4 s5 =>
  e_pR 0 4 a0 (some a4) s5 fun s6 =>
  e_nA 100 41 s6 fun a7 s8 =>
  e_pR 0 5 a0 (some a7) s8 fun s9 =>
  e_nA 100 41 s9 fun a10 s11 =>
  e_pR 0 6 a0 (some a10) s11 fun s12 =>
  e_nA 100 123 s12 fun a13 s14 =>
  e_pR 0 7 a0 (some a13) s14 fun s15 =>
  e_nA 100 4 s15 fun a16 s17 =>
  e_pR 0 8 a0 (some a16) s17 fun s18 =>
  e_nA 100 4 s18 fun a19 s20 =>
  e_pR 0 9 a0 (some a19) s20 fun s21 =>
  e_nA 100 4 s21 fun a22 s23 =>
  e_pR 0 10 a0 (some a22) s23 fun s24 =>
  e_nA 100 6 s24 fun a25 s26 =>
  e_pR 0 11 a0 (some a25) s26 fun s27 =>
  e_nA 100 6 s27 fun a28 s29 =>
  e_pR 0 12 a0 (some a28) s29 fun s30 =>
  e_nA 100 6 s30 fun a31 s32 =>
  e_pR 0 13 a0 (some a31) s32 fun s33 =>
  e_nO 5 4 s33 fun a34 s35 =>
  e_cl (f_X5_init N a34 s35) fun _u s36 =>
  e_pR 0 14 a0 (some a34) s36 fun s37 =>
  some ((), s37)
def f_J7_fill_53178_5_b (N : Nat) (k5 : Option Nat → Int → Int → Int → sj_Mem → Option (Unit × sj_Mem)) (x0 : Option Nat) (x1 : Int) (x2 : Int) (x3 : Int) (s : sj_Mem) : Option (Unit × sj_Mem) :=
  e_ile x3 x2 (
    some ((), s)) (
    e_nn x0 fun a1 =>
    e_uI 100 a1 x2 x1 s fun s2 =>
    e_lt (x2 + 1) fun v3 =>
    k5 (some a1) x1 v3 x3 s2)
def f_J7_fill_53178_5 (N : Nat) : Nat → Option Nat → Int → Int → Int → sj_Mem → Option (Unit × sj_Mem)
  | 0 => fun _ _ _ _ _ => none
  | n + 1 => fun x0 x1 x2 x3 s => f_J7_fill_53178_5_b N (f_J7_fill_53178_5 N n) x0 x1 x2 x3 s
def f_J7_fill_53178 (N : Nat) (x0 : Option Nat) (x1 : Int) (s : sj_Mem) : Option (Unit × sj_Mem) :=
  e_nn x0 fun a1 =>
  e_al a1 s fun v2 =>
  f_J7_fill_53178_5 N N (some a1) x1 0 v2 s
def f_X5_drop (N : Nat) (a0 : Nat) (s : sj_Mem) : Option (Unit × sj_Mem) :=
  e_pI 5 1 a0 ((-1)) s fun s1 =>
  e_pI 5 2 a0 ((-1)) s1 fun s2 =>
  some ((), s2)
def f_X0_begin (N : Nat) (a0 : Nat) (x1 : Int) (x2 : Int) (s : sj_Mem) : Option (Unit × sj_Mem) :=
  e_pI 0 0 a0 x1 s fun s1 =>
  e_pI 0 1 a0 x2 s1 fun s2 =>
  e_pI 0 2 a0 0 s2 fun s3 =>
  e_gR 0 3 a0 s3 fun r4 =>
  e_cl (f_J7_fill_53178 N r4 20 s3) fun _u s5 =>
  e_gR 0 4 a0 s5 fun r6 =>
  e_cl (f_J7_fill_53178 N r6 0 s5) fun _u s7 =>
  e_gR 0 5 a0 s7 fun r8 =>
  e_cl (f_J7_fill_53178 N r8 0 s7) fun _u s9 =>
  e_gR 0 6 a0 s9 fun r10 =>
  e_cl (f_J7_fill_53178 N r10 0 s9) fun _u s11 =>
  e_gR 0 7 a0 s11 fun r12 =>
  e_cl (f_J7_fill_53178 N r12 0 s11) fun _u s13 =>
  e_gR 0 8 a0 s13 fun r14 =>
  e_cl (f_J7_fill_53178 N r14 20 s13) fun _u s15 =>
  e_gR 0 9 a0 s15 fun r16 =>
  e_cl (f_J7_fill_53178 N r16 10 s15) fun _u s17 =>
  e_gR 0 10 a0 s17 fun r18 =>
  e_cl (f_J7_fill_53178 N r18 300 s17) fun _u s19 =>
  e_gR 0 13 a0 s19 fun r20 =>
  e_cl (f_J7_fill_53178 N r20 0 s19) fun _u s21 =>
  e_gR 0 14 a0 s21 fun r22 =>
  e_nn r22 fun a23 =>
  e_cv 5 a23 s21 (f_X5_drop N a23 s21) fun _u s24 =>
  some ((), s24)
def f_X5_copy (N : Nat) (a0 : Nat) (x1 : Option Nat) (s : sj_Mem) : Option (Unit × sj_Mem) :=
  e_nn x1 fun a1 =>
  e_gR 5 0 a1 s fun r2 =>
  e_gR 5 0 a0 s fun r3 =>
  e_nn r2 fun a4 =>
  e_nn r3 fun a5 =>
  e_cp a4 0 a5 0 41 s fun s6 =>
  e_gI 5 1 a1 s6 fun v7 =>
  e_pI 5 1 a0 v7 s6 fun s8 =>
  e_gI 5 2 a1 s8 fun v9 =>
  e_pI 5 2 a0 v9 s8 fun s10 =>
  e_gI 5 3 a1 s10 fun v11 =>
  e_pZ 5 3 a0 v11 s10 fun s12 =>
  some ((), s12)
def f_X0_copy (N : Nat) (a0 : Nat) (x1 : Option Nat) (s : sj_Mem) : Option (Unit × sj_Mem) :=
  e_nn x1 fun a1 =>
  e_gI 0 0 a1 s fun v2 =>
  e_pI 0 0 a0 v2 s fun s3 =>
  e_gI 0 1 a1 s3 fun v4 =>
  e_pI 0 1 a0 v4 s3 fun s5 =>
  e_gI 0 2 a1 s5 fun v6 =>
  e_pI 0 2 a0 v6 s5 fun s7 =>
  e_gR 0 3 a1 s7 fun r8 =>
  e_gR 0 3 a0 s7 fun r9 =>
  e_nn r8 fun a10 =>
  e_nn r9 fun a11 =>
  e_cp a10 0 a11 0 41 s7 fun s12 =>
  e_gR 0 4 a1 s12 fun r13 =>
  e_gR 0 4 a0 s12 fun r14 =>
  e_nn r13 fun a15 =>
  e_nn r14 fun a16 =>
  e_cp a15 0 a16 0 41 s12 fun s17 =>
  e_gR 0 5 a1 s17 fun r18 =>
  e_gR 0 5 a0 s17 fun r19 =>
  e_nn r18 fun a20 =>
  e_nn r19 fun a21 =>
  e_cp a20 0 a21 0 41 s17 fun s22 =>
  e_gR 0 6 a1 s22 fun r23 =>
  e_gR 0 6 a0 s22 fun r24 =>
  e_nn r23 fun a25 =>
  e_nn r24 fun a26 =>
  e_cp a25 0 a26 0 41 s22 fun s27 =>
  e_gR 0 7 a1 s27 fun r28 =>
  e_gR 0 7 a0 s27 fun r29 =>
  e_nn r28 fun a30 =>
  e_nn r29 fun a31 =>
  e_cp a30 0 a31 0 123 s27 fun s32 =>
  e_gR 0 8 a1 s32 fun r33 =>
  e_gR 0 8 a0 s32 fun r34 =>
  e_nn r33 fun a35 =>
  e_nn r34 fun a36 =>
  e_cp a35 0 a36 0 4 s32 fun s37 =>
  e_gR 0 9 a1 s37 fun r38 =>
  e_gR 0 9 a0 s37 fun r39 =>
  e_nn r38 fun a40 =>
  e_nn r39 fun a41 =>
  e_cp a40 0 a41 0 4 s37 fun s42 =>
  e_gR 0 10 a1 s42 fun r43 =>
  e_gR 0 10 a0 s42 fun r44 =>
  e_nn r43 fun a45 =>
  e_nn r44 fun a46 =>
  e_cp a45 0 a46 0 4 s42 fun s47 =>
  e_gR 0 11 a1 s47 fun r48 =>
  e_gR 0 11 a0 s47 fun r49 =>
  e_nn r48 fun a50 =>
  e_nn r49 fun a51 =>
  e_cp a50 0 a51 0 6 s47 fun s52 =>
  e_gR 0 12 a1 s52 fun r53 =>
  e_gR 0 12 a0 s52 fun r54 =>
  e_nn r53 fun a55 =>
  e_nn r54 fun a56 =>
  e_cp a55 0 a56 0 6 s52 fun s57 =>
  e_gR 0 13 a1 s57 fun r58 =>
  e_gR 0 13 a0 s57 fun r59 =>
  e_nn r58 fun a60 =>
  e_nn r59 fun a61 =>
  e_cp a60 0 a61 0 6 s57 fun s62 =>
  e_gR 0 14 a0 s62 fun r63 =>
  e_gR 0 14 a1 s62 fun r64 =>
  e_nn r63 fun a65 =>
  e_cv 5 a65 s62 (f_X5_copy N a65 r64 s62) fun _u s66 =>
  some ((), s66)
def f_X0_hasColumn (N : Nat) (a0 : Nat) (x1 : Int) (s : sj_Mem) : Option (Int × sj_Mem) :=
  e_ilt x1 0 (
    e_z 0 s) (
    e_gI 0 0 a0 s fun v1 =>
    e_ilt v1 x1 (
      e_z 0 s) (
      e_z 1 s))
def f_X0_canLower (N : Nat) (a0 : Nat) (x1 : Int) (x2 : Int) (s : sj_Mem) : Option (Int × sj_Mem) :=
  e_cv 0 a0 s (f_X0_hasColumn N a0 x1 s) fun v2 s1 =>
  e_ieq v2 0 (
    e_z 0 s1) (
    e_ieq x2 0 (
      e_z 0 s1) (
      e_gR 0 3 a0 s1 fun r3 =>
      e_nn r3 fun a4 =>
      e_aI 100 a4 x1 s1 fun v5 =>
      e_wid v5 fun v6 =>
      e_wid x2 fun v7 =>
      e_lt (v6 - v7) fun v8 =>
      e_gR 0 4 a0 s1 fun r9 =>
      e_nn r9 fun a10 =>
      e_aI 100 a10 x1 s1 fun v11 =>
      e_wid v11 fun v12 =>
      e_llt v8 v12 (
        e_z 0 s1) (
        e_llt 100 v8 (
          e_z 0 s1) (
          e_z 1 s1))))
def f_X0_rockIsBelow_2_b (N : Nat) (k2 : Nat → Int → sj_Mem → Option (Int × sj_Mem)) (a0 : Nat) (x1 : Int) (s : sj_Mem) : Option (Int × sj_Mem) :=
  e_gI 0 0 a0 s fun v1 =>
  e_ilt v1 x1 (
    e_z 1 s) (
    e_gR 0 4 a0 s fun r2 =>
    e_nn r2 fun a3 =>
    e_aI 100 a3 x1 s fun v4 =>
    e_gR 0 3 a0 s fun r5 =>
    e_nn r5 fun a6 =>
    e_aI 100 a6 x1 s fun v7 =>
    e_ile v4 v7 (
      e_lt (x1 + 1) fun v8 =>
      k2 a0 v8 s) (
      e_z 0 s))
def f_X0_rockIsBelow_2 (N : Nat) : Nat → Nat → Int → sj_Mem → Option (Int × sj_Mem)
  | 0 => fun _ _ _ => none
  | n + 1 => fun a0 x1 s => f_X0_rockIsBelow_2_b N (f_X0_rockIsBelow_2 N n) a0 x1 s
def f_X0_rockIsBelow (N : Nat) (a0 : Nat) (s : sj_Mem) : Option (Int × sj_Mem) :=
  f_X0_rockIsBelow_2 N N a0 0 s
def f_X0_waterAt (N : Nat) (a0 : Nat) (x1 : Int) (s : sj_Mem) : Option (Int × sj_Mem) :=
  e_gR 0 5 a0 s fun r1 =>
  e_nn r1 fun a2 =>
  e_aI 100 a2 x1 s fun v3 =>
  e_gR 0 3 a0 s fun r4 =>
  e_nn r4 fun a5 =>
  e_aI 100 a5 x1 s fun v6 =>
  e_min v3 v6 fun v7 =>
  some (v7, s)
def f_X8_topPlace (N : Nat) (x0 : Int) (x1 : Int) (s : sj_Mem) : Option (Int × sj_Mem) :=
  some (((x0 - 1) * 41) + x1, s)
def f_X0_topAt_10_b (N : Nat) (k10 : Nat → Int → Int → Int → Int → sj_Mem → Option (Int × sj_Mem)) (a0 : Nat) (x1 : Int) (x2 : Int) (x3 : Int) (x4 : Int) (s : sj_Mem) : Option (Int × sj_Mem) :=
  e_ilt x1 x4 (
    some (x3, s)) (
    e_gR 0 7 a0 s fun r1 =>
    e_cl (f_X8_topPlace N x4 x2 s) fun v3 s2 =>
    e_nn r1 fun a4 =>
    e_aI 100 a4 v3 s2 fun v5 =>
    e_min x3 v5 fun v6 =>
    e_lt (x4 + 1) fun v7 =>
    k10 a0 x1 x2 v6 v7 s2)
def f_X0_topAt_10 (N : Nat) : Nat → Nat → Int → Int → Int → Int → sj_Mem → Option (Int × sj_Mem)
  | 0 => fun _ _ _ _ _ _ => none
  | n + 1 => fun a0 x1 x2 x3 x4 s => f_X0_topAt_10_b N (f_X0_topAt_10 N n) a0 x1 x2 x3 x4 s
def f_X0_topAt (N : Nat) (a0 : Nat) (x1 : Int) (x2 : Int) (s : sj_Mem) : Option (Int × sj_Mem) :=
  e_gR 0 3 a0 s fun r1 =>
  e_nn r1 fun a2 =>
  e_aI 100 a2 x2 s fun v3 =>
  f_X0_topAt_10 N N a0 x1 x2 v3 1 s
def f_X0_weightOn_60 (N : Nat) (k18 : Nat → Int → Int → Int → Int → Int → sj_Mem → Option (Int × sj_Mem)) (a0 : Nat) (x1 : Int) (x2 : Int) (x3 : Int) (x4 : Int) (x5 : Int) (y0 : Int) (s : sj_Mem) : Option (Int × sj_Mem) :=
  e_gR 0 8 a0 s fun r1 =>
  e_nn r1 fun a2 =>
  e_aI 100 a2 x5 s fun v3 =>
  e_max y0 x2 fun v4 =>
  e_lt (x3 + (v3 * (x4 - v4))) fun v5 =>
  e_lt (x5 + 1) fun v6 =>
  k18 a0 x1 x2 v5 y0 v6 s
def f_X0_weightOn_18_b (N : Nat) (k18 : Nat → Int → Int → Int → Int → Int → sj_Mem → Option (Int × sj_Mem)) (a0 : Nat) (x1 : Int) (x2 : Int) (x3 : Int) (x4 : Int) (x5 : Int) (s : sj_Mem) : Option (Int × sj_Mem) :=
  e_ile 4 x5 (
    some (x3, s)) (
    e_ile x4 x2 (
      some (x3, s)) (
      e_ile 4 (x5 + 1) (
        f_X0_weightOn_60 N k18 a0 x1 x2 x3 x4 x5 x2 s) (
        e_gR 0 7 a0 s fun r1 =>
        e_cl (f_X8_topPlace N (x5 + 1) x1 s) fun v3 s2 =>
        e_nn r1 fun a4 =>
        e_aI 100 a4 v3 s2 fun v5 =>
        e_min x4 v5 fun v6 =>
        f_X0_weightOn_60 N k18 a0 x1 x2 x3 x4 x5 v6 s2)))
def f_X0_weightOn_18 (N : Nat) : Nat → Nat → Int → Int → Int → Int → Int → sj_Mem → Option (Int × sj_Mem)
  | 0 => fun _ _ _ _ _ _ _ => none
  | n + 1 => fun a0 x1 x2 x3 x4 x5 s => f_X0_weightOn_18_b N (f_X0_weightOn_18 N n) a0 x1 x2 x3 x4 x5 s
def f_X0_weightOn (N : Nat) (a0 : Nat) (x1 : Int) (x2 : Int) (s : sj_Mem) : Option (Int × sj_Mem) :=
  e_gR 0 6 a0 s fun r1 =>
  e_nn r1 fun a2 =>
  e_aI 100 a2 x1 s fun v3 =>
  e_gR 0 3 a0 s fun r4 =>
  e_nn r4 fun a5 =>
  e_aI 100 a5 x1 s fun v6 =>
  f_X0_weightOn_18 N N a0 x1 x2 v3 v6 0 s
def f_X0_headOn (N : Nat) (a0 : Nat) (x1 : Int) (x2 : Int) (s : sj_Mem) : Option (Int × sj_Mem) :=
  e_gR 0 5 a0 s fun r1 =>
  e_nn r1 fun a2 =>
  e_aI 100 a2 x1 s fun v3 =>
  e_gR 0 3 a0 s fun r4 =>
  e_nn r4 fun a5 =>
  e_aI 100 a5 x1 s fun v6 =>
  e_min v3 v6 fun v7 =>
  e_max 0 (v7 - x2) fun v8 =>
  some (v8, s)
def f_X0_layerUnder_2_b (N : Nat) (k2 : Nat → Int → Int → Int → sj_Mem → Option (Int × sj_Mem)) (a0 : Nat) (x1 : Int) (x2 : Int) (x3 : Int) (s : sj_Mem) : Option (Int × sj_Mem) :=
  e_ile x3 0 (
    some (0, s)) (
    e_cv 0 a0 s (f_X0_topAt N a0 x3 x1 s) fun v2 s1 =>
    e_cv 0 a0 s1 (f_X0_topAt N a0 x3 (x1 + 1) s1) fun v4 s3 =>
    e_ile (v2 + v4) x2 (
      e_lt (x3 + (-1)) fun v5 =>
      k2 a0 x1 x2 v5 s3) (
      some (x3, s3)))
def f_X0_layerUnder_2 (N : Nat) : Nat → Nat → Int → Int → Int → sj_Mem → Option (Int × sj_Mem)
  | 0 => fun _ _ _ _ _ => none
  | n + 1 => fun a0 x1 x2 x3 s => f_X0_layerUnder_2_b N (f_X0_layerUnder_2 N n) a0 x1 x2 x3 s
def f_X0_layerUnder (N : Nat) (a0 : Nat) (x1 : Int) (x2 : Int) (s : sj_Mem) : Option (Int × sj_Mem) :=
  f_X0_layerUnder_2 N N a0 x1 x2 3 s
def f_X5_isNone (N : Nat) (a0 : Nat) (s : sj_Mem) : Option (Int × sj_Mem) :=
  e_gI 5 1 a0 s fun v1 =>
  e_ile 0 v1 (
    e_z 0 s) (
    e_z 1 s)
def f_X0_anchorCounts (N : Nat) (a0 : Nat) (x1 : Int) (x2 : Option Nat) (s : sj_Mem) : Option (Int × sj_Mem) :=
  e_gR 0 11 a0 s fun r1 =>
  e_nn r1 fun a2 =>
  e_aI 100 a2 x1 s fun v3 =>
  e_gR 0 13 a0 s fun r4 =>
  e_nn r4 fun a5 =>
  e_aI 100 a5 x1 s fun v6 =>
  e_ile v6 0 (
    e_z 0 s) (
    e_nn x2 fun a7 =>
    e_cv 5 a7 s (f_X5_isNone N a7 s) fun v9 s8 =>
    e_ieq v9 0 (
      e_gI 5 1 a7 s8 fun v10 =>
      e_ilt v3 v10 (
        e_z 0 s8) (
        e_gI 5 2 a7 s8 fun v11 =>
        e_ile v11 v3 (
          e_z 0 s8) (
          e_gR 0 12 a0 s8 fun r12 =>
          e_nn r12 fun a13 =>
          e_aI 100 a13 x1 s8 fun v14 =>
          e_gR 5 0 a7 s8 fun r15 =>
          e_nn r15 fun a16 =>
          e_aI 100 a16 v3 s8 fun v17 =>
          e_ile v14 v17 (
            e_z 0 s8) (
            e_z 1 s8)))) (
      e_z 0 s8))
def f_X0_pullsOn_43 (N : Nat) (k5 : Nat → Option Nat → Int → Int → sj_Mem → Option (Int × sj_Mem)) (a0 : Nat) (x1 : Option Nat) (x2 : Int) (x4 : Int) (s : sj_Mem) : Option (Int × sj_Mem) :=
  e_lt (x4 + 1) fun v1 =>
  k5 a0 x1 x2 v1 s
def f_X0_pullsOn_5_b (N : Nat) (k5 : Nat → Option Nat → Int → Int → sj_Mem → Option (Int × sj_Mem)) (a0 : Nat) (x1 : Option Nat) (x2 : Int) (x4 : Int) (s : sj_Mem) : Option (Int × sj_Mem) :=
  e_ile 6 x4 (
    some (x2, s)) (
    e_cv 0 a0 s (f_X0_anchorCounts N a0 x4 x1 s) fun v2 s1 =>
    e_ieq v2 0 (
      f_X0_pullsOn_43 N k5 a0 x1 x2 x4 s1) (
      e_gI 0 1 a0 s1 fun v3 =>
      e_wid v3 fun v4 =>
      e_gR 0 13 a0 s1 fun r5 =>
      e_nn r5 fun a6 =>
      e_aI 100 a6 x4 s1 fun v7 =>
      e_wid v7 fun v8 =>
      e_lt (x2 + ((2000 * v4) * v8)) fun v9 =>
      f_X0_pullsOn_43 N k5 a0 x1 v9 x4 s1))
def f_X0_pullsOn_5 (N : Nat) : Nat → Nat → Option Nat → Int → Int → sj_Mem → Option (Int × sj_Mem)
  | 0 => fun _ _ _ _ _ => none
  | n + 1 => fun a0 x1 x2 x4 s => f_X0_pullsOn_5_b N (f_X0_pullsOn_5 N n) a0 x1 x2 x4 s
def f_X0_pullsOn (N : Nat) (a0 : Nat) (x1 : Option Nat) (s : sj_Mem) : Option (Int × sj_Mem) :=
  f_X0_pullsOn_5 N N a0 x1 0 0 s
def f_X0_anchorSet_25 (N : Nat) (k4 : Nat → Int → Int → sj_Mem → Option (Int × sj_Mem)) (a0 : Nat) (x1 : Int) (x2 : Int) (s : sj_Mem) : Option (Int × sj_Mem) :=
  e_lt (x2 + 1) fun v1 =>
  k4 a0 x1 v1 s
def f_X0_anchorSet_4_b (N : Nat) (k4 : Nat → Int → Int → sj_Mem → Option (Int × sj_Mem)) (a0 : Nat) (x1 : Int) (x2 : Int) (s : sj_Mem) : Option (Int × sj_Mem) :=
  e_ile 6 x2 (
    some (x1, s)) (
    e_gR 0 13 a0 s fun r1 =>
    e_nn r1 fun a2 =>
    e_aI 100 a2 x2 s fun v3 =>
    e_ile v3 0 (
      f_X0_anchorSet_25 N k4 a0 x1 x2 s) (
      e_shl 1 x2 fun v4 =>
      e_lt (sj_or x1 v4) fun v5 =>
      f_X0_anchorSet_25 N k4 a0 v5 x2 s))
def f_X0_anchorSet_4 (N : Nat) : Nat → Nat → Int → Int → sj_Mem → Option (Int × sj_Mem)
  | 0 => fun _ _ _ _ => none
  | n + 1 => fun a0 x1 x2 s => f_X0_anchorSet_4_b N (f_X0_anchorSet_4 N n) a0 x1 x2 s
def f_X0_anchorSet (N : Nat) (a0 : Nat) (s : sj_Mem) : Option (Int × sj_Mem) :=
  f_X0_anchorSet_4 N N a0 0 0 s
def f_X0_greatestGround_4_b (N : Nat) (k4 : Nat → Int → Int → sj_Mem → Option (Int × sj_Mem)) (a0 : Nat) (x1 : Int) (x2 : Int) (s : sj_Mem) : Option (Int × sj_Mem) :=
  e_gI 0 0 a0 s fun v1 =>
  e_ilt v1 x2 (
    some (x1, s)) (
    e_gR 0 3 a0 s fun r2 =>
    e_nn r2 fun a3 =>
    e_aI 100 a3 x2 s fun v4 =>
    e_max x1 v4 fun v5 =>
    e_lt (x2 + 1) fun v6 =>
    k4 a0 v5 v6 s)
def f_X0_greatestGround_4 (N : Nat) : Nat → Nat → Int → Int → sj_Mem → Option (Int × sj_Mem)
  | 0 => fun _ _ _ _ => none
  | n + 1 => fun a0 x1 x2 s => f_X0_greatestGround_4_b N (f_X0_greatestGround_4 N n) a0 x1 x2 s
def f_X0_greatestGround (N : Nat) (a0 : Nat) (s : sj_Mem) : Option (Int × sj_Mem) :=
  f_X0_greatestGround_4 N N a0 0 0 s
def f_X0_allSoil_4_b (N : Nat) (k4 : Nat → Int → Int → sj_Mem → Option (Int × sj_Mem)) (a0 : Nat) (x1 : Int) (x2 : Int) (s : sj_Mem) : Option (Int × sj_Mem) :=
  e_gI 0 0 a0 s fun v1 =>
  e_ilt v1 x2 (
    some (x1, s)) (
    e_gR 0 3 a0 s fun r2 =>
    e_nn r2 fun a3 =>
    e_aI 100 a3 x2 s fun v4 =>
    e_gR 0 4 a0 s fun r5 =>
    e_nn r5 fun a6 =>
    e_aI 100 a6 x2 s fun v7 =>
    e_lt (x1 + (v4 - v7)) fun v8 =>
    e_lt (x2 + 1) fun v9 =>
    k4 a0 v8 v9 s)
def f_X0_allSoil_4 (N : Nat) : Nat → Nat → Int → Int → sj_Mem → Option (Int × sj_Mem)
  | 0 => fun _ _ _ _ => none
  | n + 1 => fun a0 x1 x2 s => f_X0_allSoil_4_b N (f_X0_allSoil_4 N n) a0 x1 x2 s
def f_X0_allSoil (N : Nat) (a0 : Nat) (s : sj_Mem) : Option (Int × sj_Mem) :=
  f_X0_allSoil_4 N N a0 0 0 s
def f_X0_thickAt_14 (N : Nat) (s : sj_Mem) : Option (Int × sj_Mem) :=
  some (0, s)
def f_X0_thickAt (N : Nat) (a0 : Nat) (x1 : Int) (s : sj_Mem) : Option (Int × sj_Mem) :=
  e_ilt x1 0 (
    f_X0_thickAt_14 N s) (
    e_gR 0 14 a0 s fun r1 =>
    e_nn r1 fun a2 =>
    e_cv 5 a2 s (f_X5_isNone N a2 s) fun v4 s3 =>
    e_ieq v4 0 (
      e_gR 0 3 a0 s3 fun r5 =>
      e_nn r5 fun a6 =>
      e_aI 100 a6 x1 s3 fun v7 =>
      e_gR 0 14 a0 s3 fun r8 =>
      e_nn r8 fun a9 =>
      e_gR 5 0 a9 s3 fun r10 =>
      e_nn r10 fun a11 =>
      e_aI 100 a11 x1 s3 fun v12 =>
      some (v7 - v12, s3)) (
      f_X0_thickAt_14 N s3))
def f_X0_thickest_46 (N : Nat) (k20 : Nat → Int → Int → sj_Mem → Option (Int × sj_Mem)) (a0 : Nat) (x1 : Int) (x2 : Int) (s : sj_Mem) : Option (Int × sj_Mem) :=
  e_lt (x2 + 1) fun v1 =>
  k20 a0 x1 v1 s
def f_X0_thickest_20_b (N : Nat) (k20 : Nat → Int → Int → sj_Mem → Option (Int × sj_Mem)) (a0 : Nat) (x1 : Int) (x2 : Int) (s : sj_Mem) : Option (Int × sj_Mem) :=
  e_gR 0 14 a0 s fun r1 =>
  e_nn r1 fun a2 =>
  e_gI 5 2 a2 s fun v3 =>
  e_ilt v3 x2 (
    some (x1, s)) (
    e_cv 0 a0 s (f_X0_thickAt N a0 x2 s) fun v5 s4 =>
    e_cv 0 a0 s4 (f_X0_thickAt N a0 x1 s4) fun v7 s6 =>
    e_ile v5 v7 (
      f_X0_thickest_46 N k20 a0 x1 x2 s6) (
      f_X0_thickest_46 N k20 a0 x2 x2 s6))
def f_X0_thickest_20 (N : Nat) : Nat → Nat → Int → Int → sj_Mem → Option (Int × sj_Mem)
  | 0 => fun _ _ _ _ => none
  | n + 1 => fun a0 x1 x2 s => f_X0_thickest_20_b N (f_X0_thickest_20 N n) a0 x1 x2 s
def f_X0_thickest (N : Nat) (a0 : Nat) (s : sj_Mem) : Option (Int × sj_Mem) :=
  e_gR 0 14 a0 s fun r1 =>
  e_nn r1 fun a2 =>
  e_gI 5 1 a2 s fun v3 =>
  e_gR 0 14 a0 s fun r4 =>
  e_nn r4 fun a5 =>
  e_gI 5 1 a5 s fun v6 =>
  e_max v6 0 fun v7 =>
  f_X0_thickest_20 N N a0 v3 v7 s
def f_X0_slipArea_14_b (N : Nat) (k14 : Nat → Int → Int → sj_Mem → Option (Int × sj_Mem)) (a0 : Nat) (x1 : Int) (x2 : Int) (s : sj_Mem) : Option (Int × sj_Mem) :=
  e_gR 0 14 a0 s fun r1 =>
  e_nn r1 fun a2 =>
  e_gI 5 2 a2 s fun v3 =>
  e_ile v3 x2 (
    some (x1, s)) (
    e_gI 0 1 a0 s fun v4 =>
    e_cv 0 a0 s (f_X0_thickAt N a0 x2 s) fun v6 s5 =>
    e_cv 0 a0 s5 (f_X0_thickAt N a0 (x2 + 1) s5) fun v8 s7 =>
    e_lt (x1 + (v4 * (v6 + v8))) fun v9 =>
    e_lt (x2 + 1) fun v10 =>
    k14 a0 v9 v10 s7)
def f_X0_slipArea_14 (N : Nat) : Nat → Nat → Int → Int → sj_Mem → Option (Int × sj_Mem)
  | 0 => fun _ _ _ _ => none
  | n + 1 => fun a0 x1 x2 s => f_X0_slipArea_14_b N (f_X0_slipArea_14 N n) a0 x1 x2 s
def f_X0_slipArea (N : Nat) (a0 : Nat) (s : sj_Mem) : Option (Int × sj_Mem) :=
  e_gR 0 14 a0 s fun r1 =>
  e_nn r1 fun a2 =>
  e_gI 5 1 a2 s fun v3 =>
  e_max v3 0 fun v4 =>
  f_X0_slipArea_14 N N a0 0 v4 s
def f_X0_dryUp (N : Nat) (a0 : Nat) (s : sj_Mem) : Option (Unit × sj_Mem) :=
  e_gR 0 5 a0 s fun r1 =>
  e_cl (f_J7_fill_53178 N r1 0 s) fun _u s2 =>
  some ((), s2)
def f_X0_raiseWater_2_b (N : Nat) (k2 : Nat → Int → sj_Mem → Option (Unit × sj_Mem)) (a0 : Nat) (x1 : Int) (s : sj_Mem) : Option (Unit × sj_Mem) :=
  e_gI 0 0 a0 s fun v1 =>
  e_ilt v1 x1 (
    some ((), s)) (
    e_gR 0 5 a0 s fun r2 =>
    e_gR 0 5 a0 s fun r3 =>
    e_nn r3 fun a4 =>
    e_aI 100 a4 x1 s fun v5 =>
    e_min (v5 + 1) 100 fun v6 =>
    e_nn r2 fun a7 =>
    e_uI 100 a7 x1 v6 s fun s8 =>
    e_lt (x1 + 1) fun v9 =>
    k2 a0 v9 s8)
def f_X0_raiseWater_2 (N : Nat) : Nat → Nat → Int → sj_Mem → Option (Unit × sj_Mem)
  | 0 => fun _ _ _ => none
  | n + 1 => fun a0 x1 s => f_X0_raiseWater_2_b N (f_X0_raiseWater_2 N n) a0 x1 s
def f_X0_raiseWater (N : Nat) (a0 : Nat) (s : sj_Mem) : Option (Unit × sj_Mem) :=
  f_X0_raiseWater_2 N N a0 0 s
def f_X0_turnRow_2_b (N : Nat) (k2 : Nat → Option Nat → Int → Int → sj_Mem → Option (Unit × sj_Mem)) (a0 : Nat) (x1 : Option Nat) (x2 : Int) (x3 : Int) (s : sj_Mem) : Option (Unit × sj_Mem) :=
  e_gI 0 0 a0 s fun v1 =>
  e_ile (v1 - x3) x3 (
    some ((), s)) (
    e_nn x1 fun a2 =>
    e_aI 100 a2 (x2 + x3) s fun v3 =>
    e_gI 0 0 a0 s fun v4 =>
    e_aI 100 a2 ((x2 + v4) - x3) s fun v5 =>
    e_uI 100 a2 (x2 + x3) v5 s fun s6 =>
    e_gI 0 0 a0 s6 fun v7 =>
    e_uI 100 a2 ((x2 + v7) - x3) v3 s6 fun s8 =>
    e_lt (x3 + 1) fun v9 =>
    k2 a0 (some a2) x2 v9 s8)
def f_X0_turnRow_2 (N : Nat) : Nat → Nat → Option Nat → Int → Int → sj_Mem → Option (Unit × sj_Mem)
  | 0 => fun _ _ _ _ _ => none
  | n + 1 => fun a0 x1 x2 x3 s => f_X0_turnRow_2_b N (f_X0_turnRow_2 N n) a0 x1 x2 x3 s
def f_X0_turnRow (N : Nat) (a0 : Nat) (x1 : Option Nat) (x2 : Int) (s : sj_Mem) : Option (Unit × sj_Mem) :=
  f_X0_turnRow_2 N N a0 x1 x2 0 s
def f_X0_turn_64_b (N : Nat) (k64 : Nat → Int → sj_Mem → Option (Unit × sj_Mem)) (a0 : Nat) (x1 : Int) (s : sj_Mem) : Option (Unit × sj_Mem) :=
  e_ile 6 x1 (
    e_gR 0 14 a0 s fun r1 =>
    e_nn r1 fun a2 =>
    e_gR 5 0 a2 s fun r3 =>
    e_cv 0 a0 s (f_X0_turnRow N a0 r3 0 s) fun _u s4 =>
    e_gR 0 14 a0 s4 fun r5 =>
    e_nn r5 fun a6 =>
    e_cv 5 a6 s4 (f_X5_isNone N a6 s4) fun v8 s7 =>
    e_ieq v8 0 (
      e_gI 0 0 a0 s7 fun v9 =>
      e_gR 0 14 a0 s7 fun r10 =>
      e_nn r10 fun a11 =>
      e_gI 5 2 a11 s7 fun v12 =>
      e_lt (v9 - v12) fun v13 =>
      e_gR 0 14 a0 s7 fun r14 =>
      e_gI 0 0 a0 s7 fun v15 =>
      e_gR 0 14 a0 s7 fun r16 =>
      e_nn r16 fun a17 =>
      e_gI 5 1 a17 s7 fun v18 =>
      e_nn r14 fun a19 =>
      e_pI 5 2 a19 (v15 - v18) s7 fun s20 =>
      e_gR 0 14 a0 s20 fun r21 =>
      e_nn r21 fun a22 =>
      e_pI 5 1 a22 v13 s20 fun s23 =>
      e_gR 0 14 a0 s23 fun r24 =>
      e_gR 0 14 a0 s23 fun r25 =>
      e_nn r25 fun a26 =>
      e_gI 5 3 a26 s23 fun v27 =>
      e_ieq v27 0 (
        e_nn r24 fun a30 =>
        e_pZ 5 3 a30 1 s23 fun s31 =>
        some ((), s31)) (
        e_nn r24 fun a28 =>
        e_pZ 5 3 a28 0 s23 fun s29 =>
        some ((), s29))) (
      some ((), s7))) (
    e_gR 0 11 a0 s fun r32 =>
    e_gI 0 0 a0 s fun v33 =>
    e_gR 0 11 a0 s fun r34 =>
    e_nn r34 fun a35 =>
    e_aI 100 a35 x1 s fun v36 =>
    e_nn r32 fun a37 =>
    e_uI 100 a37 x1 (v33 - v36) s fun s38 =>
    e_lt (x1 + 1) fun v39 =>
    k64 a0 v39 s38)
def f_X0_turn_64 (N : Nat) : Nat → Nat → Int → sj_Mem → Option (Unit × sj_Mem)
  | 0 => fun _ _ _ => none
  | n + 1 => fun a0 x1 s => f_X0_turn_64_b N (f_X0_turn_64 N n) a0 x1 s
def f_X0_turn_38_b (N : Nat) (k38 : Nat → Int → sj_Mem → Option (Unit × sj_Mem)) (a0 : Nat) (x1 : Int) (s : sj_Mem) : Option (Unit × sj_Mem) :=
  e_ile 4 x1 (
    f_X0_turn_64 N N a0 0 s) (
    e_gR 0 7 a0 s fun r1 =>
    e_cl (f_X8_topPlace N x1 0 s) fun v3 s2 =>
    e_cv 0 a0 s2 (f_X0_turnRow N a0 r1 v3 s2) fun _u s4 =>
    e_lt (x1 + 1) fun v5 =>
    k38 a0 v5 s4)
def f_X0_turn_38 (N : Nat) : Nat → Nat → Int → sj_Mem → Option (Unit × sj_Mem)
  | 0 => fun _ _ _ => none
  | n + 1 => fun a0 x1 s => f_X0_turn_38_b N (f_X0_turn_38 N n) a0 x1 s
def f_X0_turn (N : Nat) (a0 : Nat) (s : sj_Mem) : Option (Unit × sj_Mem) :=
  e_gR 0 3 a0 s fun r1 =>
  e_cv 0 a0 s (f_X0_turnRow N a0 r1 0 s) fun _u s2 =>
  e_gR 0 4 a0 s2 fun r3 =>
  e_cv 0 a0 s2 (f_X0_turnRow N a0 r3 0 s2) fun _u s4 =>
  e_gR 0 5 a0 s4 fun r5 =>
  e_cv 0 a0 s4 (f_X0_turnRow N a0 r5 0 s4) fun _u s6 =>
  e_gR 0 6 a0 s6 fun r7 =>
  e_cv 0 a0 s6 (f_X0_turnRow N a0 r7 0 s6) fun _u s8 =>
  f_X0_turn_38 N N a0 1 s8
def f_X1_init (N : Nat) (a0 : Nat) (s : sj_Mem) : Option (Unit × sj_Mem) :=
  e_nA 100 12 s fun a1 s2 =>
  e_pR 1 0 a0 (some a1) s2 fun s3 =>
  e_nA 100 12 s3 fun a4 s5 =>
  e_pR 1 1 a0 (some a4) s5 fun s6 =>
  some ((), s6)
def f_X1_copy (N : Nat) (a0 : Nat) (x1 : Option Nat) (s : sj_Mem) : Option (Unit × sj_Mem) :=
  e_nn x1 fun a1 =>
  e_gR 1 0 a1 s fun r2 =>
  e_gR 1 0 a0 s fun r3 =>
  e_nn r2 fun a4 =>
  e_nn r3 fun a5 =>
  e_cp a4 0 a5 0 12 s fun s6 =>
  e_gR 1 1 a1 s6 fun r7 =>
  e_gR 1 1 a0 s6 fun r8 =>
  e_nn r7 fun a9 =>
  e_nn r8 fun a10 =>
  e_cp a9 0 a10 0 12 s6 fun s11 =>
  e_gI 1 2 a1 s11 fun v12 =>
  e_pI 1 2 a0 v12 s11 fun s13 =>
  e_gI 1 3 a1 s13 fun v14 =>
  e_pI 1 3 a0 v14 s13 fun s15 =>
  some ((), s15)
def f_X1_draw (N : Nat) (a0 : Nat) (x1 : Int) (s : sj_Mem) : Option (Int × sj_Mem) :=
  e_gI 1 3 a0 s fun v1 =>
  e_pI 1 3 a0 ((1664525 * v1) + 1013904223) s fun s2 =>
  e_ilt 0 x1 (
    e_gI 1 3 a0 s2 fun v3 =>
    e_ush v3 8 fun v4 =>
    e_rI v4 x1 fun v5 =>
    some (v5, s2)) (
    some (0, s2))
def f_X2_init (N : Nat) (a0 : Nat) (s : sj_Mem) : Option (Unit × sj_Mem) :=
  e_nA 100 16 s fun a1 s2 =>
  e_pR 2 0 a0 (some a1) s2 fun s3 =>
  some ((), s3)
def f_X2_write (N : Nat) (a0 : Nat) (x1 : Int) (s : sj_Mem) : Option (Unit × sj_Mem) :=
  e_gI 2 1 a0 s fun v1 =>
  e_ile 16 v1 (
    some ((), s)) (
    e_gR 2 0 a0 s fun r2 =>
    e_gI 2 1 a0 s fun v3 =>
    e_nn r2 fun a4 =>
    e_uI 100 a4 v3 x1 s fun s5 =>
    e_gI 2 1 a0 s5 fun v6 =>
    e_pI 2 1 a0 (v6 + 1) s5 fun s7 =>
    some ((), s7))
def f_X2_writeNumber_20 (N : Nat) (a0 : Nat) (x1 : Int) (s : sj_Mem) : Option (Unit × sj_Mem) :=
  e_rI x1 10 fun v1 =>
  e_cv 2 a0 s (f_X2_write N a0 (48 + v1) s) fun _u s2 =>
  some ((), s2)
def f_X2_writeNumber (N : Nat) (a0 : Nat) (x1 : Int) (s : sj_Mem) : Option (Unit × sj_Mem) :=
  e_ilt x1 10 (
    f_X2_writeNumber_20 N a0 x1 s) (
    e_dI x1 10 fun v1 =>
    e_rI v1 10 fun v2 =>
    e_cv 2 a0 s (f_X2_write N a0 (48 + v2) s) fun _u s3 =>
    f_X2_writeNumber_20 N a0 x1 s3)
def f_X2_writeFactor (N : Nat) (a0 : Nat) (x1 : Int) (s : sj_Mem) : Option (Unit × sj_Mem) :=
  e_dI x1 1000 fun v1 =>
  e_cv 2 a0 s (f_X2_writeNumber N a0 v1 s) fun _u s2 =>
  e_cv 2 a0 s2 (f_X2_write N a0 46 s2) fun _u s3 =>
  e_dI x1 100 fun v4 =>
  e_rI v4 10 fun v5 =>
  e_cv 2 a0 s3 (f_X2_write N a0 (48 + v5) s3) fun _u s6 =>
  e_dI x1 10 fun v7 =>
  e_rI v7 10 fun v8 =>
  e_cv 2 a0 s6 (f_X2_write N a0 (48 + v8) s6) fun _u s9 =>
  e_rI x1 10 fun v10 =>
  e_cv 2 a0 s9 (f_X2_write N a0 (48 + v10) s9) fun _u s11 =>
  some ((), s11)
def f_X4_init (N : Nat) (a0 : Nat) (s : sj_Mem) : Option (Unit × sj_Mem) :=
  e_nA 100 41 s fun a1 s2 =>
  e_pR 4 0 a0 (some a1) s2 fun s3 =>
  e_nA 100 41 s3 fun a4 s5 =>
  e_pR 4 1 a0 (some a4) s5 fun s6 =>
  e_nA 100 41 s6 fun a7 s8 =>
  e_pR 4 2 a0 (some a7) s8 fun s9 =>
  e_nA 100 41 s9 fun a10 s11 =>
  e_pR 4 3 a0 (some a10) s11 fun s12 =>
  e_nA 101 41 s12 fun a13 s14 =>
  e_pR 4 4 a0 (some a13) s14 fun s15 =>
  e_nA 101 41 s15 fun a16 s17 =>
  e_pR 4 5 a0 (some a16) s17 fun s18 =>
  e_nA 101 41 s18 fun a19 s20 =>
  e_pR 4 6 a0 (some a19) s20 fun s21 =>
  e_nA 101 41 s21 fun a22 s23 =>
  e_pR 4 7 a0 (some a22) s23 fun s24 =>
  some ((), s24)
def f_X3_init (N : Nat) (a0 : Nat) (s : sj_Mem) : Option (Unit × sj_Mem) :=
  e_nO 5 4 s fun a1 s2 =>
  e_cl (f_X5_init N a1 s2) fun _u s3 =>
  e_pR 3 0 a0 (some a1) s3 fun s4 =>
  e_nO 4 11 s4 fun a5 s6 =>
  e_cl (f_X4_init N a5 s6) fun _u s7 =>
  e_pR 3 1 a0 (some a5) s7 fun s8 =>
  some ((), s8)
def f_X8_isCircle (N : Nat) (x0 : Int) (x1 : Int) (x2 : Int) (s : sj_Mem) : Option (Int × sj_Mem) :=
  e_ilt x0 ((-50)) (
    e_z 0 s) (
    e_ilt 450 x0 (
      e_z 0 s) (
      e_ilt x1 ((-50)) (
        e_z 0 s) (
        e_ilt 450 x1 (
          e_z 0 s) (
          e_ilt x2 1 (
            e_z 0 s) (
            e_ilt 500 x2 (
              e_z 0 s) (
              e_z 1 s))))))
def f_X5_span (N : Nat) (a0 : Nat) (x1 : Option Nat) (x2 : Int) (x3 : Int) (x4 : Int) (s : sj_Mem) : Option (Unit × sj_Mem) :=
  e_pI 5 1 a0 x2 s fun s1 =>
  e_pI 5 2 a0 x3 s1 fun s2 =>
  e_pZ 5 3 a0 x4 s2 fun s3 =>
  e_gR 5 0 a0 s3 fun r4 =>
  e_nn x1 fun a5 =>
  e_gR 0 3 a5 s3 fun r6 =>
  e_nn r6 fun a7 =>
  e_aI 100 a7 x2 s3 fun v8 =>
  e_nn r4 fun a9 =>
  e_uI 100 a9 x2 v8 s3 fun s10 =>
  e_gR 5 0 a0 s10 fun r11 =>
  e_gR 0 3 a5 s10 fun r12 =>
  e_nn r12 fun a13 =>
  e_aI 100 a13 x3 s10 fun v14 =>
  e_nn r11 fun a15 =>
  e_uI 100 a15 x3 v14 s10 fun s16 =>
  some ((), s16)
def f_X8_rootOf_23 (N : Nat) (k6 : Int → Int → Int → sj_Mem → Option (Int × sj_Mem)) (x0 : Int) (x1 : Int) (x2 : Int) (s : sj_Mem) : Option (Int × sj_Mem) :=
  e_dI x2 2 fun v1 =>
  k6 x0 x1 v1 s
def f_X8_rootOf_6_b (N : Nat) (k6 : Int → Int → Int → sj_Mem → Option (Int × sj_Mem)) (x0 : Int) (x1 : Int) (x2 : Int) (s : sj_Mem) : Option (Int × sj_Mem) :=
  e_ile x2 0 (
    some (x1, s)) (
    e_lt (x1 + x2) fun v1 =>
    e_ilt x0 (v1 * v1) (
      f_X8_rootOf_23 N k6 x0 x1 x2 s) (
      f_X8_rootOf_23 N k6 x0 v1 x2 s))
def f_X8_rootOf_6 (N : Nat) : Nat → Int → Int → Int → sj_Mem → Option (Int × sj_Mem)
  | 0 => fun _ _ _ _ => none
  | n + 1 => fun x0 x1 x2 s => f_X8_rootOf_6_b N (f_X8_rootOf_6 N n) x0 x1 x2 s
def f_X8_rootOf (N : Nat) (x0 : Int) (s : sj_Mem) : Option (Int × sj_Mem) :=
  f_X8_rootOf_6 N N x0 0 256 s
def f_X5_cut_123 (N : Nat) (k9 : Nat → Option Nat → Int → Int → Int → Int → Int → Int → Int → sj_Mem → Option (Int × sj_Mem)) (a0 : Nat) (x1 : Option Nat) (x2 : Int) (x3 : Int) (x4 : Int) (x5 : Int) (x6 : Int) (x7 : Int) (x8 : Int) (s : sj_Mem) : Option (Int × sj_Mem) :=
  e_lt (x8 + 1) fun v1 =>
  k9 a0 x1 x2 x3 x4 x5 x6 x7 v1 s
def f_X5_cut_129 (N : Nat) (a0 : Nat) (x1 : Option Nat) (x5 : Int) (x6 : Int) (x7 : Int) (s : sj_Mem) : Option (Int × sj_Mem) :=
  e_ilt x6 1 (
    e_z 0 s) (
    e_nn x1 fun a1 =>
    e_gI 0 0 a1 s fun v2 =>
    e_ilt x7 v2 (
      e_cv 5 a0 s (f_X5_span N a0 (some a1) (x6 - 1) (x7 + 1) x5 s) fun _u s3 =>
      e_z 1 s3) (
      e_z 0 s))
def f_X5_cut_74 (N : Nat) (k9 : Nat → Option Nat → Int → Int → Int → Int → Int → Int → Int → sj_Mem → Option (Int × sj_Mem)) (a0 : Nat) (x1 : Option Nat) (x2 : Int) (x3 : Int) (x4 : Int) (x5 : Int) (x6 : Int) (x7 : Int) (x8 : Int) (y0 : Int) (s : sj_Mem) : Option (Int × sj_Mem) :=
  e_nn x1 fun a1 =>
  e_gR 0 3 a1 s fun r2 =>
  e_nn r2 fun a3 =>
  e_aI 100 a3 x8 s fun v4 =>
  e_ile v4 y0 (
    e_ieq x6 ((-1)) (
      f_X5_cut_123 N k9 a0 (some a1) x2 x3 x4 x5 x6 x7 x8 s) (
      f_X5_cut_129 N a0 (some a1) x5 x6 x7 s)) (
    e_gR 5 0 a0 s fun r5 =>
    e_nn r5 fun a6 =>
    e_uI 100 a6 x8 y0 s fun s7 =>
    e_ieq x6 ((-1)) (
      f_X5_cut_123 N k9 a0 (some a1) x2 x3 x4 x5 x8 x8 x8 s7) (
      f_X5_cut_123 N k9 a0 (some a1) x2 x3 x4 x5 x6 x8 x8 s7))
def f_X5_cut_9_b (N : Nat) (k9 : Nat → Option Nat → Int → Int → Int → Int → Int → Int → Int → sj_Mem → Option (Int × sj_Mem)) (a0 : Nat) (x1 : Option Nat) (x2 : Int) (x3 : Int) (x4 : Int) (x5 : Int) (x6 : Int) (x7 : Int) (x8 : Int) (s : sj_Mem) : Option (Int × sj_Mem) :=
  e_nn x1 fun a1 =>
  e_gI 0 0 a1 s fun v2 =>
  e_ilt v2 x8 (
    f_X5_cut_129 N a0 (some a1) x5 x6 x7 s) (
    e_gI 0 1 a1 s fun v3 =>
    e_lt ((v3 * x8) - x2) fun v4 =>
    e_lt ((x4 * x4) - (v4 * v4)) fun v5 =>
    e_ile 0 v5 (
      e_cl (f_X8_rootOf N v5 s) fun v7 s6 =>
      e_gR 0 4 a1 s6 fun r8 =>
      e_nn r8 fun a9 =>
      e_aI 100 a9 x8 s6 fun v10 =>
      e_max (x3 - v7) v10 fun v11 =>
      f_X5_cut_74 N k9 a0 (some a1) x2 x3 x4 x5 x6 x7 x8 v11 s6) (
      e_gR 0 3 a1 s fun r12 =>
      e_nn r12 fun a13 =>
      e_aI 100 a13 x8 s fun v14 =>
      f_X5_cut_74 N k9 a0 (some a1) x2 x3 x4 x5 x6 x7 x8 v14 s))
def f_X5_cut_9 (N : Nat) : Nat → Nat → Option Nat → Int → Int → Int → Int → Int → Int → Int → sj_Mem → Option (Int × sj_Mem)
  | 0 => fun _ _ _ _ _ _ _ _ _ _ => none
  | n + 1 => fun a0 x1 x2 x3 x4 x5 x6 x7 x8 s => f_X5_cut_9_b N (f_X5_cut_9 N n) a0 x1 x2 x3 x4 x5 x6 x7 x8 s
def f_X5_cut (N : Nat) (a0 : Nat) (x1 : Option Nat) (x2 : Int) (x3 : Int) (x4 : Int) (x5 : Int) (s : sj_Mem) : Option (Int × sj_Mem) :=
  f_X5_cut_9 N N a0 x1 x2 x3 x4 x5 ((-1)) ((-1)) 0 s
def f_X5_count (N : Nat) (a0 : Nat) (s : sj_Mem) : Option (Int × sj_Mem) :=
  e_gI 5 2 a0 s fun v1 =>
  e_gI 5 1 a0 s fun v2 =>
  some (v1 - v2, s)
def f_X4_weigh_161 (N : Nat) (k73 : Nat → Option Nat → Option Nat → Int → Int → Int → sj_Mem → Option (Unit × sj_Mem)) (a0 : Nat) (x1 : Option Nat) (x2 : Option Nat) (x3 : Int) (x4 : Int) (x5 : Int) (x6 : Int) (x7 : Int) (x8 : Int) (x9 : Int) (x10 : Int) (y0 : Int) (y1 : Int) (y2 : Option Nat) (s : sj_Mem) : Option (Unit × sj_Mem) :=
  e_nn y2 fun a1 =>
  e_uI 100 a1 y1 y0 s fun s2 =>
  e_gR 4 1 a0 s2 fun r3 =>
  e_gI 4 9 a0 s2 fun v4 =>
  e_nn r3 fun a5 =>
  e_uI 100 a5 x5 (v4 * (x3 + x9)) s2 fun s6 =>
  e_gR 4 2 a0 s6 fun r7 =>
  e_gI 4 9 a0 s6 fun v8 =>
  e_nn r7 fun a9 =>
  e_uI 100 a9 x5 ((10 * v8) * (x4 + x10)) s6 fun s10 =>
  e_gR 4 3 a0 s10 fun r11 =>
  e_nn x1 fun a12 =>
  e_cv 0 a12 s10 (f_X0_layerUnder N a12 x6 (x7 + x8) s10) fun v14 s13 =>
  e_nn r11 fun a15 =>
  e_uI 100 a15 x5 v14 s13 fun s16 =>
  e_lt (x5 + 1) fun v17 =>
  k73 a0 (some a12) x2 x9 x10 v17 s16
def f_X4_weigh_73_b (N : Nat) (k73 : Nat → Option Nat → Option Nat → Int → Int → Int → sj_Mem → Option (Unit × sj_Mem)) (a0 : Nat) (x1 : Option Nat) (x2 : Option Nat) (x3 : Int) (x4 : Int) (x5 : Int) (s : sj_Mem) : Option (Unit × sj_Mem) :=
  e_gI 4 8 a0 s fun v1 =>
  e_ile v1 x5 (
    some ((), s)) (
    e_nn x2 fun a2 =>
    e_gI 5 1 a2 s fun v3 =>
    e_lt (v3 + x5) fun v4 =>
    e_gR 5 0 a2 s fun r5 =>
    e_nn r5 fun a6 =>
    e_aI 100 a6 v4 s fun v7 =>
    e_gR 5 0 a2 s fun r8 =>
    e_nn r8 fun a9 =>
    e_aI 100 a9 (v4 + 1) s fun v10 =>
    e_nn x1 fun a11 =>
    e_cv 0 a11 s (f_X0_weightOn N a11 (v4 + 1) v10 s) fun v13 s12 =>
    e_cv 0 a11 s12 (f_X0_headOn N a11 (v4 + 1) v10 s12) fun v15 s14 =>
    e_gR 4 0 a0 s14 fun r16 =>
    e_gI 5 3 a2 s14 fun v17 =>
    e_ieq v17 0 (
      f_X4_weigh_161 N k73 a0 (some a11) (some a2) x3 x4 x5 v4 v7 v10 v13 v15 (v7 - v10) x5 r16 s14) (
      f_X4_weigh_161 N k73 a0 (some a11) (some a2) x3 x4 x5 v4 v7 v10 v13 v15 (v10 - v7) x5 r16 s14))
def f_X4_weigh_73 (N : Nat) : Nat → Nat → Option Nat → Option Nat → Int → Int → Int → sj_Mem → Option (Unit × sj_Mem)
  | 0 => fun _ _ _ _ _ _ _ => none
  | n + 1 => fun a0 x1 x2 x3 x4 x5 s => f_X4_weigh_73_b N (f_X4_weigh_73 N n) a0 x1 x2 x3 x4 x5 s
def f_X4_weigh (N : Nat) (a0 : Nat) (x1 : Option Nat) (x2 : Option Nat) (s : sj_Mem) : Option (Unit × sj_Mem) :=
  e_nn x1 fun a1 =>
  e_gI 0 1 a1 s fun v2 =>
  e_pI 4 9 a0 v2 s fun s3 =>
  e_nn x2 fun a4 =>
  e_cv 5 a4 s3 (f_X5_count N a4 s3) fun v6 s5 =>
  e_pI 4 8 a0 v6 s5 fun s7 =>
  e_cv 0 a1 s7 (f_X0_pullsOn N a1 (some a4) s7) fun v9 s8 =>
  e_pI 4 10 a0 v9 s8 fun s10 =>
  e_cv 5 a4 s10 (f_X5_isNone N a4 s10) fun v12 s11 =>
  e_ieq v12 0 (
    e_gI 5 1 a4 s11 fun v13 =>
    e_gR 5 0 a4 s11 fun r14 =>
    e_gI 5 1 a4 s11 fun v15 =>
    e_nn r14 fun a16 =>
    e_aI 100 a16 v15 s11 fun v17 =>
    e_cv 0 a1 s11 (f_X0_weightOn N a1 v13 v17 s11) fun v19 s18 =>
    e_gI 5 1 a4 s18 fun v20 =>
    e_gR 5 0 a4 s18 fun r21 =>
    e_gI 5 1 a4 s18 fun v22 =>
    e_nn r21 fun a23 =>
    e_aI 100 a23 v22 s18 fun v24 =>
    e_cv 0 a1 s18 (f_X0_headOn N a1 v20 v24 s18) fun v26 s25 =>
    f_X4_weigh_73 N N a0 (some a1) (some a4) v19 v26 0 s25) (
    some ((), s11))
def f_X4_press (N : Nat) (a0 : Nat) (x1 : Int) (s : sj_Mem) : Option (Int × sj_Mem) :=
  e_gR 4 1 a0 s fun r1 =>
  e_nn r1 fun a2 =>
  e_aI 100 a2 x1 s fun v3 =>
  e_gR 4 2 a0 s fun r4 =>
  e_nn r4 fun a5 =>
  e_aI 100 a5 x1 s fun v6 =>
  e_max 0 (v3 - v6) fun v7 =>
  some (v7, s)
def f_X4_settle_2_b (N : Nat) (k2 : Nat → Option Nat → Int → Int → sj_Mem → Option (Unit × sj_Mem)) (a0 : Nat) (x1 : Option Nat) (x2 : Int) (x3 : Int) (s : sj_Mem) : Option (Unit × sj_Mem) :=
  e_gI 4 8 a0 s fun v1 =>
  e_ile v1 x3 (
    some ((), s)) (
    e_nn x1 fun a2 =>
    e_gR 0 10 a2 s fun r3 =>
    e_gR 4 3 a0 s fun r4 =>
    e_nn r4 fun a5 =>
    e_aI 100 a5 x3 s fun v6 =>
    e_nn r3 fun a7 =>
    e_aI 100 a7 v6 s fun v8 =>
    e_gR 4 4 a0 s fun r9 =>
    e_gR 0 9 a2 s fun r10 =>
    e_gR 4 3 a0 s fun r11 =>
    e_nn r11 fun a12 =>
    e_aI 100 a12 x3 s fun v13 =>
    e_nn r10 fun a14 =>
    e_aI 100 a14 v13 s fun v15 =>
    e_wid (v15 + x2) fun v16 =>
    e_gI 4 9 a0 s fun v17 =>
    e_wid v17 fun v18 =>
    e_cv 4 a0 s (f_X4_press N a0 x3 s) fun v20 s19 =>
    e_wid v20 fun v21 =>
    e_wid v8 fun v22 =>
    e_nn r9 fun a23 =>
    e_uI 101 a23 x3 (((2000 * v16) * v18) + (v21 * v22)) s19 fun s24 =>
    e_gR 4 5 a0 s24 fun r25 =>
    e_gR 4 1 a0 s24 fun r26 =>
    e_nn r26 fun a27 =>
    e_aI 100 a27 x3 s24 fun v28 =>
    e_wid v28 fun v29 =>
    e_gR 4 0 a0 s24 fun r30 =>
    e_nn r30 fun a31 =>
    e_aI 100 a31 x3 s24 fun v32 =>
    e_wid v32 fun v33 =>
    e_gI 0 2 a2 s24 fun v34 =>
    e_gI 4 9 a0 s24 fun v35 =>
    e_wid (v34 * v35) fun v36 =>
    e_nn r25 fun a37 =>
    e_uI 101 a37 x3 (v29 * ((1000 * v33) + v36)) s24 fun s38 =>
    e_gR 4 6 a0 s38 fun r39 =>
    e_gR 4 4 a0 s38 fun r40 =>
    e_nn r40 fun a41 =>
    e_aI 101 a41 x3 s38 fun v42 =>
    e_gI 4 9 a0 s38 fun v43 =>
    e_gI 4 9 a0 s38 fun v44 =>
    e_gR 4 0 a0 s38 fun r45 =>
    e_nn r45 fun a46 =>
    e_aI 100 a46 x3 s38 fun v47 =>
    e_gR 4 0 a0 s38 fun r48 =>
    e_nn r48 fun a49 =>
    e_aI 100 a49 x3 s38 fun v50 =>
    e_wid ((v43 * v44) + (v47 * v50)) fun v51 =>
    e_nn r39 fun a52 =>
    e_uI 101 a52 x3 (v42 * v51) s38 fun s53 =>
    e_gR 4 7 a0 s53 fun r54 =>
    e_gR 4 0 a0 s53 fun r55 =>
    e_nn r55 fun a56 =>
    e_aI 100 a56 x3 s53 fun v57 =>
    e_wid v57 fun v58 =>
    e_wid v8 fun v59 =>
    e_nn r54 fun a60 =>
    e_uI 101 a60 x3 (v58 * v59) s53 fun s61 =>
    e_lt (x3 + 1) fun v62 =>
    k2 a0 (some a2) x2 v62 s61)
def f_X4_settle_2 (N : Nat) : Nat → Nat → Option Nat → Int → Int → sj_Mem → Option (Unit × sj_Mem)
  | 0 => fun _ _ _ _ _ => none
  | n + 1 => fun a0 x1 x2 x3 s => f_X4_settle_2_b N (f_X4_settle_2 N n) a0 x1 x2 x3 s
def f_X4_settle (N : Nat) (a0 : Nat) (x1 : Option Nat) (x2 : Int) (s : sj_Mem) : Option (Unit × sj_Mem) :=
  f_X4_settle_2 N N a0 x1 x2 0 s
def f_X4_lack_22_b (N : Nat) (k22 : Nat → Int → Int → Int → Int → Int → sj_Mem → Option (Int × sj_Mem)) (a0 : Nat) (x1 : Int) (x2 : Int) (x4 : Int) (x6 : Int) (x8 : Int) (s : sj_Mem) : Option (Int × sj_Mem) :=
  e_gI 4 8 a0 s fun v1 =>
  e_ile v1 x8 (
    e_lle x4 1000000000000000 (
      e_wid x1 fun v2 =>
      some ((v2 * x6) - (1000 * x4), s)) (
      some (0, s))) (
    e_gR 4 7 a0 s fun r3 =>
    e_nn r3 fun a4 =>
    e_aI 101 a4 x8 s fun v5 =>
    e_lt (x2 + v5) fun v6 =>
    e_llt 0 v6 (
      e_gR 4 6 a0 s fun r7 =>
      e_nn r7 fun a8 =>
      e_aI 101 a8 x8 s fun v9 =>
      e_wid x1 fun v10 =>
      e_dJ (v9 * v10) v6 fun v11 =>
      e_lt (x4 + v11) fun v12 =>
      e_gR 4 5 a0 s fun r13 =>
      e_nn r13 fun a14 =>
      e_aI 101 a14 x8 s fun v15 =>
      e_lt (x6 + v15) fun v16 =>
      e_lt (x8 + 1) fun v17 =>
      k22 a0 x1 x2 v12 v16 v17 s) (
      some (0, s)))
def f_X4_lack_22 (N : Nat) : Nat → Nat → Int → Int → Int → Int → Int → sj_Mem → Option (Int × sj_Mem)
  | 0 => fun _ _ _ _ _ _ _ => none
  | n + 1 => fun a0 x1 x2 x4 x6 x8 s => f_X4_lack_22_b N (f_X4_lack_22 N n) a0 x1 x2 x4 x6 x8 s
def f_X4_lack (N : Nat) (a0 : Nat) (x1 : Int) (s : sj_Mem) : Option (Int × sj_Mem) :=
  e_gI 4 9 a0 s fun v1 =>
  e_wid v1 fun v2 =>
  e_wid x1 fun v3 =>
  e_lt (v2 * v3) fun v4 =>
  e_gI 4 10 a0 s fun v5 =>
  e_lt (-v5) fun v6 =>
  f_X4_lack_22 N N a0 x1 v4 0 v6 0 s
def f_X4_hold (N : Nat) (a0 : Nat) (x1 : Int) (s : sj_Mem) : Option (Int × sj_Mem) :=
  e_cv 4 a0 s (f_X4_lack N a0 x1 s) fun v2 s1 =>
  e_llt 0 v2 (
    e_z 0 s1) (
    e_z 1 s1)
def f_X4_leastBound_53 (N : Nat) (k9 : Nat → Int → Int → Int → Int → sj_Mem → Option (Int × sj_Mem)) (a0 : Nat) (x1 : Int) (x2 : Int) (x3 : Int) (x4 : Int) (s : sj_Mem) : Option (Int × sj_Mem) :=
  e_lt (x4 + 1) fun v1 =>
  k9 a0 x1 x2 x3 v1 s
def f_X4_leastBound_9_b (N : Nat) (k9 : Nat → Int → Int → Int → Int → sj_Mem → Option (Int × sj_Mem)) (a0 : Nat) (x1 : Int) (x2 : Int) (x3 : Int) (x4 : Int) (s : sj_Mem) : Option (Int × sj_Mem) :=
  e_ile 15 x4 (
    some (x2, s)) (
    e_ile (x3 - x2) 1 (
      some (x2, s)) (
      e_ile x1 x2 (
        some (x2, s)) (
        e_dI (x2 + x3) 2 fun v1 =>
        e_cv 4 a0 s (f_X4_hold N a0 v1 s) fun v3 s2 =>
        e_ieq v3 0 (
          f_X4_leastBound_53 N k9 a0 x1 x2 v1 x4 s2) (
          f_X4_leastBound_53 N k9 a0 x1 v1 x3 x4 s2))))
def f_X4_leastBound_9 (N : Nat) : Nat → Nat → Int → Int → Int → Int → sj_Mem → Option (Int × sj_Mem)
  | 0 => fun _ _ _ _ _ _ => none
  | n + 1 => fun a0 x1 x2 x3 x4 s => f_X4_leastBound_9_b N (f_X4_leastBound_9 N n) a0 x1 x2 x3 x4 s
def f_X4_leastBound (N : Nat) (a0 : Nat) (x1 : Int) (s : sj_Mem) : Option (Int × sj_Mem) :=
  f_X4_leastBound_9 N N a0 x1 0 20001 0 s
def f_X3_ask (N : Nat) (a0 : Nat) (x1 : Option Nat) (x2 : Int) (x3 : Int) (x4 : Int) (x5 : Int) (x6 : Int) (s : sj_Mem) : Option (Int × sj_Mem) :=
  e_cl (f_X8_isCircle N x2 x3 x4 s) fun v2 s1 =>
  e_ieq v2 0 (
    some ((-1), s1)) (
    e_gR 3 0 a0 s1 fun r3 =>
    e_nn r3 fun a4 =>
    e_cv 5 a4 s1 (f_X5_cut N a4 x1 x2 x3 x4 x5 s1) fun v6 s5 =>
    e_ieq v6 0 (
      some ((-1), s5)) (
      e_gR 3 1 a0 s5 fun r7 =>
      e_gR 3 0 a0 s5 fun r8 =>
      e_nn r7 fun a9 =>
      e_cv 4 a9 s5 (f_X4_weigh N a9 x1 r8 s5) fun _u s10 =>
      e_gR 3 1 a0 s10 fun r11 =>
      e_nn r11 fun a12 =>
      e_cv 4 a12 s10 (f_X4_settle N a12 x1 0 s10) fun _u s13 =>
      e_gR 3 1 a0 s13 fun r14 =>
      e_nn r14 fun a15 =>
      e_cv 4 a15 s13 (f_X4_leastBound N a15 x6 s13) fun v17 s16 =>
      some (v17, s16)))
def f_X3_off (N : Nat) (x0 : Int) (x1 : Int) (s : sj_Mem) : Option (Int × sj_Mem) :=
  some ((x0 - 1) * x1, s)
def f_X3_goOn_92 (N : Nat) (k6 : Nat → Option Nat → Int → Int → Int → Int → sj_Mem → Option (Int × sj_Mem)) (a0 : Nat) (x1 : Option Nat) (x2 : Int) (x3 : Int) (x4 : Int) (x5 : Int) (s : sj_Mem) : Option (Int × sj_Mem) :=
  e_lt (x5 + 1) fun v1 =>
  k6 a0 x1 x2 x3 x4 v1 s
def f_X3_goOn_6_b (N : Nat) (k6 : Nat → Option Nat → Int → Int → Int → Int → sj_Mem → Option (Int × sj_Mem)) (a0 : Nat) (x1 : Option Nat) (x2 : Int) (x3 : Int) (x4 : Int) (x5 : Int) (s : sj_Mem) : Option (Int × sj_Mem) :=
  e_ile 27 x5 (
    e_ieq x4 ((-1)) (
      e_z 0 s) (
      e_gI 3 2 a0 s fun v1 =>
      e_dI x4 9 fun v2 =>
      e_cl (f_X3_off N v2 x2 s) fun v4 s3 =>
      e_pI 3 2 a0 (v1 + v4) s3 fun s5 =>
      e_gI 3 3 a0 s5 fun v6 =>
      e_dI x4 3 fun v7 =>
      e_rI v7 3 fun v8 =>
      e_cl (f_X3_off N v8 x2 s5) fun v10 s9 =>
      e_pI 3 3 a0 (v6 + v10) s9 fun s11 =>
      e_gI 3 4 a0 s11 fun v12 =>
      e_rI x4 3 fun v13 =>
      e_cl (f_X3_off N v13 x2 s11) fun v15 s14 =>
      e_pI 3 4 a0 (v12 + v15) s14 fun s16 =>
      e_z 1 s16)) (
    e_gI 3 2 a0 s fun v17 =>
    e_dI x5 9 fun v18 =>
    e_cl (f_X3_off N v18 x2 s) fun v20 s19 =>
    e_gI 3 3 a0 s19 fun v21 =>
    e_dI x5 3 fun v22 =>
    e_rI v22 3 fun v23 =>
    e_cl (f_X3_off N v23 x2 s19) fun v25 s24 =>
    e_gI 3 4 a0 s24 fun v26 =>
    e_rI x5 3 fun v27 =>
    e_cl (f_X3_off N v27 x2 s24) fun v29 s28 =>
    e_gI 3 5 a0 s28 fun v30 =>
    e_cv 3 a0 s28 (f_X3_ask N a0 x1 (v17 + v20) (v21 + v25) (v26 + v29) x3 v30 s28) fun v32 s31 =>
    e_ieq v32 ((-1)) (
      f_X3_goOn_92 N k6 a0 x1 x2 x3 x4 x5 s31) (
      e_gI 3 5 a0 s31 fun v33 =>
      e_ile v33 v32 (
        f_X3_goOn_92 N k6 a0 x1 x2 x3 x4 x5 s31) (
        e_pI 3 5 a0 v32 s31 fun s34 =>
        f_X3_goOn_92 N k6 a0 x1 x2 x3 x5 x5 s34)))
def f_X3_goOn_6 (N : Nat) : Nat → Nat → Option Nat → Int → Int → Int → Int → sj_Mem → Option (Int × sj_Mem)
  | 0 => fun _ _ _ _ _ _ _ => none
  | n + 1 => fun a0 x1 x2 x3 x4 x5 s => f_X3_goOn_6_b N (f_X3_goOn_6 N n) a0 x1 x2 x3 x4 x5 s
def f_X3_goOn (N : Nat) (a0 : Nat) (x1 : Option Nat) (x2 : Int) (x3 : Int) (s : sj_Mem) : Option (Int × sj_Mem) :=
  f_X3_goOn_6 N N a0 x1 x2 x3 ((-1)) 0 s
def f_X3_seek_99 (N : Nat) (k67 : Nat → Option Nat → Int → Int → sj_Mem → Option (Int × sj_Mem)) (a0 : Nat) (x1 : Option Nat) (x6 : Int) (x8 : Int) (s : sj_Mem) : Option (Int × sj_Mem) :=
  e_gI 3 6 a0 s fun v1 =>
  e_pI 3 6 a0 (v1 + 1) s fun s2 =>
  k67 a0 x1 x6 x8 s2
def f_X3_seek_112 (N : Nat) (a0 : Nat) (s : sj_Mem) : Option (Int × sj_Mem) :=
  e_gI 3 5 a0 s fun v1 =>
  e_ilt 20000 v1 (
    e_z 0 s) (
    e_z 1 s)
def f_X3_seek_67_b (N : Nat) (k67 : Nat → Option Nat → Int → Int → sj_Mem → Option (Int × sj_Mem)) (a0 : Nat) (x1 : Option Nat) (x6 : Int) (x8 : Int) (s : sj_Mem) : Option (Int × sj_Mem) :=
  e_gI 3 6 a0 s fun v1 =>
  e_ile 60 v1 (
    f_X3_seek_112 N a0 s) (
    e_ile x8 0 (
      f_X3_seek_112 N a0 s) (
      e_cv 3 a0 s (f_X3_goOn N a0 x1 x8 x6 s) fun v3 s2 =>
      e_ieq v3 0 (
        e_dI x8 2 fun v4 =>
        f_X3_seek_99 N k67 a0 x1 x6 v4 s2) (
        f_X3_seek_99 N k67 a0 x1 x6 x8 s2)))
def f_X3_seek_67 (N : Nat) : Nat → Nat → Option Nat → Int → Int → sj_Mem → Option (Int × sj_Mem)
  | 0 => fun _ _ _ _ _ => none
  | n + 1 => fun a0 x1 x6 x8 s => f_X3_seek_67_b N (f_X3_seek_67 N n) a0 x1 x6 x8 s
def f_X3_seek_55 (N : Nat) (a0 : Nat) (x1 : Option Nat) (x5 : Int) (x6 : Int) (y0 : Int) (y1 : Option Nat) (s : sj_Mem) : Option (Int × sj_Mem) :=
  e_nn y1 fun a1 =>
  e_pI 3 5 a1 y0 s fun s2 =>
  e_pI 3 6 a0 0 s2 fun s3 =>
  f_X3_seek_67 N N a0 x1 x6 x5 s3
def f_X3_seek (N : Nat) (a0 : Nat) (x1 : Option Nat) (x2 : Int) (x3 : Int) (x4 : Int) (x5 : Int) (x6 : Int) (s : sj_Mem) : Option (Int × sj_Mem) :=
  e_pI 3 2 a0 x2 s fun s1 =>
  e_pI 3 3 a0 x3 s1 fun s2 =>
  e_pI 3 4 a0 x4 s2 fun s3 =>
  e_gI 3 2 a0 s3 fun v4 =>
  e_gI 3 3 a0 s3 fun v5 =>
  e_gI 3 4 a0 s3 fun v6 =>
  e_cv 3 a0 s3 (f_X3_ask N a0 x1 v4 v5 v6 x6 20001 s3) fun v8 s7 =>
  e_ieq v8 ((-1)) (
    f_X3_seek_55 N a0 x1 x5 x6 20001 (some a0) s7) (
    f_X3_seek_55 N a0 x1 x5 x6 v8 (some a0) s7)
def f_X4_burden_74 (N : Nat) (k3 : Nat → Int → Int → Int → Int → sj_Mem → Option (Unit × sj_Mem)) (a0 : Nat) (x1 : Int) (x2 : Int) (x3 : Int) (x4 : Int) (s : sj_Mem) : Option (Unit × sj_Mem) :=
  e_lt (x4 + 1) fun v1 =>
  k3 a0 x1 x2 x3 v1 s
def f_X4_burden_44 (N : Nat) (k3 : Nat → Int → Int → Int → Int → sj_Mem → Option (Unit × sj_Mem)) (a0 : Nat) (x1 : Int) (x2 : Int) (x3 : Int) (x4 : Int) (x5 : Int) (s : sj_Mem) : Option (Unit × sj_Mem) :=
  e_ilt (x5 + 1) x2 (
    f_X4_burden_74 N k3 a0 x1 x2 x3 x4 s) (
    e_ilt x3 (x5 + 1) (
      f_X4_burden_74 N k3 a0 x1 x2 x3 x4 s) (
      e_gR 4 1 a0 s fun r1 =>
      e_nn r1 fun a2 =>
      e_aI 100 a2 x4 s fun v3 =>
      e_gI 4 9 a0 s fun v4 =>
      e_uI 100 a2 x4 (v3 + v4) s fun s5 =>
      f_X4_burden_74 N k3 a0 x1 x2 x3 x4 s5))
def f_X4_burden_3_b (N : Nat) (k3 : Nat → Int → Int → Int → Int → sj_Mem → Option (Unit × sj_Mem)) (a0 : Nat) (x1 : Int) (x2 : Int) (x3 : Int) (x4 : Int) (s : sj_Mem) : Option (Unit × sj_Mem) :=
  e_gI 4 8 a0 s fun v1 =>
  e_ile v1 x4 (
    some ((), s)) (
    e_lt (x1 + x4) fun v2 =>
    e_ilt v2 x2 (
      f_X4_burden_44 N k3 a0 x1 x2 x3 x4 v2 s) (
      e_ilt x3 v2 (
        f_X4_burden_44 N k3 a0 x1 x2 x3 x4 v2 s) (
        e_gR 4 1 a0 s fun r3 =>
        e_nn r3 fun a4 =>
        e_aI 100 a4 x4 s fun v5 =>
        e_gI 4 9 a0 s fun v6 =>
        e_uI 100 a4 x4 (v5 + v6) s fun s7 =>
        f_X4_burden_44 N k3 a0 x1 x2 x3 x4 v2 s7)))
def f_X4_burden_3 (N : Nat) : Nat → Nat → Int → Int → Int → Int → sj_Mem → Option (Unit × sj_Mem)
  | 0 => fun _ _ _ _ _ _ => none
  | n + 1 => fun a0 x1 x2 x3 x4 s => f_X4_burden_3_b N (f_X4_burden_3 N n) a0 x1 x2 x3 x4 s
def f_X4_burden (N : Nat) (a0 : Nat) (x1 : Int) (x2 : Int) (x3 : Int) (s : sj_Mem) : Option (Unit × sj_Mem) :=
  f_X4_burden_3 N N a0 x1 x2 x3 0 s
def f_X4_isFast (N : Nat) (a0 : Nat) (x1 : Int) (x2 : Int) (s : sj_Mem) : Option (Int × sj_Mem) :=
  e_gI 4 9 a0 s fun v1 =>
  e_wid v1 fun v2 =>
  e_wid x2 fun v3 =>
  e_gR 4 7 a0 s fun r4 =>
  e_nn r4 fun a5 =>
  e_aI 101 a5 x1 s fun v6 =>
  e_llt 0 ((v2 * v3) + v6) (
    e_z 0 s) (
    e_z 1 s)
def f_X4_rubsOf (N : Nat) (a0 : Nat) (x1 : Int) (x2 : Int) (s : sj_Mem) : Option (Int × sj_Mem) :=
  e_gI 4 9 a0 s fun v1 =>
  e_wid v1 fun v2 =>
  e_wid x2 fun v3 =>
  e_gR 4 7 a0 s fun r4 =>
  e_nn r4 fun a5 =>
  e_aI 101 a5 x1 s fun v6 =>
  e_lt ((v2 * v3) + v6) fun v7 =>
  e_llt 0 v7 (
    e_gR 4 6 a0 s fun r8 =>
    e_nn r8 fun a9 =>
    e_aI 101 a9 x1 s fun v10 =>
    e_wid x2 fun v11 =>
    e_dJ (v10 * v11) v7 fun v12 =>
    some (v12, s)) (
    some ((-1), s))
def f_J9_floorDiv_f86c9 (N : Nat) (x0 : Int) (x2 : Int) (s : sj_Mem) : Option (Int × sj_Mem) :=
  e_dJ x0 x2 fun v1 =>
  e_lle 0 (sj_xorl x0 x2) (
    some (v1, s)) (
    e_leq (v1 * x2) x0 (
      some (v1, s)) (
      some (v1 - 1, s)))
def f_X4_thrustOf (N : Nat) (a0 : Nat) (x1 : Int) (x2 : Int) (s : sj_Mem) : Option (Int × sj_Mem) :=
  e_wid x2 fun v1 =>
  e_gR 4 5 a0 s fun r2 =>
  e_nn r2 fun a3 =>
  e_aI 101 a3 x1 s fun v4 =>
  e_cl (f_J9_floorDiv_f86c9 N (v1 * v4) 1000 s) fun v6 s5 =>
  e_cv 4 a0 s5 (f_X4_rubsOf N a0 x1 x2 s5) fun v8 s7 =>
  some (v6 - v8, s7)
def f_X4_allPushes_4_b (N : Nat) (k4 : Nat → Int → Int → sj_Mem → Option (Int × sj_Mem)) (a0 : Nat) (x1 : Int) (x3 : Int) (s : sj_Mem) : Option (Int × sj_Mem) :=
  e_gI 4 8 a0 s fun v1 =>
  e_ile v1 x3 (
    some (x1, s)) (
    e_gR 4 5 a0 s fun r2 =>
    e_nn r2 fun a3 =>
    e_aI 101 a3 x3 s fun v4 =>
    e_lt (x1 + v4) fun v5 =>
    e_lt (x3 + 1) fun v6 =>
    k4 a0 v5 v6 s)
def f_X4_allPushes_4 (N : Nat) : Nat → Nat → Int → Int → sj_Mem → Option (Int × sj_Mem)
  | 0 => fun _ _ _ _ => none
  | n + 1 => fun a0 x1 x3 s => f_X4_allPushes_4_b N (f_X4_allPushes_4 N n) a0 x1 x3 s
def f_X4_allPushes (N : Nat) (a0 : Nat) (s : sj_Mem) : Option (Int × sj_Mem) :=
  f_X4_allPushes_4 N N a0 0 0 s
def f_X4_allWeights_4_b (N : Nat) (k4 : Nat → Int → Int → sj_Mem → Option (Int × sj_Mem)) (a0 : Nat) (x1 : Int) (x3 : Int) (s : sj_Mem) : Option (Int × sj_Mem) :=
  e_gI 4 8 a0 s fun v1 =>
  e_ile v1 x3 (
    some (x1, s)) (
    e_gR 4 1 a0 s fun r2 =>
    e_nn r2 fun a3 =>
    e_aI 100 a3 x3 s fun v4 =>
    e_wid v4 fun v5 =>
    e_lt (x1 + v5) fun v6 =>
    e_lt (x3 + 1) fun v7 =>
    k4 a0 v6 v7 s)
def f_X4_allWeights_4 (N : Nat) : Nat → Nat → Int → Int → sj_Mem → Option (Int × sj_Mem)
  | 0 => fun _ _ _ _ => none
  | n + 1 => fun a0 x1 x3 s => f_X4_allWeights_4_b N (f_X4_allWeights_4 N n) a0 x1 x3 s
def f_X4_allWeights (N : Nat) (a0 : Nat) (s : sj_Mem) : Option (Int × sj_Mem) :=
  f_X4_allWeights_4 N N a0 0 0 s
def f_X4_allLifts_4_b (N : Nat) (k4 : Nat → Int → Int → sj_Mem → Option (Int × sj_Mem)) (a0 : Nat) (x1 : Int) (x3 : Int) (s : sj_Mem) : Option (Int × sj_Mem) :=
  e_gI 4 8 a0 s fun v1 =>
  e_ile v1 x3 (
    some (x1, s)) (
    e_gR 4 2 a0 s fun r2 =>
    e_nn r2 fun a3 =>
    e_aI 100 a3 x3 s fun v4 =>
    e_wid v4 fun v5 =>
    e_lt (x1 + v5) fun v6 =>
    e_lt (x3 + 1) fun v7 =>
    k4 a0 v6 v7 s)
def f_X4_allLifts_4 (N : Nat) : Nat → Nat → Int → Int → sj_Mem → Option (Int × sj_Mem)
  | 0 => fun _ _ _ _ => none
  | n + 1 => fun a0 x1 x3 s => f_X4_allLifts_4_b N (f_X4_allLifts_4 N n) a0 x1 x3 s
def f_X4_allLifts (N : Nat) (a0 : Nat) (s : sj_Mem) : Option (Int × sj_Mem) :=
  f_X4_allLifts_4 N N a0 0 0 s
def f_X4_allStrengths_4_b (N : Nat) (k4 : Nat → Int → Int → sj_Mem → Option (Int × sj_Mem)) (a0 : Nat) (x1 : Int) (x3 : Int) (s : sj_Mem) : Option (Int × sj_Mem) :=
  e_gI 4 8 a0 s fun v1 =>
  e_ile v1 x3 (
    some (x1, s)) (
    e_gR 4 4 a0 s fun r2 =>
    e_nn r2 fun a3 =>
    e_aI 101 a3 x3 s fun v4 =>
    e_lt (x1 + v4) fun v5 =>
    e_lt (x3 + 1) fun v6 =>
    k4 a0 v5 v6 s)
def f_X4_allStrengths_4 (N : Nat) : Nat → Nat → Int → Int → sj_Mem → Option (Int × sj_Mem)
  | 0 => fun _ _ _ _ => none
  | n + 1 => fun a0 x1 x3 s => f_X4_allStrengths_4_b N (f_X4_allStrengths_4 N n) a0 x1 x3 s
def f_X4_allStrengths (N : Nat) (a0 : Nat) (s : sj_Mem) : Option (Int × sj_Mem) :=
  f_X4_allStrengths_4 N N a0 0 0 s
def f_X4_countFalling_24 (N : Nat) (k4 : Nat → Int → Int → sj_Mem → Option (Int × sj_Mem)) (a0 : Nat) (x1 : Int) (x2 : Int) (s : sj_Mem) : Option (Int × sj_Mem) :=
  e_lt (x2 + 1) fun v1 =>
  k4 a0 x1 v1 s
def f_X4_countFalling_4_b (N : Nat) (k4 : Nat → Int → Int → sj_Mem → Option (Int × sj_Mem)) (a0 : Nat) (x1 : Int) (x2 : Int) (s : sj_Mem) : Option (Int × sj_Mem) :=
  e_gI 4 8 a0 s fun v1 =>
  e_ile v1 x2 (
    some (x1, s)) (
    e_gR 4 0 a0 s fun r2 =>
    e_nn r2 fun a3 =>
    e_aI 100 a3 x2 s fun v4 =>
    e_ile 0 v4 (
      f_X4_countFalling_24 N k4 a0 x1 x2 s) (
      e_lt (x1 + 1) fun v5 =>
      f_X4_countFalling_24 N k4 a0 v5 x2 s))
def f_X4_countFalling_4 (N : Nat) : Nat → Nat → Int → Int → sj_Mem → Option (Int × sj_Mem)
  | 0 => fun _ _ _ _ => none
  | n + 1 => fun a0 x1 x2 s => f_X4_countFalling_4_b N (f_X4_countFalling_4 N n) a0 x1 x2 s
def f_X4_countFalling (N : Nat) (a0 : Nat) (s : sj_Mem) : Option (Int × sj_Mem) :=
  f_X4_countFalling_4 N N a0 0 0 s
def f_X4_countAfloat_30 (N : Nat) (k4 : Nat → Int → Int → sj_Mem → Option (Int × sj_Mem)) (a0 : Nat) (x1 : Int) (x2 : Int) (s : sj_Mem) : Option (Int × sj_Mem) :=
  e_lt (x2 + 1) fun v1 =>
  k4 a0 x1 v1 s
def f_X4_countAfloat_4_b (N : Nat) (k4 : Nat → Int → Int → sj_Mem → Option (Int × sj_Mem)) (a0 : Nat) (x1 : Int) (x2 : Int) (s : sj_Mem) : Option (Int × sj_Mem) :=
  e_gI 4 8 a0 s fun v1 =>
  e_ile v1 x2 (
    some (x1, s)) (
    e_gR 4 2 a0 s fun r2 =>
    e_nn r2 fun a3 =>
    e_aI 100 a3 x2 s fun v4 =>
    e_gR 4 1 a0 s fun r5 =>
    e_nn r5 fun a6 =>
    e_aI 100 a6 x2 s fun v7 =>
    e_ile v4 v7 (
      f_X4_countAfloat_30 N k4 a0 x1 x2 s) (
      e_lt (x1 + 1) fun v8 =>
      f_X4_countAfloat_30 N k4 a0 v8 x2 s))
def f_X4_countAfloat_4 (N : Nat) : Nat → Nat → Int → Int → sj_Mem → Option (Int × sj_Mem)
  | 0 => fun _ _ _ _ => none
  | n + 1 => fun a0 x1 x2 s => f_X4_countAfloat_4_b N (f_X4_countAfloat_4 N n) a0 x1 x2 s
def f_X4_countAfloat (N : Nat) (a0 : Nat) (s : sj_Mem) : Option (Int × sj_Mem) :=
  f_X4_countAfloat_4 N N a0 0 0 s
def f_X5_baseAt_23 (N : Nat) (s : sj_Mem) : Option (Int × sj_Mem) :=
  some ((-1), s)
def f_X5_baseAt (N : Nat) (a0 : Nat) (x1 : Int) (s : sj_Mem) : Option (Int × sj_Mem) :=
  e_cv 5 a0 s (f_X5_isNone N a0 s) fun v2 s1 =>
  e_ieq v2 0 (
    e_gI 5 1 a0 s1 fun v3 =>
    e_ilt x1 v3 (
      f_X5_baseAt_23 N s1) (
      e_gI 5 2 a0 s1 fun v4 =>
      e_ile x1 v4 (
        e_gR 5 0 a0 s1 fun r5 =>
        e_nn r5 fun a6 =>
        e_aI 100 a6 x1 s1 fun v7 =>
        some (v7, s1)) (
        f_X5_baseAt_23 N s1))) (
    f_X5_baseAt_23 N s1)
def f_X5_leastBase_12_b (N : Nat) (k12 : Nat → Int → Int → sj_Mem → Option (Int × sj_Mem)) (a0 : Nat) (x1 : Int) (x2 : Int) (s : sj_Mem) : Option (Int × sj_Mem) :=
  e_gI 5 2 a0 s fun v1 =>
  e_ilt v1 x2 (
    some (x1, s)) (
    e_gR 5 0 a0 s fun r2 =>
    e_nn r2 fun a3 =>
    e_aI 100 a3 x2 s fun v4 =>
    e_min x1 v4 fun v5 =>
    e_lt (x2 + 1) fun v6 =>
    k12 a0 v5 v6 s)
def f_X5_leastBase_12 (N : Nat) : Nat → Nat → Int → Int → sj_Mem → Option (Int × sj_Mem)
  | 0 => fun _ _ _ _ => none
  | n + 1 => fun a0 x1 x2 s => f_X5_leastBase_12_b N (f_X5_leastBase_12 N n) a0 x1 x2 s
def f_X5_leastBase (N : Nat) (a0 : Nat) (s : sj_Mem) : Option (Int × sj_Mem) :=
  e_gI 5 1 a0 s fun v1 =>
  e_max v1 0 fun v2 =>
  f_X5_leastBase_12 N N a0 100 v2 s
def f_J9_floorDiv_7cf53 (N : Nat) (x0 : Int) (x1 : Int) (s : sj_Mem) : Option (Int × sj_Mem) :=
  e_dI x0 x1 fun v1 =>
  e_ile 0 (sj_xor x0 x1) (
    some (v1, s)) (
    e_ieq (v1 * x1) x0 (
      some (v1, s)) (
      some (v1 - 1, s)))
def f_X5_heightAt (N : Nat) (x0 : Option Nat) (x1 : Int) (x2 : Int) (s : sj_Mem) : Option (Int × sj_Mem) :=
  e_lt (x1 - 1) fun v1 =>
  e_nn x0 fun a2 =>
  e_gR 1 0 a2 s fun r3 =>
  e_nn r3 fun a4 =>
  e_aI 100 a4 x1 s fun v5 =>
  e_gR 1 0 a2 s fun r6 =>
  e_nn r6 fun a7 =>
  e_aI 100 a7 v1 s fun v8 =>
  e_lt (v5 - v8) fun v9 =>
  e_ilt 0 v9 (
    e_gR 1 1 a2 s fun r10 =>
    e_nn r10 fun a11 =>
    e_aI 100 a11 x1 s fun v12 =>
    e_gR 1 1 a2 s fun r13 =>
    e_nn r13 fun a14 =>
    e_aI 100 a14 v1 s fun v15 =>
    e_lt (v12 - v15) fun v16 =>
    e_gR 1 1 a2 s fun r17 =>
    e_nn r17 fun a18 =>
    e_aI 100 a18 v1 s fun v19 =>
    e_gR 1 0 a2 s fun r20 =>
    e_nn r20 fun a21 =>
    e_aI 100 a21 v1 s fun v22 =>
    e_cl (f_J9_floorDiv_7cf53 N (v16 * (x2 - v22)) v9 s) fun v24 s23 =>
    some (v19 + v24, s23)) (
    e_gR 1 1 a2 s fun r25 =>
    e_nn r25 fun a26 =>
    e_aI 100 a26 x1 s fun v27 =>
    some (v27, s))
def f_X5_follow_96 (N : Nat) (k65 : Nat → Option Nat → Option Nat → Int → Int → Int → Int → Int → Int → sj_Mem → Option (Int × sj_Mem)) (a0 : Nat) (x1 : Option Nat) (x2 : Option Nat) (x3 : Int) (x4 : Int) (x5 : Int) (x6 : Int) (x7 : Int) (x8 : Int) (s : sj_Mem) : Option (Int × sj_Mem) :=
  e_cl (f_X5_heightAt N x2 x5 x8 s) fun v2 s1 =>
  e_nn x1 fun a3 =>
  e_gR 0 3 a3 s1 fun r4 =>
  e_nn r4 fun a5 =>
  e_aI 100 a5 x8 s1 fun v6 =>
  e_ile v6 v2 (
    e_z 0 s1) (
    e_gR 0 4 a3 s1 fun r7 =>
    e_nn r7 fun a8 =>
    e_aI 100 a8 x8 s1 fun v9 =>
    e_ile v9 v2 (
      e_gR 5 0 a0 s1 fun r10 =>
      e_nn r10 fun a11 =>
      e_uI 100 a11 x8 v2 s1 fun s12 =>
      e_lt (x8 + 1) fun v13 =>
      k65 a0 (some a3) x2 x3 x4 x5 x6 x7 v13 s12) (
      e_z 0 s1))
def f_X5_follow_65_b (N : Nat) (k65 : Nat → Option Nat → Option Nat → Int → Int → Int → Int → Int → Int → sj_Mem → Option (Int × sj_Mem)) (a0 : Nat) (x1 : Option Nat) (x2 : Option Nat) (x3 : Int) (x4 : Int) (x5 : Int) (x6 : Int) (x7 : Int) (x8 : Int) (s : sj_Mem) : Option (Int × sj_Mem) :=
  e_ile x7 x8 (
    e_cv 5 a0 s (f_X5_span N a0 x1 x6 x7 x3 s) fun _u s1 =>
    e_z 1 s1) (
    e_ile (x4 - 1) x5 (
      f_X5_follow_96 N k65 a0 x1 x2 x3 x4 x5 x6 x7 x8 s) (
      e_nn x2 fun a2 =>
      e_gR 1 0 a2 s fun r3 =>
      e_nn r3 fun a4 =>
      e_aI 100 a4 x5 s fun v5 =>
      e_ile x8 v5 (
        f_X5_follow_96 N k65 a0 x1 (some a2) x3 x4 x5 x6 x7 x8 s) (
        e_lt (x5 + 1) fun v6 =>
        f_X5_follow_96 N k65 a0 x1 (some a2) x3 x4 v6 x6 x7 x8 s)))
def f_X5_follow_65 (N : Nat) : Nat → Nat → Option Nat → Option Nat → Int → Int → Int → Int → Int → Int → sj_Mem → Option (Int × sj_Mem)
  | 0 => fun _ _ _ _ _ _ _ _ _ _ => none
  | n + 1 => fun a0 x1 x2 x3 x4 x5 x6 x7 x8 s => f_X5_follow_65_b N (f_X5_follow_65 N n) a0 x1 x2 x3 x4 x5 x6 x7 x8 s
def f_X5_follow (N : Nat) (a0 : Nat) (x1 : Option Nat) (x2 : Option Nat) (x3 : Int) (s : sj_Mem) : Option (Int × sj_Mem) :=
  e_nn x2 fun a1 =>
  e_gI 1 2 a1 s fun v2 =>
  e_ilt v2 2 (
    e_z 0 s) (
    e_ilt 12 v2 (
      e_z 0 s) (
      e_gR 1 0 a1 s fun r3 =>
      e_nn r3 fun a4 =>
      e_aI 100 a4 (v2 - 1) s fun v5 =>
      e_nn x1 fun a6 =>
      e_gI 0 0 a6 s fun v7 =>
      e_ile v5 v7 (
        e_gR 1 0 a1 s fun r8 =>
        e_nn r8 fun a9 =>
        e_aI 100 a9 0 s fun v10 =>
        e_gR 1 0 a1 s fun r11 =>
        e_nn r11 fun a12 =>
        e_aI 100 a12 (v2 - 1) s fun v13 =>
        e_lt (v10 + 1) fun v14 =>
        f_X5_follow_65 N N a0 (some a6) (some a1) x3 v2 1 v10 v13 v14 s) (
        e_z 0 s)))
def f_X6_init (N : Nat) (a0 : Nat) (s : sj_Mem) : Option (Unit × sj_Mem) :=
  e_nA 101 4141 s fun a1 s2 =>
  e_pR 6 0 a0 (some a1) s2 fun s3 =>
  e_nA 100 4141 s3 fun a4 s5 =>
  e_pR 6 1 a0 (some a4) s5 fun s6 =>
  e_nA 100 4141 s6 fun a7 s8 =>
  e_pR 6 2 a0 (some a7) s8 fun s9 =>
  e_nA 100 4 s9 fun a10 s11 =>
  e_pR 6 3 a0 (some a10) s11 fun s12 =>
  e_nO 5 4 s12 fun a13 s14 =>
  e_cl (f_X5_init N a13 s14) fun _u s15 =>
  e_pR 6 4 a0 (some a13) s15 fun s16 =>
  some ((), s16)
def f_X6_weighAll_23_b (N : Nat) (k2 : Nat → Int → sj_Mem → Option (Unit × sj_Mem)) (k23 : Nat → Int → Int → sj_Mem → Option (Unit × sj_Mem)) (a0 : Nat) (x1 : Int) (x2 : Int) (s : sj_Mem) : Option (Unit × sj_Mem) :=
  e_gR 6 5 a0 s fun r1 =>
  e_nn r1 fun a2 =>
  e_gR 0 3 a2 s fun r3 =>
  e_nn r3 fun a4 =>
  e_aI 100 a4 x1 s fun v5 =>
  e_ilt v5 x2 (
    e_lt (x1 + 1) fun v6 =>
    k2 a0 v6 s) (
    e_gR 6 2 a0 s fun r7 =>
    e_gR 6 5 a0 s fun r8 =>
    e_nn r8 fun a9 =>
    e_cv 0 a9 s (f_X0_weightOn N a9 x1 x2 s) fun v11 s10 =>
    e_nn r7 fun a12 =>
    e_uI 100 a12 ((x1 * 101) + x2) v11 s10 fun s13 =>
    e_lt (x2 + 1) fun v14 =>
    k23 a0 x1 v14 s13)
def f_X6_weighAll_23 (N : Nat) (k2 : Nat → Int → sj_Mem → Option (Unit × sj_Mem)) : Nat → Nat → Int → Int → sj_Mem → Option (Unit × sj_Mem)
  | 0 => fun _ _ _ _ => none
  | n + 1 => fun a0 x1 x2 s => f_X6_weighAll_23_b N k2 (f_X6_weighAll_23 N k2 n) a0 x1 x2 s
def f_X6_weighAll_2_b (N : Nat) (k2 : Nat → Int → sj_Mem → Option (Unit × sj_Mem)) (a0 : Nat) (x1 : Int) (s : sj_Mem) : Option (Unit × sj_Mem) :=
  e_gR 6 5 a0 s fun r1 =>
  e_nn r1 fun a2 =>
  e_gI 0 0 a2 s fun v3 =>
  e_ilt v3 x1 (
    some ((), s)) (
    e_gR 6 5 a0 s fun r4 =>
    e_nn r4 fun a5 =>
    e_gR 0 4 a5 s fun r6 =>
    e_nn r6 fun a7 =>
    e_aI 100 a7 x1 s fun v8 =>
    f_X6_weighAll_23 N k2 N a0 x1 v8 s)
def f_X6_weighAll_2 (N : Nat) : Nat → Nat → Int → sj_Mem → Option (Unit × sj_Mem)
  | 0 => fun _ _ _ => none
  | n + 1 => fun a0 x1 s => f_X6_weighAll_2_b N (f_X6_weighAll_2 N n) a0 x1 s
def f_X6_weighAll (N : Nat) (a0 : Nat) (s : sj_Mem) : Option (Unit × sj_Mem) :=
  f_X6_weighAll_2 N N a0 0 s
def f_X6_addTops_2_b (N : Nat) (k2 : Nat → Int → Int → sj_Mem → Option (Unit × sj_Mem)) (a0 : Nat) (x1 : Int) (x2 : Int) (s : sj_Mem) : Option (Unit × sj_Mem) :=
  e_ile 4 x2 (
    some ((), s)) (
    e_gR 6 3 a0 s fun r1 =>
    e_gR 6 5 a0 s fun r2 =>
    e_nn r2 fun a3 =>
    e_cv 0 a3 s (f_X0_topAt N a3 x2 x1 s) fun v5 s4 =>
    e_gR 6 5 a0 s4 fun r6 =>
    e_nn r6 fun a7 =>
    e_cv 0 a7 s4 (f_X0_topAt N a7 x2 (x1 + 1) s4) fun v9 s8 =>
    e_nn r1 fun a10 =>
    e_uI 100 a10 x2 (v5 + v9) s8 fun s11 =>
    e_lt (x2 + 1) fun v12 =>
    k2 a0 x1 v12 s11)
def f_X6_addTops_2 (N : Nat) : Nat → Nat → Int → Int → sj_Mem → Option (Unit × sj_Mem)
  | 0 => fun _ _ _ _ => none
  | n + 1 => fun a0 x1 x2 s => f_X6_addTops_2_b N (f_X6_addTops_2 N n) a0 x1 x2 s
def f_X6_addTops (N : Nat) (a0 : Nat) (x1 : Int) (s : sj_Mem) : Option (Unit × sj_Mem) :=
  f_X6_addTops_2 N N a0 x1 0 s
def f_X6_leftOver_98 (N : Nat) (a0 : Nat) (x1 : Int) (x2 : Int) (x3 : Int) (x4 : Int) (x5 : Int) (x6 : Int) (x7 : Int) (x8 : Int) (y0 : Int) (y1 : Option Nat) (s : sj_Mem) : Option (Int × sj_Mem) :=
  e_nn y1 fun a1 =>
  e_pZ 6 13 a1 y0 s fun s2 =>
  e_llt 0 x8 (
    e_gR 6 2 a0 s2 fun r3 =>
    e_nn r3 fun a4 =>
    e_aI 100 a4 ((x1 * 101) + x2) s2 fun v5 =>
    e_gR 6 2 a0 s2 fun r6 =>
    e_nn r6 fun a7 =>
    e_aI 100 a7 (((x1 + 1) * 101) + x3) s2 fun v8 =>
    e_lt (x5 * (v5 + v8)) fun v9 =>
    e_gR 6 5 a0 s2 fun r10 =>
    e_nn r10 fun a11 =>
    e_cv 0 a11 s2 (f_X0_headOn N a11 x1 x2 s2) fun v13 s12 =>
    e_gR 6 5 a0 s12 fun r14 =>
    e_nn r14 fun a15 =>
    e_cv 0 a15 s12 (f_X0_headOn N a15 (x1 + 1) x3 s12) fun v17 s16 =>
    e_lt ((10 * x5) * (v13 + v17)) fun v18 =>
    e_gR 6 5 a0 s16 fun r19 =>
    e_nn r19 fun a20 =>
    e_gR 0 9 a20 s16 fun r21 =>
    e_nn r21 fun a22 =>
    e_aI 100 a22 x4 s16 fun v23 =>
    e_wid v23 fun v24 =>
    e_wid x5 fun v25 =>
    e_max 0 (v9 - v18) fun v26 =>
    e_wid v26 fun v27 =>
    e_wid x6 fun v28 =>
    e_lt (((2000 * v24) * v25) + (v27 * v28)) fun v29 =>
    e_wid ((x5 * x5) + (x7 * x7)) fun v30 =>
    e_gI 6 8 a0 s16 fun v31 =>
    e_wid v31 fun v32 =>
    e_dJ ((v29 * v30) * v32) x8 fun v33 =>
    e_gI 6 8 a0 s16 fun v34 =>
    e_wid v34 fun v35 =>
    e_wid v9 fun v36 =>
    e_wid x7 fun v37 =>
    e_gR 6 5 a0 s16 fun r38 =>
    e_nn r38 fun a39 =>
    e_gI 0 2 a39 s16 fun v40 =>
    e_wid (v40 * x5) fun v41 =>
    some ((1000 * v33) - (v35 * (v36 * ((1000 * v37) + v41))), s16)) (
    some (0, s2))
def f_X6_leftOver_64 (N : Nat) (a0 : Nat) (x1 : Int) (x2 : Int) (x3 : Int) (x4 : Int) (x5 : Int) (x6 : Int) (y0 : Int) (s : sj_Mem) : Option (Int × sj_Mem) :=
  e_wid x5 fun v1 =>
  e_gI 6 8 a0 s fun v2 =>
  e_wid v2 fun v3 =>
  e_wid y0 fun v4 =>
  e_wid x6 fun v5 =>
  e_lt ((v1 * v3) + (v4 * v5)) fun v6 =>
  e_llt 0 v6 (
    f_X6_leftOver_98 N a0 x1 x2 x3 x4 x5 x6 y0 v6 0 (some a0) s) (
    f_X6_leftOver_98 N a0 x1 x2 x3 x4 x5 x6 y0 v6 1 (some a0) s)
def f_X6_leftOver_27 (N : Nat) (a0 : Nat) (x1 : Int) (x2 : Int) (x3 : Int) (x4 : Int) (s : sj_Mem) : Option (Int × sj_Mem) :=
  e_gR 6 5 a0 s fun r1 =>
  e_nn r1 fun a2 =>
  e_gI 0 1 a2 s fun v3 =>
  e_gR 6 5 a0 s fun r4 =>
  e_nn r4 fun a5 =>
  e_gR 0 10 a5 s fun r6 =>
  e_nn r6 fun a7 =>
  e_aI 100 a7 x4 s fun v8 =>
  e_gI 6 7 a0 s fun v9 =>
  e_ieq v9 0 (
    f_X6_leftOver_64 N a0 x1 x2 x3 x4 v3 v8 (x2 - x3) s) (
    f_X6_leftOver_64 N a0 x1 x2 x3 x4 v3 v8 (x3 - x2) s)
def f_X6_leftOver_3_b (N : Nat) (k3 : Nat → Int → Int → Int → Int → sj_Mem → Option (Int × sj_Mem)) (a0 : Nat) (x1 : Int) (x2 : Int) (x3 : Int) (x4 : Int) (s : sj_Mem) : Option (Int × sj_Mem) :=
  e_ile x4 0 (
    f_X6_leftOver_27 N a0 x1 x2 x3 x4 s) (
    e_gR 6 3 a0 s fun r1 =>
    e_nn r1 fun a2 =>
    e_aI 100 a2 x4 s fun v3 =>
    e_ilt (x2 + x3) v3 (
      f_X6_leftOver_27 N a0 x1 x2 x3 x4 s) (
      e_lt (x4 + (-1)) fun v4 =>
      k3 a0 x1 x2 x3 v4 s))
def f_X6_leftOver_3 (N : Nat) : Nat → Nat → Int → Int → Int → Int → sj_Mem → Option (Int × sj_Mem)
  | 0 => fun _ _ _ _ _ _ => none
  | n + 1 => fun a0 x1 x2 x3 x4 s => f_X6_leftOver_3_b N (f_X6_leftOver_3 N n) a0 x1 x2 x3 x4 s
def f_X6_leftOver (N : Nat) (a0 : Nat) (x1 : Int) (x2 : Int) (x3 : Int) (s : sj_Mem) : Option (Int × sj_Mem) :=
  f_X6_leftOver_3 N N a0 x1 x2 x3 3 s
def f_X6_pass_42 (N : Nat) (a0 : Nat) (x1 : Int) (x2 : Int) (x3 : Int) (s : sj_Mem) : Option (Unit × sj_Mem) :=
  e_gR 6 0 a0 s fun r1 =>
  e_nn r1 fun a2 =>
  e_uI 101 a2 x1 x3 s fun s3 =>
  e_gR 6 1 a0 s3 fun r4 =>
  e_nn r4 fun a5 =>
  e_uI 100 a5 x1 x2 s3 fun s6 =>
  some ((), s6)
def f_X6_pass (N : Nat) (a0 : Nat) (x1 : Int) (x2 : Int) (x3 : Int) (s : sj_Mem) : Option (Unit × sj_Mem) :=
  e_gR 6 1 a0 s fun r1 =>
  e_nn r1 fun a2 =>
  e_aI 100 a2 x1 s fun v3 =>
  e_ieq v3 ((-1)) (
    f_X6_pass_42 N a0 x1 x2 x3 s) (
    e_gR 6 0 a0 s fun r4 =>
    e_nn r4 fun a5 =>
    e_aI 101 a5 x1 s fun v6 =>
    e_llt x3 v6 (
      f_X6_pass_42 N a0 x1 x2 x3 s) (
      e_gR 6 0 a0 s fun r7 =>
      e_nn r7 fun a8 =>
      e_aI 101 a8 x1 s fun v9 =>
      e_leq x3 v9 (
        e_gR 6 1 a0 s fun r10 =>
        e_nn r10 fun a11 =>
        e_aI 100 a11 x1 s fun v12 =>
        e_ile v12 x2 (
          some ((), s)) (
          f_X6_pass_42 N a0 x1 x2 x3 s)) (
        some ((), s))))
def f_X6_close_34 (N : Nat) (a0 : Nat) (x1 : Int) (x2 : Int) (x3 : Int) (s : sj_Mem) : Option (Unit × sj_Mem) :=
  e_pI 6 10 a0 x3 s fun s1 =>
  e_pI 6 11 a0 x2 s1 fun s2 =>
  e_pI 6 12 a0 x1 s2 fun s3 =>
  some ((), s3)
def f_X6_close (N : Nat) (a0 : Nat) (x1 : Int) (x2 : Int) (x3 : Int) (s : sj_Mem) : Option (Unit × sj_Mem) :=
  e_gI 6 11 a0 s fun v1 =>
  e_ieq v1 ((-1)) (
    f_X6_close_34 N a0 x1 x2 x3 s) (
    e_gI 6 10 a0 s fun v2 =>
    e_llt x3 v2 (
      f_X6_close_34 N a0 x1 x2 x3 s) (
      e_gI 6 10 a0 s fun v3 =>
      e_leq x3 v3 (
        e_gI 6 11 a0 s fun v4 =>
        e_ile v4 x2 (
          some ((), s)) (
          f_X6_close_34 N a0 x1 x2 x3 s)) (
        some ((), s))))
def f_X6_stepOn_139 (N : Nat) (k73 : Nat → Int → Int → Int → Int → Int → Int → Int → sj_Mem → Option (Unit × sj_Mem)) (a0 : Nat) (x1 : Int) (x2 : Int) (x3 : Int) (x4 : Int) (x6 : Int) (x7 : Int) (x8 : Int) (s : sj_Mem) : Option (Unit × sj_Mem) :=
  e_lt (x8 + 1) fun v1 =>
  k73 a0 x1 x2 x3 x4 x6 x7 v1 s
def f_X6_stepOn_73_b (N : Nat) (k73 : Nat → Int → Int → Int → Int → Int → Int → Int → sj_Mem → Option (Unit × sj_Mem)) (a0 : Nat) (x1 : Int) (x2 : Int) (x3 : Int) (x4 : Int) (x6 : Int) (x7 : Int) (x8 : Int) (s : sj_Mem) : Option (Unit × sj_Mem) :=
  e_ilt x7 x8 (
    some ((), s)) (
    e_cv 6 a0 s (f_X6_leftOver N a0 x1 x2 x8 s) fun v2 s1 =>
    e_lt (x4 + v2) fun v3 =>
    e_gI 6 13 a0 s1 fun v4 =>
    e_ieq v4 0 (
      e_ieq x8 x6 (
        e_cv 6 a0 s1 (f_X6_close N a0 (x1 + 1) x3 v3 s1) fun _u s6 =>
        f_X6_stepOn_139 N k73 a0 x1 x2 x3 x4 x6 x7 x8 s6) (
        e_cv 6 a0 s1 (f_X6_pass N a0 (((x1 + 1) * 101) + x8) x3 v3 s1) fun _u s5 =>
        f_X6_stepOn_139 N k73 a0 x1 x2 x3 x4 x6 x7 x8 s5)) (
      f_X6_stepOn_139 N k73 a0 x1 x2 x3 x4 x6 x7 x8 s1))
def f_X6_stepOn_73 (N : Nat) : Nat → Nat → Int → Int → Int → Int → Int → Int → Int → sj_Mem → Option (Unit × sj_Mem)
  | 0 => fun _ _ _ _ _ _ _ _ _ => none
  | n + 1 => fun a0 x1 x2 x3 x4 x6 x7 x8 s => f_X6_stepOn_73_b N (f_X6_stepOn_73 N n) a0 x1 x2 x3 x4 x6 x7 x8 s
def f_X6_stepOn (N : Nat) (a0 : Nat) (x1 : Int) (x2 : Int) (s : sj_Mem) : Option (Unit × sj_Mem) :=
  e_gR 6 1 a0 s fun r1 =>
  e_nn r1 fun a2 =>
  e_aI 100 a2 ((x1 * 101) + x2) s fun v3 =>
  e_gR 6 0 a0 s fun r4 =>
  e_nn r4 fun a5 =>
  e_aI 101 a5 ((x1 * 101) + x2) s fun v6 =>
  e_gR 6 5 a0 s fun r7 =>
  e_nn r7 fun a8 =>
  e_gR 0 3 a8 s fun r9 =>
  e_nn r9 fun a10 =>
  e_aI 100 a10 (x1 + 1) s fun v11 =>
  e_gI 6 6 a0 s fun v12 =>
  e_min v11 (x2 + v12) fun v13 =>
  e_gR 6 5 a0 s fun r14 =>
  e_nn r14 fun a15 =>
  e_gR 0 4 a15 s fun r16 =>
  e_nn r16 fun a17 =>
  e_aI 100 a17 (x1 + 1) s fun v18 =>
  e_gI 6 6 a0 s fun v19 =>
  e_max v18 (x2 - v19) fun v20 =>
  f_X6_stepOn_73 N N a0 x1 x2 v3 v6 v11 v13 v20 s
def f_X6_sweep_174 (N : Nat) (k89 : Nat → Int → Int → sj_Mem → Option (Unit × sj_Mem)) (k137 : Nat → Int → Int → Int → sj_Mem → Option (Unit × sj_Mem)) (a0 : Nat) (x2 : Int) (x3 : Int) (x4 : Int) (s : sj_Mem) : Option (Unit × sj_Mem) :=
  e_lt (x4 + 1) fun v1 =>
  k137 a0 x2 x3 v1 s
def f_X6_sweep_137_b (N : Nat) (k89 : Nat → Int → Int → sj_Mem → Option (Unit × sj_Mem)) (k137 : Nat → Int → Int → Int → sj_Mem → Option (Unit × sj_Mem)) (a0 : Nat) (x2 : Int) (x3 : Int) (x4 : Int) (s : sj_Mem) : Option (Unit × sj_Mem) :=
  e_gR 6 5 a0 s fun r1 =>
  e_nn r1 fun a2 =>
  e_gR 0 3 a2 s fun r3 =>
  e_nn r3 fun a4 =>
  e_aI 100 a4 x3 s fun v5 =>
  e_ilt v5 x4 (
    e_lt (x3 + 1) fun v6 =>
    k89 a0 x2 v6 s) (
    e_gR 6 1 a0 s fun r7 =>
    e_nn r7 fun a8 =>
    e_aI 100 a8 ((x3 * 101) + x4) s fun v9 =>
    e_ieq v9 ((-1)) (
      f_X6_sweep_174 N k89 k137 a0 x2 x3 x4 s) (
      e_cv 6 a0 s (f_X6_stepOn N a0 x3 x4 s) fun _u s10 =>
      f_X6_sweep_174 N k89 k137 a0 x2 x3 x4 s10))
def f_X6_sweep_137 (N : Nat) (k89 : Nat → Int → Int → sj_Mem → Option (Unit × sj_Mem)) : Nat → Nat → Int → Int → Int → sj_Mem → Option (Unit × sj_Mem)
  | 0 => fun _ _ _ _ _ => none
  | n + 1 => fun a0 x2 x3 x4 s => f_X6_sweep_137_b N k89 (f_X6_sweep_137 N k89 n) a0 x2 x3 x4 s
def f_X6_sweep_121 (N : Nat) (k89 : Nat → Int → Int → sj_Mem → Option (Unit × sj_Mem)) (a0 : Nat) (x2 : Int) (x3 : Int) (s : sj_Mem) : Option (Unit × sj_Mem) :=
  e_cv 6 a0 s (f_X6_addTops N a0 x3 s) fun _u s1 =>
  e_gR 6 5 a0 s1 fun r2 =>
  e_nn r2 fun a3 =>
  e_gR 0 4 a3 s1 fun r4 =>
  e_nn r4 fun a5 =>
  e_aI 100 a5 x3 s1 fun v6 =>
  f_X6_sweep_137 N k89 N a0 x2 x3 v6 s1
def f_X6_sweep_89_b (N : Nat) (k89 : Nat → Int → Int → sj_Mem → Option (Unit × sj_Mem)) (a0 : Nat) (x2 : Int) (x3 : Int) (s : sj_Mem) : Option (Unit × sj_Mem) :=
  e_gR 6 5 a0 s fun r1 =>
  e_nn r1 fun a2 =>
  e_gI 0 0 a2 s fun v3 =>
  e_ile v3 x3 (
    some ((), s)) (
    e_ieq x2 0 (
      f_X6_sweep_121 N k89 a0 x2 x3 s) (
      e_gI 6 11 a0 s fun v4 =>
      e_ieq v4 ((-1)) (
        f_X6_sweep_121 N k89 a0 x2 x3 s) (
        e_gI 6 10 a0 s fun v5 =>
        e_llt v5 0 (
          some ((), s)) (
          f_X6_sweep_121 N k89 a0 x2 x3 s))))
def f_X6_sweep_89 (N : Nat) : Nat → Nat → Int → Int → sj_Mem → Option (Unit × sj_Mem)
  | 0 => fun _ _ _ _ => none
  | n + 1 => fun a0 x2 x3 s => f_X6_sweep_89_b N (f_X6_sweep_89 N n) a0 x2 x3 s
def f_X6_sweep_30_b (N : Nat) (k30 : Nat → Int → Int → sj_Mem → Option (Unit × sj_Mem)) (a0 : Nat) (x2 : Int) (x3 : Int) (s : sj_Mem) : Option (Unit × sj_Mem) :=
  e_gR 6 5 a0 s fun r1 =>
  e_nn r1 fun a2 =>
  e_gI 0 0 a2 s fun v3 =>
  e_ilt v3 x3 (
    f_X6_sweep_89 N N a0 x2 0 s) (
    e_gR 6 0 a0 s fun r4 =>
    e_gR 6 5 a0 s fun r5 =>
    e_nn r5 fun a6 =>
    e_gR 0 3 a6 s fun r7 =>
    e_nn r7 fun a8 =>
    e_aI 100 a8 x3 s fun v9 =>
    e_nn r4 fun a10 =>
    e_uI 101 a10 ((x3 * 101) + v9) 0 s fun s11 =>
    e_gR 6 1 a0 s11 fun r12 =>
    e_gR 6 5 a0 s11 fun r13 =>
    e_nn r13 fun a14 =>
    e_gR 0 3 a14 s11 fun r15 =>
    e_nn r15 fun a16 =>
    e_aI 100 a16 x3 s11 fun v17 =>
    e_nn r12 fun a18 =>
    e_uI 100 a18 ((x3 * 101) + v17) x3 s11 fun s19 =>
    e_lt (x3 + 1) fun v20 =>
    k30 a0 x2 v20 s19)
def f_X6_sweep_30 (N : Nat) : Nat → Nat → Int → Int → sj_Mem → Option (Unit × sj_Mem)
  | 0 => fun _ _ _ _ => none
  | n + 1 => fun a0 x2 x3 s => f_X6_sweep_30_b N (f_X6_sweep_30 N n) a0 x2 x3 s
def f_X6_sweep (N : Nat) (a0 : Nat) (x1 : Int) (x2 : Int) (s : sj_Mem) : Option (Unit × sj_Mem) :=
  e_pI 6 8 a0 x1 s fun s1 =>
  e_pI 6 10 a0 0 s1 fun s2 =>
  e_pI 6 11 a0 ((-1)) s2 fun s3 =>
  e_pI 6 12 a0 ((-1)) s3 fun s4 =>
  e_gR 6 1 a0 s4 fun r5 =>
  e_cl (f_J7_fill_53178 N r5 ((-1)) s4) fun _u s6 =>
  f_X6_sweep_30 N N a0 x2 0 s6
def f_X6_goBack_207 (N : Nat) (k58 : Nat → Int → Int → Int → sj_Mem → Option (Unit × sj_Mem)) (a0 : Nat) (x1 : Int) (x2 : Int) (x4 : Int) (s : sj_Mem) : Option (Unit × sj_Mem) :=
  e_lt (x4 + (-1)) fun v1 =>
  k58 a0 x1 x2 v1 s
def f_X6_goBack_201 (N : Nat) (k58 : Nat → Int → Int → Int → sj_Mem → Option (Unit × sj_Mem)) (k115 : Nat → Int → Int → Int → Int → Int → sj_Mem → Option (Unit × sj_Mem)) (a0 : Nat) (x1 : Int) (x2 : Int) (x4 : Int) (x5 : Int) (x6 : Int) (s : sj_Mem) : Option (Unit × sj_Mem) :=
  e_lt (x6 + 1) fun v1 =>
  k115 a0 x1 x2 x4 x5 v1 s
def f_X6_goBack_115_b (N : Nat) (k58 : Nat → Int → Int → Int → sj_Mem → Option (Unit × sj_Mem)) (k115 : Nat → Int → Int → Int → Int → Int → sj_Mem → Option (Unit × sj_Mem)) (a0 : Nat) (x1 : Int) (x2 : Int) (x4 : Int) (x5 : Int) (x6 : Int) (s : sj_Mem) : Option (Unit × sj_Mem) :=
  e_ilt x5 x6 (
    f_X6_goBack_207 N k58 a0 x1 x2 x4 s) (
    e_lt ((x4 * 101) + x6) fun v1 =>
    e_gR 6 1 a0 s fun r2 =>
    e_nn r2 fun a3 =>
    e_aI 100 a3 v1 s fun v4 =>
    e_gI 6 11 a0 s fun v5 =>
    e_ieq v4 v5 (
      e_gR 6 0 a0 s fun r6 =>
      e_nn r6 fun a7 =>
      e_aI 101 a7 v1 s fun v8 =>
      e_cv 6 a0 s (f_X6_leftOver N a0 x4 x6 x1 s) fun v10 s9 =>
      e_leq (v8 + v10) x2 (
        e_gI 6 13 a0 s9 fun v11 =>
        e_ieq v11 0 (
          e_gR 6 4 a0 s9 fun r12 =>
          e_nn r12 fun a13 =>
          e_gR 5 0 a13 s9 fun r14 =>
          e_nn r14 fun a15 =>
          e_uI 100 a15 x4 x6 s9 fun s16 =>
          e_gR 6 0 a0 s16 fun r17 =>
          e_nn r17 fun a18 =>
          e_aI 101 a18 v1 s16 fun v19 =>
          f_X6_goBack_207 N k58 a0 x6 v19 x4 s16) (
          f_X6_goBack_201 N k58 k115 a0 x1 x2 x4 x5 x6 s9)) (
        f_X6_goBack_201 N k58 k115 a0 x1 x2 x4 x5 x6 s9)) (
      f_X6_goBack_201 N k58 k115 a0 x1 x2 x4 x5 x6 s))
def f_X6_goBack_115 (N : Nat) (k58 : Nat → Int → Int → Int → sj_Mem → Option (Unit × sj_Mem)) : Nat → Nat → Int → Int → Int → Int → Int → sj_Mem → Option (Unit × sj_Mem)
  | 0 => fun _ _ _ _ _ _ _ => none
  | n + 1 => fun a0 x1 x2 x4 x5 x6 s => f_X6_goBack_115_b N k58 (f_X6_goBack_115 N k58 n) a0 x1 x2 x4 x5 x6 s
def f_X6_goBack_58_b (N : Nat) (k58 : Nat → Int → Int → Int → sj_Mem → Option (Unit × sj_Mem)) (a0 : Nat) (x1 : Int) (x2 : Int) (x4 : Int) (s : sj_Mem) : Option (Unit × sj_Mem) :=
  e_gI 6 11 a0 s fun v1 =>
  e_ile x4 v1 (
    some ((), s)) (
    e_cv 6 a0 s (f_X6_addTops N a0 x4 s) fun _u s2 =>
    e_gR 6 5 a0 s2 fun r3 =>
    e_nn r3 fun a4 =>
    e_gR 0 3 a4 s2 fun r5 =>
    e_nn r5 fun a6 =>
    e_aI 100 a6 x4 s2 fun v7 =>
    e_gI 6 6 a0 s2 fun v8 =>
    e_min v7 (x1 + v8) fun v9 =>
    e_gR 6 5 a0 s2 fun r10 =>
    e_nn r10 fun a11 =>
    e_gR 0 4 a11 s2 fun r12 =>
    e_nn r12 fun a13 =>
    e_aI 100 a13 x4 s2 fun v14 =>
    e_gI 6 6 a0 s2 fun v15 =>
    e_max v14 (x1 - v15) fun v16 =>
    f_X6_goBack_115 N k58 N a0 x1 x2 x4 v9 v16 s2)
def f_X6_goBack_58 (N : Nat) : Nat → Nat → Int → Int → Int → sj_Mem → Option (Unit × sj_Mem)
  | 0 => fun _ _ _ _ _ => none
  | n + 1 => fun a0 x1 x2 x4 s => f_X6_goBack_58_b N (f_X6_goBack_58 N n) a0 x1 x2 x4 s
def f_X6_goBack (N : Nat) (a0 : Nat) (s : sj_Mem) : Option (Unit × sj_Mem) :=
  e_gI 6 11 a0 s fun v1 =>
  e_ieq v1 ((-1)) (
    some ((), s)) (
    e_gR 6 4 a0 s fun r2 =>
    e_gR 6 5 a0 s fun r3 =>
    e_gI 6 11 a0 s fun v4 =>
    e_gI 6 12 a0 s fun v5 =>
    e_gI 6 7 a0 s fun v6 =>
    e_nn r2 fun a7 =>
    e_cv 5 a7 s (f_X5_span N a7 r3 v4 v5 v6 s) fun _u s8 =>
    e_gR 6 5 a0 s8 fun r9 =>
    e_nn r9 fun a10 =>
    e_gR 0 3 a10 s8 fun r11 =>
    e_gI 6 12 a0 s8 fun v12 =>
    e_nn r11 fun a13 =>
    e_aI 100 a13 v12 s8 fun v14 =>
    e_gI 6 10 a0 s8 fun v15 =>
    e_gI 6 12 a0 s8 fun v16 =>
    e_lt (v16 - 1) fun v17 =>
    f_X6_goBack_58 N N a0 v14 v15 v17 s8)
def f_X6_judge_105 (N : Nat) (k39 : Nat → Int → Int → sj_Mem → Option (Unit × sj_Mem)) (a0 : Nat) (x4 : Int) (x5 : Int) (s : sj_Mem) : Option (Unit × sj_Mem) :=
  e_lt (x5 + 1) fun v1 =>
  k39 a0 x4 v1 s
def f_X6_judge_92 (N : Nat) (k39 : Nat → Int → Int → sj_Mem → Option (Unit × sj_Mem)) (a0 : Nat) (x4 : Int) (x5 : Int) (x6 : Int) (s : sj_Mem) : Option (Unit × sj_Mem) :=
  e_pI 6 9 a0 x6 s fun s1 =>
  f_X6_judge_105 N k39 a0 x4 x5 s1
def f_X6_judge_111 (N : Nat) (a0 : Nat) (s : sj_Mem) : Option (Unit × sj_Mem) :=
  e_gI 6 9 a0 s fun v1 =>
  e_ile 20000 v1 (
    some ((), s)) (
    e_gI 6 9 a0 s fun v2 =>
    e_cv 6 a0 s (f_X6_sweep N a0 (v2 + 1) 0 s) fun _u s3 =>
    e_cv 6 a0 s3 (f_X6_goBack N a0 s3) fun _u s4 =>
    some ((), s4))
def f_X6_judge_39_b (N : Nat) (k39 : Nat → Int → Int → sj_Mem → Option (Unit × sj_Mem)) (a0 : Nat) (x4 : Int) (x5 : Int) (s : sj_Mem) : Option (Unit × sj_Mem) :=
  e_ile 15 x5 (
    f_X6_judge_111 N a0 s) (
    e_gI 6 9 a0 s fun v1 =>
    e_ile (x4 - v1) 1 (
      f_X6_judge_111 N a0 s) (
      e_gI 6 9 a0 s fun v2 =>
      e_dI (v2 + x4) 2 fun v3 =>
      e_cv 6 a0 s (f_X6_sweep N a0 v3 1 s) fun _u s4 =>
      e_gI 6 11 a0 s4 fun v5 =>
      e_ieq v5 ((-1)) (
        f_X6_judge_92 N k39 a0 x4 x5 v3 s4) (
        e_gI 6 10 a0 s4 fun v6 =>
        e_llt v6 0 (
          f_X6_judge_105 N k39 a0 v3 x5 s4) (
          f_X6_judge_92 N k39 a0 x4 x5 v3 s4))))
def f_X6_judge_39 (N : Nat) : Nat → Nat → Int → Int → sj_Mem → Option (Unit × sj_Mem)
  | 0 => fun _ _ _ _ => none
  | n + 1 => fun a0 x4 x5 s => f_X6_judge_39_b N (f_X6_judge_39 N n) a0 x4 x5 s
def f_X6_judge (N : Nat) (a0 : Nat) (x1 : Option Nat) (x2 : Int) (x3 : Int) (s : sj_Mem) : Option (Unit × sj_Mem) :=
  e_pR 6 5 a0 x1 s fun s1 =>
  e_pI 6 6 a0 x2 s1 fun s2 =>
  e_pZ 6 7 a0 x3 s2 fun s3 =>
  e_gR 6 4 a0 s3 fun r4 =>
  e_nn r4 fun a5 =>
  e_cv 5 a5 s3 (f_X5_drop N a5 s3) fun _u s6 =>
  e_cv 6 a0 s6 (f_X6_weighAll N a0 s6) fun _u s7 =>
  e_pI 6 9 a0 0 s7 fun s8 =>
  f_X6_judge_39 N N a0 20001 0 s8
def f_X7_init (N : Nat) (a0 : Nat) (s : sj_Mem) : Option (Unit × sj_Mem) :=
  e_nA 100 600 s fun a1 s2 =>
  e_pR 7 0 a0 (some a1) s2 fun s3 =>
  e_pI 7 4 a0 ((-1)) s3 fun s4 =>
  some ((), s4)
def f_X7_put_3_b (N : Nat) (k3 : Nat → Int → Int → sj_Mem → Option (Unit × sj_Mem)) (a0 : Nat) (x1 : Int) (x2 : Int) (s : sj_Mem) : Option (Unit × sj_Mem) :=
  e_ilt x2 0 (
    some ((), s)) (
    e_gI 7 1 a0 s fun v1 =>
    e_ile 600 v1 (
      some ((), s)) (
      e_gR 7 0 a0 s fun r2 =>
      e_gI 7 1 a0 s fun v3 =>
      e_ush x1 x2 fun v4 =>
      e_nn r2 fun a5 =>
      e_uI 100 a5 v3 (sj_and v4 255) s fun s6 =>
      e_gI 7 1 a0 s6 fun v7 =>
      e_pI 7 1 a0 (v7 + 1) s6 fun s8 =>
      e_lt (x2 + (-8)) fun v9 =>
      k3 a0 x1 v9 s8))
def f_X7_put_3 (N : Nat) : Nat → Nat → Int → Int → sj_Mem → Option (Unit × sj_Mem)
  | 0 => fun _ _ _ _ => none
  | n + 1 => fun a0 x1 x2 s => f_X7_put_3_b N (f_X7_put_3 N n) a0 x1 x2 s
def f_X7_put (N : Nat) (a0 : Nat) (x1 : Int) (s : sj_Mem) : Option (Unit × sj_Mem) :=
  f_X7_put_3 N N a0 x1 24 s
def f_X7_skip_0_b (N : Nat) (k0 : Nat → sj_Mem → Option (Unit × sj_Mem)) (a0 : Nat) (s : sj_Mem) : Option (Unit × sj_Mem) :=
  e_gI 7 2 a0 s fun v1 =>
  e_gI 7 1 a0 s fun v2 =>
  e_ile v2 v1 (
    some ((), s)) (
    e_gR 7 0 a0 s fun r3 =>
    e_gI 7 2 a0 s fun v4 =>
    e_nn r3 fun a5 =>
    e_aI 100 a5 v4 s fun v6 =>
    e_ieq v6 32 (
      e_gI 7 2 a0 s fun v7 =>
      e_pI 7 2 a0 (v7 + 1) s fun s8 =>
      k0 a0 s8) (
      some ((), s)))
def f_X7_skip_0 (N : Nat) : Nat → Nat → sj_Mem → Option (Unit × sj_Mem)
  | 0 => fun _ _ => none
  | n + 1 => fun a0 s => f_X7_skip_0_b N (f_X7_skip_0 N n) a0 s
def f_X7_skip (N : Nat) (a0 : Nat) (s : sj_Mem) : Option (Unit × sj_Mem) := f_X7_skip_0 N N a0 s
def f_X7_seesFrom (N : Nat) (a0 : Nat) (x1 : Int) (x2 : Int) (s : sj_Mem) : Option (Int × sj_Mem) :=
  e_gI 7 2 a0 s fun v1 =>
  e_gI 7 1 a0 s fun v2 =>
  e_ile v2 v1 (
    e_z 0 s) (
    e_gR 7 0 a0 s fun r3 =>
    e_gI 7 2 a0 s fun v4 =>
    e_nn r3 fun a5 =>
    e_aI 100 a5 v4 s fun v6 =>
    e_ilt v6 x1 (
      e_z 0 s) (
      e_gR 7 0 a0 s fun r7 =>
      e_gI 7 2 a0 s fun v8 =>
      e_nn r7 fun a9 =>
      e_aI 100 a9 v8 s fun v10 =>
      e_ilt x2 v10 (
        e_z 0 s) (
        e_z 1 s)))
def f_X7_readWord_43 (N : Nat) (a0 : Nat) (s : sj_Mem) : Option (Unit × sj_Mem) :=
  e_gI 7 2 a0 s fun v1 =>
  e_pI 7 6 a0 v1 s fun s2 =>
  e_cv 7 a0 s2 (f_X7_skip N a0 s2) fun _u s3 =>
  some ((), s3)
def f_X7_readWord_8_b (N : Nat) (k8 : Nat → sj_Mem → Option (Unit × sj_Mem)) (a0 : Nat) (s : sj_Mem) : Option (Unit × sj_Mem) :=
  e_cv 7 a0 s (f_X7_seesFrom N a0 97 122 s) fun v2 s1 =>
  e_ieq v2 0 (
    f_X7_readWord_43 N a0 s1) (
    e_gI 7 2 a0 s1 fun v3 =>
    e_gI 7 1 a0 s1 fun v4 =>
    e_ile v4 v3 (
      f_X7_readWord_43 N a0 s1) (
      e_gI 7 2 a0 s1 fun v5 =>
      e_pI 7 2 a0 (v5 + 1) s1 fun s6 =>
      k8 a0 s6))
def f_X7_readWord_8 (N : Nat) : Nat → Nat → sj_Mem → Option (Unit × sj_Mem)
  | 0 => fun _ _ => none
  | n + 1 => fun a0 s => f_X7_readWord_8_b N (f_X7_readWord_8 N n) a0 s
def f_X7_readWord (N : Nat) (a0 : Nat) (s : sj_Mem) : Option (Unit × sj_Mem) :=
  e_gI 7 2 a0 s fun v1 =>
  e_pI 7 5 a0 v1 s fun s2 =>
  f_X7_readWord_8 N N a0 s2
def f_X7_isWord_20_b (N : Nat) (k20 : Nat → Nat → Int → sj_Mem → Option (Int × sj_Mem)) (a0 : Nat) (x1 : Nat) (x2 : Int) (s : sj_Mem) : Option (Int × sj_Mem) :=
  e_tl x1 fun v1 =>
  e_ile v1 x2 (
    e_z 1 s) (
    e_gR 7 0 a0 s fun r2 =>
    e_gI 7 5 a0 s fun v3 =>
    e_nn r2 fun a4 =>
    e_aI 100 a4 (v3 + x2) s fun v5 =>
    e_tc x1 x2 fun v6 =>
    e_ieq v5 v6 (
      e_lt (x2 + 1) fun v7 =>
      k20 a0 x1 v7 s) (
      e_z 0 s))
def f_X7_isWord_20 (N : Nat) : Nat → Nat → Nat → Int → sj_Mem → Option (Int × sj_Mem)
  | 0 => fun _ _ _ _ => none
  | n + 1 => fun a0 x1 x2 s => f_X7_isWord_20_b N (f_X7_isWord_20 N n) a0 x1 x2 s
def f_X7_isWord (N : Nat) (a0 : Nat) (x1 : Nat) (s : sj_Mem) : Option (Int × sj_Mem) :=
  e_tl x1 fun v1 =>
  e_gI 7 6 a0 s fun v2 =>
  e_gI 7 5 a0 s fun v3 =>
  e_ieq v1 (v2 - v3) (
    f_X7_isWord_20 N N a0 x1 0 s) (
    e_z 0 s)
def f_X7_fail (N : Nat) (a0 : Nat) (x1 : Int) (x2 : Int) (s : sj_Mem) : Option (Int × sj_Mem) :=
  e_pI 7 3 a0 x1 s fun s1 =>
  e_pI 7 4 a0 x2 s1 fun s2 =>
  some ((-1), s2)
def f_X7_readNumber_103 (N : Nat) (a0 : Nat) (s : sj_Mem) : Option (Int × sj_Mem) :=
  e_gI 7 5 a0 s fun v1 =>
  e_cv 7 a0 s (f_X7_fail N a0 2 v1 s) fun v3 s2 =>
  some (v3, s2)
def f_X7_readNumber_68 (N : Nat) (a0 : Nat) (x1 : Int) (x2 : Int) (x3 : Int) (s : sj_Mem) : Option (Int × sj_Mem) :=
  e_gI 7 2 a0 s fun v1 =>
  e_gI 7 5 a0 s fun v2 =>
  e_ieq v1 v2 (
    e_gI 7 5 a0 s fun v4 =>
    e_cv 7 a0 s (f_X7_fail N a0 1 v4 s) fun v6 s5 =>
    some (v6, s5)) (
    e_cv 7 a0 s (f_X7_skip N a0 s) fun _u s3 =>
    e_ilt x3 x1 (
      f_X7_readNumber_103 N a0 s3) (
      e_ile x3 x2 (
        some (x3, s3)) (
        f_X7_readNumber_103 N a0 s3)))
def f_X7_readNumber_10_b (N : Nat) (k10 : Nat → Int → Int → Int → sj_Mem → Option (Int × sj_Mem)) (a0 : Nat) (x1 : Int) (x2 : Int) (x3 : Int) (s : sj_Mem) : Option (Int × sj_Mem) :=
  e_cv 7 a0 s (f_X7_seesFrom N a0 48 57 s) fun v2 s1 =>
  e_ieq v2 0 (
    f_X7_readNumber_68 N a0 x1 x2 x3 s1) (
    e_gI 7 2 a0 s1 fun v3 =>
    e_gI 7 1 a0 s1 fun v4 =>
    e_ile v4 v3 (
      f_X7_readNumber_68 N a0 x1 x2 x3 s1) (
      e_gR 7 0 a0 s1 fun r5 =>
      e_gI 7 2 a0 s1 fun v6 =>
      e_nn r5 fun a7 =>
      e_aI 100 a7 v6 s1 fun v8 =>
      e_min 1000000 (((x3 * 10) + v8) - 48) fun v9 =>
      e_gI 7 2 a0 s1 fun v10 =>
      e_pI 7 2 a0 (v10 + 1) s1 fun s11 =>
      k10 a0 x1 x2 v9 s11))
def f_X7_readNumber_10 (N : Nat) : Nat → Nat → Int → Int → Int → sj_Mem → Option (Int × sj_Mem)
  | 0 => fun _ _ _ _ _ => none
  | n + 1 => fun a0 x1 x2 x3 s => f_X7_readNumber_10_b N (f_X7_readNumber_10 N n) a0 x1 x2 x3 s
def f_X7_readNumber (N : Nat) (a0 : Nat) (x1 : Int) (x2 : Int) (s : sj_Mem) : Option (Int × sj_Mem) :=
  e_gI 7 2 a0 s fun v1 =>
  e_pI 7 5 a0 v1 s fun s2 =>
  f_X7_readNumber_10 N N a0 x1 x2 0 s2
def f_X7_sees (N : Nat) (a0 : Nat) (x1 : Int) (s : sj_Mem) : Option (Int × sj_Mem) :=
  e_gI 7 2 a0 s fun v1 =>
  e_gI 7 1 a0 s fun v2 =>
  e_ile v2 v1 (
    e_z 0 s) (
    e_gR 7 0 a0 s fun r3 =>
    e_gI 7 2 a0 s fun v4 =>
    e_nn r3 fun a5 =>
    e_aI 100 a5 v4 s fun v6 =>
    e_ieq v6 x1 (
      e_z 1 s) (
      e_z 0 s))
def f_X7_readEnd (N : Nat) (a0 : Nat) (s : sj_Mem) : Option (Int × sj_Mem) :=
  e_cv 7 a0 s (f_X7_sees N a0 59 s) fun v2 s1 =>
  e_ieq v2 0 (
    e_gI 7 2 a0 s1 fun v6 =>
    e_cv 7 a0 s1 (f_X7_fail N a0 1 v6 s1) fun v8 s7 =>
    e_z 0 s7) (
    e_gI 7 2 a0 s1 fun v3 =>
    e_pI 7 2 a0 (v3 + 1) s1 fun s4 =>
    e_cv 7 a0 s4 (f_X7_skip N a0 s4) fun _u s5 =>
    e_z 1 s5)
def f_X7_readColumns (N : Nat) (a0 : Nat) (x1 : Option Nat) (s : sj_Mem) : Option (Int × sj_Mem) :=
  e_cv 7 a0 s (f_X7_readWord N a0 s) fun _u s1 =>
  e_cv 7 a0 s1 (f_X7_isWord N a0 0 s1) fun v3 s2 =>
  e_ieq v3 0 (
    e_gI 7 5 a0 s2 fun v12 =>
    e_cv 7 a0 s2 (f_X7_fail N a0 1 v12 s2) fun v14 s13 =>
    e_z 0 s13) (
    e_cv 7 a0 s2 (f_X7_readNumber N a0 4 40 s2) fun v5 s4 =>
    e_ieq v5 ((-1)) (
      e_z 0 s4) (
      e_cv 7 a0 s4 (f_X7_readNumber N a0 1 10 s4) fun v7 s6 =>
      e_ieq v7 ((-1)) (
        e_z 0 s6) (
        e_nn x1 fun a8 =>
        e_cv 0 a8 s6 (f_X0_begin N a8 v5 v7 s6) fun _u s9 =>
        e_cv 7 a0 s9 (f_X7_readEnd N a0 s9) fun v11 s10 =>
        e_z v11 s10)))
def f_X7_lineKind (N : Nat) (a0 : Nat) (s : sj_Mem) : Option (Int × sj_Mem) :=
  e_cv 7 a0 s (f_X7_isWord N a0 1 s) fun v2 s1 =>
  e_ieq v2 0 (
    e_cv 7 a0 s1 (f_X7_isWord N a0 2 s1) fun v4 s3 =>
    e_ieq v4 0 (
      e_cv 7 a0 s3 (f_X7_isWord N a0 3 s3) fun v6 s5 =>
      e_ieq v6 0 (
        e_cv 7 a0 s5 (f_X7_isWord N a0 4 s5) fun v8 s7 =>
        e_ieq v8 0 (
          e_cv 7 a0 s7 (f_X7_isWord N a0 5 s7) fun v10 s9 =>
          e_ieq v10 0 (
            e_cv 7 a0 s9 (f_X7_isWord N a0 6 s9) fun v12 s11 =>
            e_ieq v12 0 (
              e_cv 7 a0 s11 (f_X7_isWord N a0 7 s11) fun v14 s13 =>
              e_ieq v14 0 (
                e_cv 7 a0 s13 (f_X7_isWord N a0 8 s13) fun v16 s15 =>
                e_ieq v16 0 (
                  some ((-1), s15)) (
                  some (13, s15))) (
                some (9, s13))) (
              some (5, s11))) (
            some (4, s9))) (
          some (3, s7))) (
        some (2, s5))) (
      some (1, s3))) (
    some (0, s1))
def f_X7_isNew (N : Nat) (a0 : Nat) (x1 : Int) (s : sj_Mem) : Option (Int × sj_Mem) :=
  e_shl 1 x1 fun v1 =>
  e_gI 7 7 a0 s fun v2 =>
  e_ieq (sj_and v2 v1) 0 (
    e_gI 7 7 a0 s fun v3 =>
    e_pI 7 7 a0 (sj_or v3 v1) s fun s4 =>
    e_z 1 s4) (
    e_gI 7 5 a0 s fun v5 =>
    e_cv 7 a0 s (f_X7_fail N a0 3 v5 s) fun v7 s6 =>
    e_z 0 s6)
def f_X7_readAnchor (N : Nat) (a0 : Nat) (x1 : Option Nat) (s : sj_Mem) : Option (Int × sj_Mem) :=
  e_cv 7 a0 s (f_X7_readNumber N a0 0 5 s) fun v2 s1 =>
  e_ieq v2 ((-1)) (
    e_z 0 s1) (
    e_cv 7 a0 s1 (f_X7_isNew N a0 (13 + v2) s1) fun v4 s3 =>
    e_ieq v4 0 (
      e_z 0 s3) (
      e_nn x1 fun a5 =>
      e_gI 0 0 a5 s3 fun v6 =>
      e_cv 7 a0 s3 (f_X7_readNumber N a0 0 v6 s3) fun v8 s7 =>
      e_ieq v8 ((-1)) (
        e_z 0 s7) (
        e_cv 7 a0 s7 (f_X7_readNumber N a0 0 100 s7) fun v10 s9 =>
        e_ieq v10 ((-1)) (
          e_z 0 s9) (
          e_cv 7 a0 s9 (f_X7_readNumber N a0 1 500 s9) fun v12 s11 =>
          e_gR 0 11 a5 s11 fun r13 =>
          e_nn r13 fun a14 =>
          e_uI 100 a14 v2 v8 s11 fun s15 =>
          e_gR 0 12 a5 s15 fun r16 =>
          e_nn r16 fun a17 =>
          e_uI 100 a17 v2 v10 s15 fun s18 =>
          e_gR 0 13 a5 s18 fun r19 =>
          e_nn r19 fun a20 =>
          e_uI 100 a20 v2 v12 s18 fun s21 =>
          e_ieq v12 ((-1)) (
            e_z 0 s21) (
            e_cv 7 a0 s21 (f_X7_readEnd N a0 s21) fun v23 s22 =>
            e_ieq v23 0 (
              e_z 0 s22) (
              e_z 1 s22))))))
def f_X7_readSoil (N : Nat) (a0 : Nat) (x1 : Option Nat) (s : sj_Mem) : Option (Int × sj_Mem) :=
  e_cv 7 a0 s (f_X7_readNumber N a0 0 3 s) fun v2 s1 =>
  e_ieq v2 ((-1)) (
    e_z 0 s1) (
    e_cv 7 a0 s1 (f_X7_isNew N a0 (9 + v2) s1) fun v4 s3 =>
    e_ieq v4 0 (
      e_z 0 s3) (
      e_cv 7 a0 s3 (f_X7_readNumber N a0 1 30 s3) fun v6 s5 =>
      e_ieq v6 ((-1)) (
        e_z 0 s5) (
        e_cv 7 a0 s5 (f_X7_readNumber N a0 0 200 s5) fun v8 s7 =>
        e_ieq v8 ((-1)) (
          e_z 0 s7) (
          e_cv 7 a0 s7 (f_X7_readNumber N a0 0 1500 s7) fun v10 s9 =>
          e_nn x1 fun a11 =>
          e_gR 0 8 a11 s9 fun r12 =>
          e_nn r12 fun a13 =>
          e_uI 100 a13 v2 v6 s9 fun s14 =>
          e_gR 0 9 a11 s14 fun r15 =>
          e_nn r15 fun a16 =>
          e_uI 100 a16 v2 v8 s14 fun s17 =>
          e_gR 0 10 a11 s17 fun r18 =>
          e_nn r18 fun a19 =>
          e_uI 100 a19 v2 v10 s17 fun s20 =>
          e_ieq v10 ((-1)) (
            e_z 0 s20) (
            e_cv 7 a0 s20 (f_X7_readEnd N a0 s20) fun v22 s21 =>
            e_ieq v22 0 (
              e_z 0 s21) (
              e_z 1 s21))))))
def f_X7_readTimes (N : Nat) (a0 : Nat) (x1 : Int) (s : sj_Mem) : Option (Int × sj_Mem) :=
  e_cv 7 a0 s (f_X7_sees N a0 42 s) fun v2 s1 =>
  e_ieq v2 0 (
    some (1, s1)) (
    e_gI 7 2 a0 s1 fun v3 =>
    e_pI 7 2 a0 (v3 + 1) s1 fun s4 =>
    e_cv 7 a0 s4 (f_X7_skip N a0 s4) fun _u s5 =>
    e_cv 7 a0 s5 (f_X7_readNumber N a0 1 x1 s5) fun v7 s6 =>
    some (v7, s6))
def f_X7_readRow_118 (N : Nat) (a0 : Nat) (s : sj_Mem) : Option (Int × sj_Mem) :=
  e_cv 7 a0 s (f_X7_readEnd N a0 s) fun v2 s1 =>
  e_z v2 s1
def f_X7_readRow_91 (N : Nat) (a0 : Nat) (x3 : Int) (x5 : Int) (s : sj_Mem) : Option (Int × sj_Mem) :=
  e_ilt x3 x5 (
    f_X7_readRow_118 N a0 s) (
    e_cv 7 a0 s (f_X7_sees N a0 59 s) fun v2 s1 =>
    e_ieq v2 0 (
      f_X7_readRow_118 N a0 s1) (
      e_gI 7 2 a0 s1 fun v3 =>
      e_cv 7 a0 s1 (f_X7_fail N a0 2 v3 s1) fun v5 s4 =>
      e_z 0 s4))
def f_X7_readRow_43_b (N : Nat) (k3 : Nat → Option Nat → Int → Int → Int → Int → sj_Mem → Option (Int × sj_Mem)) (k43 : Nat → Option Nat → Int → Int → Int → Int → Int → Int → Int → sj_Mem → Option (Int × sj_Mem)) (a0 : Nat) (x1 : Option Nat) (x2 : Int) (x3 : Int) (x4 : Int) (x5 : Int) (x6 : Int) (x7 : Int) (x8 : Int) (s : sj_Mem) : Option (Int × sj_Mem) :=
  e_ile x7 x8 (
    e_lt (x5 + x7) fun v1 =>
    e_ilt x3 v1 (
      f_X7_readRow_91 N a0 x3 v1 s) (
      e_cv 7 a0 s (f_X7_seesFrom N a0 48 57 s) fun v3 s2 =>
      e_ieq v3 0 (
        f_X7_readRow_91 N a0 x3 v1 s2) (
        k3 a0 x1 x2 x3 x4 v1 s2))) (
    e_nn x1 fun a4 =>
    e_uI 100 a4 ((x2 + x5) + x8) x6 s fun s5 =>
    e_lt (x8 + 1) fun v6 =>
    k43 a0 (some a4) x2 x3 x4 x5 x6 x7 v6 s5)
def f_X7_readRow_43 (N : Nat) (k3 : Nat → Option Nat → Int → Int → Int → Int → sj_Mem → Option (Int × sj_Mem)) : Nat → Nat → Option Nat → Int → Int → Int → Int → Int → Int → Int → sj_Mem → Option (Int × sj_Mem)
  | 0 => fun _ _ _ _ _ _ _ _ _ _ => none
  | n + 1 => fun a0 x1 x2 x3 x4 x5 x6 x7 x8 s => f_X7_readRow_43_b N k3 (f_X7_readRow_43 N k3 n) a0 x1 x2 x3 x4 x5 x6 x7 x8 s
def f_X7_readRow_3_b (N : Nat) (k3 : Nat → Option Nat → Int → Int → Int → Int → sj_Mem → Option (Int × sj_Mem)) (a0 : Nat) (x1 : Option Nat) (x2 : Int) (x3 : Int) (x4 : Int) (x5 : Int) (s : sj_Mem) : Option (Int × sj_Mem) :=
  e_cv 7 a0 s (f_X7_readNumber N a0 0 x4 s) fun v2 s1 =>
  e_ieq v2 ((-1)) (
    e_z 0 s1) (
    e_cv 7 a0 s1 (f_X7_readTimes N a0 ((x3 + 1) - x5) s1) fun v4 s3 =>
    e_ieq v4 ((-1)) (
      e_z 0 s3) (
      f_X7_readRow_43 N k3 N a0 x1 x2 x3 x4 x5 v2 v4 0 s3))
def f_X7_readRow_3 (N : Nat) : Nat → Nat → Option Nat → Int → Int → Int → Int → sj_Mem → Option (Int × sj_Mem)
  | 0 => fun _ _ _ _ _ _ _ => none
  | n + 1 => fun a0 x1 x2 x3 x4 x5 s => f_X7_readRow_3_b N (f_X7_readRow_3 N n) a0 x1 x2 x3 x4 x5 s
def f_X7_readRow (N : Nat) (a0 : Nat) (x1 : Option Nat) (x2 : Int) (x3 : Int) (x4 : Int) (s : sj_Mem) : Option (Int × sj_Mem) :=
  f_X7_readRow_3 N N a0 x1 x2 x3 x4 0 s
def f_X7_readTop (N : Nat) (a0 : Nat) (x1 : Option Nat) (s : sj_Mem) : Option (Int × sj_Mem) :=
  e_cv 7 a0 s (f_X7_readNumber N a0 1 3 s) fun v2 s1 =>
  e_ieq v2 ((-1)) (
    e_z 0 s1) (
    e_cv 7 a0 s1 (f_X7_isNew N a0 (5 + v2) s1) fun v4 s3 =>
    e_ieq v4 0 (
      e_z 0 s3) (
      e_nn x1 fun a5 =>
      e_gR 0 7 a5 s3 fun r6 =>
      e_cl (f_X8_topPlace N v2 0 s3) fun v8 s7 =>
      e_gI 0 0 a5 s7 fun v9 =>
      e_cv 7 a0 s7 (f_X7_readRow N a0 r6 v8 v9 100 s7) fun v11 s10 =>
      e_z v11 s10))
def f_X7_readQuake (N : Nat) (a0 : Nat) (x1 : Option Nat) (s : sj_Mem) : Option (Int × sj_Mem) :=
  e_cv 7 a0 s (f_X7_readNumber N a0 0 500 s) fun v2 s1 =>
  e_nn x1 fun a3 =>
  e_pI 0 2 a3 v2 s1 fun s4 =>
  e_ieq v2 ((-1)) (
    e_z 0 s4) (
    e_cv 7 a0 s4 (f_X7_readEnd N a0 s4) fun v6 s5 =>
    e_ieq v6 0 (
      e_z 0 s5) (
      e_z 1 s5))
def f_X7_readLine (N : Nat) (a0 : Nat) (x1 : Option Nat) (s : sj_Mem) : Option (Int × sj_Mem) :=
  e_cv 7 a0 s (f_X7_readWord N a0 s) fun _u s1 =>
  e_cv 7 a0 s1 (f_X7_lineKind N a0 s1) fun v3 s2 =>
  e_sw v3 (
  if v3 = 0 then (
    e_cv 7 a0 s2 (f_X7_isNew N a0 v3 s2) fun v5 s4 =>
    e_ieq v5 0 (
      e_z 0 s4) (
      e_nn x1 fun a6 =>
      e_gR 0 3 a6 s4 fun r7 =>
      e_gI 0 0 a6 s4 fun v8 =>
      e_cv 7 a0 s4 (f_X7_readRow N a0 r7 0 v8 100 s4) fun v10 s9 =>
      e_ieq v10 0 (
        e_z 0 s9) (
        e_z 1 s9))) else (
  if v3 = 1 then (
    e_cv 7 a0 s2 (f_X7_isNew N a0 v3 s2) fun v12 s11 =>
    e_ieq v12 0 (
      e_z 0 s11) (
      e_nn x1 fun a13 =>
      e_gR 0 4 a13 s11 fun r14 =>
      e_gI 0 0 a13 s11 fun v15 =>
      e_cv 7 a0 s11 (f_X7_readRow N a0 r14 0 v15 100 s11) fun v17 s16 =>
      e_ieq v17 0 (
        e_z 0 s16) (
        e_z 1 s16))) else (
  if v3 = 2 then (
    e_cv 7 a0 s2 (f_X7_isNew N a0 v3 s2) fun v19 s18 =>
    e_ieq v19 0 (
      e_z 0 s18) (
      e_nn x1 fun a20 =>
      e_gR 0 5 a20 s18 fun r21 =>
      e_gI 0 0 a20 s18 fun v22 =>
      e_cv 7 a0 s18 (f_X7_readRow N a0 r21 0 v22 100 s18) fun v24 s23 =>
      e_ieq v24 0 (
        e_z 0 s23) (
        e_z 1 s23))) else (
  if v3 = 3 then (
    e_cv 7 a0 s2 (f_X7_isNew N a0 v3 s2) fun v26 s25 =>
    e_ieq v26 0 (
      e_z 0 s25) (
      e_nn x1 fun a27 =>
      e_gR 0 6 a27 s25 fun r28 =>
      e_gI 0 0 a27 s25 fun v29 =>
      e_cv 7 a0 s25 (f_X7_readRow N a0 r28 0 v29 500 s25) fun v31 s30 =>
      e_ieq v31 0 (
        e_z 0 s30) (
        e_z 1 s30))) else (
  if v3 = 4 then (
    e_cv 7 a0 s2 (f_X7_isNew N a0 v3 s2) fun v33 s32 =>
    e_ieq v33 0 (
      e_z 0 s32) (
      e_cv 7 a0 s32 (f_X7_readQuake N a0 x1 s32) fun v35 s34 =>
      e_ieq v35 0 (
        e_z 0 s34) (
        e_z 1 s34))) else (
  if v3 = 5 then (
    e_cv 7 a0 s2 (f_X7_readTop N a0 x1 s2) fun v37 s36 =>
    e_z v37 s36) else (
  if v3 = 6 then (
    e_gI 7 5 a0 s2 fun v38 =>
    e_cv 7 a0 s2 (f_X7_fail N a0 1 v38 s2) fun v40 s39 =>
    e_z 0 s39) else (
  if v3 = 7 then (
    e_gI 7 5 a0 s2 fun v41 =>
    e_cv 7 a0 s2 (f_X7_fail N a0 1 v41 s2) fun v43 s42 =>
    e_z 0 s42) else (
  if v3 = 8 then (
    e_gI 7 5 a0 s2 fun v44 =>
    e_cv 7 a0 s2 (f_X7_fail N a0 1 v44 s2) fun v46 s45 =>
    e_z 0 s45) else (
  if v3 = 9 then (
    e_cv 7 a0 s2 (f_X7_readSoil N a0 x1 s2) fun v48 s47 =>
    e_z v48 s47) else (
  if v3 = 10 then (
    e_gI 7 5 a0 s2 fun v49 =>
    e_cv 7 a0 s2 (f_X7_fail N a0 1 v49 s2) fun v51 s50 =>
    e_z 0 s50) else (
  if v3 = 11 then (
    e_gI 7 5 a0 s2 fun v52 =>
    e_cv 7 a0 s2 (f_X7_fail N a0 1 v52 s2) fun v54 s53 =>
    e_z 0 s53) else (
  if v3 = 12 then (
    e_gI 7 5 a0 s2 fun v55 =>
    e_cv 7 a0 s2 (f_X7_fail N a0 1 v55 s2) fun v57 s56 =>
    e_z 0 s56) else (
  if v3 = 13 then (
    e_cv 7 a0 s2 (f_X7_readAnchor N a0 x1 s2) fun v59 s58 =>
    e_z v59 s58) else (
    e_gI 7 5 a0 s2 fun v60 =>
    e_cv 7 a0 s2 (f_X7_fail N a0 1 v60 s2) fun v62 s61 =>
    e_z 0 s61)))))))))))))))
def f_X7_read_70 (N : Nat) (a0 : Nat) (x1 : Option Nat) (x2 : Int) (s : sj_Mem) : Option (Int × sj_Mem) :=
  e_nn x1 fun a1 =>
  e_cv 0 a1 s (f_X0_rockIsBelow N a1 s) fun v3 s2 =>
  e_ieq v3 0 (
    e_gI 7 1 a0 s2 fun v4 =>
    e_cv 7 a0 s2 (f_X7_fail N a0 4 v4 s2) fun v6 s5 =>
    some (v6, s5)) (
    some (x2, s2))
def f_X7_read_36_b (N : Nat) (k36 : Nat → Option Nat → Int → sj_Mem → Option (Int × sj_Mem)) (a0 : Nat) (x1 : Option Nat) (x2 : Int) (s : sj_Mem) : Option (Int × sj_Mem) :=
  e_gI 7 2 a0 s fun v1 =>
  e_gI 7 1 a0 s fun v2 =>
  e_ile v2 v1 (
    f_X7_read_70 N a0 x1 x2 s) (
    e_ilt 600 x2 (
      f_X7_read_70 N a0 x1 x2 s) (
      e_cv 7 a0 s (f_X7_readLine N a0 x1 s) fun v4 s3 =>
      e_ieq v4 0 (
        some ((-1), s3)) (
        e_lt (x2 + 1) fun v5 =>
        k36 a0 x1 v5 s3)))
def f_X7_read_36 (N : Nat) : Nat → Nat → Option Nat → Int → sj_Mem → Option (Int × sj_Mem)
  | 0 => fun _ _ _ _ => none
  | n + 1 => fun a0 x1 x2 s => f_X7_read_36_b N (f_X7_read_36 N n) a0 x1 x2 s
def f_X7_read (N : Nat) (a0 : Nat) (x1 : Option Nat) (s : sj_Mem) : Option (Int × sj_Mem) :=
  e_pI 7 2 a0 0 s fun s1 =>
  e_pI 7 3 a0 0 s1 fun s2 =>
  e_pI 7 4 a0 ((-1)) s2 fun s3 =>
  e_pI 7 7 a0 0 s3 fun s4 =>
  e_cv 7 a0 s4 (f_X7_skip N a0 s4) fun _u s5 =>
  e_cv 7 a0 s5 (f_X7_readColumns N a0 x1 s5) fun v7 s6 =>
  e_ieq v7 0 (
    some ((-1), s6)) (
    f_X7_read_36 N N a0 x1 1 s6)
def f_X8_init_135_b (N : Nat) (k135 : Nat → Int → sj_Mem → Option (Unit × sj_Mem)) (a0 : Nat) (x1 : Int) (s : sj_Mem) : Option (Unit × sj_Mem) :=
  e_ile 8 x1 (
    some ((), s)) (
    e_gR 8 6 a0 s fun r1 =>
    e_nO 0 15 s fun a2 s3 =>
    e_cl (f_X0_init N a2 s3) fun _u s4 =>
    e_nn r1 fun a5 =>
    e_uR a5 x1 a2 s4 fun s6 =>
    e_lt (x1 + 1) fun v7 =>
    k135 a0 v7 s6)
def f_X8_init_135 (N : Nat) : Nat → Nat → Int → sj_Mem → Option (Unit × sj_Mem)
  | 0 => fun _ _ _ => none
  | n + 1 => fun a0 x1 s => f_X8_init_135_b N (f_X8_init_135 N n) a0 x1 s
def f_X8_init (N : Nat) (a0 : Nat) (s : sj_Mem) : Option (Unit × sj_Mem) :=
  e_nO 0 15 s fun a1 s2 =>
  e_cl (f_X0_init N a1 s2) fun _u s3 =>
  e_pR 8 0 a0 (some a1) s3 fun s4 =>
  e_nO 0 15 s4 fun a5 s6 =>
  e_cl (f_X0_init N a5 s6) fun _u s7 =>
  e_pR 8 1 a0 (some a5) s7 fun s8 =>
  e_nO 0 15 s8 fun a9 s10 =>
  e_cl (f_X0_init N a9 s10) fun _u s11 =>
  e_pR 8 2 a0 (some a9) s11 fun s12 =>
  e_nO 1 4 s12 fun a13 s14 =>
  e_cl (f_X1_init N a13 s14) fun _u s15 =>
  e_pR 8 3 a0 (some a13) s15 fun s16 =>
  e_nO 1 4 s16 fun a17 s18 =>
  e_cl (f_X1_init N a17 s18) fun _u s19 =>
  e_pR 8 4 a0 (some a17) s19 fun s20 =>
  e_nO 2 2 s20 fun a21 s22 =>
  e_cl (f_X2_init N a21 s22) fun _u s23 =>
  e_pR 8 5 a0 (some a21) s23 fun s24 =>
  e_nA 104 8 s24 fun a25 s26 =>
  e_pR 8 6 a0 (some a25) s26 fun s27 =>
  e_nO 7 8 s27 fun a28 s29 =>
  e_cl (f_X7_init N a28 s29) fun _u s30 =>
  e_pR 8 7 a0 (some a28) s30 fun s31 =>
  e_nO 4 11 s31 fun a32 s33 =>
  e_cl (f_X4_init N a32 s33) fun _u s34 =>
  e_pR 8 8 a0 (some a32) s34 fun s35 =>
  e_nO 3 7 s35 fun a36 s37 =>
  e_cl (f_X3_init N a36 s37) fun _u s38 =>
  e_pR 8 9 a0 (some a36) s38 fun s39 =>
  e_nO 5 4 s39 fun a40 s41 =>
  e_cl (f_X5_init N a40 s41) fun _u s42 =>
  e_pR 8 10 a0 (some a40) s42 fun s43 =>
  e_gR 8 0 a0 s43 fun r44 =>
  e_nn r44 fun a45 =>
  e_cv 0 a45 s43 (f_X0_begin N a45 20 4 s43) fun _u s46 =>
  f_X8_init_135 N N a0 0 s46
def f_X8_keepAct (N : Nat) (a0 : Nat) (s : sj_Mem) : Option (Unit × sj_Mem) :=
  e_gR 8 6 a0 s fun r1 =>
  e_gI 8 14 a0 s fun v2 =>
  e_nn r1 fun a3 =>
  e_aR a3 v2 s fun r4 =>
  e_gR 8 0 a0 s fun r5 =>
  e_nn r4 fun a6 =>
  e_cv 0 a6 s (f_X0_copy N a6 r5 s) fun _u s7 =>
  e_gI 8 14 a0 s7 fun v8 =>
  e_rI (v8 + 1) 8 fun v9 =>
  e_pI 8 14 a0 v9 s7 fun s10 =>
  e_gI 8 13 a0 s10 fun v11 =>
  e_ile 8 v11 (
    some ((), s10)) (
    e_gI 8 13 a0 s10 fun v12 =>
    e_pI 8 13 a0 (v12 + 1) s10 fun s13 =>
    some ((), s13))
def f_X8_size (N : Nat) (a0 : Nat) (x1 : Int) (x2 : Int) (s : sj_Mem) : Option (Int × sj_Mem) :=
  e_ilt x1 4 (
    e_z 0 s) (
    e_ile 41 x1 (
      e_z 0 s) (
      e_ilt x2 1 (
        e_z 0 s) (
        e_ile x2 10 (
          e_cv 8 a0 s (f_X8_keepAct N a0 s) fun _u s1 =>
          e_gR 8 0 a0 s1 fun r2 =>
          e_nn r2 fun a3 =>
          e_cv 0 a3 s1 (f_X0_begin N a3 x1 x2 s1) fun _u s4 =>
          e_z 1 s4) (
          e_z 0 s))))
def f_X8_tellRock (N : Nat) (a0 : Nat) (x1 : Int) (x2 : Int) (s : sj_Mem) : Option (Int × sj_Mem) :=
  e_gR 8 0 a0 s fun r1 =>
  e_nn r1 fun a2 =>
  e_gR 0 3 a2 s fun r3 =>
  e_nn r3 fun a4 =>
  e_aI 100 a4 x1 s fun v5 =>
  e_ile x2 v5 (
    e_gR 8 0 a0 s fun r6 =>
    e_nn r6 fun a7 =>
    e_gR 0 4 a7 s fun r8 =>
    e_nn r8 fun a9 =>
    e_uI 100 a9 x1 x2 s fun s10 =>
    e_gR 8 0 a0 s10 fun r11 =>
    e_nn r11 fun a12 =>
    e_gR 0 14 a12 s10 fun r13 =>
    e_nn r13 fun a14 =>
    e_cv 5 a14 s10 (f_X5_drop N a14 s10) fun _u s15 =>
    e_z 1 s15) (
    e_z 0 s)
def f_X8_tell_51 (N : Nat) (a0 : Nat) (x1 : Int) (x2 : Int) (x3 : Int) (y0 : Int) (y1 : Int) (s : sj_Mem) : Option (Int × sj_Mem) :=
  e_ile y1 y0 (
    e_ieq x2 1 (
      e_gR 8 0 a0 s fun r13 =>
      e_nn r13 fun a14 =>
      e_gR 0 5 a14 s fun r15 =>
      e_nn r15 fun a16 =>
      e_uI 100 a16 x1 x3 s fun s17 =>
      e_z 1 s17) (
      e_ieq x2 2 (
        e_gR 8 0 a0 s fun r8 =>
        e_nn r8 fun a9 =>
        e_gR 0 6 a9 s fun r10 =>
        e_nn r10 fun a11 =>
        e_uI 100 a11 x1 x3 s fun s12 =>
        e_z 1 s12) (
        e_gR 8 0 a0 s fun r1 =>
        e_nn r1 fun a2 =>
        e_gR 0 7 a2 s fun r3 =>
        e_cl (f_X8_topPlace N (x2 - 2) x1 s) fun v5 s4 =>
        e_nn r3 fun a6 =>
        e_uI 100 a6 v5 x3 s4 fun s7 =>
        e_z 1 s7))) (
    e_z 0 s)
def f_X8_tell (N : Nat) (a0 : Nat) (x1 : Int) (x2 : Int) (x3 : Int) (s : sj_Mem) : Option (Int × sj_Mem) :=
  e_gR 8 0 a0 s fun r1 =>
  e_nn r1 fun a2 =>
  e_cv 0 a2 s (f_X0_hasColumn N a2 x1 s) fun v4 s3 =>
  e_ieq v4 0 (
    e_z 0 s3) (
    e_ilt x2 0 (
      e_z 0 s3) (
      e_ilt 5 x2 (
        e_z 0 s3) (
        e_ile 0 x3 (
          e_ieq x2 0 (
            e_cv 8 a0 s3 (f_X8_tellRock N a0 x1 x3 s3) fun v6 s5 =>
            e_z v6 s5) (
            e_ieq x2 2 (
              f_X8_tell_51 N a0 x1 x2 x3 500 x3 s3) (
              f_X8_tell_51 N a0 x1 x2 x3 100 x3 s3))) (
          e_z 0 s3))))
def f_X8_dig (N : Nat) (a0 : Nat) (x1 : Int) (x2 : Int) (s : sj_Mem) : Option (Int × sj_Mem) :=
  e_gR 8 0 a0 s fun r1 =>
  e_nn r1 fun a2 =>
  e_cv 0 a2 s (f_X0_canLower N a2 x1 x2 s) fun v4 s3 =>
  e_ieq v4 0 (
    some ((-1), s3)) (
    e_cv 8 a0 s3 (f_X8_keepAct N a0 s3) fun _u s5 =>
    e_gR 8 0 a0 s5 fun r6 =>
    e_nn r6 fun a7 =>
    e_gR 0 3 a7 s5 fun r8 =>
    e_nn r8 fun a9 =>
    e_aI 100 a9 x1 s5 fun v10 =>
    e_uI 100 a9 x1 (v10 - x2) s5 fun s11 =>
    e_gR 8 0 a0 s11 fun r12 =>
    e_nn r12 fun a13 =>
    e_gR 0 14 a13 s11 fun r14 =>
    e_nn r14 fun a15 =>
    e_cv 5 a15 s11 (f_X5_drop N a15 s11) fun _u s16 =>
    e_gR 8 0 a0 s16 fun r17 =>
    e_nn r17 fun a18 =>
    e_gR 0 3 a18 s16 fun r19 =>
    e_nn r19 fun a20 =>
    e_aI 100 a20 x1 s16 fun v21 =>
    some (v21, s16))
def f_X8_soil (N : Nat) (a0 : Nat) (x1 : Int) (x2 : Int) (x3 : Int) (x4 : Int) (s : sj_Mem) : Option (Int × sj_Mem) :=
  e_ilt x1 0 (
    e_z 0 s) (
    e_ile 4 x1 (
      e_z 0 s) (
      e_ilt x2 1 (
        e_z 0 s) (
        e_ilt 30 x2 (
          e_z 0 s) (
          e_ilt x3 0 (
            e_z 0 s) (
            e_ilt 200 x3 (
              e_z 0 s) (
              e_ilt x4 0 (
                e_z 0 s) (
                e_ile x4 1500 (
                  e_gR 8 0 a0 s fun r1 =>
                  e_nn r1 fun a2 =>
                  e_gR 0 8 a2 s fun r3 =>
                  e_nn r3 fun a4 =>
                  e_uI 100 a4 x1 x2 s fun s5 =>
                  e_gR 8 0 a0 s5 fun r6 =>
                  e_nn r6 fun a7 =>
                  e_gR 0 9 a7 s5 fun r8 =>
                  e_nn r8 fun a9 =>
                  e_uI 100 a9 x1 x3 s5 fun s10 =>
                  e_gR 8 0 a0 s10 fun r11 =>
                  e_nn r11 fun a12 =>
                  e_gR 0 10 a12 s10 fun r13 =>
                  e_nn r13 fun a14 =>
                  e_uI 100 a14 x1 x4 s10 fun s15 =>
                  e_z 1 s15) (
                  e_z 0 s))))))))
def f_X8_quake (N : Nat) (a0 : Nat) (x1 : Int) (s : sj_Mem) : Option (Int × sj_Mem) :=
  e_ilt x1 0 (
    e_z 0 s) (
    e_ile x1 500 (
      e_gR 8 0 a0 s fun r1 =>
      e_nn r1 fun a2 =>
      e_pI 0 2 a2 x1 s fun s3 =>
      e_z 1 s3) (
      e_z 0 s))
def f_X8_anchor (N : Nat) (a0 : Nat) (x1 : Int) (x2 : Int) (x3 : Int) (x4 : Int) (s : sj_Mem) : Option (Int × sj_Mem) :=
  e_ilt x1 0 (
    e_z 0 s) (
    e_ile 6 x1 (
      e_z 0 s) (
      e_gR 8 0 a0 s fun r1 =>
      e_nn r1 fun a2 =>
      e_cv 0 a2 s (f_X0_hasColumn N a2 x2 s) fun v4 s3 =>
      e_ieq v4 0 (
        e_z 0 s3) (
        e_ilt x3 0 (
          e_z 0 s3) (
          e_ilt 100 x3 (
            e_z 0 s3) (
            e_ilt x4 0 (
              e_z 0 s3) (
              e_ile x4 500 (
                e_gR 8 0 a0 s3 fun r5 =>
                e_nn r5 fun a6 =>
                e_gR 0 11 a6 s3 fun r7 =>
                e_nn r7 fun a8 =>
                e_uI 100 a8 x1 x2 s3 fun s9 =>
                e_gR 8 0 a0 s9 fun r10 =>
                e_nn r10 fun a11 =>
                e_gR 0 12 a11 s9 fun r12 =>
                e_nn r12 fun a13 =>
                e_uI 100 a13 x1 x3 s9 fun s14 =>
                e_gR 8 0 a0 s14 fun r15 =>
                e_nn r15 fun a16 =>
                e_gR 0 13 a16 s14 fun r17 =>
                e_nn r17 fun a18 =>
                e_uI 100 a18 x1 x4 s14 fun s19 =>
                e_z 1 s19) (
                e_z 0 s3)))))))
def f_X8_feed (N : Nat) (a0 : Nat) (x1 : Int) (x2 : Int) (x3 : Int) (x4 : Int) (x5 : Int) (s : sj_Mem) : Option (Int × sj_Mem) :=
  e_gR 8 7 a0 s fun r1 =>
  e_nn r1 fun a2 =>
  e_gI 7 1 a2 s fun v3 =>
  e_ile v3 580 (
    e_gR 8 7 a0 s fun r4 =>
    e_nn r4 fun a5 =>
    e_cv 7 a5 s (f_X7_put N a5 x1 s) fun _u s6 =>
    e_gR 8 7 a0 s6 fun r7 =>
    e_nn r7 fun a8 =>
    e_cv 7 a8 s6 (f_X7_put N a8 x2 s6) fun _u s9 =>
    e_gR 8 7 a0 s9 fun r10 =>
    e_nn r10 fun a11 =>
    e_cv 7 a11 s9 (f_X7_put N a11 x3 s9) fun _u s12 =>
    e_gR 8 7 a0 s12 fun r13 =>
    e_nn r13 fun a14 =>
    e_cv 7 a14 s12 (f_X7_put N a14 x4 s12) fun _u s15 =>
    e_gR 8 7 a0 s15 fun r16 =>
    e_nn r16 fun a17 =>
    e_cv 7 a17 s15 (f_X7_put N a17 x5 s15) fun _u s18 =>
    e_gR 8 7 a0 s18 fun r19 =>
    e_nn r19 fun a20 =>
    e_gI 7 1 a20 s18 fun v21 =>
    some (v21, s18)) (
    some ((-1), s))
def f_X8_end (N : Nat) (a0 : Nat) (x1 : Int) (s : sj_Mem) : Option (Int × sj_Mem) :=
  e_ilt x1 0 (
    e_z 0 s) (
    e_gR 8 7 a0 s fun r1 =>
    e_nn r1 fun a2 =>
    e_gI 7 1 a2 s fun v3 =>
    e_ile x1 v3 (
      e_gR 8 7 a0 s fun r4 =>
      e_nn r4 fun a5 =>
      e_pI 7 1 a5 x1 s fun s6 =>
      e_z 1 s6) (
      e_z 0 s))
def f_X8_text (N : Nat) (a0 : Nat) (s : sj_Mem) : Option (Int × sj_Mem) :=
  e_gR 8 7 a0 s fun r1 =>
  e_gR 8 1 a0 s fun r2 =>
  e_nn r1 fun a3 =>
  e_cv 7 a3 s (f_X7_read N a3 r2 s) fun v5 s4 =>
  e_gR 8 7 a0 s4 fun r6 =>
  e_nn r6 fun a7 =>
  e_pI 7 1 a7 0 s4 fun s8 =>
  e_ieq v5 ((-1)) (
    some ((-1), s8)) (
    e_cv 8 a0 s8 (f_X8_keepAct N a0 s8) fun _u s9 =>
    e_gR 8 0 a0 s9 fun r10 =>
    e_gR 8 1 a0 s9 fun r11 =>
    e_nn r10 fun a12 =>
    e_cv 0 a12 s9 (f_X0_copy N a12 r11 s9) fun _u s13 =>
    some (v5, s13))
def f_X8_fault (N : Nat) (a0 : Nat) (x1 : Int) (s : sj_Mem) : Option (Int × sj_Mem) :=
  e_ieq x1 0 (
    e_gR 8 7 a0 s fun r4 =>
    e_nn r4 fun a5 =>
    e_gI 7 3 a5 s fun v6 =>
    some (v6, s)) (
    e_ieq x1 1 (
      e_gR 8 7 a0 s fun r1 =>
      e_nn r1 fun a2 =>
      e_gI 7 4 a2 s fun v3 =>
      some (v3, s)) (
      some ((-1), s)))
def f_X8_takeTrial (N : Nat) (a0 : Nat) (s : sj_Mem) : Option (Int × sj_Mem) :=
  e_gR 8 0 a0 s fun r1 =>
  e_nn r1 fun a2 =>
  e_gR 0 14 a2 s fun r3 =>
  e_gR 8 10 a0 s fun r4 =>
  e_nn r3 fun a5 =>
  e_cv 5 a5 s (f_X5_copy N a5 r4 s) fun _u s6 =>
  e_gR 8 0 a0 s6 fun r7 =>
  e_nn r7 fun a8 =>
  e_gR 0 14 a8 s6 fun r9 =>
  e_nn r9 fun a10 =>
  e_cv 5 a10 s6 (f_X5_count N a10 s6) fun v12 s11 =>
  some (v12, s11)
def f_X8_circle (N : Nat) (a0 : Nat) (x1 : Int) (x2 : Int) (x3 : Int) (x4 : Int) (s : sj_Mem) : Option (Int × sj_Mem) :=
  e_cl (f_X8_isCircle N x1 x2 x3 s) fun v2 s1 =>
  e_ieq v2 0 (
    some ((-1), s1)) (
    e_gR 8 10 a0 s1 fun r3 =>
    e_gR 8 0 a0 s1 fun r4 =>
    e_nn r3 fun a5 =>
    e_cv 5 a5 s1 (f_X5_cut N a5 r4 x1 x2 x3 x4 s1) fun v7 s6 =>
    e_ieq v7 0 (
      some ((-1), s6)) (
      e_cv 8 a0 s6 (f_X8_takeTrial N a0 s6) fun v9 s8 =>
      some (v9, s8)))
def f_X8_point_46 (N : Nat) (a0 : Nat) (x1 : Int) (x2 : Int) (y0 : Int) (s : sj_Mem) : Option (Int × sj_Mem) :=
  e_gR 8 0 a0 s fun r1 =>
  e_nn r1 fun a2 =>
  e_cv 0 a2 s (f_X0_hasColumn N a2 x1 s) fun v4 s3 =>
  e_ieq v4 0 (
    some ((-1), s3)) (
    e_ile x1 y0 (
      some ((-1), s3)) (
      e_ilt x2 0 (
        some ((-1), s3)) (
        e_ilt 100 x2 (
          some ((-1), s3)) (
          e_gR 8 3 a0 s3 fun r5 =>
          e_nn r5 fun a6 =>
          e_gI 1 2 a6 s3 fun v7 =>
          e_ilt v7 12 (
            e_gR 8 3 a0 s3 fun r8 =>
            e_nn r8 fun a9 =>
            e_gR 1 0 a9 s3 fun r10 =>
            e_gR 8 3 a0 s3 fun r11 =>
            e_nn r11 fun a12 =>
            e_gI 1 2 a12 s3 fun v13 =>
            e_nn r10 fun a14 =>
            e_uI 100 a14 v13 x1 s3 fun s15 =>
            e_gR 8 3 a0 s15 fun r16 =>
            e_nn r16 fun a17 =>
            e_gR 1 1 a17 s15 fun r18 =>
            e_gR 8 3 a0 s15 fun r19 =>
            e_nn r19 fun a20 =>
            e_gI 1 2 a20 s15 fun v21 =>
            e_nn r18 fun a22 =>
            e_uI 100 a22 v21 x2 s15 fun s23 =>
            e_gR 8 3 a0 s23 fun r24 =>
            e_nn r24 fun a25 =>
            e_gI 1 2 a25 s23 fun v26 =>
            e_pI 1 2 a25 (v26 + 1) s23 fun s27 =>
            e_gR 8 3 a0 s27 fun r28 =>
            e_nn r28 fun a29 =>
            e_gI 1 2 a29 s27 fun v30 =>
            some (v30, s27)) (
            some ((-1), s3))))))
def f_X8_point (N : Nat) (a0 : Nat) (x1 : Int) (x2 : Int) (s : sj_Mem) : Option (Int × sj_Mem) :=
  e_ieq x1 ((-1)) (
    e_gR 8 3 a0 s fun r12 =>
    e_nn r12 fun a13 =>
    e_pI 1 2 a13 0 s fun s14 =>
    some (0, s14)) (
    e_gR 8 3 a0 s fun r1 =>
    e_nn r1 fun a2 =>
    e_gI 1 2 a2 s fun v3 =>
    e_ieq v3 0 (
      f_X8_point_46 N a0 x1 x2 ((-1)) s) (
      e_gR 8 3 a0 s fun r4 =>
      e_nn r4 fun a5 =>
      e_gR 1 0 a5 s fun r6 =>
      e_gR 8 3 a0 s fun r7 =>
      e_nn r7 fun a8 =>
      e_gI 1 2 a8 s fun v9 =>
      e_nn r6 fun a10 =>
      e_aI 100 a10 (v9 - 1) s fun v11 =>
      f_X8_point_46 N a0 x1 x2 v11 s))
def f_X8_points (N : Nat) (a0 : Nat) (x1 : Int) (s : sj_Mem) : Option (Int × sj_Mem) :=
  e_gR 8 10 a0 s fun r1 =>
  e_gR 8 0 a0 s fun r2 =>
  e_gR 8 3 a0 s fun r3 =>
  e_nn r1 fun a4 =>
  e_cv 5 a4 s (f_X5_follow N a4 r2 r3 x1 s) fun v6 s5 =>
  e_ieq v6 0 (
    some ((-1), s5)) (
    e_cv 8 a0 s5 (f_X8_takeTrial N a0 s5) fun v8 s7 =>
    some (v8, s7))
def f_X8_tableOf_18 (N : Nat) (a0 : Nat) (x1 : Int) (x2 : Int) (s : sj_Mem) : Option (Option Nat × sj_Mem) :=
  e_gR 8 11 a0 s fun r1 =>
  e_gR 8 0 a0 s fun r2 =>
  e_nn r1 fun a3 =>
  e_cv 6 a3 s (f_X6_judge N a3 r2 x1 x2 s) fun _u s4 =>
  e_gR 8 11 a0 s4 fun r5 =>
  some (r5, s4)
def f_X8_tableOf (N : Nat) (a0 : Nat) (x1 : Int) (x2 : Int) (s : sj_Mem) : Option (Option Nat × sj_Mem) :=
  e_gR 8 11 a0 s fun r1 =>
  e_nul r1 (
    e_nO 6 14 s fun a2 s3 =>
    e_cl (f_X6_init N a2 s3) fun _u s4 =>
    e_pR 8 11 a0 (some a2) s4 fun s5 =>
    f_X8_tableOf_18 N a0 x1 x2 s5) (
    f_X8_tableOf_18 N a0 x1 x2 s)
def f_X8_worst (N : Nat) (a0 : Nat) (x1 : Int) (x2 : Int) (s : sj_Mem) : Option (Int × sj_Mem) :=
  e_ilt x1 1 (
    some ((-1), s)) (
    e_ile x1 12 (
      e_cv 8 a0 s (f_X8_tableOf N a0 x1 x2 s) fun r2 s1 =>
      e_nn r2 fun a3 =>
      e_gR 6 4 a3 s1 fun r4 =>
      e_nn r4 fun a5 =>
      e_cv 5 a5 s1 (f_X5_isNone N a5 s1) fun v7 s6 =>
      e_ieq v7 0 (
        e_gR 8 0 a0 s6 fun r8 =>
        e_nn r8 fun a9 =>
        e_gR 0 14 a9 s6 fun r10 =>
        e_gR 6 4 a3 s6 fun r11 =>
        e_nn r10 fun a12 =>
        e_cv 5 a12 s6 (f_X5_copy N a12 r11 s6) fun _u s13 =>
        e_gR 8 0 a0 s13 fun r14 =>
        e_nn r14 fun a15 =>
        e_gR 0 14 a15 s13 fun r16 =>
        e_nn r16 fun a17 =>
        e_cv 5 a17 s13 (f_X5_count N a17 s13) fun v19 s18 =>
        some (v19, s18)) (
        some ((-1), s6))) (
      some ((-1), s)))
def f_X8_mirror (N : Nat) (a0 : Nat) (s : sj_Mem) : Option (Int × sj_Mem) :=
  e_cv 8 a0 s (f_X8_keepAct N a0 s) fun _u s1 =>
  e_gR 8 0 a0 s1 fun r2 =>
  e_nn r2 fun a3 =>
  e_cv 0 a3 s1 (f_X0_turn N a3 s1) fun _u s4 =>
  e_gR 8 0 a0 s4 fun r5 =>
  e_nn r5 fun a6 =>
  e_gR 0 14 a6 s4 fun r7 =>
  e_nn r7 fun a8 =>
  e_cv 5 a8 s4 (f_X5_isNone N a8 s4) fun v10 s9 =>
  e_ieq v10 0 (
    e_z 1 s9) (
    e_z 0 s9)
def f_X8_undo (N : Nat) (a0 : Nat) (s : sj_Mem) : Option (Int × sj_Mem) :=
  e_gI 8 13 a0 s fun v1 =>
  e_ieq v1 0 (
    some ((-1), s)) (
    e_gI 8 14 a0 s fun v2 =>
    e_rI ((v2 + 8) - 1) 8 fun v3 =>
    e_pI 8 14 a0 v3 s fun s4 =>
    e_gR 8 0 a0 s4 fun r5 =>
    e_gR 8 6 a0 s4 fun r6 =>
    e_gI 8 14 a0 s4 fun v7 =>
    e_nn r6 fun a8 =>
    e_aR a8 v7 s4 fun r9 =>
    e_nn r5 fun a10 =>
    e_cv 0 a10 s4 (f_X0_copy N a10 r9 s4) fun _u s11 =>
    e_gI 8 13 a0 s11 fun v12 =>
    e_pI 8 13 a0 (v12 - 1) s11 fun s13 =>
    e_gI 8 13 a0 s13 fun v14 =>
    some (v14, s13))
def f_X8_image (N : Nat) (a0 : Nat) (x1 : Int) (s : sj_Mem) : Option (Int × sj_Mem) :=
  e_ieq x1 0 (
    e_gI 8 12 a0 s fun v1 =>
    e_ieq v1 0 (
      e_z 0 s) (
      e_gR 8 0 a0 s fun r2 =>
      e_gR 8 2 a0 s fun r3 =>
      e_nn r2 fun a4 =>
      e_cv 0 a4 s (f_X0_copy N a4 r3 s) fun _u s5 =>
      e_gR 8 3 a0 s5 fun r6 =>
      e_gR 8 4 a0 s5 fun r7 =>
      e_nn r6 fun a8 =>
      e_cv 1 a8 s5 (f_X1_copy N a8 r7 s5) fun _u s9 =>
      e_pI 8 13 a0 0 s9 fun s10 =>
      e_z 1 s10)) (
    e_gR 8 2 a0 s fun r11 =>
    e_gR 8 0 a0 s fun r12 =>
    e_nn r11 fun a13 =>
    e_cv 0 a13 s (f_X0_copy N a13 r12 s) fun _u s14 =>
    e_gR 8 4 a0 s14 fun r15 =>
    e_gR 8 3 a0 s14 fun r16 =>
    e_nn r15 fun a17 =>
    e_cv 1 a17 s14 (f_X1_copy N a17 r16 s14) fun _u s18 =>
    e_pZ 8 12 a0 1 s18 fun s19 =>
    e_z 1 s19)
def f_X8_column (N : Nat) (a0 : Nat) (x1 : Int) (x2 : Int) (s : sj_Mem) : Option (Int × sj_Mem) :=
  e_gR 8 0 a0 s fun r1 =>
  e_nn r1 fun a2 =>
  e_cv 0 a2 s (f_X0_hasColumn N a2 x1 s) fun v4 s3 =>
  e_ieq v4 0 (
    some ((-10), s3)) (
    e_sw x2 (
    if x2 = 0 then (
      e_gR 8 0 a0 s3 fun r5 =>
      e_nn r5 fun a6 =>
      e_gR 0 3 a6 s3 fun r7 =>
      e_nn r7 fun a8 =>
      e_aI 100 a8 x1 s3 fun v9 =>
      some (v9, s3)) else (
    if x2 = 1 then (
      e_gR 8 0 a0 s3 fun r10 =>
      e_nn r10 fun a11 =>
      e_gR 0 4 a11 s3 fun r12 =>
      e_nn r12 fun a13 =>
      e_aI 100 a13 x1 s3 fun v14 =>
      some (v14, s3)) else (
    if x2 = 2 then (
      e_gR 8 0 a0 s3 fun r15 =>
      e_nn r15 fun a16 =>
      e_cv 0 a16 s3 (f_X0_waterAt N a16 x1 s3) fun v18 s17 =>
      some (v18, s17)) else (
    if x2 = 3 then (
      e_gR 8 0 a0 s3 fun r19 =>
      e_nn r19 fun a20 =>
      e_gR 0 6 a20 s3 fun r21 =>
      e_nn r21 fun a22 =>
      e_aI 100 a22 x1 s3 fun v23 =>
      some (v23, s3)) else (
    if x2 = 4 then (
      e_gR 8 0 a0 s3 fun r24 =>
      e_nn r24 fun a25 =>
      e_cv 0 a25 s3 (f_X0_topAt N a25 (x2 - 4) x1 s3) fun v27 s26 =>
      some (v27, s26)) else (
    if x2 = 5 then (
      e_gR 8 0 a0 s3 fun r28 =>
      e_nn r28 fun a29 =>
      e_cv 0 a29 s3 (f_X0_topAt N a29 (x2 - 4) x1 s3) fun v31 s30 =>
      some (v31, s30)) else (
    if x2 = 6 then (
      e_gR 8 0 a0 s3 fun r32 =>
      e_nn r32 fun a33 =>
      e_cv 0 a33 s3 (f_X0_topAt N a33 (x2 - 4) x1 s3) fun v35 s34 =>
      some (v35, s34)) else (
    if x2 = 7 then (
      e_gR 8 0 a0 s3 fun r36 =>
      e_nn r36 fun a37 =>
      e_cv 0 a37 s3 (f_X0_topAt N a37 (x2 - 4) x1 s3) fun v39 s38 =>
      some (v39, s38)) else (
    if x2 = 8 then (
      e_gR 8 0 a0 s3 fun r40 =>
      e_nn r40 fun a41 =>
      e_gR 0 14 a41 s3 fun r42 =>
      e_nn r42 fun a43 =>
      e_cv 5 a43 s3 (f_X5_baseAt N a43 x1 s3) fun v45 s44 =>
      some (v45, s44)) else (
      some ((-10), s3))))))))))))
def f_X8_layer (N : Nat) (a0 : Nat) (x1 : Int) (x2 : Int) (s : sj_Mem) : Option (Int × sj_Mem) :=
  e_ilt x1 0 (
    some ((-1), s)) (
    e_ilt x1 4 (
      e_sw x2 (
      if x2 = 0 then (
        e_gR 8 0 a0 s fun r1 =>
        e_nn r1 fun a2 =>
        e_gR 0 8 a2 s fun r3 =>
        e_nn r3 fun a4 =>
        e_aI 100 a4 x1 s fun v5 =>
        some (v5, s)) else (
      if x2 = 1 then (
        e_gR 8 0 a0 s fun r6 =>
        e_nn r6 fun a7 =>
        e_gR 0 9 a7 s fun r8 =>
        e_nn r8 fun a9 =>
        e_aI 100 a9 x1 s fun v10 =>
        some (v10, s)) else (
      if x2 = 2 then (
        e_gR 8 0 a0 s fun r11 =>
        e_nn r11 fun a12 =>
        e_gR 0 10 a12 s fun r13 =>
        e_nn r13 fun a14 =>
        e_aI 100 a14 x1 s fun v15 =>
        some (v15, s)) else (
        some ((-1), s)))))) (
      some ((-1), s)))
def f_X8_anchored (N : Nat) (a0 : Nat) (x1 : Int) (x2 : Int) (s : sj_Mem) : Option (Int × sj_Mem) :=
  e_ilt x1 0 (
    some ((-1), s)) (
    e_ile 6 x1 (
      some ((-1), s)) (
      e_gR 8 0 a0 s fun r1 =>
      e_nn r1 fun a2 =>
      e_gR 0 13 a2 s fun r3 =>
      e_nn r3 fun a4 =>
      e_aI 100 a4 x1 s fun v5 =>
      e_ieq v5 0 (
        some ((-1), s)) (
        e_sw x2 (
        if x2 = 0 then (
          e_gR 8 0 a0 s fun r6 =>
          e_nn r6 fun a7 =>
          e_gR 0 11 a7 s fun r8 =>
          e_nn r8 fun a9 =>
          e_aI 100 a9 x1 s fun v10 =>
          some (v10, s)) else (
        if x2 = 1 then (
          e_gR 8 0 a0 s fun r11 =>
          e_nn r11 fun a12 =>
          e_gR 0 12 a12 s fun r13 =>
          e_nn r13 fun a14 =>
          e_aI 100 a14 x1 s fun v15 =>
          some (v15, s)) else (
        if x2 = 2 then (
          e_gR 8 0 a0 s fun r16 =>
          e_nn r16 fun a17 =>
          e_gR 0 13 a17 s fun r18 =>
          e_nn r18 fun a19 =>
          e_aI 100 a19 x1 s fun v20 =>
          some (v20, s)) else (
        if x2 = 3 then (
          e_gR 8 0 a0 s fun r21 =>
          e_gR 8 0 a0 s fun r22 =>
          e_nn r22 fun a23 =>
          e_gR 0 14 a23 s fun r24 =>
          e_nn r21 fun a25 =>
          e_cv 0 a25 s (f_X0_anchorCounts N a25 x1 r24 s) fun v27 s26 =>
          e_ieq v27 0 (
            some (0, s26)) (
            some (1, s26))) else (
          some ((-1), s)))))))))
def f_X8_look (N : Nat) (a0 : Nat) (x1 : Int) (s : sj_Mem) : Option (Int × sj_Mem) :=
  e_sw x1 (
  if x1 = 0 then (
    e_gR 8 0 a0 s fun r1 =>
    e_nn r1 fun a2 =>
    e_gI 0 0 a2 s fun v3 =>
    some (v3, s)) else (
  if x1 = 1 then (
    e_gR 8 0 a0 s fun r4 =>
    e_nn r4 fun a5 =>
    e_gI 0 1 a5 s fun v6 =>
    some (v6, s)) else (
  if x1 = 2 then (
    e_gR 8 0 a0 s fun r7 =>
    e_nn r7 fun a8 =>
    e_gI 0 2 a8 s fun v9 =>
    some (v9, s)) else (
  if x1 = 3 then (
    e_gR 8 0 a0 s fun r10 =>
    e_nn r10 fun a11 =>
    e_cv 0 a11 s (f_X0_anchorSet N a11 s) fun v13 s12 =>
    some (v13, s12)) else (
  if x1 = 4 then (
    e_gR 8 0 a0 s fun r14 =>
    e_nn r14 fun a15 =>
    e_gR 0 14 a15 s fun r16 =>
    e_nn r16 fun a17 =>
    e_cv 5 a17 s (f_X5_count N a17 s) fun v19 s18 =>
    some (v19, s18)) else (
  if x1 = 5 then (
    e_gR 8 0 a0 s fun r20 =>
    e_nn r20 fun a21 =>
    e_gR 0 14 a21 s fun r22 =>
    e_nn r22 fun a23 =>
    e_gI 5 1 a23 s fun v24 =>
    some (v24, s)) else (
  if x1 = 6 then (
    e_gR 8 0 a0 s fun r25 =>
    e_nn r25 fun a26 =>
    e_gR 0 14 a26 s fun r27 =>
    e_nn r27 fun a28 =>
    e_gI 5 2 a28 s fun v29 =>
    some (v29, s)) else (
  if x1 = 7 then (
    e_gR 8 0 a0 s fun r30 =>
    e_nn r30 fun a31 =>
    e_gR 0 14 a31 s fun r32 =>
    e_nn r32 fun a33 =>
    e_cv 5 a33 s (f_X5_isNone N a33 s) fun v35 s34 =>
    e_ieq v35 0 (
      e_gR 8 0 a0 s34 fun r36 =>
      e_nn r36 fun a37 =>
      e_gR 0 14 a37 s34 fun r38 =>
      e_nn r38 fun a39 =>
      e_gI 5 3 a39 s34 fun v40 =>
      e_ieq v40 0 (
        some (0, s34)) (
        some (1, s34))) (
      some ((-1), s34))) else (
  if x1 = 8 then (
    e_gR 8 3 a0 s fun r41 =>
    e_nn r41 fun a42 =>
    e_gI 1 2 a42 s fun v43 =>
    some (v43, s)) else (
  if x1 = 9 then (
    e_gI 8 13 a0 s fun v44 =>
    some (v44, s)) else (
  if x1 = 10 then (
    e_gR 8 7 a0 s fun r45 =>
    e_nn r45 fun a46 =>
    e_gI 7 1 a46 s fun v47 =>
    some (v47, s)) else (
  if x1 = 11 then (
    e_gR 8 0 a0 s fun r48 =>
    e_nn r48 fun a49 =>
    e_cv 0 a49 s (f_X0_greatestGround N a49 s) fun v51 s50 =>
    some (v51, s50)) else (
  if x1 = 12 then (
    e_gR 8 0 a0 s fun r52 =>
    e_nn r52 fun a53 =>
    e_cv 0 a53 s (f_X0_allSoil N a53 s) fun v55 s54 =>
    some (v55, s54)) else (
  if x1 = 13 then (
    e_gR 8 3 a0 s fun r56 =>
    e_nn r56 fun a57 =>
    e_gI 1 3 a57 s fun v58 =>
    some (v58, s)) else (
    some ((-10), s))))))))))))))))
def f_X8_cutUp (N : Nat) (a0 : Nat) (s : sj_Mem) : Option (Int × sj_Mem) :=
  e_gR 8 0 a0 s fun r1 =>
  e_nn r1 fun a2 =>
  e_gR 0 14 a2 s fun r3 =>
  e_nn r3 fun a4 =>
  e_cv 5 a4 s (f_X5_isNone N a4 s) fun v6 s5 =>
  e_ieq v6 0 (
    e_gR 8 8 a0 s5 fun r7 =>
    e_gR 8 0 a0 s5 fun r8 =>
    e_gR 8 0 a0 s5 fun r9 =>
    e_nn r9 fun a10 =>
    e_gR 0 14 a10 s5 fun r11 =>
    e_nn r7 fun a12 =>
    e_cv 4 a12 s5 (f_X4_weigh N a12 r8 r11 s5) fun _u s13 =>
    e_gR 8 8 a0 s13 fun r14 =>
    e_gR 8 0 a0 s13 fun r15 =>
    e_nn r14 fun a16 =>
    e_cv 4 a16 s13 (f_X4_settle N a16 r15 0 s13) fun _u s17 =>
    e_z 1 s17) (
    e_z 0 s5)
def f_X8_isK (N : Nat) (x0 : Int) (s : sj_Mem) : Option (Int × sj_Mem) :=
  e_ilt x0 1 (
    e_z 0 s) (
    e_ilt 20000 x0 (
      e_z 0 s) (
      e_z 1 s))
def f_X8_slice (N : Nat) (a0 : Nat) (x1 : Int) (x2 : Int) (s : sj_Mem) : Option (Int × sj_Mem) :=
  e_ilt x1 0 (
    some ((-10000000000000), s)) (
    e_gR 8 0 a0 s fun r1 =>
    e_nn r1 fun a2 =>
    e_gR 0 14 a2 s fun r3 =>
    e_nn r3 fun a4 =>
    e_cv 5 a4 s (f_X5_count N a4 s) fun v6 s5 =>
    e_ile v6 x1 (
      some ((-10000000000000), s5)) (
      e_cv 8 a0 s5 (f_X8_cutUp N a0 s5) fun v8 s7 =>
      e_ieq v8 0 (
        some ((-10000000000000), s7)) (
        e_sw x2 (
        if x2 = 0 then (
          e_gR 8 0 a0 s7 fun r9 =>
          e_nn r9 fun a10 =>
          e_gR 0 14 a10 s7 fun r11 =>
          e_nn r11 fun a12 =>
          e_gI 5 1 a12 s7 fun v13 =>
          e_wid (v13 + x1) fun v14 =>
          some (v14, s7)) else (
        if x2 = 1 then (
          e_gR 8 8 a0 s7 fun r15 =>
          e_nn r15 fun a16 =>
          e_gR 4 0 a16 s7 fun r17 =>
          e_nn r17 fun a18 =>
          e_aI 100 a18 x1 s7 fun v19 =>
          e_wid v19 fun v20 =>
          some (v20, s7)) else (
        if x2 = 2 then (
          e_gR 8 8 a0 s7 fun r21 =>
          e_nn r21 fun a22 =>
          e_gR 4 1 a22 s7 fun r23 =>
          e_nn r23 fun a24 =>
          e_aI 100 a24 x1 s7 fun v25 =>
          e_wid v25 fun v26 =>
          some (v26, s7)) else (
        if x2 = 3 then (
          e_gR 8 8 a0 s7 fun r27 =>
          e_nn r27 fun a28 =>
          e_gR 4 2 a28 s7 fun r29 =>
          e_nn r29 fun a30 =>
          e_aI 100 a30 x1 s7 fun v31 =>
          e_wid v31 fun v32 =>
          some (v32, s7)) else (
        if x2 = 4 then (
          e_gR 8 8 a0 s7 fun r33 =>
          e_nn r33 fun a34 =>
          e_cv 4 a34 s7 (f_X4_press N a34 x1 s7) fun v36 s35 =>
          e_wid v36 fun v37 =>
          some (v37, s35)) else (
        if x2 = 5 then (
          e_gR 8 8 a0 s7 fun r38 =>
          e_nn r38 fun a39 =>
          e_gR 4 3 a39 s7 fun r40 =>
          e_nn r40 fun a41 =>
          e_aI 100 a41 x1 s7 fun v42 =>
          e_wid v42 fun v43 =>
          some (v43, s7)) else (
        if x2 = 6 then (
          e_gR 8 8 a0 s7 fun r44 =>
          e_nn r44 fun a45 =>
          e_gR 4 4 a45 s7 fun r46 =>
          e_nn r46 fun a47 =>
          e_aI 101 a47 x1 s7 fun v48 =>
          some (v48, s7)) else (
        if x2 = 7 then (
          e_gR 8 8 a0 s7 fun r49 =>
          e_nn r49 fun a50 =>
          e_gR 4 5 a50 s7 fun r51 =>
          e_nn r51 fun a52 =>
          e_aI 101 a52 x1 s7 fun v53 =>
          some (v53, s7)) else (
          some ((-10000000000000), s7)))))))))))))
def f_X8_rubs (N : Nat) (a0 : Nat) (x1 : Int) (x2 : Int) (s : sj_Mem) : Option (Int × sj_Mem) :=
  e_ilt x1 0 (
    some ((-10), s)) (
    e_gR 8 0 a0 s fun r1 =>
    e_nn r1 fun a2 =>
    e_gR 0 14 a2 s fun r3 =>
    e_nn r3 fun a4 =>
    e_cv 5 a4 s (f_X5_count N a4 s) fun v6 s5 =>
    e_ile v6 x1 (
      some ((-10), s5)) (
      e_cl (f_X8_isK N x2 s5) fun v8 s7 =>
      e_ieq v8 0 (
        some ((-10), s7)) (
        e_cv 8 a0 s7 (f_X8_cutUp N a0 s7) fun v10 s9 =>
        e_ieq v10 0 (
          some ((-10), s9)) (
          e_gR 8 8 a0 s9 fun r11 =>
          e_nn r11 fun a12 =>
          e_cv 4 a12 s9 (f_X4_rubsOf N a12 x1 x2 s9) fun v14 s13 =>
          some (v14, s13)))))
def f_X8_stands (N : Nat) (a0 : Nat) (x1 : Int) (s : sj_Mem) : Option (Int × sj_Mem) :=
  e_cl (f_X8_isK N x1 s) fun v2 s1 =>
  e_ieq v2 0 (
    some ((-1), s1)) (
    e_cv 8 a0 s1 (f_X8_cutUp N a0 s1) fun v4 s3 =>
    e_ieq v4 0 (
      some ((-1), s3)) (
      e_gR 8 8 a0 s3 fun r5 =>
      e_nn r5 fun a6 =>
      e_cv 4 a6 s3 (f_X4_hold N a6 x1 s3) fun v8 s7 =>
      e_ieq v8 0 (
        some (0, s7)) (
        some (1, s7))))
def f_X8_factor (N : Nat) (a0 : Nat) (s : sj_Mem) : Option (Int × sj_Mem) :=
  e_cv 8 a0 s (f_X8_cutUp N a0 s) fun v2 s1 =>
  e_ieq v2 0 (
    some ((-1), s1)) (
    e_gR 8 8 a0 s1 fun r3 =>
    e_nn r3 fun a4 =>
    e_cv 4 a4 s1 (f_X4_leastBound N a4 20001 s1) fun v6 s5 =>
    some (v6, s5))
def f_X8_sum (N : Nat) (a0 : Nat) (x1 : Int) (s : sj_Mem) : Option (Int × sj_Mem) :=
  e_cv 8 a0 s (f_X8_cutUp N a0 s) fun v2 s1 =>
  e_ieq v2 0 (
    some ((-10000000000000), s1)) (
    e_sw x1 (
    if x1 = 0 then (
      e_gR 8 8 a0 s1 fun r3 =>
      e_nn r3 fun a4 =>
      e_cv 4 a4 s1 (f_X4_allPushes N a4 s1) fun v6 s5 =>
      some (v6, s5)) else (
    if x1 = 1 then (
      e_gR 8 8 a0 s1 fun r7 =>
      e_nn r7 fun a8 =>
      e_gI 4 10 a8 s1 fun v9 =>
      some (v9, s1)) else (
    if x1 = 2 then (
      e_gR 8 8 a0 s1 fun r10 =>
      e_nn r10 fun a11 =>
      e_cv 4 a11 s1 (f_X4_allWeights N a11 s1) fun v13 s12 =>
      some (v13, s12)) else (
    if x1 = 3 then (
      e_gR 8 8 a0 s1 fun r14 =>
      e_nn r14 fun a15 =>
      e_cv 4 a15 s1 (f_X4_allLifts N a15 s1) fun v17 s16 =>
      some (v17, s16)) else (
    if x1 = 4 then (
      e_gR 8 8 a0 s1 fun r18 =>
      e_nn r18 fun a19 =>
      e_cv 4 a19 s1 (f_X4_allStrengths N a19 s1) fun v21 s20 =>
      some (v21, s20)) else (
      some ((-10000000000000), s1))))))))
def f_X8_dry (N : Nat) (a0 : Nat) (s : sj_Mem) : Option (Int × sj_Mem) :=
  e_gR 8 0 a0 s fun r1 =>
  e_nn r1 fun a2 =>
  e_gR 0 14 a2 s fun r3 =>
  e_nn r3 fun a4 =>
  e_cv 5 a4 s (f_X5_isNone N a4 s) fun v6 s5 =>
  e_ieq v6 0 (
    e_gR 8 1 a0 s5 fun r7 =>
    e_gR 8 0 a0 s5 fun r8 =>
    e_nn r7 fun a9 =>
    e_cv 0 a9 s5 (f_X0_copy N a9 r8 s5) fun _u s10 =>
    e_gR 8 1 a0 s10 fun r11 =>
    e_nn r11 fun a12 =>
    e_cv 0 a12 s10 (f_X0_dryUp N a12 s10) fun _u s13 =>
    e_gR 8 8 a0 s13 fun r14 =>
    e_gR 8 1 a0 s13 fun r15 =>
    e_gR 8 0 a0 s13 fun r16 =>
    e_nn r16 fun a17 =>
    e_gR 0 14 a17 s13 fun r18 =>
    e_nn r14 fun a19 =>
    e_cv 4 a19 s13 (f_X4_weigh N a19 r15 r18 s13) fun _u s20 =>
    e_gR 8 8 a0 s20 fun r21 =>
    e_gR 8 1 a0 s20 fun r22 =>
    e_nn r21 fun a23 =>
    e_cv 4 a23 s20 (f_X4_settle N a23 r22 0 s20) fun _u s24 =>
    e_gR 8 8 a0 s24 fun r25 =>
    e_nn r25 fun a26 =>
    e_cv 4 a26 s24 (f_X4_leastBound N a26 20001 s24) fun v28 s27 =>
    some (v28, s27)) (
    some ((-1), s5))
def f_X8_bears_37_b (N : Nat) (k37 : Nat → Int → Int → Int → sj_Mem → Option (Int × sj_Mem)) (a0 : Nat) (x1 : Int) (x2 : Int) (x3 : Int) (s : sj_Mem) : Option (Int × sj_Mem) :=
  e_ilt 100 x3 (
    some (x2, s)) (
    e_gR 8 8 a0 s fun r1 =>
    e_gR 8 1 a0 s fun r2 =>
    e_gR 8 0 a0 s fun r3 =>
    e_nn r3 fun a4 =>
    e_gR 0 14 a4 s fun r5 =>
    e_nn r1 fun a6 =>
    e_cv 4 a6 s (f_X4_weigh N a6 r2 r5 s) fun _u s7 =>
    e_gR 8 8 a0 s7 fun r8 =>
    e_gR 8 1 a0 s7 fun r9 =>
    e_nn r8 fun a10 =>
    e_cv 4 a10 s7 (f_X4_settle N a10 r9 0 s7) fun _u s11 =>
    e_gR 8 8 a0 s11 fun r12 =>
    e_nn r12 fun a13 =>
    e_cv 4 a13 s11 (f_X4_hold N a13 x1 s11) fun v15 s14 =>
    e_ieq v15 0 (
      some (x2, s14)) (
      e_gR 8 1 a0 s14 fun r16 =>
      e_nn r16 fun a17 =>
      e_cv 0 a17 s14 (f_X0_raiseWater N a17 s14) fun _u s18 =>
      e_lt (x3 + 1) fun v19 =>
      k37 a0 x1 x3 v19 s18))
def f_X8_bears_37 (N : Nat) : Nat → Nat → Int → Int → Int → sj_Mem → Option (Int × sj_Mem)
  | 0 => fun _ _ _ _ _ => none
  | n + 1 => fun a0 x1 x2 x3 s => f_X8_bears_37_b N (f_X8_bears_37 N n) a0 x1 x2 x3 s
def f_X8_bears (N : Nat) (a0 : Nat) (x1 : Int) (s : sj_Mem) : Option (Int × sj_Mem) :=
  e_cl (f_X8_isK N x1 s) fun v2 s1 =>
  e_ieq v2 0 (
    some ((-1), s1)) (
    e_gR 8 0 a0 s1 fun r3 =>
    e_nn r3 fun a4 =>
    e_gR 0 14 a4 s1 fun r5 =>
    e_nn r5 fun a6 =>
    e_cv 5 a6 s1 (f_X5_isNone N a6 s1) fun v8 s7 =>
    e_ieq v8 0 (
      e_gR 8 1 a0 s7 fun r9 =>
      e_gR 8 0 a0 s7 fun r10 =>
      e_nn r9 fun a11 =>
      e_cv 0 a11 s7 (f_X0_copy N a11 r10 s7) fun _u s12 =>
      f_X8_bears_37 N N a0 x1 ((-1)) 0 s12) (
      some ((-1), s7)))
def f_X8_needs_79 (N : Nat) (k25 : Nat → Int → Int → Int → Int → sj_Mem → Option (Int × sj_Mem)) (a0 : Nat) (x1 : Int) (x2 : Int) (x3 : Int) (x4 : Int) (s : sj_Mem) : Option (Int × sj_Mem) :=
  e_lt (x4 + 1) fun v1 =>
  k25 a0 x1 x2 x3 v1 s
def f_X8_needs_85 (N : Nat) (x3 : Int) (s : sj_Mem) : Option (Int × sj_Mem) :=
  e_ile x3 500 (
    some (x3, s)) (
    some ((-1), s))
def f_X8_needs_25_b (N : Nat) (k25 : Nat → Int → Int → Int → Int → sj_Mem → Option (Int × sj_Mem)) (a0 : Nat) (x1 : Int) (x2 : Int) (x3 : Int) (x4 : Int) (s : sj_Mem) : Option (Int × sj_Mem) :=
  e_ile 15 x4 (
    f_X8_needs_85 N x3 s) (
    e_ile (x3 - x2) 1 (
      f_X8_needs_85 N x3 s) (
      e_dI (x2 + x3) 2 fun v1 =>
      e_gR 8 8 a0 s fun r2 =>
      e_gR 8 0 a0 s fun r3 =>
      e_nn r2 fun a4 =>
      e_cv 4 a4 s (f_X4_settle N a4 r3 v1 s) fun _u s5 =>
      e_gR 8 8 a0 s5 fun r6 =>
      e_nn r6 fun a7 =>
      e_cv 4 a7 s5 (f_X4_hold N a7 x1 s5) fun v9 s8 =>
      e_ieq v9 0 (
        f_X8_needs_79 N k25 a0 x1 v1 x3 x4 s8) (
        f_X8_needs_79 N k25 a0 x1 x2 v1 x4 s8)))
def f_X8_needs_25 (N : Nat) : Nat → Nat → Int → Int → Int → Int → sj_Mem → Option (Int × sj_Mem)
  | 0 => fun _ _ _ _ _ _ => none
  | n + 1 => fun a0 x1 x2 x3 x4 s => f_X8_needs_25_b N (f_X8_needs_25 N n) a0 x1 x2 x3 x4 s
def f_X8_needs (N : Nat) (a0 : Nat) (x1 : Int) (s : sj_Mem) : Option (Int × sj_Mem) :=
  e_cl (f_X8_isK N x1 s) fun v2 s1 =>
  e_ieq v2 0 (
    some ((-1), s1)) (
    e_cv 8 a0 s1 (f_X8_cutUp N a0 s1) fun v4 s3 =>
    e_ieq v4 0 (
      some ((-1), s3)) (
      f_X8_needs_25 N N a0 x1 ((-1)) 501 0 s3))
def f_X8_pull (N : Nat) (a0 : Nat) (x1 : Int) (s : sj_Mem) : Option (Int × sj_Mem) :=
  e_cl (f_X8_isK N x1 s) fun v2 s1 =>
  e_ieq v2 0 (
    some ((-1), s1)) (
    e_cv 8 a0 s1 (f_X8_cutUp N a0 s1) fun v4 s3 =>
    e_ieq v4 0 (
      some ((-1), s3)) (
      e_gR 8 8 a0 s3 fun r5 =>
      e_nn r5 fun a6 =>
      e_cv 4 a6 s3 (f_X4_lack N a6 x1 s3) fun v8 s7 =>
      e_llt 0 v8 (
        e_gR 8 0 a0 s7 fun r9 =>
        e_nn r9 fun a10 =>
        e_gI 0 1 a10 s7 fun v11 =>
        e_wid v11 fun v12 =>
        e_wid x1 fun v13 =>
        e_lt ((2000 * v12) * v13) fun v14 =>
        e_llt 0 v14 (
          e_dJ ((v8 + v14) - 1) v14 fun v15 =>
          e_lle v15 20000 (
            some (v15, s7)) (
            some ((-1), s7))) (
          some ((-1), s7))) (
        some (0, s7))))
def f_X8_berm_46_b (N : Nat) (k46 : Nat → Int → Int → Int → Int → sj_Mem → Option (Int × sj_Mem)) (a0 : Nat) (x1 : Int) (x2 : Int) (x3 : Int) (x4 : Int) (s : sj_Mem) : Option (Int × sj_Mem) :=
  e_ilt 500 x4 (
    some ((-1), s)) (
    e_gR 8 8 a0 s fun r1 =>
    e_nn r1 fun a2 =>
    e_cv 4 a2 s (f_X4_hold N a2 x3 s) fun v4 s3 =>
    e_ieq v4 0 (
      e_gR 8 8 a0 s3 fun r5 =>
      e_gR 8 0 a0 s3 fun r6 =>
      e_nn r6 fun a7 =>
      e_gR 0 14 a7 s3 fun r8 =>
      e_nn r8 fun a9 =>
      e_gI 5 1 a9 s3 fun v10 =>
      e_nn r5 fun a11 =>
      e_cv 4 a11 s3 (f_X4_burden N a11 v10 x1 x2 s3) fun _u s12 =>
      e_gR 8 8 a0 s12 fun r13 =>
      e_gR 8 0 a0 s12 fun r14 =>
      e_nn r13 fun a15 =>
      e_cv 4 a15 s12 (f_X4_settle N a15 r14 0 s12) fun _u s16 =>
      e_lt (x4 + 1) fun v17 =>
      k46 a0 x1 x2 x3 v17 s16) (
      some (x4, s3)))
def f_X8_berm_46 (N : Nat) : Nat → Nat → Int → Int → Int → Int → sj_Mem → Option (Int × sj_Mem)
  | 0 => fun _ _ _ _ _ _ => none
  | n + 1 => fun a0 x1 x2 x3 x4 s => f_X8_berm_46_b N (f_X8_berm_46 N n) a0 x1 x2 x3 x4 s
def f_X8_berm (N : Nat) (a0 : Nat) (x1 : Int) (x2 : Int) (x3 : Int) (s : sj_Mem) : Option (Int × sj_Mem) :=
  e_cl (f_X8_isK N x3 s) fun v2 s1 =>
  e_ieq v2 0 (
    some ((-1), s1)) (
    e_gR 8 0 a0 s1 fun r3 =>
    e_nn r3 fun a4 =>
    e_cv 0 a4 s1 (f_X0_hasColumn N a4 x1 s1) fun v6 s5 =>
    e_ieq v6 0 (
      some ((-1), s5)) (
      e_gR 8 0 a0 s5 fun r7 =>
      e_nn r7 fun a8 =>
      e_cv 0 a8 s5 (f_X0_hasColumn N a8 x2 s5) fun v10 s9 =>
      e_ieq v10 0 (
        some ((-1), s9)) (
        e_ilt x2 x1 (
          some ((-1), s9)) (
          e_cv 8 a0 s9 (f_X8_cutUp N a0 s9) fun v12 s11 =>
          e_ieq v12 0 (
            some ((-1), s11)) (
            f_X8_berm_46 N N a0 x1 x2 x3 0 s11)))))
def f_X8_shape (N : Nat) (a0 : Nat) (x1 : Int) (s : sj_Mem) : Option (Int × sj_Mem) :=
  e_cv 8 a0 s (f_X8_cutUp N a0 s) fun v2 s1 =>
  e_ieq v2 0 (
    some ((-1), s1)) (
    e_sw x1 (
    if x1 = 0 then (
      e_gR 8 0 a0 s1 fun r3 =>
      e_nn r3 fun a4 =>
      e_cv 0 a4 s1 (f_X0_slipArea N a4 s1) fun v6 s5 =>
      some (v6, s5)) else (
    if x1 = 1 then (
      e_gR 8 0 a0 s1 fun r7 =>
      e_gR 8 0 a0 s1 fun r8 =>
      e_nn r8 fun a9 =>
      e_cv 0 a9 s1 (f_X0_thickest N a9 s1) fun v11 s10 =>
      e_nn r7 fun a12 =>
      e_cv 0 a12 s10 (f_X0_thickAt N a12 v11 s10) fun v14 s13 =>
      some (v14, s13)) else (
    if x1 = 2 then (
      e_gR 8 0 a0 s1 fun r15 =>
      e_nn r15 fun a16 =>
      e_cv 0 a16 s1 (f_X0_thickest N a16 s1) fun v18 s17 =>
      some (v18, s17)) else (
    if x1 = 3 then (
      e_gR 8 0 a0 s1 fun r19 =>
      e_nn r19 fun a20 =>
      e_gR 0 14 a20 s1 fun r21 =>
      e_nn r21 fun a22 =>
      e_cv 5 a22 s1 (f_X5_leastBase N a22 s1) fun v24 s23 =>
      some (v24, s23)) else (
    if x1 = 4 then (
      e_gR 8 8 a0 s1 fun r25 =>
      e_nn r25 fun a26 =>
      e_cv 4 a26 s1 (f_X4_countFalling N a26 s1) fun v28 s27 =>
      some (v28, s27)) else (
    if x1 = 5 then (
      e_gR 8 8 a0 s1 fun r29 =>
      e_nn r29 fun a30 =>
      e_cv 4 a30 s1 (f_X4_countAfloat N a30 s1) fun v32 s31 =>
      some (v32, s31)) else (
      some ((-1), s1)))))))))
def f_X8_thrust_41_b (N : Nat) (k41 : Nat → Int → Int → Int → Int → sj_Mem → Option (Int × sj_Mem)) (a0 : Nat) (x1 : Int) (x2 : Int) (x3 : Int) (x5 : Int) (s : sj_Mem) : Option (Int × sj_Mem) :=
  e_ilt x1 x5 (
    some (x3, s)) (
    e_gR 8 8 a0 s fun r1 =>
    e_nn r1 fun a2 =>
    e_cv 4 a2 s (f_X4_isFast N a2 x5 x2 s) fun v4 s3 =>
    e_ieq v4 0 (
      e_gR 8 8 a0 s3 fun r5 =>
      e_nn r5 fun a6 =>
      e_cv 4 a6 s3 (f_X4_thrustOf N a6 x5 x2 s3) fun v8 s7 =>
      e_lt (x3 + v8) fun v9 =>
      e_lt (x5 + 1) fun v10 =>
      k41 a0 x1 x2 v9 v10 s7) (
      some ((-10000000000000000), s3)))
def f_X8_thrust_41 (N : Nat) : Nat → Nat → Int → Int → Int → Int → sj_Mem → Option (Int × sj_Mem)
  | 0 => fun _ _ _ _ _ _ => none
  | n + 1 => fun a0 x1 x2 x3 x5 s => f_X8_thrust_41_b N (f_X8_thrust_41 N n) a0 x1 x2 x3 x5 s
def f_X8_thrust (N : Nat) (a0 : Nat) (x1 : Int) (x2 : Int) (s : sj_Mem) : Option (Int × sj_Mem) :=
  e_ilt x1 0 (
    some ((-10000000000000000), s)) (
    e_gR 8 0 a0 s fun r1 =>
    e_nn r1 fun a2 =>
    e_gR 0 14 a2 s fun r3 =>
    e_nn r3 fun a4 =>
    e_cv 5 a4 s (f_X5_count N a4 s) fun v6 s5 =>
    e_ile v6 x1 (
      some ((-10000000000000000), s5)) (
      e_cl (f_X8_isK N x2 s5) fun v8 s7 =>
      e_ieq v8 0 (
        some ((-10000000000000000), s7)) (
        e_cv 8 a0 s7 (f_X8_cutUp N a0 s7) fun v10 s9 =>
        e_ieq v10 0 (
          some ((-10000000000000000), s9)) (
          f_X8_thrust_41 N N a0 x1 x2 0 0 s9))))
def f_X8_crest_87 (N : Nat) (k27 : Nat → Int → Int → Int → Int → Int → sj_Mem → Option (Int × sj_Mem)) (a0 : Nat) (x1 : Int) (x2 : Int) (x4 : Int) (x6 : Int) (x7 : Int) (s : sj_Mem) : Option (Int × sj_Mem) :=
  e_lt (x7 + 1) fun v1 =>
  k27 a0 x1 x2 x4 x6 v1 s
def f_X8_crest_80 (N : Nat) (k27 : Nat → Int → Int → Int → Int → Int → sj_Mem → Option (Int × sj_Mem)) (a0 : Nat) (x1 : Int) (x2 : Int) (x7 : Int) (s : sj_Mem) : Option (Int × sj_Mem) :=
  f_X8_crest_87 N k27 a0 x1 x2 x2 x7 x7 s
def f_X8_crest_27_b (N : Nat) (k27 : Nat → Int → Int → Int → Int → Int → sj_Mem → Option (Int × sj_Mem)) (a0 : Nat) (x1 : Int) (x2 : Int) (x4 : Int) (x6 : Int) (x7 : Int) (s : sj_Mem) : Option (Int × sj_Mem) :=
  e_gR 8 8 a0 s fun r1 =>
  e_nn r1 fun a2 =>
  e_gI 4 8 a2 s fun v3 =>
  e_ile v3 x7 (
    some (x6, s)) (
    e_gR 8 8 a0 s fun r4 =>
    e_nn r4 fun a5 =>
    e_cv 4 a5 s (f_X4_isFast N a5 x7 x1 s) fun v7 s6 =>
    e_ieq v7 0 (
      e_gR 8 8 a0 s6 fun r8 =>
      e_nn r8 fun a9 =>
      e_cv 4 a9 s6 (f_X4_thrustOf N a9 x7 x1 s6) fun v11 s10 =>
      e_lt (x2 + v11) fun v12 =>
      e_ieq x6 ((-1)) (
        f_X8_crest_80 N k27 a0 x1 v12 x7 s10) (
        e_lle v12 x4 (
          f_X8_crest_87 N k27 a0 x1 v12 x4 x6 x7 s10) (
          f_X8_crest_80 N k27 a0 x1 v12 x7 s10))) (
      some ((-1), s6)))
def f_X8_crest_27 (N : Nat) : Nat → Nat → Int → Int → Int → Int → Int → sj_Mem → Option (Int × sj_Mem)
  | 0 => fun _ _ _ _ _ _ _ => none
  | n + 1 => fun a0 x1 x2 x4 x6 x7 s => f_X8_crest_27_b N (f_X8_crest_27 N n) a0 x1 x2 x4 x6 x7 s
def f_X8_crest (N : Nat) (a0 : Nat) (x1 : Int) (s : sj_Mem) : Option (Int × sj_Mem) :=
  e_cl (f_X8_isK N x1 s) fun v2 s1 =>
  e_ieq v2 0 (
    some ((-1), s1)) (
    e_cv 8 a0 s1 (f_X8_cutUp N a0 s1) fun v4 s3 =>
    e_ieq v4 0 (
      some ((-1), s3)) (
      f_X8_crest_27 N N a0 x1 0 0 ((-1)) 0 s3))
def f_X8_tried (N : Nat) (a0 : Nat) (x1 : Int) (x2 : Int) (x3 : Int) (x4 : Int) (s : sj_Mem) : Option (Int × sj_Mem) :=
  e_gR 8 9 a0 s fun r1 =>
  e_gR 8 0 a0 s fun r2 =>
  e_nn r1 fun a3 =>
  e_cv 3 a3 s (f_X3_ask N a3 r2 x1 x2 x3 x4 20001 s) fun v5 s4 =>
  some (v5, s4)
def f_X8_boxes (N : Nat) (a0 : Nat) (x1 : Int) (x2 : Int) (x3 : Int) (x4 : Int) (x5 : Int) (x6 : Int) (s : sj_Mem) : Option (Int × sj_Mem) :=
  e_cl (f_X8_isCircle N x1 x2 x3 s) fun v2 s1 =>
  e_ieq v2 0 (
    some ((-100), s1)) (
    e_ilt x4 1 (
      some ((-100), s1)) (
      e_ilt 64 x4 (
        some ((-100), s1)) (
        e_ilt x6 0 (
          some ((-100), s1)) (
          e_ile x6 4 (
            e_gR 8 9 a0 s1 fun r3 =>
            e_gR 8 0 a0 s1 fun r4 =>
            e_nn r3 fun a5 =>
            e_cv 3 a5 s1 (f_X3_seek N a5 r4 x1 x2 x3 x4 x5 s1) fun v7 s6 =>
            e_ieq v7 0 (
              some ((-100), s6)) (
              e_sw x6 (
              if x6 = 0 then (
                e_gR 8 9 a0 s6 fun r8 =>
                e_nn r8 fun a9 =>
                e_gI 3 5 a9 s6 fun v10 =>
                some (v10, s6)) else (
              if x6 = 1 then (
                e_gR 8 9 a0 s6 fun r11 =>
                e_nn r11 fun a12 =>
                e_gI 3 2 a12 s6 fun v13 =>
                some (v13, s6)) else (
              if x6 = 2 then (
                e_gR 8 9 a0 s6 fun r14 =>
                e_nn r14 fun a15 =>
                e_gI 3 3 a15 s6 fun v16 =>
                some (v16, s6)) else (
              if x6 = 3 then (
                e_gR 8 9 a0 s6 fun r17 =>
                e_nn r17 fun a18 =>
                e_gI 3 4 a18 s6 fun v19 =>
                some (v19, s6)) else (
                e_gR 8 9 a0 s6 fun r20 =>
                e_nn r20 fun a21 =>
                e_gI 3 6 a21 s6 fun v22 =>
                some (v22, s6)))))))) (
            some ((-100), s1))))))
def f_X8_dug (N : Nat) (a0 : Nat) (x1 : Int) (x2 : Int) (x3 : Int) (x4 : Int) (x5 : Int) (x6 : Int) (s : sj_Mem) : Option (Int × sj_Mem) :=
  e_cl (f_X8_isCircle N x3 x4 x5 s) fun v2 s1 =>
  e_ieq v2 0 (
    some ((-1), s1)) (
    e_gR 8 0 a0 s1 fun r3 =>
    e_nn r3 fun a4 =>
    e_cv 0 a4 s1 (f_X0_canLower N a4 x1 x2 s1) fun v6 s5 =>
    e_ieq v6 0 (
      some ((-1), s5)) (
      e_gR 8 1 a0 s5 fun r7 =>
      e_gR 8 0 a0 s5 fun r8 =>
      e_nn r7 fun a9 =>
      e_cv 0 a9 s5 (f_X0_copy N a9 r8 s5) fun _u s10 =>
      e_gR 8 1 a0 s10 fun r11 =>
      e_nn r11 fun a12 =>
      e_gR 0 3 a12 s10 fun r13 =>
      e_nn r13 fun a14 =>
      e_aI 100 a14 x1 s10 fun v15 =>
      e_uI 100 a14 x1 (v15 - x2) s10 fun s16 =>
      e_gR 8 9 a0 s16 fun r17 =>
      e_gR 8 1 a0 s16 fun r18 =>
      e_nn r17 fun a19 =>
      e_cv 3 a19 s16 (f_X3_seek N a19 r18 x3 x4 x5 8 x6 s16) fun v21 s20 =>
      e_ieq v21 0 (
        some ((-1), s20)) (
        e_gR 8 9 a0 s20 fun r22 =>
        e_nn r22 fun a23 =>
        e_gI 3 5 a23 s20 fun v24 =>
        some (v24, s20))))
def f_X8_deep_138 (N : Nat) (k73 : Nat → Int → Int → Int → Int → Int → Int → Int → Int → Int → sj_Mem → Option (Int × sj_Mem)) (a0 : Nat) (x1 : Int) (x2 : Int) (x3 : Int) (x4 : Int) (x5 : Int) (x6 : Int) (x7 : Int) (x9 : Int) (s : sj_Mem) : Option (Int × sj_Mem) :=
  e_lt (x9 + 1) fun v1 =>
  k73 a0 x1 x2 x3 x4 x5 x6 x7 x9 v1 s
def f_X8_deep_73_b (N : Nat) (k73 : Nat → Int → Int → Int → Int → Int → Int → Int → Int → Int → sj_Mem → Option (Int × sj_Mem)) (a0 : Nat) (x1 : Int) (x2 : Int) (x3 : Int) (x4 : Int) (x5 : Int) (x6 : Int) (x7 : Int) (x8 : Int) (x9 : Int) (s : sj_Mem) : Option (Int × sj_Mem) :=
  e_ilt x7 x9 (
    some (x8, s)) (
    e_gR 8 1 a0 s fun r1 =>
    e_nn r1 fun a2 =>
    e_gR 0 3 a2 s fun r3 =>
    e_gR 8 0 a0 s fun r4 =>
    e_nn r4 fun a5 =>
    e_gR 0 3 a5 s fun r6 =>
    e_nn r6 fun a7 =>
    e_aI 100 a7 x1 s fun v8 =>
    e_nn r3 fun a9 =>
    e_uI 100 a9 x1 (v8 - x9) s fun s10 =>
    e_gR 8 9 a0 s10 fun r11 =>
    e_gR 8 1 a0 s10 fun r12 =>
    e_nn r11 fun a13 =>
    e_cv 3 a13 s10 (f_X3_seek N a13 r12 x3 x4 x5 8 x6 s10) fun v15 s14 =>
    e_ieq v15 0 (
      f_X8_deep_138 N k73 a0 x1 x2 x3 x4 x5 x6 x7 x9 s14) (
      e_gR 8 9 a0 s14 fun r16 =>
      e_nn r16 fun a17 =>
      e_gI 3 5 a17 s14 fun v18 =>
      e_ile x2 v18 (
        f_X8_deep_138 N k73 a0 x1 x2 x3 x4 x5 x6 x7 x9 s14) (
        some (x8, s14))))
def f_X8_deep_73 (N : Nat) : Nat → Nat → Int → Int → Int → Int → Int → Int → Int → Int → Int → sj_Mem → Option (Int × sj_Mem)
  | 0 => fun _ _ _ _ _ _ _ _ _ _ _ => none
  | n + 1 => fun a0 x1 x2 x3 x4 x5 x6 x7 x8 x9 s => f_X8_deep_73_b N (f_X8_deep_73 N n) a0 x1 x2 x3 x4 x5 x6 x7 x8 x9 s
def f_X8_deep (N : Nat) (a0 : Nat) (x1 : Int) (x2 : Int) (x3 : Int) (x4 : Int) (x5 : Int) (x6 : Int) (s : sj_Mem) : Option (Int × sj_Mem) :=
  e_cl (f_X8_isCircle N x3 x4 x5 s) fun v2 s1 =>
  e_ieq v2 0 (
    some ((-1), s1)) (
    e_cl (f_X8_isK N x2 s1) fun v4 s3 =>
    e_ieq v4 0 (
      some ((-1), s3)) (
      e_gR 8 0 a0 s3 fun r5 =>
      e_nn r5 fun a6 =>
      e_cv 0 a6 s3 (f_X0_hasColumn N a6 x1 s3) fun v8 s7 =>
      e_ieq v8 0 (
        some ((-1), s7)) (
        e_gR 8 0 a0 s7 fun r9 =>
        e_nn r9 fun a10 =>
        e_gR 0 3 a10 s7 fun r11 =>
        e_nn r11 fun a12 =>
        e_aI 100 a12 x1 s7 fun v13 =>
        e_gR 8 0 a0 s7 fun r14 =>
        e_nn r14 fun a15 =>
        e_gR 0 4 a15 s7 fun r16 =>
        e_nn r16 fun a17 =>
        e_aI 100 a17 x1 s7 fun v18 =>
        e_min 5 (v13 - v18) fun v19 =>
        e_gR 8 1 a0 s7 fun r20 =>
        e_gR 8 0 a0 s7 fun r21 =>
        e_nn r20 fun a22 =>
        e_cv 0 a22 s7 (f_X0_copy N a22 r21 s7) fun _u s23 =>
        f_X8_deep_73 N N a0 x1 x2 x3 x4 x5 x6 v19 ((-1)) 0 s23)))
def f_X8_scan_140 (N : Nat) (k52 : Nat → Int → Int → Int → Int → Int → Int → Int → Int → Int → Int → sj_Mem → Option (Int × sj_Mem)) (a0 : Nat) (x1 : Int) (x2 : Int) (x3 : Int) (x4 : Int) (x5 : Int) (x6 : Int) (x7 : Int) (x8 : Int) (x9 : Int) (x10 : Int) (s : sj_Mem) : Option (Int × sj_Mem) :=
  e_lt (x10 + 1) fun v1 =>
  k52 a0 x1 x2 x3 x4 x5 x6 x7 x8 x9 v1 s
def f_X8_scan_116 (N : Nat) (k52 : Nat → Int → Int → Int → Int → Int → Int → Int → Int → Int → Int → sj_Mem → Option (Int × sj_Mem)) (a0 : Nat) (x1 : Int) (x2 : Int) (x3 : Int) (x4 : Int) (x5 : Int) (x6 : Int) (x7 : Int) (x8 : Int) (x9 : Int) (x10 : Int) (y0 : Int) (y1 : Int) (y2 : Int) (y3 : Int) (y4 : Int) (y5 : Option Nat) (y6 : Option Nat) (s : sj_Mem) : Option (Int × sj_Mem) :=
  e_nn y6 fun a1 =>
  e_cv 3 a1 s (f_X3_ask N a1 y5 y4 y3 y2 y1 y0 s) fun v3 s2 =>
  e_ieq v3 ((-1)) (
    f_X8_scan_140 N k52 a0 x1 x2 x3 x4 x5 x6 x7 x8 x9 x10 s2) (
    e_lt (x8 + 1) fun v4 =>
    e_ile x6 v3 (
      f_X8_scan_140 N k52 a0 x1 x2 x3 x4 x5 x6 x7 v4 x9 x10 s2) (
      e_lt (x9 + 1) fun v5 =>
      f_X8_scan_140 N k52 a0 x1 x2 x3 x4 x5 x6 x7 v4 v5 x10 s2))
def f_X8_scan_52_b (N : Nat) (k52 : Nat → Int → Int → Int → Int → Int → Int → Int → Int → Int → Int → sj_Mem → Option (Int × sj_Mem)) (a0 : Nat) (x1 : Int) (x2 : Int) (x3 : Int) (x4 : Int) (x5 : Int) (x6 : Int) (x7 : Int) (x8 : Int) (x9 : Int) (x10 : Int) (s : sj_Mem) : Option (Int × sj_Mem) :=
  e_ile 125 x10 (
    e_ieq x7 0 (
      some (x8, s)) (
      some (x9, s))) (
    e_gR 8 9 a0 s fun r1 =>
    e_gR 8 0 a0 s fun r2 =>
    e_dI x10 25 fun v3 =>
    e_dI x10 5 fun v4 =>
    e_rI v4 5 fun v5 =>
    e_rI x10 5 fun v6 =>
    e_ieq x7 0 (
      f_X8_scan_116 N k52 a0 x1 x2 x3 x4 x5 x6 x7 x8 x9 x10 0 x5 (x3 + ((v6 - 2) * x4)) (x2 + ((v5 - 2) * x4)) (x1 + ((v3 - 2) * x4)) r2 r1 s) (
      f_X8_scan_116 N k52 a0 x1 x2 x3 x4 x5 x6 x7 x8 x9 x10 x6 x5 (x3 + ((v6 - 2) * x4)) (x2 + ((v5 - 2) * x4)) (x1 + ((v3 - 2) * x4)) r2 r1 s))
def f_X8_scan_52 (N : Nat) : Nat → Nat → Int → Int → Int → Int → Int → Int → Int → Int → Int → Int → sj_Mem → Option (Int × sj_Mem)
  | 0 => fun _ _ _ _ _ _ _ _ _ _ _ _ => none
  | n + 1 => fun a0 x1 x2 x3 x4 x5 x6 x7 x8 x9 x10 s => f_X8_scan_52_b N (f_X8_scan_52 N n) a0 x1 x2 x3 x4 x5 x6 x7 x8 x9 x10 s
def f_X8_scan (N : Nat) (a0 : Nat) (x1 : Int) (x2 : Int) (x3 : Int) (x4 : Int) (x5 : Int) (x6 : Int) (x7 : Int) (s : sj_Mem) : Option (Int × sj_Mem) :=
  e_cl (f_X8_isCircle N x1 x2 x3 s) fun v2 s1 =>
  e_ieq v2 0 (
    some ((-1), s1)) (
    e_ilt x4 1 (
      some ((-1), s1)) (
      e_ilt 64 x4 (
        some ((-1), s1)) (
        e_cl (f_X8_isK N x6 s1) fun v4 s3 =>
        e_ieq v4 0 (
          some ((-1), s3)) (
          e_ilt x7 0 (
            some ((-1), s3)) (
            e_ile x7 1 (
              f_X8_scan_52 N N a0 x1 x2 x3 x4 x5 x6 x7 0 0 0 s3) (
              some ((-1), s3)))))))
def f_X8_tables_34 (N : Nat) (a0 : Nat) (x1 : Int) (x2 : Int) (x3 : Int) (s : sj_Mem) : Option (Int × sj_Mem) :=
  e_cv 8 a0 s (f_X8_tableOf N a0 x1 x2 s) fun r2 s1 =>
  e_ieq x3 0 (
    e_nn r2 fun a16 =>
    e_gI 6 9 a16 s1 fun v17 =>
    some (v17, s1)) (
    e_ieq x3 1 (
      e_nn r2 fun a12 =>
      e_gR 6 4 a12 s1 fun r13 =>
      e_nn r13 fun a14 =>
      e_gI 5 1 a14 s1 fun v15 =>
      some (v15, s1)) (
      e_ieq x3 2 (
        e_nn r2 fun a8 =>
        e_gR 6 4 a8 s1 fun r9 =>
        e_nn r9 fun a10 =>
        e_gI 5 2 a10 s1 fun v11 =>
        some (v11, s1)) (
        e_nn r2 fun a3 =>
        e_gR 6 4 a3 s1 fun r4 =>
        e_nn r4 fun a5 =>
        e_cv 5 a5 s1 (f_X5_baseAt N a5 (x3 - 10) s1) fun v7 s6 =>
        some (v7, s6))))
def f_X8_tables (N : Nat) (a0 : Nat) (x1 : Int) (x2 : Int) (x3 : Int) (s : sj_Mem) : Option (Int × sj_Mem) :=
  e_ilt x1 1 (
    some ((-1), s)) (
    e_ilt 12 x1 (
      some ((-1), s)) (
      e_ilt x3 0 (
        some ((-1), s)) (
        e_ilt 50 x3 (
          some ((-1), s)) (
          e_ile x3 2 (
            f_X8_tables_34 N a0 x1 x2 x3 s) (
            e_ile 10 x3 (
              f_X8_tables_34 N a0 x1 x2 x3 s) (
              some ((-1), s)))))))
def f_X8_state (N : Nat) (a0 : Nat) (x1 : Int) (s : sj_Mem) : Option (Int × sj_Mem) :=
  e_gR 8 3 a0 s fun r1 =>
  e_nn r1 fun a2 =>
  e_gI 1 3 a2 s fun v3 =>
  e_gR 8 3 a0 s fun r4 =>
  e_nn r4 fun a5 =>
  e_pI 1 3 a5 x1 s fun s6 =>
  some (v3, s6)
def f_X8_chance_183 (N : Nat) (k54 : Nat → Int → Int → Int → Int → Int → sj_Mem → Option (Int × sj_Mem)) (a0 : Nat) (x1 : Int) (x2 : Int) (x3 : Int) (x4 : Int) (x5 : Int) (s : sj_Mem) : Option (Int × sj_Mem) :=
  e_lt (x5 + 1) fun v1 =>
  k54 a0 x1 x2 x3 x4 v1 s
def f_X8_chance_63_b (N : Nat) (k54 : Nat → Int → Int → Int → Int → Int → sj_Mem → Option (Int × sj_Mem)) (k63 : Nat → Int → Int → Int → Int → Int → Int → sj_Mem → Option (Int × sj_Mem)) (a0 : Nat) (x1 : Int) (x2 : Int) (x3 : Int) (x4 : Int) (x5 : Int) (x6 : Int) (s : sj_Mem) : Option (Int × sj_Mem) :=
  e_ile 4 x6 (
    e_gR 8 8 a0 s fun r1 =>
    e_gR 8 1 a0 s fun r2 =>
    e_nn r1 fun a3 =>
    e_cv 4 a3 s (f_X4_settle N a3 r2 0 s) fun _u s4 =>
    e_gR 8 8 a0 s4 fun r5 =>
    e_nn r5 fun a6 =>
    e_cv 4 a6 s4 (f_X4_hold N a6 x3 s4) fun v8 s7 =>
    e_ieq v8 0 (
      e_lt (x4 + 1) fun v9 =>
      f_X8_chance_183 N k54 a0 x1 x2 x3 v9 x5 s7) (
      f_X8_chance_183 N k54 a0 x1 x2 x3 x4 x5 s7)) (
    e_gR 8 1 a0 s fun r10 =>
    e_nn r10 fun a11 =>
    e_gR 0 9 a11 s fun r12 =>
    e_gR 8 0 a0 s fun r13 =>
    e_nn r13 fun a14 =>
    e_gR 0 9 a14 s fun r15 =>
    e_nn r15 fun a16 =>
    e_aI 100 a16 x6 s fun v17 =>
    e_gR 8 3 a0 s fun r18 =>
    e_nn r18 fun a19 =>
    e_cv 1 a19 s (f_X1_draw N a19 ((2 * x2) + 1) s) fun v21 s20 =>
    e_dI (v17 * ((100 - x2) + v21)) 100 fun v22 =>
    e_nn r12 fun a23 =>
    e_uI 100 a23 x6 v22 s20 fun s24 =>
    e_gR 8 1 a0 s24 fun r25 =>
    e_nn r25 fun a26 =>
    e_gR 0 10 a26 s24 fun r27 =>
    e_gR 8 0 a0 s24 fun r28 =>
    e_nn r28 fun a29 =>
    e_gR 0 10 a29 s24 fun r30 =>
    e_nn r30 fun a31 =>
    e_aI 100 a31 x6 s24 fun v32 =>
    e_gR 8 3 a0 s24 fun r33 =>
    e_nn r33 fun a34 =>
    e_cv 1 a34 s24 (f_X1_draw N a34 ((2 * x2) + 1) s24) fun v36 s35 =>
    e_dI (v32 * ((100 - x2) + v36)) 100 fun v37 =>
    e_nn r27 fun a38 =>
    e_uI 100 a38 x6 v37 s35 fun s39 =>
    e_lt (x6 + 1) fun v40 =>
    k63 a0 x1 x2 x3 x4 x5 v40 s39)
def f_X8_chance_63 (N : Nat) (k54 : Nat → Int → Int → Int → Int → Int → sj_Mem → Option (Int × sj_Mem)) : Nat → Nat → Int → Int → Int → Int → Int → Int → sj_Mem → Option (Int × sj_Mem)
  | 0 => fun _ _ _ _ _ _ _ _ => none
  | n + 1 => fun a0 x1 x2 x3 x4 x5 x6 s => f_X8_chance_63_b N k54 (f_X8_chance_63 N k54 n) a0 x1 x2 x3 x4 x5 x6 s
def f_X8_chance_54_b (N : Nat) (k54 : Nat → Int → Int → Int → Int → Int → sj_Mem → Option (Int × sj_Mem)) (a0 : Nat) (x1 : Int) (x2 : Int) (x3 : Int) (x4 : Int) (x5 : Int) (s : sj_Mem) : Option (Int × sj_Mem) :=
  e_ile x1 x5 (
    some (x4, s)) (
    f_X8_chance_63 N k54 N a0 x1 x2 x3 x4 x5 0 s)
def f_X8_chance_54 (N : Nat) : Nat → Nat → Int → Int → Int → Int → Int → sj_Mem → Option (Int × sj_Mem)
  | 0 => fun _ _ _ _ _ _ _ => none
  | n + 1 => fun a0 x1 x2 x3 x4 x5 s => f_X8_chance_54_b N (f_X8_chance_54 N n) a0 x1 x2 x3 x4 x5 s
def f_X8_chance (N : Nat) (a0 : Nat) (x1 : Int) (x2 : Int) (x3 : Int) (s : sj_Mem) : Option (Int × sj_Mem) :=
  e_ilt x1 1 (
    some ((-1), s)) (
    e_ilt 40 x1 (
      some ((-1), s)) (
      e_ilt x2 0 (
        some ((-1), s)) (
        e_ilt 50 x2 (
          some ((-1), s)) (
          e_cl (f_X8_isK N x3 s) fun v2 s1 =>
          e_ieq v2 0 (
            some ((-1), s1)) (
            e_cv 8 a0 s1 (f_X8_cutUp N a0 s1) fun v4 s3 =>
            e_ieq v4 0 (
              some ((-1), s3)) (
              e_gR 8 1 a0 s3 fun r5 =>
              e_gR 8 0 a0 s3 fun r6 =>
              e_nn r5 fun a7 =>
              e_cv 0 a7 s3 (f_X0_copy N a7 r6 s3) fun _u s8 =>
              f_X8_chance_54 N N a0 x1 x2 x3 0 0 s8))))))
def f_X8_report_119 (N : Nat) (a0 : Nat) (y0 : Int) (y1 : Option Nat) (s : sj_Mem) : Option (Int × sj_Mem) :=
  e_nn y1 fun a1 =>
  e_cv 2 a1 s (f_X2_write N a1 y0 s) fun _u s2 =>
  e_gR 8 5 a0 s2 fun r3 =>
  e_nn r3 fun a4 =>
  e_gI 2 1 a4 s2 fun v5 =>
  some (v5, s2)
def f_X8_report (N : Nat) (a0 : Nat) (s : sj_Mem) : Option (Int × sj_Mem) :=
  e_gR 8 5 a0 s fun r1 =>
  e_nn r1 fun a2 =>
  e_pI 2 1 a2 0 s fun s3 =>
  e_cv 8 a0 s3 (f_X8_cutUp N a0 s3) fun v5 s4 =>
  e_ieq v5 0 (
    some ((-1), s4)) (
    e_gR 8 5 a0 s4 fun r6 =>
    e_gR 8 8 a0 s4 fun r7 =>
    e_nn r7 fun a8 =>
    e_cv 4 a8 s4 (f_X4_leastBound N a8 20001 s4) fun v10 s9 =>
    e_nn r6 fun a11 =>
    e_cv 2 a11 s9 (f_X2_writeFactor N a11 v10 s9) fun _u s12 =>
    e_gR 8 5 a0 s12 fun r13 =>
    e_nn r13 fun a14 =>
    e_cv 2 a14 s12 (f_X2_write N a14 32 s12) fun _u s15 =>
    e_gR 8 5 a0 s15 fun r16 =>
    e_gR 8 0 a0 s15 fun r17 =>
    e_nn r17 fun a18 =>
    e_gR 0 14 a18 s15 fun r19 =>
    e_nn r19 fun a20 =>
    e_gI 5 1 a20 s15 fun v21 =>
    e_nn r16 fun a22 =>
    e_cv 2 a22 s15 (f_X2_writeNumber N a22 v21 s15) fun _u s23 =>
    e_gR 8 5 a0 s23 fun r24 =>
    e_nn r24 fun a25 =>
    e_cv 2 a25 s23 (f_X2_write N a25 45 s23) fun _u s26 =>
    e_gR 8 5 a0 s26 fun r27 =>
    e_gR 8 0 a0 s26 fun r28 =>
    e_nn r28 fun a29 =>
    e_gR 0 14 a29 s26 fun r30 =>
    e_nn r30 fun a31 =>
    e_gI 5 2 a31 s26 fun v32 =>
    e_nn r27 fun a33 =>
    e_cv 2 a33 s26 (f_X2_writeNumber N a33 v32 s26) fun _u s34 =>
    e_gR 8 5 a0 s34 fun r35 =>
    e_nn r35 fun a36 =>
    e_cv 2 a36 s34 (f_X2_write N a36 32 s34) fun _u s37 =>
    e_gR 8 5 a0 s37 fun r38 =>
    e_gR 8 0 a0 s37 fun r39 =>
    e_nn r39 fun a40 =>
    e_gR 0 14 a40 s37 fun r41 =>
    e_nn r41 fun a42 =>
    e_gI 5 3 a42 s37 fun v43 =>
    e_ieq v43 0 (
      f_X8_report_119 N a0 82 r38 s37) (
      f_X8_report_119 N a0 76 r38 s37))
def f_X8_sign (N : Nat) (a0 : Nat) (x1 : Int) (s : sj_Mem) : Option (Int × sj_Mem) :=
  e_ilt x1 0 (
    some ((-1), s)) (
    e_gR 8 5 a0 s fun r1 =>
    e_nn r1 fun a2 =>
    e_gI 2 1 a2 s fun v3 =>
    e_ile v3 x1 (
      some ((-1), s)) (
      e_gR 8 5 a0 s fun r4 =>
      e_nn r4 fun a5 =>
      e_gR 2 0 a5 s fun r6 =>
      e_nn r6 fun a7 =>
      e_aI 100 a7 x1 s fun v8 =>
      some (v8, s)))
def f_X9_begins_62_b (N : Nat) (k62 : Nat → Int → sj_Mem → Option (Unit × sj_Mem)) (a0 : Nat) (x3 : Int) (s : sj_Mem) : Option (Unit × sj_Mem) :=
  e_ile 4 x3 (
    e_gR 9 0 a0 s fun r1 =>
    e_nn r1 fun a2 =>
    e_uI 100 a2 320 ((-1)) s fun s3 =>
    some ((), s3)) (
    e_gR 9 0 a0 s fun r4 =>
    e_nn r4 fun a5 =>
    e_uI 100 a5 (290 + (3 * x3)) 20 s fun s6 =>
    e_gR 9 0 a0 s6 fun r7 =>
    e_nn r7 fun a8 =>
    e_uI 100 a8 ((290 + (3 * x3)) + 1) 10 s6 fun s9 =>
    e_gR 9 0 a0 s9 fun r10 =>
    e_nn r10 fun a11 =>
    e_uI 100 a11 ((290 + (3 * x3)) + 2) 300 s9 fun s12 =>
    e_lt (x3 + 1) fun v13 =>
    k62 a0 v13 s12)
def f_X9_begins_62 (N : Nat) : Nat → Nat → Int → sj_Mem → Option (Unit × sj_Mem)
  | 0 => fun _ _ _ => none
  | n + 1 => fun a0 x3 s => f_X9_begins_62_b N (f_X9_begins_62 N n) a0 x3 s
def f_X9_begins_38_b (N : Nat) (k38 : Nat → Int → sj_Mem → Option (Unit × sj_Mem)) (a0 : Nat) (x3 : Int) (s : sj_Mem) : Option (Unit × sj_Mem) :=
  e_ile 41 x3 (
    f_X9_begins_62 N N a0 0 s) (
    e_gR 9 0 a0 s fun r1 =>
    e_nn r1 fun a2 =>
    e_uI 100 a2 (3 + x3) 20 s fun s3 =>
    e_lt (x3 + 1) fun v4 =>
    k38 a0 v4 s3)
def f_X9_begins_38 (N : Nat) : Nat → Nat → Int → sj_Mem → Option (Unit × sj_Mem)
  | 0 => fun _ _ _ => none
  | n + 1 => fun a0 x3 s => f_X9_begins_38_b N (f_X9_begins_38 N n) a0 x3 s
def f_X9_begins_2_b (N : Nat) (k2 : Nat → Int → Int → Int → sj_Mem → Option (Unit × sj_Mem)) (a0 : Nat) (x1 : Int) (x2 : Int) (x3 : Int) (s : sj_Mem) : Option (Unit × sj_Mem) :=
  e_ile 364 x3 (
    e_gR 9 0 a0 s fun r1 =>
    e_nn r1 fun a2 =>
    e_uI 100 a2 0 x1 s fun s3 =>
    e_gR 9 0 a0 s3 fun r4 =>
    e_nn r4 fun a5 =>
    e_uI 100 a5 1 x2 s3 fun s6 =>
    f_X9_begins_38 N N a0 0 s6) (
    e_gR 9 0 a0 s fun r7 =>
    e_nn r7 fun a8 =>
    e_uI 100 a8 x3 0 s fun s9 =>
    e_lt (x3 + 1) fun v10 =>
    k2 a0 x1 x2 v10 s9)
def f_X9_begins_2 (N : Nat) : Nat → Nat → Int → Int → Int → sj_Mem → Option (Unit × sj_Mem)
  | 0 => fun _ _ _ _ _ => none
  | n + 1 => fun a0 x1 x2 x3 s => f_X9_begins_2_b N (f_X9_begins_2 N n) a0 x1 x2 x3 s
def f_X9_begins (N : Nat) (a0 : Nat) (x1 : Int) (x2 : Int) (s : sj_Mem) : Option (Unit × sj_Mem) :=
  f_X9_begins_2 N N a0 x1 x2 0 s
def f_X9_init (N : Nat) (a0 : Nat) (s : sj_Mem) : Option (Unit × sj_Mem) :=
  e_nA 100 390 s fun a1 s2 =>
  e_pR 9 0 a0 (some a1) s2 fun s3 =>
  e_nA 100 390 s3 fun a4 s5 =>
  e_pR 9 1 a0 (some a4) s5 fun s6 =>
  e_nA 100 390 s6 fun a7 s8 =>
  e_pR 9 2 a0 (some a7) s8 fun s9 =>
  e_nA 100 2912 s9 fun a10 s11 =>
  e_pR 9 3 a0 (some a10) s11 fun s12 =>
  e_pI 9 13 a0 ((-1)) s12 fun s13 =>
  e_nA 100 41 s13 fun a14 s15 =>
  e_pR 9 16 a0 (some a14) s15 fun s16 =>
  e_nA 101 4141 s16 fun a17 s18 =>
  e_pR 9 22 a0 (some a17) s18 fun s19 =>
  e_nA 100 4141 s19 fun a20 s21 =>
  e_pR 9 23 a0 (some a20) s21 fun s22 =>
  e_nA 101 41 s22 fun a23 s24 =>
  e_pR 9 24 a0 (some a23) s24 fun s25 =>
  e_nA 100 40 s25 fun a26 s27 =>
  e_pR 9 25 a0 (some a26) s27 fun s28 =>
  e_nA 103 600 s28 fun a29 s30 =>
  e_pR 9 27 a0 (some a29) s30 fun s31 =>
  e_pI 9 31 a0 ((-1)) s31 fun s32 =>
  e_nA 102 20 s32 fun a33 s34 =>
  e_pR 9 34 a0 (some a33) s34 fun s35 =>
  e_cv 9 a0 s35 (f_X9_begins N a0 20 4 s35) fun _u s36 =>
  some ((), s36)
def f_X9_soilOver_4_b (N : Nat) (k4 : Nat → Int → Int → sj_Mem → Option (Int × sj_Mem)) (a0 : Nat) (x1 : Int) (x2 : Int) (s : sj_Mem) : Option (Int × sj_Mem) :=
  e_gR 9 0 a0 s fun r1 =>
  e_nn r1 fun a2 =>
  e_aI 100 a2 0 s fun v3 =>
  e_ilt v3 x2 (
    some (x1, s)) (
    e_gR 9 0 a0 s fun r4 =>
    e_nn r4 fun a5 =>
    e_aI 100 a5 (3 + x2) s fun v6 =>
    e_gR 9 0 a0 s fun r7 =>
    e_nn r7 fun a8 =>
    e_aI 100 a8 (44 + x2) s fun v9 =>
    e_lt (x1 + (v6 - v9)) fun v10 =>
    e_lt (x2 + 1) fun v11 =>
    k4 a0 v10 v11 s)
def f_X9_soilOver_4 (N : Nat) : Nat → Nat → Int → Int → sj_Mem → Option (Int × sj_Mem)
  | 0 => fun _ _ _ _ => none
  | n + 1 => fun a0 x1 x2 s => f_X9_soilOver_4_b N (f_X9_soilOver_4 N n) a0 x1 x2 s
def f_X9_soilOver (N : Nat) (a0 : Nat) (s : sj_Mem) : Option (Int × sj_Mem) :=
  f_X9_soilOver_4 N N a0 0 0 s
def f_X9_most (N : Nat) (x0 : Int) (x1 : Int) (s : sj_Mem) : Option (Int × sj_Mem) :=
  e_ile x0 x1 (
    some (x1, s)) (
    some (x0, s))
def f_X9_highest_4_b (N : Nat) (k4 : Nat → Int → Int → sj_Mem → Option (Int × sj_Mem)) (a0 : Nat) (x1 : Int) (x2 : Int) (s : sj_Mem) : Option (Int × sj_Mem) :=
  e_gR 9 0 a0 s fun r1 =>
  e_nn r1 fun a2 =>
  e_aI 100 a2 0 s fun v3 =>
  e_ilt v3 x2 (
    some (x1, s)) (
    e_gR 9 0 a0 s fun r4 =>
    e_nn r4 fun a5 =>
    e_aI 100 a5 (3 + x2) s fun v6 =>
    e_cl (f_X9_most N x1 v6 s) fun v8 s7 =>
    e_lt (x2 + 1) fun v9 =>
    k4 a0 v8 v9 s7)
def f_X9_highest_4 (N : Nat) : Nat → Nat → Int → Int → sj_Mem → Option (Int × sj_Mem)
  | 0 => fun _ _ _ _ => none
  | n + 1 => fun a0 x1 x2 s => f_X9_highest_4_b N (f_X9_highest_4 N n) a0 x1 x2 s
def f_X9_highest (N : Nat) (a0 : Nat) (s : sj_Mem) : Option (Int × sj_Mem) :=
  f_X9_highest_4 N N a0 0 0 s
def f_X9_hasSlip (N : Nat) (a0 : Nat) (s : sj_Mem) : Option (Int × sj_Mem) :=
  e_gR 9 0 a0 s fun r1 =>
  e_nn r1 fun a2 =>
  e_aI 100 a2 320 s fun v3 =>
  e_ieq v3 ((-1)) (
    e_z 0 s) (
    e_z 1 s)
def f_X9_isIn (N : Nat) (x0 : Int) (x2 : Int) (x4 : Int) (s : sj_Mem) : Option (Int × sj_Mem) :=
  e_llt x0 x2 (
    e_z 0 s) (
    e_llt x4 x0 (
      e_z 0 s) (
      e_z 1 s))
def f_X9_isAnchor (N : Nat) (a0 : Nat) (x1 : Int) (s : sj_Mem) : Option (Int × sj_Mem) :=
  e_wid x1 fun v1 =>
  e_cl (f_X9_isIn N v1 0 5 s) fun v3 s2 =>
  e_ieq v3 0 (
    e_z 0 s2) (
    e_gR 9 0 a0 s2 fun r4 =>
    e_nn r4 fun a5 =>
    e_aI 100 a5 ((302 + (3 * x1)) + 2) s2 fun v6 =>
    e_ile v6 0 (
      e_z 0 s2) (
      e_z 1 s2))
def f_X9_anchorSet_26 (N : Nat) (k4 : Nat → Int → Int → sj_Mem → Option (Int × sj_Mem)) (a0 : Nat) (x2 : Int) (y0 : Int) (y1 : Int) (s : sj_Mem) : Option (Int × sj_Mem) :=
  e_lt (sj_or y1 y0) fun v1 =>
  e_lt (x2 + 1) fun v2 =>
  k4 a0 v1 v2 s
def f_X9_anchorSet_4_b (N : Nat) (k4 : Nat → Int → Int → sj_Mem → Option (Int × sj_Mem)) (a0 : Nat) (x1 : Int) (x2 : Int) (s : sj_Mem) : Option (Int × sj_Mem) :=
  e_ile 6 x2 (
    some (x1, s)) (
    e_cv 9 a0 s (f_X9_isAnchor N a0 x2 s) fun v2 s1 =>
    e_ieq v2 0 (
      f_X9_anchorSet_26 N k4 a0 x2 0 x1 s1) (
      e_shl 1 x2 fun v3 =>
      f_X9_anchorSet_26 N k4 a0 x2 v3 x1 s1))
def f_X9_anchorSet_4 (N : Nat) : Nat → Nat → Int → Int → sj_Mem → Option (Int × sj_Mem)
  | 0 => fun _ _ _ _ => none
  | n + 1 => fun a0 x1 x2 s => f_X9_anchorSet_4_b N (f_X9_anchorSet_4 N n) a0 x1 x2 s
def f_X9_anchorSet (N : Nat) (a0 : Nat) (s : sj_Mem) : Option (Int × sj_Mem) :=
  f_X9_anchorSet_4 N N a0 0 0 s
def f_X9_look (N : Nat) (a0 : Nat) (x1 : Int) (s : sj_Mem) : Option (Int × sj_Mem) :=
  e_sw x1 (
  if x1 = 0 then (
    e_gR 9 0 a0 s fun r1 =>
    e_nn r1 fun a2 =>
    e_aI 100 a2 0 s fun v3 =>
    some (v3, s)) else (
  if x1 = 1 then (
    e_gR 9 0 a0 s fun r4 =>
    e_nn r4 fun a5 =>
    e_aI 100 a5 1 s fun v6 =>
    some (v6, s)) else (
  if x1 = 2 then (
    e_gR 9 0 a0 s fun r7 =>
    e_nn r7 fun a8 =>
    e_aI 100 a8 2 s fun v9 =>
    some (v9, s)) else (
  if x1 = 3 then (
    e_cv 9 a0 s (f_X9_anchorSet N a0 s) fun v11 s10 =>
    some (v11, s10)) else (
  if x1 = 4 then (
    e_cv 9 a0 s (f_X9_hasSlip N a0 s) fun v13 s12 =>
    e_ieq v13 0 (
      some (0, s12)) (
      e_gR 9 0 a0 s12 fun r14 =>
      e_nn r14 fun a15 =>
      e_aI 100 a15 321 s12 fun v16 =>
      e_gR 9 0 a0 s12 fun r17 =>
      e_nn r17 fun a18 =>
      e_aI 100 a18 320 s12 fun v19 =>
      some (v16 - v19, s12))) else (
  if x1 = 5 then (
    e_gR 9 0 a0 s fun r20 =>
    e_nn r20 fun a21 =>
    e_aI 100 a21 320 s fun v22 =>
    some (v22, s)) else (
  if x1 = 6 then (
    e_cv 9 a0 s (f_X9_hasSlip N a0 s) fun v24 s23 =>
    e_ieq v24 0 (
      some ((-1), s23)) (
      e_gR 9 0 a0 s23 fun r25 =>
      e_nn r25 fun a26 =>
      e_aI 100 a26 321 s23 fun v27 =>
      some (v27, s23))) else (
  if x1 = 7 then (
    e_cv 9 a0 s (f_X9_hasSlip N a0 s) fun v29 s28 =>
    e_ieq v29 0 (
      some ((-1), s28)) (
      e_gR 9 0 a0 s28 fun r30 =>
      e_nn r30 fun a31 =>
      e_aI 100 a31 322 s28 fun v32 =>
      some (v32, s28))) else (
  if x1 = 8 then (
    e_gR 9 0 a0 s fun r33 =>
    e_nn r33 fun a34 =>
    e_aI 100 a34 364 s fun v35 =>
    some (v35, s)) else (
  if x1 = 9 then (
    e_gI 9 4 a0 s fun v36 =>
    some (v36, s)) else (
  if x1 = 10 then (
    e_gI 9 28 a0 s fun v37 =>
    some (v37, s)) else (
  if x1 = 11 then (
    e_cv 9 a0 s (f_X9_highest N a0 s) fun v39 s38 =>
    some (v39, s38)) else (
  if x1 = 12 then (
    e_cv 9 a0 s (f_X9_soilOver N a0 s) fun v41 s40 =>
    some (v41, s40)) else (
  if x1 = 13 then (
    e_gR 9 0 a0 s fun r42 =>
    e_nn r42 fun a43 =>
    e_aI 100 a43 389 s fun v44 =>
    some (v44, s)) else (
    some ((-10), s))))))))))))))))
def f_X9_image_53 (N : Nat) (k15 : Nat → Int → Int → sj_Mem → Option (Int × sj_Mem)) (a0 : Nat) (x1 : Int) (x2 : Int) (s : sj_Mem) : Option (Int × sj_Mem) :=
  e_lt (x2 + 1) fun v1 =>
  k15 a0 x1 v1 s
def f_X9_image_15_b (N : Nat) (k15 : Nat → Int → Int → sj_Mem → Option (Int × sj_Mem)) (a0 : Nat) (x1 : Int) (x2 : Int) (s : sj_Mem) : Option (Int × sj_Mem) :=
  e_ile 390 x2 (
    e_ieq x1 0 (
      e_pI 9 4 a0 0 s fun s2 =>
      e_pZ 9 5 a0 1 s2 fun s3 =>
      e_z 1 s3) (
      e_pZ 9 5 a0 1 s fun s1 =>
      e_z 1 s1)) (
    e_ieq x1 0 (
      e_gR 9 0 a0 s fun r4 =>
      e_gR 9 2 a0 s fun r5 =>
      e_nn r5 fun a6 =>
      e_aI 100 a6 x2 s fun v7 =>
      e_nn r4 fun a8 =>
      e_uI 100 a8 x2 v7 s fun s9 =>
      f_X9_image_53 N k15 a0 x1 x2 s9) (
      e_gR 9 2 a0 s fun r10 =>
      e_gR 9 0 a0 s fun r11 =>
      e_nn r11 fun a12 =>
      e_aI 100 a12 x2 s fun v13 =>
      e_nn r10 fun a14 =>
      e_uI 100 a14 x2 v13 s fun s15 =>
      f_X9_image_53 N k15 a0 x1 x2 s15))
def f_X9_image_15 (N : Nat) : Nat → Nat → Int → Int → sj_Mem → Option (Int × sj_Mem)
  | 0 => fun _ _ _ _ => none
  | n + 1 => fun a0 x1 x2 s => f_X9_image_15_b N (f_X9_image_15 N n) a0 x1 x2 s
def f_X9_image_13 (N : Nat) (a0 : Nat) (x1 : Int) (s : sj_Mem) : Option (Int × sj_Mem) :=
  f_X9_image_15 N N a0 x1 0 s
def f_X9_image (N : Nat) (a0 : Nat) (x1 : Int) (s : sj_Mem) : Option (Int × sj_Mem) :=
  e_ieq x1 0 (
    e_gI 9 5 a0 s fun v1 =>
    e_ieq v1 0 (
      e_z 0 s) (
      f_X9_image_13 N a0 x1 s)) (
    f_X9_image_13 N a0 x1 s)
def f_X9_sign (N : Nat) (a0 : Nat) (x1 : Int) (s : sj_Mem) : Option (Int × sj_Mem) :=
  e_wid x1 fun v1 =>
  e_gI 9 26 a0 s fun v2 =>
  e_wid (v2 - 1) fun v3 =>
  e_cl (f_X9_isIn N v1 0 v3 s) fun v5 s4 =>
  e_ieq v5 0 (
    some ((-1), s4)) (
    e_gR 9 25 a0 s4 fun r6 =>
    e_nn r6 fun a7 =>
    e_aI 100 a7 x1 s4 fun v8 =>
    some (v8, s4))
def f_X9_takesSlip_47_b (N : Nat) (k47 : Nat → Int → sj_Mem → Option (Int × sj_Mem)) (a0 : Nat) (x1 : Int) (s : sj_Mem) : Option (Int × sj_Mem) :=
  e_ile 41 x1 (
    e_gI 9 13 a0 s fun v1 =>
    e_ieq v1 ((-1)) (
      e_z 0 s) (
      e_z 1 s)) (
    e_gR 9 16 a0 s fun r2 =>
    e_gR 9 0 a0 s fun r3 =>
    e_nn r3 fun a4 =>
    e_aI 100 a4 (323 + x1) s fun v5 =>
    e_nn r2 fun a6 =>
    e_uI 100 a6 x1 v5 s fun s7 =>
    e_lt (x1 + 1) fun v8 =>
    k47 a0 v8 s7)
def f_X9_takesSlip_47 (N : Nat) : Nat → Nat → Int → sj_Mem → Option (Int × sj_Mem)
  | 0 => fun _ _ _ => none
  | n + 1 => fun a0 x1 s => f_X9_takesSlip_47_b N (f_X9_takesSlip_47 N n) a0 x1 s
def f_X9_takesSlip_42 (N : Nat) (a0 : Nat) (y0 : Int) (y1 : Option Nat) (s : sj_Mem) : Option (Int × sj_Mem) :=
  e_nn y1 fun a1 =>
  e_pZ 9 15 a1 y0 s fun s2 =>
  f_X9_takesSlip_47 N N a0 0 s2
def f_X9_takesSlip (N : Nat) (a0 : Nat) (s : sj_Mem) : Option (Int × sj_Mem) :=
  e_gR 9 0 a0 s fun r1 =>
  e_nn r1 fun a2 =>
  e_aI 100 a2 320 s fun v3 =>
  e_pI 9 13 a0 v3 s fun s4 =>
  e_gR 9 0 a0 s4 fun r5 =>
  e_nn r5 fun a6 =>
  e_aI 100 a6 321 s4 fun v7 =>
  e_pI 9 14 a0 v7 s4 fun s8 =>
  e_gR 9 0 a0 s8 fun r9 =>
  e_nn r9 fun a10 =>
  e_aI 100 a10 322 s8 fun v11 =>
  e_ieq v11 1 (
    f_X9_takesSlip_42 N a0 1 (some a0) s8) (
    f_X9_takesSlip_42 N a0 0 (some a0) s8)
def f_X9_isCounting (N : Nat) (a0 : Nat) (x1 : Int) (s : sj_Mem) : Option (Int × sj_Mem) :=
  e_gR 9 0 a0 s fun r1 =>
  e_nn r1 fun a2 =>
  e_aI 100 a2 (302 + (3 * x1)) s fun v3 =>
  e_gR 9 0 a0 s fun r4 =>
  e_nn r4 fun a5 =>
  e_aI 100 a5 ((302 + (3 * x1)) + 2) s fun v6 =>
  e_ile v6 0 (
    e_z 0 s) (
    e_wid v3 fun v7 =>
    e_gI 9 13 a0 s fun v8 =>
    e_wid v8 fun v9 =>
    e_gI 9 14 a0 s fun v10 =>
    e_wid (v10 - 1) fun v11 =>
    e_cl (f_X9_isIn N v7 v9 v11 s) fun v13 s12 =>
    e_ieq v13 0 (
      e_z 0 s12) (
      e_gR 9 0 a0 s12 fun r14 =>
      e_nn r14 fun a15 =>
      e_aI 100 a15 ((302 + (3 * x1)) + 1) s12 fun v16 =>
      e_gR 9 16 a0 s12 fun r17 =>
      e_nn r17 fun a18 =>
      e_aI 100 a18 v3 s12 fun v19 =>
      e_ile v16 v19 (
        e_z 0 s12) (
        e_z 1 s12)))
def f_X9_pulls_50 (N : Nat) (k4 : Nat → Int → Int → sj_Mem → Option (Int × sj_Mem)) (a0 : Nat) (x3 : Int) (y0 : Int) (y1 : Int) (s : sj_Mem) : Option (Int × sj_Mem) :=
  e_lt (y1 + y0) fun v1 =>
  e_lt (x3 + 1) fun v2 =>
  k4 a0 v1 v2 s
def f_X9_pulls_4_b (N : Nat) (k4 : Nat → Int → Int → sj_Mem → Option (Int × sj_Mem)) (a0 : Nat) (x1 : Int) (x3 : Int) (s : sj_Mem) : Option (Int × sj_Mem) :=
  e_ile 6 x3 (
    some (x1, s)) (
    e_cv 9 a0 s (f_X9_isCounting N a0 x3 s) fun v2 s1 =>
    e_ieq v2 0 (
      f_X9_pulls_50 N k4 a0 x3 0 x1 s1) (
      e_gR 9 0 a0 s1 fun r3 =>
      e_nn r3 fun a4 =>
      e_aI 100 a4 1 s1 fun v5 =>
      e_wid v5 fun v6 =>
      e_gR 9 0 a0 s1 fun r7 =>
      e_nn r7 fun a8 =>
      e_aI 100 a8 ((302 + (3 * x3)) + 2) s1 fun v9 =>
      e_wid v9 fun v10 =>
      f_X9_pulls_50 N k4 a0 x3 ((2000 * v6) * v10) x1 s1))
def f_X9_pulls_4 (N : Nat) : Nat → Nat → Int → Int → sj_Mem → Option (Int × sj_Mem)
  | 0 => fun _ _ _ _ => none
  | n + 1 => fun a0 x1 x3 s => f_X9_pulls_4_b N (f_X9_pulls_4 N n) a0 x1 x3 s
def f_X9_pulls (N : Nat) (a0 : Nat) (s : sj_Mem) : Option (Int × sj_Mem) :=
  f_X9_pulls_4 N N a0 0 0 s
def f_X9_upwards (N : Nat) (x0 : Int) (x2 : Int) (s : sj_Mem) : Option (Int × sj_Mem) :=
  e_llt x0 0 (
    e_dJ (-x0) x2 fun v1 =>
    some (-v1, s)) (
    e_dJ ((x0 + x2) - 1) x2 fun v2 =>
    some (v2, s))
def f_X9_least (N : Nat) (x0 : Int) (x1 : Int) (s : sj_Mem) : Option (Int × sj_Mem) :=
  e_ile x1 x0 (
    some (x1, s)) (
    some (x0, s))
def f_X9_water (N : Nat) (a0 : Nat) (x1 : Int) (s : sj_Mem) : Option (Int × sj_Mem) :=
  e_gR 9 0 a0 s fun r1 =>
  e_nn r1 fun a2 =>
  e_aI 100 a2 (85 + x1) s fun v3 =>
  e_gR 9 0 a0 s fun r4 =>
  e_nn r4 fun a5 =>
  e_aI 100 a5 (3 + x1) s fun v6 =>
  e_cl (f_X9_least N v3 v6 s) fun v8 s7 =>
  some (v8, s7)
def f_X9_top_12_b (N : Nat) (k12 : Nat → Int → Int → Int → Int → sj_Mem → Option (Int × sj_Mem)) (a0 : Nat) (x1 : Int) (x2 : Int) (x3 : Int) (x4 : Int) (s : sj_Mem) : Option (Int × sj_Mem) :=
  e_ilt x1 x4 (
    some (x3, s)) (
    e_gR 9 0 a0 s fun r1 =>
    e_nn r1 fun a2 =>
    e_aI 100 a2 ((167 + (41 * (x4 - 1))) + x2) s fun v3 =>
    e_cl (f_X9_least N x3 v3 s) fun v5 s4 =>
    e_lt (x4 + 1) fun v6 =>
    k12 a0 x1 x2 v5 v6 s4)
def f_X9_top_12 (N : Nat) : Nat → Nat → Int → Int → Int → Int → sj_Mem → Option (Int × sj_Mem)
  | 0 => fun _ _ _ _ _ _ => none
  | n + 1 => fun a0 x1 x2 x3 x4 s => f_X9_top_12_b N (f_X9_top_12 N n) a0 x1 x2 x3 x4 s
def f_X9_top (N : Nat) (a0 : Nat) (x1 : Int) (x2 : Int) (s : sj_Mem) : Option (Int × sj_Mem) :=
  e_gR 9 0 a0 s fun r1 =>
  e_nn r1 fun a2 =>
  e_aI 100 a2 (3 + x2) s fun v3 =>
  f_X9_top_12 N N a0 x1 x2 v3 1 s
def f_X9_thick_21 (N : Nat) (a0 : Nat) (x1 : Int) (x2 : Int) (y0 : Int) (s : sj_Mem) : Option (Int × sj_Mem) :=
  e_cv 9 a0 s (f_X9_top N a0 x1 x2 s) fun v2 s1 =>
  e_lt (v2 - y0) fun v3 =>
  e_ile v3 0 (
    some (0, s1)) (
    some (v3, s1))
def f_X9_thick (N : Nat) (a0 : Nat) (x1 : Int) (x2 : Int) (x3 : Int) (s : sj_Mem) : Option (Int × sj_Mem) :=
  e_ieq x1 3 (
    f_X9_thick_21 N a0 x1 x2 x3 s) (
    e_cv 9 a0 s (f_X9_top N a0 (x1 + 1) x2 s) fun v2 s1 =>
    e_cl (f_X9_most N x3 v2 s1) fun v4 s3 =>
    f_X9_thick_21 N a0 x1 x2 v4 s3)
def f_X9_laysSlice_104 (N : Nat) (k29 : Nat → Int → Int → Int → Int → Int → sj_Mem → Option (Unit × sj_Mem)) (a0 : Nat) (x1 : Int) (x2 : Int) (x3 : Int) (x5 : Int) (x7 : Int) (s : sj_Mem) : Option (Unit × sj_Mem) :=
  e_lt (x7 + 1) fun v1 =>
  k29 a0 x1 x2 x3 x5 v1 s
def f_X9_laysSlice_216 (N : Nat) (a0 : Nat) (y0 : Int) (y1 : Option Nat) (s : sj_Mem) : Option (Unit × sj_Mem) :=
  e_nn y1 fun a1 =>
  e_pI 9 10 a1 y0 s fun s2 =>
  e_gR 9 0 a0 s2 fun r3 =>
  e_gI 9 7 a0 s2 fun v4 =>
  e_nn r3 fun a5 =>
  e_aI 100 a5 ((290 + (3 * v4)) + 1) s2 fun v6 =>
  e_wid v6 fun v7 =>
  e_gR 9 0 a0 s2 fun r8 =>
  e_nn r8 fun a9 =>
  e_aI 100 a9 1 s2 fun v10 =>
  e_wid v10 fun v11 =>
  e_gI 9 10 a0 s2 fun v12 =>
  e_gR 9 0 a0 s2 fun r13 =>
  e_gI 9 7 a0 s2 fun v14 =>
  e_nn r13 fun a15 =>
  e_aI 100 a15 ((290 + (3 * v14)) + 2) s2 fun v16 =>
  e_wid v16 fun v17 =>
  e_pI 9 11 a0 (((2000 * v7) * v11) + (v12 * v17)) s2 fun s18 =>
  e_gI 9 8 a0 s18 fun v19 =>
  e_gI 9 6 a0 s18 fun v20 =>
  e_wid v20 fun v21 =>
  e_gR 9 0 a0 s18 fun r22 =>
  e_nn r22 fun a23 =>
  e_aI 100 a23 2 s18 fun v24 =>
  e_wid v24 fun v25 =>
  e_gR 9 0 a0 s18 fun r26 =>
  e_nn r26 fun a27 =>
  e_aI 100 a27 1 s18 fun v28 =>
  e_wid v28 fun v29 =>
  e_pI 9 12 a0 (v19 * ((1000 * v21) + (v25 * v29))) s18 fun s30 =>
  some ((), s30)
def f_X9_laysSlice_29_b (N : Nat) (k29 : Nat → Int → Int → Int → Int → Int → sj_Mem → Option (Unit × sj_Mem)) (a0 : Nat) (x1 : Int) (x2 : Int) (x3 : Int) (x5 : Int) (x7 : Int) (s : sj_Mem) : Option (Unit × sj_Mem) :=
  e_ile 4 x7 (
    e_gR 9 0 a0 s fun r1 =>
    e_nn r1 fun a2 =>
    e_aI 100 a2 1 s fun v3 =>
    e_wid v3 fun v4 =>
    e_gR 9 0 a0 s fun r5 =>
    e_nn r5 fun a6 =>
    e_aI 100 a6 (126 + x1) s fun v7 =>
    e_wid v7 fun v8 =>
    e_gR 9 0 a0 s fun r9 =>
    e_nn r9 fun a10 =>
    e_aI 100 a10 ((126 + x1) + 1) s fun v11 =>
    e_wid v11 fun v12 =>
    e_pI 9 8 a0 (v4 * ((x5 + v8) + v12)) s fun s13 =>
    e_gR 9 0 a0 s13 fun r14 =>
    e_nn r14 fun a15 =>
    e_aI 100 a15 1 s13 fun v16 =>
    e_wid v16 fun v17 =>
    e_cv 9 a0 s13 (f_X9_water N a0 x1 s13) fun v19 s18 =>
    e_cl (f_X9_most N 0 (v19 - x2) s18) fun v21 s20 =>
    e_cv 9 a0 s20 (f_X9_water N a0 (x1 + 1) s20) fun v23 s22 =>
    e_cl (f_X9_most N 0 (v23 - x3) s22) fun v25 s24 =>
    e_wid (v21 + v25) fun v26 =>
    e_pI 9 9 a0 ((10 * v17) * v26) s24 fun s27 =>
    e_gI 9 8 a0 s27 fun v28 =>
    e_gI 9 9 a0 s27 fun v29 =>
    e_lle v28 v29 (
      f_X9_laysSlice_216 N a0 0 (some a0) s27) (
      e_gI 9 8 a0 s27 fun v30 =>
      e_gI 9 9 a0 s27 fun v31 =>
      f_X9_laysSlice_216 N a0 (v30 - v31) (some a0) s27)) (
    e_gR 9 0 a0 s fun r32 =>
    e_nn r32 fun a33 =>
    e_aI 100 a33 (290 + (3 * x7)) s fun v34 =>
    e_wid v34 fun v35 =>
    e_cv 9 a0 s (f_X9_thick N a0 x7 x1 x2 s) fun v37 s36 =>
    e_cv 9 a0 s36 (f_X9_thick N a0 x7 (x1 + 1) x3 s36) fun v39 s38 =>
    e_wid (v37 + v39) fun v40 =>
    e_lt (x5 + (v35 * v40)) fun v41 =>
    e_cv 9 a0 s38 (f_X9_top N a0 x7 x1 s38) fun v43 s42 =>
    e_cv 9 a0 s42 (f_X9_top N a0 x7 (x1 + 1) s42) fun v45 s44 =>
    e_ile (v43 + v45) (x2 + x3) (
      f_X9_laysSlice_104 N k29 a0 x1 x2 x3 v41 x7 s44) (
      e_pI 9 7 a0 x7 s44 fun s46 =>
      f_X9_laysSlice_104 N k29 a0 x1 x2 x3 v41 x7 s46))
def f_X9_laysSlice_29 (N : Nat) : Nat → Nat → Int → Int → Int → Int → Int → sj_Mem → Option (Unit × sj_Mem)
  | 0 => fun _ _ _ _ _ _ _ => none
  | n + 1 => fun a0 x1 x2 x3 x5 x7 s => f_X9_laysSlice_29_b N (f_X9_laysSlice_29 N n) a0 x1 x2 x3 x5 x7 s
def f_X9_laysSlice_15 (N : Nat) (a0 : Nat) (x1 : Int) (x2 : Int) (x3 : Int) (y0 : Int) (y1 : Option Nat) (s : sj_Mem) : Option (Unit × sj_Mem) :=
  e_nn y1 fun a1 =>
  e_pI 9 6 a1 y0 s fun s2 =>
  e_pI 9 7 a0 0 s2 fun s3 =>
  f_X9_laysSlice_29 N N a0 x1 x2 x3 0 0 s3
def f_X9_laysSlice (N : Nat) (a0 : Nat) (x1 : Int) (x2 : Int) (x3 : Int) (x4 : Int) (s : sj_Mem) : Option (Unit × sj_Mem) :=
  e_ieq x4 0 (
    f_X9_laysSlice_15 N a0 x1 x2 x3 (x2 - x3) (some a0) s) (
    f_X9_laysSlice_15 N a0 x1 x2 x3 (x3 - x2) (some a0) s)
def f_X9_laysAt (N : Nat) (a0 : Nat) (x1 : Int) (s : sj_Mem) : Option (Unit × sj_Mem) :=
  e_gR 9 16 a0 s fun r1 =>
  e_nn r1 fun a2 =>
  e_aI 100 a2 x1 s fun v3 =>
  e_gR 9 16 a0 s fun r4 =>
  e_nn r4 fun a5 =>
  e_aI 100 a5 (x1 + 1) s fun v6 =>
  e_gI 9 15 a0 s fun v7 =>
  e_cv 9 a0 s (f_X9_laysSlice N a0 x1 v3 v6 v7 s) fun _u s8 =>
  some ((), s8)
def f_X9_rubsOf (N : Nat) (a0 : Nat) (x1 : Int) (s : sj_Mem) : Option (Int × sj_Mem) :=
  e_gR 9 0 a0 s fun r1 =>
  e_nn r1 fun a2 =>
  e_aI 100 a2 1 s fun v3 =>
  e_wid v3 fun v4 =>
  e_wid x1 fun v5 =>
  e_gI 9 6 a0 s fun v6 =>
  e_wid v6 fun v7 =>
  e_gR 9 0 a0 s fun r8 =>
  e_gI 9 7 a0 s fun v9 =>
  e_nn r8 fun a10 =>
  e_aI 100 a10 ((290 + (3 * v9)) + 2) s fun v11 =>
  e_wid v11 fun v12 =>
  e_lt ((v4 * v5) + (v7 * v12)) fun v13 =>
  e_llt 0 v13 (
    e_gI 9 11 a0 s fun v14 =>
    e_gR 9 0 a0 s fun r15 =>
    e_nn r15 fun a16 =>
    e_aI 100 a16 1 s fun v17 =>
    e_wid v17 fun v18 =>
    e_gR 9 0 a0 s fun r19 =>
    e_nn r19 fun a20 =>
    e_aI 100 a20 1 s fun v21 =>
    e_wid v21 fun v22 =>
    e_gI 9 6 a0 s fun v23 =>
    e_wid v23 fun v24 =>
    e_gI 9 6 a0 s fun v25 =>
    e_wid v25 fun v26 =>
    e_wid x1 fun v27 =>
    e_dJ ((v14 * ((v18 * v22) + (v24 * v26))) * v27) v13 fun v28 =>
    some (v28, s)) (
    some ((-1), s))
def f_X9_standsWith_18_b (N : Nat) (k18 : Nat → Int → Int → Int → Int → sj_Mem → Option (Int × sj_Mem)) (a0 : Nat) (x1 : Int) (x4 : Int) (x6 : Int) (x8 : Int) (s : sj_Mem) : Option (Int × sj_Mem) :=
  e_gI 9 14 a0 s fun v1 =>
  e_ile v1 x8 (
    e_wid x1 fun v2 =>
    e_cl (f_X9_upwards N (v2 * x6) 1000 s) fun v4 s3 =>
    e_llt x4 v4 (
      e_z 0 s3) (
      e_z 1 s3)) (
    e_cv 9 a0 s (f_X9_laysAt N a0 x8 s) fun _u s5 =>
    e_cv 9 a0 s5 (f_X9_rubsOf N a0 x1 s5) fun v7 s6 =>
    e_leq v7 ((-1)) (
      e_z 1 s6) (
      e_lt (x4 + v7) fun v8 =>
      e_gI 9 12 a0 s6 fun v9 =>
      e_lt (x6 + v9) fun v10 =>
      e_lt (x8 + 1) fun v11 =>
      k18 a0 x1 v8 v10 v11 s6))
def f_X9_standsWith_18 (N : Nat) : Nat → Nat → Int → Int → Int → Int → sj_Mem → Option (Int × sj_Mem)
  | 0 => fun _ _ _ _ _ _ => none
  | n + 1 => fun a0 x1 x4 x6 x8 s => f_X9_standsWith_18_b N (f_X9_standsWith_18 N n) a0 x1 x4 x6 x8 s
def f_X9_standsWith (N : Nat) (a0 : Nat) (x1 : Int) (x2 : Int) (s : sj_Mem) : Option (Int × sj_Mem) :=
  e_cv 9 a0 s (f_X9_pulls N a0 s) fun v2 s1 =>
  e_lt ((-v2) - x2) fun v3 =>
  e_gI 9 13 a0 s1 fun v4 =>
  f_X9_standsWith_18 N N a0 x1 0 v3 v4 s1
def f_X9_isStanding (N : Nat) (a0 : Nat) (x1 : Int) (s : sj_Mem) : Option (Int × sj_Mem) :=
  e_cv 9 a0 s (f_X9_standsWith N a0 x1 0 s) fun v2 s1 =>
  e_z v2 s1
def f_X9_factorOf_34 (N : Nat) (k6 : Nat → Int → Int → sj_Mem → Option (Int × sj_Mem)) (a0 : Nat) (x1 : Int) (x2 : Int) (s : sj_Mem) : Option (Int × sj_Mem) :=
  k6 a0 x1 x2 s
def f_X9_factorOf_6_b (N : Nat) (k6 : Nat → Int → Int → sj_Mem → Option (Int × sj_Mem)) (a0 : Nat) (x1 : Int) (x2 : Int) (s : sj_Mem) : Option (Int × sj_Mem) :=
  e_ile (x2 - x1) 1 (
    some (x1, s)) (
    e_dI (x1 + x2) 2 fun v1 =>
    e_cv 9 a0 s (f_X9_isStanding N a0 v1 s) fun v3 s2 =>
    e_ieq v3 0 (
      f_X9_factorOf_34 N k6 a0 x1 v1 s2) (
      f_X9_factorOf_34 N k6 a0 v1 x2 s2))
def f_X9_factorOf_6 (N : Nat) : Nat → Nat → Int → Int → sj_Mem → Option (Int × sj_Mem)
  | 0 => fun _ _ _ _ => none
  | n + 1 => fun a0 x1 x2 s => f_X9_factorOf_6_b N (f_X9_factorOf_6 N n) a0 x1 x2 s
def f_X9_factorOf (N : Nat) (a0 : Nat) (s : sj_Mem) : Option (Int × sj_Mem) :=
  f_X9_factorOf_6 N N a0 0 20001 s
def f_X9_factor (N : Nat) (a0 : Nat) (s : sj_Mem) : Option (Int × sj_Mem) :=
  e_cv 9 a0 s (f_X9_takesSlip N a0 s) fun v2 s1 =>
  e_ieq v2 0 (
    some ((-1), s1)) (
    e_cv 9 a0 s1 (f_X9_factorOf N a0 s1) fun v4 s3 =>
    some (v4, s3))
def f_X9_says (N : Nat) (a0 : Nat) (x1 : Int) (s : sj_Mem) : Option (Unit × sj_Mem) :=
  e_gR 9 25 a0 s fun r1 =>
  e_gI 9 26 a0 s fun v2 =>
  e_nn r1 fun a3 =>
  e_uI 100 a3 v2 x1 s fun s4 =>
  e_gI 9 26 a0 s4 fun v5 =>
  e_pI 9 26 a0 (v5 + 1) s4 fun s6 =>
  some ((), s6)
def f_X9_saysNumber_14 (N : Nat) (rc : Nat → Int → sj_Mem → Option (Unit × sj_Mem)) (a0 : Nat) (x1 : Int) (s : sj_Mem) : Option (Unit × sj_Mem) :=
  e_rI x1 10 fun v1 =>
  e_cv 9 a0 s (f_X9_says N a0 (48 + v1) s) fun _u s2 =>
  some ((), s2)
def f_X9_saysNumber_r (N : Nat) (rc : Nat → Int → sj_Mem → Option (Unit × sj_Mem)) (a0 : Nat) (x1 : Int) (s : sj_Mem) : Option (Unit × sj_Mem) :=
  e_ile x1 9 (
    f_X9_saysNumber_14 N rc a0 x1 s) (
    e_dI x1 10 fun v1 =>
    e_cv 9 a0 s (rc a0 v1 s) fun _u s2 =>
    f_X9_saysNumber_14 N rc a0 x1 s2)
def f_X9_saysNumber (N : Nat) : Nat → Nat → Int → sj_Mem → Option (Unit × sj_Mem)
  | 0 => fun _ _ _ => none
  | d + 1 => f_X9_saysNumber_r N (f_X9_saysNumber N d)
def f_X9_report_120 (N : Nat) (a0 : Nat) (y0 : Int) (y1 : Option Nat) (s : sj_Mem) : Option (Int × sj_Mem) :=
  e_nn y1 fun a1 =>
  e_cv 9 a1 s (f_X9_says N a1 y0 s) fun _u s2 =>
  e_gI 9 26 a0 s2 fun v3 =>
  some (v3, s2)
def f_X9_report (N : Nat) (a0 : Nat) (s : sj_Mem) : Option (Int × sj_Mem) :=
  e_pI 9 26 a0 0 s fun s1 =>
  e_cv 9 a0 s1 (f_X9_factor N a0 s1) fun v3 s2 =>
  e_ieq v3 ((-1)) (
    some ((-1), s2)) (
    e_dI v3 1000 fun v4 =>
    e_cv 9 a0 s2 (f_X9_saysNumber N 12 a0 v4 s2) fun _u s5 =>
    e_cv 9 a0 s5 (f_X9_says N a0 46 s5) fun _u s6 =>
    e_dI v3 100 fun v7 =>
    e_rI v7 10 fun v8 =>
    e_cv 9 a0 s6 (f_X9_says N a0 (48 + v8) s6) fun _u s9 =>
    e_dI v3 10 fun v10 =>
    e_rI v10 10 fun v11 =>
    e_cv 9 a0 s9 (f_X9_says N a0 (48 + v11) s9) fun _u s12 =>
    e_rI v3 10 fun v13 =>
    e_cv 9 a0 s12 (f_X9_says N a0 (48 + v13) s12) fun _u s14 =>
    e_cv 9 a0 s14 (f_X9_says N a0 32 s14) fun _u s15 =>
    e_gI 9 13 a0 s15 fun v16 =>
    e_cv 9 a0 s15 (f_X9_saysNumber N 12 a0 v16 s15) fun _u s17 =>
    e_cv 9 a0 s17 (f_X9_says N a0 45 s17) fun _u s18 =>
    e_gI 9 14 a0 s18 fun v19 =>
    e_cv 9 a0 s18 (f_X9_saysNumber N 12 a0 v19 s18) fun _u s20 =>
    e_cv 9 a0 s20 (f_X9_says N a0 32 s20) fun _u s21 =>
    e_gI 9 15 a0 s21 fun v22 =>
    e_ieq v22 0 (
      f_X9_report_120 N a0 82 (some a0) s21) (
      f_X9_report_120 N a0 76 (some a0) s21))
def f_X9_isK (N : Nat) (x0 : Int) (s : sj_Mem) : Option (Int × sj_Mem) :=
  e_wid x0 fun v1 =>
  e_cl (f_X9_isIn N v1 1 20000 s) fun v3 s2 =>
  e_z v3 s2
def f_X9_laysAside_2_b (N : Nat) (k2 : Nat → Int → sj_Mem → Option (Unit × sj_Mem)) (a0 : Nat) (x1 : Int) (s : sj_Mem) : Option (Unit × sj_Mem) :=
  e_ile 390 x1 (
    some ((), s)) (
    e_gR 9 1 a0 s fun r1 =>
    e_gR 9 0 a0 s fun r2 =>
    e_nn r2 fun a3 =>
    e_aI 100 a3 x1 s fun v4 =>
    e_nn r1 fun a5 =>
    e_uI 100 a5 x1 v4 s fun s6 =>
    e_lt (x1 + 1) fun v7 =>
    k2 a0 v7 s6)
def f_X9_laysAside_2 (N : Nat) : Nat → Nat → Int → sj_Mem → Option (Unit × sj_Mem)
  | 0 => fun _ _ _ => none
  | n + 1 => fun a0 x1 s => f_X9_laysAside_2_b N (f_X9_laysAside_2 N n) a0 x1 s
def f_X9_laysAside (N : Nat) (a0 : Nat) (s : sj_Mem) : Option (Unit × sj_Mem) :=
  f_X9_laysAside_2 N N a0 0 s
def f_X9_comesBack_2_b (N : Nat) (k2 : Nat → Int → sj_Mem → Option (Unit × sj_Mem)) (a0 : Nat) (x1 : Int) (s : sj_Mem) : Option (Unit × sj_Mem) :=
  e_ile 390 x1 (
    some ((), s)) (
    e_gR 9 0 a0 s fun r1 =>
    e_gR 9 1 a0 s fun r2 =>
    e_nn r2 fun a3 =>
    e_aI 100 a3 x1 s fun v4 =>
    e_nn r1 fun a5 =>
    e_uI 100 a5 x1 v4 s fun s6 =>
    e_lt (x1 + 1) fun v7 =>
    k2 a0 v7 s6)
def f_X9_comesBack_2 (N : Nat) : Nat → Nat → Int → sj_Mem → Option (Unit × sj_Mem)
  | 0 => fun _ _ _ => none
  | n + 1 => fun a0 x1 s => f_X9_comesBack_2_b N (f_X9_comesBack_2 N n) a0 x1 s
def f_X9_comesBack (N : Nat) (a0 : Nat) (s : sj_Mem) : Option (Unit × sj_Mem) :=
  f_X9_comesBack_2 N N a0 0 s
def f_X9_draw (N : Nat) (a0 : Nat) (x1 : Int) (s : sj_Mem) : Option (Int × sj_Mem) :=
  e_gR 9 0 a0 s fun r1 =>
  e_gR 9 0 a0 s fun r2 =>
  e_nn r2 fun a3 =>
  e_aI 100 a3 389 s fun v4 =>
  e_nn r1 fun a5 =>
  e_uI 100 a5 389 ((1664525 * v4) + 1013904223) s fun s6 =>
  e_gR 9 0 a0 s6 fun r7 =>
  e_nn r7 fun a8 =>
  e_aI 100 a8 389 s6 fun v9 =>
  e_ush v9 8 fun v10 =>
  e_rI v10 x1 fun v11 =>
  some (v11, s6)
def f_X9_chance_68_b (N : Nat) (k50 : Nat → Int → Int → Int → Int → Int → sj_Mem → Option (Int × sj_Mem)) (k59 : Nat → Int → Int → Int → Int → Int → Int → sj_Mem → Option (Int × sj_Mem)) (k68 : Nat → Int → Int → Int → Int → Int → Int → Int → sj_Mem → Option (Int × sj_Mem)) (a0 : Nat) (x1 : Int) (x2 : Int) (x3 : Int) (x4 : Int) (x5 : Int) (x6 : Int) (x7 : Int) (s : sj_Mem) : Option (Int × sj_Mem) :=
  e_ile 3 x7 (
    e_lt (x6 + 1) fun v1 =>
    k59 a0 x1 x2 x3 x4 x5 v1 s) (
    e_gR 9 0 a0 s fun r2 =>
    e_gR 9 1 a0 s fun r3 =>
    e_nn r3 fun a4 =>
    e_aI 100 a4 ((290 + (3 * x6)) + x7) s fun v5 =>
    e_cv 9 a0 s (f_X9_draw N a0 ((2 * x2) + 1) s) fun v7 s6 =>
    e_dI (v5 * ((100 - x2) + v7)) 100 fun v8 =>
    e_nn r2 fun a9 =>
    e_uI 100 a9 ((290 + (3 * x6)) + x7) v8 s6 fun s10 =>
    e_lt (x7 + 1) fun v11 =>
    k68 a0 x1 x2 x3 x4 x5 x6 v11 s10)
def f_X9_chance_68 (N : Nat) (k50 : Nat → Int → Int → Int → Int → Int → sj_Mem → Option (Int × sj_Mem)) (k59 : Nat → Int → Int → Int → Int → Int → Int → sj_Mem → Option (Int × sj_Mem)) : Nat → Nat → Int → Int → Int → Int → Int → Int → Int → sj_Mem → Option (Int × sj_Mem)
  | 0 => fun _ _ _ _ _ _ _ _ _ => none
  | n + 1 => fun a0 x1 x2 x3 x4 x5 x6 x7 s => f_X9_chance_68_b N k50 k59 (f_X9_chance_68 N k50 k59 n) a0 x1 x2 x3 x4 x5 x6 x7 s
def f_X9_chance_151 (N : Nat) (k50 : Nat → Int → Int → Int → Int → Int → sj_Mem → Option (Int × sj_Mem)) (a0 : Nat) (x1 : Int) (x2 : Int) (x3 : Int) (x5 : Int) (y0 : Int) (y1 : Int) (s : sj_Mem) : Option (Int × sj_Mem) :=
  e_lt (y1 + y0) fun v1 =>
  e_lt (x5 + 1) fun v2 =>
  k50 a0 x1 x2 x3 v1 v2 s
def f_X9_chance_59_b (N : Nat) (k50 : Nat → Int → Int → Int → Int → Int → sj_Mem → Option (Int × sj_Mem)) (k59 : Nat → Int → Int → Int → Int → Int → Int → sj_Mem → Option (Int × sj_Mem)) (a0 : Nat) (x1 : Int) (x2 : Int) (x3 : Int) (x4 : Int) (x5 : Int) (x6 : Int) (s : sj_Mem) : Option (Int × sj_Mem) :=
  e_ile 4 x6 (
    e_cv 9 a0 s (f_X9_isStanding N a0 x3 s) fun v2 s1 =>
    e_ieq v2 0 (
      f_X9_chance_151 N k50 a0 x1 x2 x3 x5 1 x4 s1) (
      f_X9_chance_151 N k50 a0 x1 x2 x3 x5 0 x4 s1)) (
    f_X9_chance_68 N k50 k59 N a0 x1 x2 x3 x4 x5 x6 1 s)
def f_X9_chance_59 (N : Nat) (k50 : Nat → Int → Int → Int → Int → Int → sj_Mem → Option (Int × sj_Mem)) : Nat → Nat → Int → Int → Int → Int → Int → Int → sj_Mem → Option (Int × sj_Mem)
  | 0 => fun _ _ _ _ _ _ _ _ => none
  | n + 1 => fun a0 x1 x2 x3 x4 x5 x6 s => f_X9_chance_59_b N k50 (f_X9_chance_59 N k50 n) a0 x1 x2 x3 x4 x5 x6 s
def f_X9_chance_50_b (N : Nat) (k50 : Nat → Int → Int → Int → Int → Int → sj_Mem → Option (Int × sj_Mem)) (a0 : Nat) (x1 : Int) (x2 : Int) (x3 : Int) (x4 : Int) (x5 : Int) (s : sj_Mem) : Option (Int × sj_Mem) :=
  e_ile x1 x5 (
    e_gR 9 0 a0 s fun r1 =>
    e_nn r1 fun a2 =>
    e_aI 100 a2 389 s fun v3 =>
    e_cv 9 a0 s (f_X9_comesBack N a0 s) fun _u s4 =>
    e_gR 9 0 a0 s4 fun r5 =>
    e_nn r5 fun a6 =>
    e_uI 100 a6 389 v3 s4 fun s7 =>
    some (x4, s7)) (
    f_X9_chance_59 N k50 N a0 x1 x2 x3 x4 x5 0 s)
def f_X9_chance_50 (N : Nat) : Nat → Nat → Int → Int → Int → Int → Int → sj_Mem → Option (Int × sj_Mem)
  | 0 => fun _ _ _ _ _ _ _ => none
  | n + 1 => fun a0 x1 x2 x3 x4 x5 s => f_X9_chance_50_b N (f_X9_chance_50 N n) a0 x1 x2 x3 x4 x5 s
def f_X9_chance (N : Nat) (a0 : Nat) (x1 : Int) (x2 : Int) (x3 : Int) (s : sj_Mem) : Option (Int × sj_Mem) :=
  e_wid x1 fun v1 =>
  e_cl (f_X9_isIn N v1 1 40 s) fun v3 s2 =>
  e_ieq v3 0 (
    some ((-1), s2)) (
    e_wid x2 fun v4 =>
    e_cl (f_X9_isIn N v4 0 50 s2) fun v6 s5 =>
    e_ieq v6 0 (
      some ((-1), s5)) (
      e_cl (f_X9_isK N x3 s5) fun v8 s7 =>
      e_ieq v8 0 (
        some ((-1), s7)) (
        e_cv 9 a0 s7 (f_X9_takesSlip N a0 s7) fun v10 s9 =>
        e_ieq v10 0 (
          some ((-1), s9)) (
          e_cv 9 a0 s9 (f_X9_laysAside N a0 s9) fun _u s11 =>
          f_X9_chance_50 N N a0 x1 x2 x3 0 0 s11))))
def f_X9_state (N : Nat) (a0 : Nat) (x1 : Int) (s : sj_Mem) : Option (Int × sj_Mem) :=
  e_gR 9 0 a0 s fun r1 =>
  e_nn r1 fun a2 =>
  e_aI 100 a2 389 s fun v3 =>
  e_gR 9 0 a0 s fun r4 =>
  e_nn r4 fun a5 =>
  e_uI 100 a5 389 x1 s fun s6 =>
  some (v3, s6)
def f_X9_isCircle (N : Nat) (x0 : Int) (x1 : Int) (x2 : Int) (s : sj_Mem) : Option (Int × sj_Mem) :=
  e_wid x0 fun v1 =>
  e_cl (f_X9_isIn N v1 ((-50)) 450 s) fun v3 s2 =>
  e_ieq v3 0 (
    e_z 0 s2) (
    e_wid x1 fun v4 =>
    e_cl (f_X9_isIn N v4 ((-50)) 450 s2) fun v6 s5 =>
    e_ieq v6 0 (
      e_z 0 s5) (
      e_wid x2 fun v7 =>
      e_cl (f_X9_isIn N v7 1 500 s5) fun v9 s8 =>
      e_ieq v9 0 (
        e_z 0 s8) (
        e_z 1 s8)))
def f_X9_root_2_b (N : Nat) (k2 : Int → Int → sj_Mem → Option (Int × sj_Mem)) (x0 : Int) (x1 : Int) (s : sj_Mem) : Option (Int × sj_Mem) :=
  e_ilt x0 ((x1 + 1) * (x1 + 1)) (
    some (x1, s)) (
    e_lt (x1 + 1) fun v1 =>
    k2 x0 v1 s)
def f_X9_root_2 (N : Nat) : Nat → Int → Int → sj_Mem → Option (Int × sj_Mem)
  | 0 => fun _ _ _ => none
  | n + 1 => fun x0 x1 s => f_X9_root_2_b N (f_X9_root_2 N n) x0 x1 s
def f_X9_root (N : Nat) (x0 : Int) (s : sj_Mem) : Option (Int × sj_Mem) :=
  f_X9_root_2 N N x0 0 s
def f_X9_isBelow (N : Nat) (a0 : Nat) (x1 : Int) (x2 : Int) (x3 : Int) (x4 : Int) (s : sj_Mem) : Option (Int × sj_Mem) :=
  e_gR 9 0 a0 s fun r1 =>
  e_nn r1 fun a2 =>
  e_aI 100 a2 1 s fun v3 =>
  e_lt ((v3 * x1) - x2) fun v4 =>
  e_lt ((x4 * x4) - (v4 * v4)) fun v5 =>
  e_ile 0 v5 (
    e_gR 9 16 a0 s fun r6 =>
    e_cl (f_X9_root N v5 s) fun v8 s7 =>
    e_gR 9 0 a0 s7 fun r9 =>
    e_nn r9 fun a10 =>
    e_aI 100 a10 (44 + x1) s7 fun v11 =>
    e_cl (f_X9_most N (x3 - v8) v11 s7) fun v13 s12 =>
    e_nn r6 fun a14 =>
    e_uI 100 a14 x1 v13 s12 fun s15 =>
    e_gR 9 16 a0 s15 fun r16 =>
    e_nn r16 fun a17 =>
    e_aI 100 a17 x1 s15 fun v18 =>
    e_gR 9 0 a0 s15 fun r19 =>
    e_nn r19 fun a20 =>
    e_aI 100 a20 (3 + x1) s15 fun v21 =>
    e_ile v21 v18 (
      e_z 0 s15) (
      e_z 1 s15)) (
    e_z 0 s)
def f_X9_cuts_83 (N : Nat) (a0 : Nat) (x4 : Int) (x5 : Int) (x6 : Int) (s : sj_Mem) : Option (Int × sj_Mem) :=
  e_gR 9 0 a0 s fun r1 =>
  e_nn r1 fun a2 =>
  e_aI 100 a2 0 s fun v3 =>
  e_ile x6 v3 (
    e_pI 9 13 a0 (x5 - 1) s fun s4 =>
    e_pI 9 14 a0 x6 s4 fun s5 =>
    e_pZ 9 15 a0 x4 s5 fun s6 =>
    e_gR 9 16 a0 s6 fun r7 =>
    e_gI 9 13 a0 s6 fun v8 =>
    e_gR 9 0 a0 s6 fun r9 =>
    e_gI 9 13 a0 s6 fun v10 =>
    e_nn r9 fun a11 =>
    e_aI 100 a11 (3 + v10) s6 fun v12 =>
    e_nn r7 fun a13 =>
    e_uI 100 a13 v8 v12 s6 fun s14 =>
    e_gR 9 16 a0 s14 fun r15 =>
    e_gI 9 14 a0 s14 fun v16 =>
    e_gR 9 0 a0 s14 fun r17 =>
    e_gI 9 14 a0 s14 fun v18 =>
    e_nn r17 fun a19 =>
    e_aI 100 a19 (3 + v18) s14 fun v20 =>
    e_nn r15 fun a21 =>
    e_uI 100 a21 v16 v20 s14 fun s22 =>
    e_z 1 s22) (
    e_z 0 s)
def f_X9_cuts_54_b (N : Nat) (k54 : Nat → Int → Int → Int → Int → Int → Int → sj_Mem → Option (Int × sj_Mem)) (a0 : Nat) (x1 : Int) (x2 : Int) (x3 : Int) (x4 : Int) (x5 : Int) (x6 : Int) (s : sj_Mem) : Option (Int × sj_Mem) :=
  e_gR 9 0 a0 s fun r1 =>
  e_nn r1 fun a2 =>
  e_aI 100 a2 0 s fun v3 =>
  e_ilt v3 x6 (
    f_X9_cuts_83 N a0 x4 x5 x6 s) (
    e_cv 9 a0 s (f_X9_isBelow N a0 x6 x1 x2 x3 s) fun v5 s4 =>
    e_ieq v5 0 (
      f_X9_cuts_83 N a0 x4 x5 x6 s4) (
      e_lt (x6 + 1) fun v6 =>
      k54 a0 x1 x2 x3 x4 x5 v6 s4))
def f_X9_cuts_54 (N : Nat) : Nat → Nat → Int → Int → Int → Int → Int → Int → sj_Mem → Option (Int × sj_Mem)
  | 0 => fun _ _ _ _ _ _ _ _ => none
  | n + 1 => fun a0 x1 x2 x3 x4 x5 x6 s => f_X9_cuts_54_b N (f_X9_cuts_54 N n) a0 x1 x2 x3 x4 x5 x6 s
def f_X9_cuts_32 (N : Nat) (a0 : Nat) (x1 : Int) (x2 : Int) (x3 : Int) (x4 : Int) (x5 : Int) (s : sj_Mem) : Option (Int × sj_Mem) :=
  e_ieq x5 0 (
    e_z 0 s) (
    e_gR 9 0 a0 s fun r1 =>
    e_nn r1 fun a2 =>
    e_aI 100 a2 0 s fun v3 =>
    e_ile x5 v3 (
      f_X9_cuts_54 N N a0 x1 x2 x3 x4 x5 x5 s) (
      e_z 0 s))
def f_X9_cuts_3_b (N : Nat) (k3 : Nat → Int → Int → Int → Int → Int → sj_Mem → Option (Int × sj_Mem)) (a0 : Nat) (x1 : Int) (x2 : Int) (x3 : Int) (x4 : Int) (x5 : Int) (s : sj_Mem) : Option (Int × sj_Mem) :=
  e_gR 9 0 a0 s fun r1 =>
  e_nn r1 fun a2 =>
  e_aI 100 a2 0 s fun v3 =>
  e_ilt v3 x5 (
    f_X9_cuts_32 N a0 x1 x2 x3 x4 x5 s) (
    e_cv 9 a0 s (f_X9_isBelow N a0 x5 x1 x2 x3 s) fun v5 s4 =>
    e_ieq v5 0 (
      e_lt (x5 + 1) fun v6 =>
      k3 a0 x1 x2 x3 x4 v6 s4) (
      f_X9_cuts_32 N a0 x1 x2 x3 x4 x5 s4))
def f_X9_cuts_3 (N : Nat) : Nat → Nat → Int → Int → Int → Int → Int → sj_Mem → Option (Int × sj_Mem)
  | 0 => fun _ _ _ _ _ _ _ => none
  | n + 1 => fun a0 x1 x2 x3 x4 x5 s => f_X9_cuts_3_b N (f_X9_cuts_3 N n) a0 x1 x2 x3 x4 x5 s
def f_X9_cuts (N : Nat) (a0 : Nat) (x1 : Int) (x2 : Int) (x3 : Int) (x4 : Int) (s : sj_Mem) : Option (Int × sj_Mem) :=
  f_X9_cuts_3 N N a0 x1 x2 x3 x4 0 s
def f_X9_factorBy (N : Nat) (a0 : Nat) (x1 : Int) (x2 : Int) (x3 : Int) (x4 : Int) (s : sj_Mem) : Option (Int × sj_Mem) :=
  e_cl (f_X9_isCircle N x1 x2 x3 s) fun v2 s1 =>
  e_ieq v2 0 (
    some ((-1), s1)) (
    e_cv 9 a0 s1 (f_X9_cuts N a0 x1 x2 x3 x4 s1) fun v4 s3 =>
    e_ieq v4 0 (
      some ((-1), s3)) (
      e_cv 9 a0 s3 (f_X9_factorOf N a0 s3) fun v6 s5 =>
      some (v6, s5)))
def f_X9_scan_139 (N : Nat) (k52 : Nat → Int → Int → Int → Int → Int → Int → Int → Int → Int → Int → sj_Mem → Option (Int × sj_Mem)) (a0 : Nat) (x1 : Int) (x2 : Int) (x3 : Int) (x4 : Int) (x5 : Int) (x6 : Int) (x7 : Int) (x8 : Int) (x10 : Int) (y0 : Int) (y1 : Int) (s : sj_Mem) : Option (Int × sj_Mem) :=
  e_lt (y1 + y0) fun v1 =>
  e_lt (x10 + 1) fun v2 =>
  k52 a0 x1 x2 x3 x4 x5 x6 x7 x8 v1 v2 s
def f_X9_scan_138 (N : Nat) (k52 : Nat → Int → Int → Int → Int → Int → Int → Int → Int → Int → Int → sj_Mem → Option (Int × sj_Mem)) (a0 : Nat) (x1 : Int) (x2 : Int) (x3 : Int) (x4 : Int) (x5 : Int) (x6 : Int) (x7 : Int) (x8 : Int) (x10 : Int) (y0 : Int) (s : sj_Mem) : Option (Int × sj_Mem) :=
  f_X9_scan_139 N k52 a0 x1 x2 x3 x4 x5 x6 x7 x8 x10 0 y0 s
def f_X9_scan_116 (N : Nat) (k52 : Nat → Int → Int → Int → Int → Int → Int → Int → Int → Int → Int → sj_Mem → Option (Int × sj_Mem)) (a0 : Nat) (x1 : Int) (x2 : Int) (x3 : Int) (x4 : Int) (x5 : Int) (x6 : Int) (x7 : Int) (x9 : Int) (x10 : Int) (x11 : Int) (y0 : Int) (y1 : Int) (s : sj_Mem) : Option (Int × sj_Mem) :=
  e_lt (y1 + y0) fun v1 =>
  e_ieq x11 ((-1)) (
    f_X9_scan_138 N k52 a0 x1 x2 x3 x4 x5 x6 x7 v1 x10 x9 s) (
    e_ile x6 x11 (
      f_X9_scan_138 N k52 a0 x1 x2 x3 x4 x5 x6 x7 v1 x10 x9 s) (
      f_X9_scan_139 N k52 a0 x1 x2 x3 x4 x5 x6 x7 v1 x10 1 x9 s))
def f_X9_scan_52_b (N : Nat) (k52 : Nat → Int → Int → Int → Int → Int → Int → Int → Int → Int → Int → sj_Mem → Option (Int × sj_Mem)) (a0 : Nat) (x1 : Int) (x2 : Int) (x3 : Int) (x4 : Int) (x5 : Int) (x6 : Int) (x7 : Int) (x8 : Int) (x9 : Int) (x10 : Int) (s : sj_Mem) : Option (Int × sj_Mem) :=
  e_ile 125 x10 (
    e_ieq x7 0 (
      some (x8, s)) (
      some (x9, s))) (
    e_dI x10 25 fun v1 =>
    e_dI x10 5 fun v2 =>
    e_rI v2 5 fun v3 =>
    e_rI x10 5 fun v4 =>
    e_cv 9 a0 s (f_X9_factorBy N a0 (x1 + (x4 * (v1 - 2))) (x2 + (x4 * (v3 - 2))) (x3 + (x4 * (v4 - 2))) x5 s) fun v6 s5 =>
    e_ieq v6 ((-1)) (
      f_X9_scan_116 N k52 a0 x1 x2 x3 x4 x5 x6 x7 x9 x10 v6 0 x8 s5) (
      f_X9_scan_116 N k52 a0 x1 x2 x3 x4 x5 x6 x7 x9 x10 v6 1 x8 s5))
def f_X9_scan_52 (N : Nat) : Nat → Nat → Int → Int → Int → Int → Int → Int → Int → Int → Int → Int → sj_Mem → Option (Int × sj_Mem)
  | 0 => fun _ _ _ _ _ _ _ _ _ _ _ _ => none
  | n + 1 => fun a0 x1 x2 x3 x4 x5 x6 x7 x8 x9 x10 s => f_X9_scan_52_b N (f_X9_scan_52 N n) a0 x1 x2 x3 x4 x5 x6 x7 x8 x9 x10 s
def f_X9_scan (N : Nat) (a0 : Nat) (x1 : Int) (x2 : Int) (x3 : Int) (x4 : Int) (x5 : Int) (x6 : Int) (x7 : Int) (s : sj_Mem) : Option (Int × sj_Mem) :=
  e_cl (f_X9_isCircle N x1 x2 x3 s) fun v2 s1 =>
  e_ieq v2 0 (
    some ((-1), s1)) (
    e_wid x4 fun v3 =>
    e_cl (f_X9_isIn N v3 1 64 s1) fun v5 s4 =>
    e_ieq v5 0 (
      some ((-1), s4)) (
      e_cl (f_X9_isK N x6 s4) fun v7 s6 =>
      e_ieq v7 0 (
        some ((-1), s6)) (
        e_wid x7 fun v8 =>
        e_cl (f_X9_isIn N v8 0 1 s6) fun v10 s9 =>
        e_ieq v10 0 (
          some ((-1), s9)) (
          f_X9_scan_52 N N a0 x1 x2 x3 x4 x5 x6 x7 0 0 0 s9))))
def f_X9_isColumn (N : Nat) (a0 : Nat) (x1 : Int) (s : sj_Mem) : Option (Int × sj_Mem) :=
  e_wid x1 fun v1 =>
  e_gR 9 0 a0 s fun r2 =>
  e_nn r2 fun a3 =>
  e_aI 100 a3 0 s fun v4 =>
  e_wid v4 fun v5 =>
  e_cl (f_X9_isIn N v1 0 v5 s) fun v7 s6 =>
  e_z v7 s6
def f_X9_isBetter_117 (N : Nat) (k14 : Nat → Int → Int → Int → Int → Int → Int → Int → sj_Mem → Option (Int × sj_Mem)) (a0 : Nat) (x1 : Int) (x2 : Int) (x3 : Int) (x4 : Int) (x5 : Int) (x6 : Int) (x7 : Int) (s : sj_Mem) : Option (Int × sj_Mem) :=
  e_lt (x7 + 1) fun v1 =>
  k14 a0 x1 x2 x3 x4 x5 x6 v1 s
def f_X9_isBetter_102 (N : Nat) (k14 : Nat → Int → Int → Int → Int → Int → Int → Int → sj_Mem → Option (Int × sj_Mem)) (a0 : Nat) (x1 : Int) (x2 : Int) (x7 : Int) (x8 : Int) (x9 : Int) (x10 : Int) (x11 : Int) (s : sj_Mem) : Option (Int × sj_Mem) :=
  f_X9_isBetter_117 N k14 a0 x1 x2 x11 x8 x9 x10 x7 s
def f_X9_isBetter_146 (N : Nat) (a0 : Nat) (x3 : Int) (x4 : Int) (x5 : Int) (x6 : Int) (s : sj_Mem) : Option (Int × sj_Mem) :=
  e_pI 9 20 a0 x3 s fun s1 =>
  e_pI 9 17 a0 x4 s1 fun s2 =>
  e_pI 9 18 a0 x5 s2 fun s3 =>
  e_pI 9 19 a0 x6 s3 fun s4 =>
  e_z 1 s4
def f_X9_isBetter_14_b (N : Nat) (k14 : Nat → Int → Int → Int → Int → Int → Int → Int → sj_Mem → Option (Int × sj_Mem)) (a0 : Nat) (x1 : Int) (x2 : Int) (x3 : Int) (x4 : Int) (x5 : Int) (x6 : Int) (x7 : Int) (s : sj_Mem) : Option (Int × sj_Mem) :=
  e_ile 27 x7 (
    e_ieq x3 ((-1)) (
      e_z 0 s) (
      e_gI 9 20 a0 s fun v1 =>
      e_ieq v1 ((-1)) (
        f_X9_isBetter_146 N a0 x3 x4 x5 x6 s) (
        e_gI 9 20 a0 s fun v2 =>
        e_ilt x3 v2 (
          f_X9_isBetter_146 N a0 x3 x4 x5 x6 s) (
          e_z 0 s)))) (
    e_gI 9 17 a0 s fun v3 =>
    e_dI x7 9 fun v4 =>
    e_lt (v3 + (x1 * (v4 - 1))) fun v5 =>
    e_gI 9 18 a0 s fun v6 =>
    e_dI x7 3 fun v7 =>
    e_rI v7 3 fun v8 =>
    e_lt (v6 + (x1 * (v8 - 1))) fun v9 =>
    e_gI 9 19 a0 s fun v10 =>
    e_rI x7 3 fun v11 =>
    e_lt (v10 + (x1 * (v11 - 1))) fun v12 =>
    e_cv 9 a0 s (f_X9_factorBy N a0 v5 v9 v12 x2 s) fun v14 s13 =>
    e_ieq v14 ((-1)) (
      f_X9_isBetter_117 N k14 a0 x1 x2 x3 x4 x5 x6 x7 s13) (
      e_ieq x3 ((-1)) (
        f_X9_isBetter_102 N k14 a0 x1 x2 x7 v5 v9 v12 v14 s13) (
        e_ilt v14 x3 (
          f_X9_isBetter_102 N k14 a0 x1 x2 x7 v5 v9 v12 v14 s13) (
          f_X9_isBetter_117 N k14 a0 x1 x2 x3 x4 x5 x6 x7 s13))))
def f_X9_isBetter_14 (N : Nat) : Nat → Nat → Int → Int → Int → Int → Int → Int → Int → sj_Mem → Option (Int × sj_Mem)
  | 0 => fun _ _ _ _ _ _ _ _ _ => none
  | n + 1 => fun a0 x1 x2 x3 x4 x5 x6 x7 s => f_X9_isBetter_14_b N (f_X9_isBetter_14 N n) a0 x1 x2 x3 x4 x5 x6 x7 s
def f_X9_isBetter (N : Nat) (a0 : Nat) (x1 : Int) (x2 : Int) (s : sj_Mem) : Option (Int × sj_Mem) :=
  f_X9_isBetter_14 N N a0 x1 x2 ((-1)) 0 0 0 0 s
def f_X9_searches_68 (N : Nat) (k37 : Nat → Int → Int → sj_Mem → Option (Int × sj_Mem)) (a0 : Nat) (x5 : Int) (x6 : Int) (s : sj_Mem) : Option (Int × sj_Mem) :=
  e_gI 9 21 a0 s fun v1 =>
  e_pI 9 21 a0 (v1 + 1) s fun s2 =>
  k37 a0 x5 x6 s2
def f_X9_searches_37_b (N : Nat) (k37 : Nat → Int → Int → sj_Mem → Option (Int × sj_Mem)) (a0 : Nat) (x5 : Int) (x6 : Int) (s : sj_Mem) : Option (Int × sj_Mem) :=
  e_ile x6 0 (
    e_gI 9 20 a0 s fun v1 =>
    some (v1, s)) (
    e_gI 9 21 a0 s fun v2 =>
    e_ile 60 v2 (
      e_gI 9 20 a0 s fun v3 =>
      some (v3, s)) (
      e_cv 9 a0 s (f_X9_isBetter N a0 x6 x5 s) fun v5 s4 =>
      e_ieq v5 0 (
        e_dI x6 2 fun v6 =>
        f_X9_searches_68 N k37 a0 x5 v6 s4) (
        f_X9_searches_68 N k37 a0 x5 x6 s4)))
def f_X9_searches_37 (N : Nat) : Nat → Nat → Int → Int → sj_Mem → Option (Int × sj_Mem)
  | 0 => fun _ _ _ _ => none
  | n + 1 => fun a0 x5 x6 s => f_X9_searches_37_b N (f_X9_searches_37 N n) a0 x5 x6 s
def f_X9_searches (N : Nat) (a0 : Nat) (x1 : Int) (x2 : Int) (x3 : Int) (x4 : Int) (x5 : Int) (s : sj_Mem) : Option (Int × sj_Mem) :=
  e_pI 9 17 a0 x1 s fun s1 =>
  e_pI 9 18 a0 x2 s1 fun s2 =>
  e_pI 9 19 a0 x3 s2 fun s3 =>
  e_cv 9 a0 s3 (f_X9_factorBy N a0 x1 x2 x3 x5 s3) fun v5 s4 =>
  e_pI 9 20 a0 v5 s4 fun s6 =>
  e_pI 9 21 a0 0 s6 fun s7 =>
  f_X9_searches_37 N N a0 x5 x4 s7
def f_X9_deep_133 (N : Nat) (k62 : Nat → Int → Int → Int → Int → Int → Int → Int → Int → Int → Int → sj_Mem → Option (Int × sj_Mem)) (a0 : Nat) (x1 : Int) (x2 : Int) (x3 : Int) (x4 : Int) (x5 : Int) (x6 : Int) (x7 : Int) (x8 : Int) (x10 : Int) (y0 : Int) (y1 : Int) (s : sj_Mem) : Option (Int × sj_Mem) :=
  e_lt (y1 + y0) fun v1 =>
  k62 a0 x1 x2 x3 x4 x5 x6 x7 x8 v1 x10 s
def f_X9_deep_119 (N : Nat) (k62 : Nat → Int → Int → Int → Int → Int → Int → Int → Int → Int → Int → sj_Mem → Option (Int × sj_Mem)) (a0 : Nat) (x1 : Int) (x2 : Int) (x3 : Int) (x4 : Int) (x5 : Int) (x6 : Int) (x7 : Int) (x8 : Int) (x9 : Int) (y0 : Int) (s : sj_Mem) : Option (Int × sj_Mem) :=
  e_ieq y0 0 (
    f_X9_deep_133 N k62 a0 x1 x2 x3 x4 x5 x6 x7 x8 y0 0 x9 s) (
    f_X9_deep_133 N k62 a0 x1 x2 x3 x4 x5 x6 x7 x8 y0 1 x9 s)
def f_X9_deep_114 (N : Nat) (k62 : Nat → Int → Int → Int → Int → Int → Int → Int → Int → Int → Int → sj_Mem → Option (Int × sj_Mem)) (a0 : Nat) (x1 : Int) (x2 : Int) (x3 : Int) (x4 : Int) (x5 : Int) (x6 : Int) (x7 : Int) (x8 : Int) (x9 : Int) (s : sj_Mem) : Option (Int × sj_Mem) :=
  f_X9_deep_119 N k62 a0 x1 x2 x3 x4 x5 x6 x7 x8 x9 1 s
def f_X9_deep_139 (N : Nat) (a0 : Nat) (x1 : Int) (x7 : Int) (x9 : Int) (s : sj_Mem) : Option (Int × sj_Mem) :=
  e_gR 9 0 a0 s fun r1 =>
  e_nn r1 fun a2 =>
  e_uI 100 a2 (3 + x1) x7 s fun s3 =>
  some (x9 - 1, s3)
def f_X9_deep_62_b (N : Nat) (k62 : Nat → Int → Int → Int → Int → Int → Int → Int → Int → Int → Int → sj_Mem → Option (Int × sj_Mem)) (a0 : Nat) (x1 : Int) (x2 : Int) (x3 : Int) (x4 : Int) (x5 : Int) (x6 : Int) (x7 : Int) (x8 : Int) (x9 : Int) (x10 : Int) (s : sj_Mem) : Option (Int × sj_Mem) :=
  e_ieq x10 0 (
    f_X9_deep_139 N a0 x1 x7 x9 s) (
    e_ilt x8 x9 (
      f_X9_deep_139 N a0 x1 x7 x9 s) (
      e_gR 9 0 a0 s fun r1 =>
      e_nn r1 fun a2 =>
      e_uI 100 a2 (3 + x1) (x7 - x9) s fun s3 =>
      e_cv 9 a0 s3 (f_X9_searches N a0 x3 x4 x5 8 x6 s3) fun v5 s4 =>
      e_ieq v5 ((-1)) (
        f_X9_deep_114 N k62 a0 x1 x2 x3 x4 x5 x6 x7 x8 x9 s4) (
        e_ilt v5 x2 (
          f_X9_deep_119 N k62 a0 x1 x2 x3 x4 x5 x6 x7 x8 x9 0 s4) (
          f_X9_deep_114 N k62 a0 x1 x2 x3 x4 x5 x6 x7 x8 x9 s4))))
def f_X9_deep_62 (N : Nat) : Nat → Nat → Int → Int → Int → Int → Int → Int → Int → Int → Int → Int → sj_Mem → Option (Int × sj_Mem)
  | 0 => fun _ _ _ _ _ _ _ _ _ _ _ _ => none
  | n + 1 => fun a0 x1 x2 x3 x4 x5 x6 x7 x8 x9 x10 s => f_X9_deep_62_b N (f_X9_deep_62 N n) a0 x1 x2 x3 x4 x5 x6 x7 x8 x9 x10 s
def f_X9_deep (N : Nat) (a0 : Nat) (x1 : Int) (x2 : Int) (x3 : Int) (x4 : Int) (x5 : Int) (x6 : Int) (s : sj_Mem) : Option (Int × sj_Mem) :=
  e_cv 9 a0 s (f_X9_isColumn N a0 x1 s) fun v2 s1 =>
  e_ieq v2 0 (
    some ((-1), s1)) (
    e_cl (f_X9_isCircle N x3 x4 x5 s1) fun v4 s3 =>
    e_ieq v4 0 (
      some ((-1), s3)) (
      e_cl (f_X9_isK N x2 s3) fun v6 s5 =>
      e_ieq v6 0 (
        some ((-1), s5)) (
        e_gR 9 0 a0 s5 fun r7 =>
        e_nn r7 fun a8 =>
        e_aI 100 a8 (3 + x1) s5 fun v9 =>
        e_gR 9 0 a0 s5 fun r10 =>
        e_nn r10 fun a11 =>
        e_aI 100 a11 (44 + x1) s5 fun v12 =>
        e_cl (f_X9_least N 5 (v9 - v12) s5) fun v14 s13 =>
        f_X9_deep_62 N N a0 x1 x2 x3 x4 x5 x6 v9 v14 0 1 s13)))
def f_X9_hasFast_5_b (N : Nat) (k5 : Nat → Int → Int → Int → sj_Mem → Option (Int × sj_Mem)) (a0 : Nat) (x1 : Int) (x2 : Int) (x3 : Int) (s : sj_Mem) : Option (Int × sj_Mem) :=
  e_ilt x1 x3 (
    e_z 0 s) (
    e_cv 9 a0 s (f_X9_laysAt N a0 x3 s) fun _u s1 =>
    e_cv 9 a0 s1 (f_X9_rubsOf N a0 x2 s1) fun v3 s2 =>
    e_leq v3 ((-1)) (
      e_z 1 s2) (
      e_lt (x3 + 1) fun v4 =>
      k5 a0 x1 x2 v4 s2))
def f_X9_hasFast_5 (N : Nat) : Nat → Nat → Int → Int → Int → sj_Mem → Option (Int × sj_Mem)
  | 0 => fun _ _ _ _ _ => none
  | n + 1 => fun a0 x1 x2 x3 s => f_X9_hasFast_5_b N (f_X9_hasFast_5 N n) a0 x1 x2 x3 s
def f_X9_hasFast (N : Nat) (a0 : Nat) (x1 : Int) (x2 : Int) (s : sj_Mem) : Option (Int × sj_Mem) :=
  e_gI 9 13 a0 s fun v1 =>
  f_X9_hasFast_5 N N a0 x1 x2 v1 s
def f_X9_downwards (N : Nat) (x0 : Int) (x2 : Int) (s : sj_Mem) : Option (Int × sj_Mem) :=
  e_llt x0 0 (
    e_dJ ((x2 - 1) - x0) x2 fun v1 =>
    some (-v1, s)) (
    e_dJ x0 x2 fun v2 =>
    some (v2, s))
def f_X9_thrustOf_8_b (N : Nat) (k8 : Nat → Int → Int → Int → Int → sj_Mem → Option (Int × sj_Mem)) (a0 : Nat) (x1 : Int) (x2 : Int) (x3 : Int) (x5 : Int) (s : sj_Mem) : Option (Int × sj_Mem) :=
  e_ilt x1 x5 (
    some (x3, s)) (
    e_cv 9 a0 s (f_X9_laysAt N a0 x5 s) fun _u s1 =>
    e_wid x2 fun v2 =>
    e_gI 9 12 a0 s1 fun v3 =>
    e_cl (f_X9_downwards N (v2 * v3) 1000 s1) fun v5 s4 =>
    e_cv 9 a0 s4 (f_X9_rubsOf N a0 x2 s4) fun v7 s6 =>
    e_lt (x3 + (v5 - v7)) fun v8 =>
    e_lt (x5 + 1) fun v9 =>
    k8 a0 x1 x2 v8 v9 s6)
def f_X9_thrustOf_8 (N : Nat) : Nat → Nat → Int → Int → Int → Int → sj_Mem → Option (Int × sj_Mem)
  | 0 => fun _ _ _ _ _ _ => none
  | n + 1 => fun a0 x1 x2 x3 x5 s => f_X9_thrustOf_8_b N (f_X9_thrustOf_8 N n) a0 x1 x2 x3 x5 s
def f_X9_thrustOf (N : Nat) (a0 : Nat) (x1 : Int) (x2 : Int) (s : sj_Mem) : Option (Int × sj_Mem) :=
  e_gI 9 13 a0 s fun v1 =>
  f_X9_thrustOf_8 N N a0 x1 x2 0 v1 s
def f_X9_crest_68 (N : Nat) (k42 : Nat → Int → Int → Int → sj_Mem → Option (Int × sj_Mem)) (a0 : Nat) (x1 : Int) (x2 : Int) (x3 : Int) (s : sj_Mem) : Option (Int × sj_Mem) :=
  e_lt (x3 + 1) fun v1 =>
  k42 a0 x1 x2 v1 s
def f_X9_crest_42_b (N : Nat) (k42 : Nat → Int → Int → Int → sj_Mem → Option (Int × sj_Mem)) (a0 : Nat) (x1 : Int) (x2 : Int) (x3 : Int) (s : sj_Mem) : Option (Int × sj_Mem) :=
  e_gI 9 14 a0 s fun v1 =>
  e_ile v1 x3 (
    e_gI 9 13 a0 s fun v2 =>
    some (x2 - v2, s)) (
    e_cv 9 a0 s (f_X9_thrustOf N a0 x3 x1 s) fun v4 s3 =>
    e_cv 9 a0 s3 (f_X9_thrustOf N a0 x2 x1 s3) fun v6 s5 =>
    e_lle v4 v6 (
      f_X9_crest_68 N k42 a0 x1 x2 x3 s5) (
      f_X9_crest_68 N k42 a0 x1 x3 x3 s5))
def f_X9_crest_42 (N : Nat) : Nat → Nat → Int → Int → Int → sj_Mem → Option (Int × sj_Mem)
  | 0 => fun _ _ _ _ _ => none
  | n + 1 => fun a0 x1 x2 x3 s => f_X9_crest_42_b N (f_X9_crest_42 N n) a0 x1 x2 x3 s
def f_X9_crest (N : Nat) (a0 : Nat) (x1 : Int) (s : sj_Mem) : Option (Int × sj_Mem) :=
  e_cl (f_X9_isK N x1 s) fun v2 s1 =>
  e_ieq v2 0 (
    some ((-1), s1)) (
    e_cv 9 a0 s1 (f_X9_takesSlip N a0 s1) fun v4 s3 =>
    e_ieq v4 0 (
      some ((-1), s3)) (
      e_gI 9 14 a0 s3 fun v5 =>
      e_cv 9 a0 s3 (f_X9_hasFast N a0 (v5 - 1) x1 s3) fun v7 s6 =>
      e_ieq v7 0 (
        e_gI 9 13 a0 s6 fun v8 =>
        e_gI 9 13 a0 s6 fun v9 =>
        e_lt (v9 + 1) fun v10 =>
        f_X9_crest_42 N N a0 x1 v8 v10 s6) (
        some ((-1), s6))))
def f_X9_isSlice (N : Nat) (a0 : Nat) (x1 : Int) (s : sj_Mem) : Option (Int × sj_Mem) :=
  e_cv 9 a0 s (f_X9_takesSlip N a0 s) fun v2 s1 =>
  e_ieq v2 0 (
    e_z 0 s1) (
    e_wid x1 fun v3 =>
    e_gI 9 14 a0 s1 fun v4 =>
    e_gI 9 13 a0 s1 fun v5 =>
    e_wid ((v4 - v5) - 1) fun v6 =>
    e_cl (f_X9_isIn N v3 0 v6 s1) fun v8 s7 =>
    e_ieq v8 0 (
      e_z 0 s7) (
      e_z 1 s7))
def f_X9_thrust (N : Nat) (a0 : Nat) (x1 : Int) (x2 : Int) (s : sj_Mem) : Option (Int × sj_Mem) :=
  e_cv 9 a0 s (f_X9_isSlice N a0 x1 s) fun v2 s1 =>
  e_ieq v2 0 (
    some ((-10000000000000000), s1)) (
    e_cl (f_X9_isK N x2 s1) fun v4 s3 =>
    e_ieq v4 0 (
      some ((-10000000000000000), s3)) (
      e_gI 9 13 a0 s3 fun v5 =>
      e_cv 9 a0 s3 (f_X9_hasFast N a0 (v5 + x1) x2 s3) fun v7 s6 =>
      e_ieq v7 0 (
        e_gI 9 13 a0 s6 fun v8 =>
        e_cv 9 a0 s6 (f_X9_thrustOf N a0 (v8 + x1) x2 s6) fun v10 s9 =>
        some (v10, s9)) (
        some ((-10000000000000000), s6))))
def f_X9_slicesOf_52 (N : Nat) (k7 : Nat → Int → Int → Int → sj_Mem → Option (Int × sj_Mem)) (a0 : Nat) (x1 : Int) (x3 : Int) (y0 : Int) (y1 : Int) (s : sj_Mem) : Option (Int × sj_Mem) :=
  e_lt (y1 + y0) fun v1 =>
  e_lt (x3 + 1) fun v2 =>
  k7 a0 x1 v1 v2 s
def f_X9_slicesOf_47 (N : Nat) (k7 : Nat → Int → Int → Int → sj_Mem → Option (Int × sj_Mem)) (a0 : Nat) (x1 : Int) (x3 : Int) (y0 : Int) (s : sj_Mem) : Option (Int × sj_Mem) :=
  f_X9_slicesOf_52 N k7 a0 x1 x3 1 y0 s
def f_X9_slicesOf_51 (N : Nat) (k7 : Nat → Int → Int → Int → sj_Mem → Option (Int × sj_Mem)) (a0 : Nat) (x1 : Int) (x3 : Int) (y0 : Int) (s : sj_Mem) : Option (Int × sj_Mem) :=
  f_X9_slicesOf_52 N k7 a0 x1 x3 0 y0 s
def f_X9_slicesOf_7_b (N : Nat) (k7 : Nat → Int → Int → Int → sj_Mem → Option (Int × sj_Mem)) (a0 : Nat) (x1 : Int) (x2 : Int) (x3 : Int) (s : sj_Mem) : Option (Int × sj_Mem) :=
  e_gI 9 14 a0 s fun v1 =>
  e_ile v1 x3 (
    some (x2, s)) (
    e_cv 9 a0 s (f_X9_laysAt N a0 x3 s) fun _u s2 =>
    e_ieq x1 0 (
      e_gI 9 6 a0 s2 fun v3 =>
      e_ile 0 v3 (
        f_X9_slicesOf_51 N k7 a0 x1 x3 x2 s2) (
        f_X9_slicesOf_47 N k7 a0 x1 x3 x2 s2)) (
      e_gI 9 9 a0 s2 fun v4 =>
      e_gI 9 8 a0 s2 fun v5 =>
      e_lle v4 v5 (
        f_X9_slicesOf_51 N k7 a0 x1 x3 x2 s2) (
        f_X9_slicesOf_47 N k7 a0 x1 x3 x2 s2)))
def f_X9_slicesOf_7 (N : Nat) : Nat → Nat → Int → Int → Int → sj_Mem → Option (Int × sj_Mem)
  | 0 => fun _ _ _ _ _ => none
  | n + 1 => fun a0 x1 x2 x3 s => f_X9_slicesOf_7_b N (f_X9_slicesOf_7 N n) a0 x1 x2 x3 s
def f_X9_slicesOf (N : Nat) (a0 : Nat) (x1 : Int) (s : sj_Mem) : Option (Int × sj_Mem) :=
  e_gI 9 13 a0 s fun v1 =>
  f_X9_slicesOf_7 N N a0 x1 0 v1 s
def f_X9_leastBase_15_b (N : Nat) (k15 : Nat → Int → Int → sj_Mem → Option (Int × sj_Mem)) (a0 : Nat) (x1 : Int) (x2 : Int) (s : sj_Mem) : Option (Int × sj_Mem) :=
  e_gI 9 14 a0 s fun v1 =>
  e_ilt v1 x2 (
    some (x1, s)) (
    e_gR 9 16 a0 s fun r2 =>
    e_nn r2 fun a3 =>
    e_aI 100 a3 x2 s fun v4 =>
    e_cl (f_X9_least N x1 v4 s) fun v6 s5 =>
    e_lt (x2 + 1) fun v7 =>
    k15 a0 v6 v7 s5)
def f_X9_leastBase_15 (N : Nat) : Nat → Nat → Int → Int → sj_Mem → Option (Int × sj_Mem)
  | 0 => fun _ _ _ _ => none
  | n + 1 => fun a0 x1 x2 s => f_X9_leastBase_15_b N (f_X9_leastBase_15 N n) a0 x1 x2 s
def f_X9_leastBase (N : Nat) (a0 : Nat) (s : sj_Mem) : Option (Int × sj_Mem) :=
  e_gR 9 16 a0 s fun r1 =>
  e_gI 9 13 a0 s fun v2 =>
  e_nn r1 fun a3 =>
  e_aI 100 a3 v2 s fun v4 =>
  e_gI 9 13 a0 s fun v5 =>
  f_X9_leastBase_15 N N a0 v4 v5 s
def f_X9_deepest_53 (N : Nat) (k10 : Nat → Int → Int → sj_Mem → Option (Int × sj_Mem)) (a0 : Nat) (x1 : Int) (x2 : Int) (s : sj_Mem) : Option (Int × sj_Mem) :=
  e_lt (x2 + 1) fun v1 =>
  k10 a0 x1 v1 s
def f_X9_deepest_10_b (N : Nat) (k10 : Nat → Int → Int → sj_Mem → Option (Int × sj_Mem)) (a0 : Nat) (x1 : Int) (x2 : Int) (s : sj_Mem) : Option (Int × sj_Mem) :=
  e_gI 9 14 a0 s fun v1 =>
  e_ilt v1 x2 (
    some (x1, s)) (
    e_gR 9 0 a0 s fun r2 =>
    e_nn r2 fun a3 =>
    e_aI 100 a3 (3 + x2) s fun v4 =>
    e_gR 9 16 a0 s fun r5 =>
    e_nn r5 fun a6 =>
    e_aI 100 a6 x2 s fun v7 =>
    e_gR 9 0 a0 s fun r8 =>
    e_nn r8 fun a9 =>
    e_aI 100 a9 (3 + x1) s fun v10 =>
    e_gR 9 16 a0 s fun r11 =>
    e_nn r11 fun a12 =>
    e_aI 100 a12 x1 s fun v13 =>
    e_ile (v4 - v7) (v10 - v13) (
      f_X9_deepest_53 N k10 a0 x1 x2 s) (
      f_X9_deepest_53 N k10 a0 x2 x2 s))
def f_X9_deepest_10 (N : Nat) : Nat → Nat → Int → Int → sj_Mem → Option (Int × sj_Mem)
  | 0 => fun _ _ _ _ => none
  | n + 1 => fun a0 x1 x2 s => f_X9_deepest_10_b N (f_X9_deepest_10 N n) a0 x1 x2 s
def f_X9_deepest (N : Nat) (a0 : Nat) (s : sj_Mem) : Option (Int × sj_Mem) :=
  e_gI 9 13 a0 s fun v1 =>
  e_gI 9 13 a0 s fun v2 =>
  f_X9_deepest_10 N N a0 v1 v2 s
def f_X9_bodyOf_7_b (N : Nat) (k7 : Nat → Int → Int → sj_Mem → Option (Int × sj_Mem)) (a0 : Nat) (x1 : Int) (x2 : Int) (s : sj_Mem) : Option (Int × sj_Mem) :=
  e_gI 9 14 a0 s fun v1 =>
  e_ile v1 x2 (
    e_gR 9 0 a0 s fun r2 =>
    e_nn r2 fun a3 =>
    e_aI 100 a3 1 s fun v4 =>
    some (v4 * x1, s)) (
    e_gR 9 0 a0 s fun r5 =>
    e_nn r5 fun a6 =>
    e_aI 100 a6 (3 + x2) s fun v7 =>
    e_gR 9 16 a0 s fun r8 =>
    e_nn r8 fun a9 =>
    e_aI 100 a9 x2 s fun v10 =>
    e_gR 9 0 a0 s fun r11 =>
    e_nn r11 fun a12 =>
    e_aI 100 a12 ((3 + x2) + 1) s fun v13 =>
    e_gR 9 16 a0 s fun r14 =>
    e_nn r14 fun a15 =>
    e_aI 100 a15 (x2 + 1) s fun v16 =>
    e_lt (x1 + (((v7 - v10) + v13) - v16)) fun v17 =>
    e_lt (x2 + 1) fun v18 =>
    k7 a0 v17 v18 s)
def f_X9_bodyOf_7 (N : Nat) : Nat → Nat → Int → Int → sj_Mem → Option (Int × sj_Mem)
  | 0 => fun _ _ _ _ => none
  | n + 1 => fun a0 x1 x2 s => f_X9_bodyOf_7_b N (f_X9_bodyOf_7 N n) a0 x1 x2 s
def f_X9_bodyOf (N : Nat) (a0 : Nat) (s : sj_Mem) : Option (Int × sj_Mem) :=
  e_gI 9 13 a0 s fun v1 =>
  f_X9_bodyOf_7 N N a0 0 v1 s
def f_X9_shape (N : Nat) (a0 : Nat) (x1 : Int) (s : sj_Mem) : Option (Int × sj_Mem) :=
  e_cv 9 a0 s (f_X9_takesSlip N a0 s) fun v2 s1 =>
  e_ieq v2 0 (
    some ((-1), s1)) (
    e_sw x1 (
    if x1 = 0 then (
      e_cv 9 a0 s1 (f_X9_bodyOf N a0 s1) fun v4 s3 =>
      some (v4, s3)) else (
    if x1 = 1 then (
      e_gR 9 0 a0 s1 fun r5 =>
      e_cv 9 a0 s1 (f_X9_deepest N a0 s1) fun v7 s6 =>
      e_nn r5 fun a8 =>
      e_aI 100 a8 (3 + v7) s6 fun v9 =>
      e_gR 9 16 a0 s6 fun r10 =>
      e_cv 9 a0 s6 (f_X9_deepest N a0 s6) fun v12 s11 =>
      e_nn r10 fun a13 =>
      e_aI 100 a13 v12 s11 fun v14 =>
      some (v9 - v14, s11)) else (
    if x1 = 2 then (
      e_cv 9 a0 s1 (f_X9_deepest N a0 s1) fun v16 s15 =>
      some (v16, s15)) else (
    if x1 = 3 then (
      e_cv 9 a0 s1 (f_X9_leastBase N a0 s1) fun v18 s17 =>
      some (v18, s17)) else (
    if x1 = 4 then (
      e_cv 9 a0 s1 (f_X9_slicesOf N a0 0 s1) fun v20 s19 =>
      some (v20, s19)) else (
    if x1 = 5 then (
      e_cv 9 a0 s1 (f_X9_slicesOf N a0 1 s1) fun v22 s21 =>
      some (v22, s21)) else (
      some ((-1), s1)))))))))
def f_X9_berm_66_b (N : Nat) (k44 : Nat → Int → Int → Int → Int → sj_Mem → Option (Int × sj_Mem)) (k66 : Nat → Int → Int → Int → Int → Int → sj_Mem → Option (Int × sj_Mem)) (a0 : Nat) (x1 : Int) (x2 : Int) (x3 : Int) (x4 : Int) (x5 : Int) (s : sj_Mem) : Option (Int × sj_Mem) :=
  e_ilt x2 x5 (
    k44 a0 x1 x2 x3 x4 s) (
    e_gR 9 0 a0 s fun r1 =>
    e_gR 9 1 a0 s fun r2 =>
    e_nn r2 fun a3 =>
    e_aI 100 a3 (126 + x5) s fun v4 =>
    e_nn r1 fun a5 =>
    e_uI 100 a5 (126 + x5) (v4 + x4) s fun s6 =>
    e_lt (x5 + 1) fun v7 =>
    k66 a0 x1 x2 x3 x4 v7 s6)
def f_X9_berm_66 (N : Nat) (k44 : Nat → Int → Int → Int → Int → sj_Mem → Option (Int × sj_Mem)) : Nat → Nat → Int → Int → Int → Int → Int → sj_Mem → Option (Int × sj_Mem)
  | 0 => fun _ _ _ _ _ _ _ => none
  | n + 1 => fun a0 x1 x2 x3 x4 x5 s => f_X9_berm_66_b N k44 (f_X9_berm_66 N k44 n) a0 x1 x2 x3 x4 x5 s
def f_X9_berm_104 (N : Nat) (a0 : Nat) (x4 : Int) (s : sj_Mem) : Option (Int × sj_Mem) :=
  e_cv 9 a0 s (f_X9_comesBack N a0 s) fun _u s1 =>
  e_ile x4 500 (
    some (x4, s1)) (
    some ((-1), s1))
def f_X9_berm_44_b (N : Nat) (k44 : Nat → Int → Int → Int → Int → sj_Mem → Option (Int × sj_Mem)) (a0 : Nat) (x1 : Int) (x2 : Int) (x3 : Int) (x4 : Int) (s : sj_Mem) : Option (Int × sj_Mem) :=
  e_ilt 500 x4 (
    f_X9_berm_104 N a0 x4 s) (
    e_cv 9 a0 s (f_X9_isStanding N a0 x3 s) fun v2 s1 =>
    e_ieq v2 0 (
      e_lt (x4 + 1) fun v3 =>
      f_X9_berm_66 N k44 N a0 x1 x2 x3 v3 x1 s1) (
      f_X9_berm_104 N a0 x4 s1))
def f_X9_berm_44 (N : Nat) : Nat → Nat → Int → Int → Int → Int → sj_Mem → Option (Int × sj_Mem)
  | 0 => fun _ _ _ _ _ _ => none
  | n + 1 => fun a0 x1 x2 x3 x4 s => f_X9_berm_44_b N (f_X9_berm_44 N n) a0 x1 x2 x3 x4 s
def f_X9_berm (N : Nat) (a0 : Nat) (x1 : Int) (x2 : Int) (x3 : Int) (s : sj_Mem) : Option (Int × sj_Mem) :=
  e_cv 9 a0 s (f_X9_isColumn N a0 x1 s) fun v2 s1 =>
  e_ieq v2 0 (
    some ((-1), s1)) (
    e_cv 9 a0 s1 (f_X9_isColumn N a0 x2 s1) fun v4 s3 =>
    e_ieq v4 0 (
      some ((-1), s3)) (
      e_ilt x2 x1 (
        some ((-1), s3)) (
        e_cl (f_X9_isK N x3 s3) fun v6 s5 =>
        e_ieq v6 0 (
          some ((-1), s5)) (
          e_cv 9 a0 s5 (f_X9_takesSlip N a0 s5) fun v8 s7 =>
          e_ieq v8 0 (
            some ((-1), s7)) (
            e_cv 9 a0 s7 (f_X9_laysAside N a0 s7) fun _u s9 =>
            f_X9_berm_44 N N a0 x1 x2 x3 0 s9)))))
def f_X9_remembers_54_b (N : Nat) (k54 : Nat → Option Nat → Int → sj_Mem → Option (Unit × sj_Mem)) (a0 : Nat) (x1 : Option Nat) (x2 : Int) (s : sj_Mem) : Option (Unit × sj_Mem) :=
  e_ile 364 x2 (
    e_gI 9 4 a0 s fun v1 =>
    e_pI 9 4 a0 (v1 + 1) s fun s2 =>
    some ((), s2)) (
    e_gR 9 3 a0 s fun r3 =>
    e_gI 9 4 a0 s fun v4 =>
    e_nn x1 fun a5 =>
    e_aI 100 a5 x2 s fun v6 =>
    e_nn r3 fun a7 =>
    e_uI 100 a7 ((364 * v4) + x2) v6 s fun s8 =>
    e_lt (x2 + 1) fun v9 =>
    k54 a0 (some a5) v9 s8)
def f_X9_remembers_54 (N : Nat) : Nat → Nat → Option Nat → Int → sj_Mem → Option (Unit × sj_Mem)
  | 0 => fun _ _ _ _ => none
  | n + 1 => fun a0 x1 x2 s => f_X9_remembers_54_b N (f_X9_remembers_54 N n) a0 x1 x2 s
def f_X9_remembers_52 (N : Nat) (a0 : Nat) (x1 : Option Nat) (s : sj_Mem) : Option (Unit × sj_Mem) :=
  f_X9_remembers_54 N N a0 x1 0 s
def f_X9_remembers_13_b (N : Nat) (k13 : Nat → Option Nat → Int → sj_Mem → Option (Unit × sj_Mem)) (a0 : Nat) (x1 : Option Nat) (x2 : Int) (s : sj_Mem) : Option (Unit × sj_Mem) :=
  e_ile 2912 x2 (
    e_gI 9 4 a0 s fun v1 =>
    e_pI 9 4 a0 (v1 - 1) s fun s2 =>
    f_X9_remembers_52 N a0 x1 s2) (
    e_gR 9 3 a0 s fun r3 =>
    e_gR 9 3 a0 s fun r4 =>
    e_nn r4 fun a5 =>
    e_aI 100 a5 x2 s fun v6 =>
    e_nn r3 fun a7 =>
    e_uI 100 a7 (x2 - 364) v6 s fun s8 =>
    e_lt (x2 + 1) fun v9 =>
    k13 a0 x1 v9 s8)
def f_X9_remembers_13 (N : Nat) : Nat → Nat → Option Nat → Int → sj_Mem → Option (Unit × sj_Mem)
  | 0 => fun _ _ _ _ => none
  | n + 1 => fun a0 x1 x2 s => f_X9_remembers_13_b N (f_X9_remembers_13 N n) a0 x1 x2 s
def f_X9_remembers (N : Nat) (a0 : Nat) (x1 : Option Nat) (s : sj_Mem) : Option (Unit × sj_Mem) :=
  e_gI 9 4 a0 s fun v1 =>
  e_ieq v1 8 (
    f_X9_remembers_13 N N a0 x1 364 s) (
    f_X9_remembers_52 N a0 x1 s)
def f_X9_turnsRound_9_b (N : Nat) (k9 : Nat → Int → Int → Int → sj_Mem → Option (Unit × sj_Mem)) (a0 : Nat) (x1 : Int) (x2 : Int) (x3 : Int) (s : sj_Mem) : Option (Unit × sj_Mem) :=
  e_ile x2 (2 * x3) (
    some ((), s)) (
    e_gR 9 0 a0 s fun r1 =>
    e_nn r1 fun a2 =>
    e_aI 100 a2 (x1 + x3) s fun v3 =>
    e_gR 9 0 a0 s fun r4 =>
    e_gR 9 0 a0 s fun r5 =>
    e_nn r5 fun a6 =>
    e_aI 100 a6 ((x1 + x2) - x3) s fun v7 =>
    e_nn r4 fun a8 =>
    e_uI 100 a8 (x1 + x3) v7 s fun s9 =>
    e_gR 9 0 a0 s9 fun r10 =>
    e_nn r10 fun a11 =>
    e_uI 100 a11 ((x1 + x2) - x3) v3 s9 fun s12 =>
    e_lt (x3 + 1) fun v13 =>
    k9 a0 x1 x2 v13 s12)
def f_X9_turnsRound_9 (N : Nat) : Nat → Nat → Int → Int → Int → sj_Mem → Option (Unit × sj_Mem)
  | 0 => fun _ _ _ _ _ => none
  | n + 1 => fun a0 x1 x2 x3 s => f_X9_turnsRound_9_b N (f_X9_turnsRound_9 N n) a0 x1 x2 x3 s
def f_X9_turnsRound (N : Nat) (a0 : Nat) (x1 : Int) (s : sj_Mem) : Option (Unit × sj_Mem) :=
  e_gR 9 0 a0 s fun r1 =>
  e_nn r1 fun a2 =>
  e_aI 100 a2 0 s fun v3 =>
  f_X9_turnsRound_9 N N a0 x1 v3 0 s
def f_X9_mirror_112 (N : Nat) (k58 : Nat → Int → sj_Mem → Option (Int × sj_Mem)) (a0 : Nat) (x1 : Int) (s : sj_Mem) : Option (Int × sj_Mem) :=
  e_lt (x1 + 1) fun v1 =>
  k58 a0 v1 s
def f_X9_mirror_58_b (N : Nat) (k58 : Nat → Int → sj_Mem → Option (Int × sj_Mem)) (a0 : Nat) (x1 : Int) (s : sj_Mem) : Option (Int × sj_Mem) :=
  e_ile 6 x1 (
    e_cv 9 a0 s (f_X9_hasSlip N a0 s) fun v2 s1 =>
    e_ieq v2 0 (
      e_z 0 s1) (
      e_cv 9 a0 s1 (f_X9_turnsRound N a0 323 s1) fun _u s3 =>
      e_gR 9 0 a0 s3 fun r4 =>
      e_nn r4 fun a5 =>
      e_aI 100 a5 0 s3 fun v6 =>
      e_gR 9 0 a0 s3 fun r7 =>
      e_nn r7 fun a8 =>
      e_aI 100 a8 321 s3 fun v9 =>
      e_lt (v6 - v9) fun v10 =>
      e_gR 9 0 a0 s3 fun r11 =>
      e_gR 9 0 a0 s3 fun r12 =>
      e_nn r12 fun a13 =>
      e_aI 100 a13 0 s3 fun v14 =>
      e_gR 9 0 a0 s3 fun r15 =>
      e_nn r15 fun a16 =>
      e_aI 100 a16 320 s3 fun v17 =>
      e_nn r11 fun a18 =>
      e_uI 100 a18 321 (v14 - v17) s3 fun s19 =>
      e_gR 9 0 a0 s19 fun r20 =>
      e_nn r20 fun a21 =>
      e_uI 100 a21 320 v10 s19 fun s22 =>
      e_gR 9 0 a0 s22 fun r23 =>
      e_gR 9 0 a0 s22 fun r24 =>
      e_nn r24 fun a25 =>
      e_aI 100 a25 322 s22 fun v26 =>
      e_nn r23 fun a27 =>
      e_uI 100 a27 322 (1 - v26) s22 fun s28 =>
      e_z 1 s28)) (
    e_gR 9 0 a0 s fun r29 =>
    e_nn r29 fun a30 =>
    e_aI 100 a30 ((302 + (3 * x1)) + 2) s fun v31 =>
    e_ile v31 0 (
      f_X9_mirror_112 N k58 a0 x1 s) (
      e_gR 9 0 a0 s fun r32 =>
      e_gR 9 0 a0 s fun r33 =>
      e_nn r33 fun a34 =>
      e_aI 100 a34 0 s fun v35 =>
      e_gR 9 0 a0 s fun r36 =>
      e_nn r36 fun a37 =>
      e_aI 100 a37 (302 + (3 * x1)) s fun v38 =>
      e_nn r32 fun a39 =>
      e_uI 100 a39 (302 + (3 * x1)) (v35 - v38) s fun s40 =>
      f_X9_mirror_112 N k58 a0 x1 s40))
def f_X9_mirror_58 (N : Nat) : Nat → Nat → Int → sj_Mem → Option (Int × sj_Mem)
  | 0 => fun _ _ _ => none
  | n + 1 => fun a0 x1 s => f_X9_mirror_58_b N (f_X9_mirror_58 N n) a0 x1 s
def f_X9_mirror_33_b (N : Nat) (k33 : Nat → Int → sj_Mem → Option (Int × sj_Mem)) (a0 : Nat) (x1 : Int) (s : sj_Mem) : Option (Int × sj_Mem) :=
  e_ile 3 x1 (
    f_X9_mirror_58 N N a0 0 s) (
    e_cv 9 a0 s (f_X9_turnsRound N a0 (167 + (41 * x1)) s) fun _u s1 =>
    e_lt (x1 + 1) fun v2 =>
    k33 a0 v2 s1)
def f_X9_mirror_33 (N : Nat) : Nat → Nat → Int → sj_Mem → Option (Int × sj_Mem)
  | 0 => fun _ _ _ => none
  | n + 1 => fun a0 x1 s => f_X9_mirror_33_b N (f_X9_mirror_33 N n) a0 x1 s
def f_X9_mirror (N : Nat) (a0 : Nat) (s : sj_Mem) : Option (Int × sj_Mem) :=
  e_gR 9 0 a0 s fun r1 =>
  e_cv 9 a0 s (f_X9_remembers N a0 r1 s) fun _u s2 =>
  e_cv 9 a0 s2 (f_X9_turnsRound N a0 3 s2) fun _u s3 =>
  e_cv 9 a0 s3 (f_X9_turnsRound N a0 44 s3) fun _u s4 =>
  e_cv 9 a0 s4 (f_X9_turnsRound N a0 85 s4) fun _u s5 =>
  e_cv 9 a0 s5 (f_X9_turnsRound N a0 126 s5) fun _u s6 =>
  f_X9_mirror_33 N N a0 0 s6
def f_X9_canDig (N : Nat) (a0 : Nat) (x1 : Int) (x2 : Int) (s : sj_Mem) : Option (Int × sj_Mem) :=
  e_cv 9 a0 s (f_X9_isColumn N a0 x1 s) fun v2 s1 =>
  e_ieq v2 0 (
    e_z 0 s1) (
    e_ieq x2 0 (
      e_z 0 s1) (
      e_gR 9 0 a0 s1 fun r3 =>
      e_nn r3 fun a4 =>
      e_aI 100 a4 (3 + x1) s1 fun v5 =>
      e_wid v5 fun v6 =>
      e_wid x2 fun v7 =>
      e_gR 9 0 a0 s1 fun r8 =>
      e_nn r8 fun a9 =>
      e_aI 100 a9 (44 + x1) s1 fun v10 =>
      e_wid v10 fun v11 =>
      e_cl (f_X9_isIn N (v6 - v7) v11 100 s1) fun v13 s12 =>
      e_ieq v13 0 (
        e_z 0 s12) (
        e_z 1 s12)))
def f_X9_dug (N : Nat) (a0 : Nat) (x1 : Int) (x2 : Int) (x3 : Int) (x4 : Int) (x5 : Int) (x6 : Int) (s : sj_Mem) : Option (Int × sj_Mem) :=
  e_cv 9 a0 s (f_X9_canDig N a0 x1 x2 s) fun v2 s1 =>
  e_ieq v2 0 (
    some ((-1), s1)) (
    e_cl (f_X9_isCircle N x3 x4 x5 s1) fun v4 s3 =>
    e_ieq v4 0 (
      some ((-1), s3)) (
      e_gR 9 0 a0 s3 fun r5 =>
      e_nn r5 fun a6 =>
      e_aI 100 a6 (3 + x1) s3 fun v7 =>
      e_uI 100 a6 (3 + x1) (v7 - x2) s3 fun s8 =>
      e_cv 9 a0 s8 (f_X9_searches N a0 x3 x4 x5 8 x6 s8) fun v10 s9 =>
      e_gR 9 0 a0 s9 fun r11 =>
      e_nn r11 fun a12 =>
      e_aI 100 a12 (3 + x1) s9 fun v13 =>
      e_uI 100 a12 (3 + x1) (v13 + x2) s9 fun s14 =>
      some (v10, s14)))
def f_X9_adds_35 (N : Nat) (s : sj_Mem) : Option (Int × sj_Mem) :=
  some (4000000000000000000, s)
def f_X9_adds (N : Nat) (a0 : Nat) (x1 : Int) (x2 : Int) (x3 : Int) (x4 : Int) (x5 : Int) (s : sj_Mem) : Option (Int × sj_Mem) :=
  e_cv 9 a0 s (f_X9_laysSlice N a0 x1 x2 x3 x4 s) fun _u s1 =>
  e_cv 9 a0 s1 (f_X9_rubsOf N a0 x5 s1) fun v3 s2 =>
  e_leq v3 ((-1)) (
    f_X9_adds_35 N s2) (
    e_lle v3 10000000000000 (
      e_wid x5 fun v4 =>
      e_gI 9 12 a0 s2 fun v5 =>
      some ((1000 * v3) - (v4 * v5), s2)) (
      f_X9_adds_35 N s2))
def f_X9_comes_123 (N : Nat) (k17 : Nat → Int → Int → Int → Int → Int → Int → Int → sj_Mem → Option (Unit × sj_Mem)) (a0 : Nat) (x1 : Int) (x2 : Int) (x3 : Int) (x4 : Int) (x5 : Int) (x6 : Int) (x7 : Int) (s : sj_Mem) : Option (Unit × sj_Mem) :=
  e_lt (x7 + 1) fun v1 =>
  k17 a0 x1 x2 x3 x4 x5 x6 v1 s
def f_X9_comes_17_b (N : Nat) (k17 : Nat → Int → Int → Int → Int → Int → Int → Int → sj_Mem → Option (Unit × sj_Mem)) (a0 : Nat) (x1 : Int) (x2 : Int) (x3 : Int) (x4 : Int) (x5 : Int) (x6 : Int) (x7 : Int) (s : sj_Mem) : Option (Unit × sj_Mem) :=
  e_cl (f_X9_least N 100 (x2 + x3) s) fun v2 s1 =>
  e_ilt v2 x7 (
    some ((), s1)) (
    e_gR 9 22 a0 s1 fun r3 =>
    e_nn r3 fun a4 =>
    e_aI 101 a4 ((101 * (x1 - 1)) + x7) s1 fun v5 =>
    e_leq v5 4000000000000000000 (
      f_X9_comes_123 N k17 a0 x1 x2 x3 x4 x5 x6 x7 s1) (
      e_cv 9 a0 s1 (f_X9_adds N a0 (x1 - 1) x7 x2 x4 x5 s1) fun v7 s6 =>
      e_leq v7 4000000000000000000 (
        f_X9_comes_123 N k17 a0 x1 x2 x3 x4 x5 x6 x7 s6) (
        e_gR 9 22 a0 s6 fun r8 =>
        e_nn r8 fun a9 =>
        e_aI 101 a9 x6 s6 fun v10 =>
        e_llt (v5 + v7) v10 (
          e_gR 9 22 a0 s6 fun r11 =>
          e_nn r11 fun a12 =>
          e_uI 101 a12 x6 (v5 + v7) s6 fun s13 =>
          e_gR 9 23 a0 s13 fun r14 =>
          e_nn r14 fun a15 =>
          e_uI 100 a15 x6 x7 s13 fun s16 =>
          f_X9_comes_123 N k17 a0 x1 x2 x3 x4 x5 x6 x7 s16) (
          f_X9_comes_123 N k17 a0 x1 x2 x3 x4 x5 x6 x7 s6))))
def f_X9_comes_17 (N : Nat) : Nat → Nat → Int → Int → Int → Int → Int → Int → Int → sj_Mem → Option (Unit × sj_Mem)
  | 0 => fun _ _ _ _ _ _ _ _ _ => none
  | n + 1 => fun a0 x1 x2 x3 x4 x5 x6 x7 s => f_X9_comes_17_b N (f_X9_comes_17 N n) a0 x1 x2 x3 x4 x5 x6 x7 s
def f_X9_comes (N : Nat) (a0 : Nat) (x1 : Int) (x2 : Int) (x3 : Int) (x4 : Int) (x5 : Int) (s : sj_Mem) : Option (Unit × sj_Mem) :=
  e_lt ((101 * x1) + x2) fun v1 =>
  e_cl (f_X9_most N 0 (x2 - x3) s) fun v3 s2 =>
  f_X9_comes_17 N N a0 x1 x2 x3 x4 x5 v1 v3 s2
def f_X9_goes_110 (N : Nat) (k8 : Nat → Int → Int → Int → Int → Int → Int → Int → sj_Mem → Option (Int × sj_Mem)) (k22 : Nat → Int → Int → Int → Int → Int → Int → Int → Int → sj_Mem → Option (Int × sj_Mem)) (a0 : Nat) (x1 : Int) (x2 : Int) (x3 : Int) (x4 : Int) (x5 : Int) (x6 : Int) (x8 : Int) (x9 : Int) (s : sj_Mem) : Option (Int × sj_Mem) :=
  e_lt (x9 + 1) fun v1 =>
  k22 a0 x1 x2 x3 x4 x5 x6 x8 v1 s
def f_X9_goes_97 (N : Nat) (k8 : Nat → Int → Int → Int → Int → Int → Int → Int → sj_Mem → Option (Int × sj_Mem)) (k22 : Nat → Int → Int → Int → Int → Int → Int → Int → Int → sj_Mem → Option (Int × sj_Mem)) (a0 : Nat) (x1 : Int) (x2 : Int) (x3 : Int) (x4 : Int) (x5 : Int) (x6 : Int) (x8 : Int) (x9 : Int) (s : sj_Mem) : Option (Int × sj_Mem) :=
  e_cv 9 a0 s (f_X9_comes N a0 x8 x9 x3 x4 x5 s) fun _u s1 =>
  f_X9_goes_110 N k8 k22 a0 x1 x2 x3 x4 x5 x6 x8 x9 s1
def f_X9_goes_192 (N : Nat) (k8 : Nat → Int → Int → Int → Int → Int → Int → Int → sj_Mem → Option (Int × sj_Mem)) (a0 : Nat) (x1 : Int) (x2 : Int) (x3 : Int) (x4 : Int) (x5 : Int) (x6 : Int) (x8 : Int) (y0 : Int) (y1 : Int) (y2 : Option Nat) (s : sj_Mem) : Option (Int × sj_Mem) :=
  e_nn y2 fun a1 =>
  e_uI 101 a1 y1 y0 s fun s2 =>
  e_lt (x8 + 1) fun v3 =>
  k8 a0 x1 x2 x3 x4 x5 x6 v3 s2
def f_X9_goes_185 (N : Nat) (k8 : Nat → Int → Int → Int → Int → Int → Int → Int → sj_Mem → Option (Int × sj_Mem)) (a0 : Nat) (x1 : Int) (x2 : Int) (x3 : Int) (x4 : Int) (x5 : Int) (x6 : Int) (x8 : Int) (y0 : Int) (y1 : Option Nat) (s : sj_Mem) : Option (Int × sj_Mem) :=
  f_X9_goes_192 N k8 a0 x1 x2 x3 x4 x5 x6 x8 0 y0 y1 s
def f_X9_goes_155 (N : Nat) (k8 : Nat → Int → Int → Int → Int → Int → Int → Int → sj_Mem → Option (Int × sj_Mem)) (a0 : Nat) (x1 : Int) (x2 : Int) (x3 : Int) (x4 : Int) (x5 : Int) (x6 : Int) (x8 : Int) (x9 : Int) (s : sj_Mem) : Option (Int × sj_Mem) :=
  e_gR 9 24 a0 s fun r1 =>
  e_gR 9 22 a0 s fun r2 =>
  e_nn r2 fun a3 =>
  e_aI 101 a3 x9 s fun v4 =>
  e_nn r1 fun a5 =>
  e_uI 101 a5 x8 v4 s fun s6 =>
  e_gR 9 22 a0 s6 fun r7 =>
  e_ieq x8 x1 (
    f_X9_goes_185 N k8 a0 x1 x2 x3 x4 x5 x6 x8 x9 r7 s6) (
    e_ieq x2 0 (
      f_X9_goes_192 N k8 a0 x1 x2 x3 x4 x5 x6 x8 4000000000000000000 x9 r7 s6) (
      f_X9_goes_185 N k8 a0 x1 x2 x3 x4 x5 x6 x8 x9 r7 s6))
def f_X9_goes_22_b (N : Nat) (k8 : Nat → Int → Int → Int → Int → Int → Int → Int → sj_Mem → Option (Int × sj_Mem)) (k22 : Nat → Int → Int → Int → Int → Int → Int → Int → Int → sj_Mem → Option (Int × sj_Mem)) (a0 : Nat) (x1 : Int) (x2 : Int) (x3 : Int) (x4 : Int) (x5 : Int) (x6 : Int) (x8 : Int) (x9 : Int) (s : sj_Mem) : Option (Int × sj_Mem) :=
  e_ile 101 x9 (
    e_gR 9 0 a0 s fun r1 =>
    e_nn r1 fun a2 =>
    e_aI 100 a2 (3 + x8) s fun v3 =>
    e_lt ((101 * x8) + v3) fun v4 =>
    e_gR 9 22 a0 s fun r5 =>
    e_nn r5 fun a6 =>
    e_aI 101 a6 v4 s fun v7 =>
    e_lle x6 v7 (
      f_X9_goes_155 N k8 a0 x1 x2 x3 x4 x5 x6 x8 v4 s) (
      e_gR 9 22 a0 s fun r8 =>
      e_nn r8 fun a9 =>
      e_aI 101 a9 v4 s fun v10 =>
      f_X9_goes_155 N k8 a0 x1 x2 x3 x4 x5 v10 x8 v4 s)) (
    e_gR 9 22 a0 s fun r11 =>
    e_nn r11 fun a12 =>
    e_uI 101 a12 ((101 * x8) + x9) 4000000000000000000 s fun s13 =>
    e_ieq x8 x1 (
      f_X9_goes_110 N k8 k22 a0 x1 x2 x3 x4 x5 x6 x8 x9 s13) (
      e_gR 9 0 a0 s13 fun r14 =>
      e_nn r14 fun a15 =>
      e_aI 100 a15 (3 + x8) s13 fun v16 =>
      e_ilt v16 x9 (
        f_X9_goes_110 N k8 k22 a0 x1 x2 x3 x4 x5 x6 x8 x9 s13) (
        e_gR 9 0 a0 s13 fun r17 =>
        e_nn r17 fun a18 =>
        e_aI 100 a18 (3 + x8) s13 fun v19 =>
        e_ile v19 x9 (
          f_X9_goes_97 N k8 k22 a0 x1 x2 x3 x4 x5 x6 x8 x9 s13) (
          e_gR 9 0 a0 s13 fun r20 =>
          e_nn r20 fun a21 =>
          e_aI 100 a21 (44 + x8) s13 fun v22 =>
          e_ile v22 x9 (
            f_X9_goes_97 N k8 k22 a0 x1 x2 x3 x4 x5 x6 x8 x9 s13) (
            f_X9_goes_110 N k8 k22 a0 x1 x2 x3 x4 x5 x6 x8 x9 s13)))))
def f_X9_goes_22 (N : Nat) (k8 : Nat → Int → Int → Int → Int → Int → Int → Int → sj_Mem → Option (Int × sj_Mem)) : Nat → Nat → Int → Int → Int → Int → Int → Int → Int → Int → sj_Mem → Option (Int × sj_Mem)
  | 0 => fun _ _ _ _ _ _ _ _ _ _ => none
  | n + 1 => fun a0 x1 x2 x3 x4 x5 x6 x8 x9 s => f_X9_goes_22_b N k8 (f_X9_goes_22 N k8 n) a0 x1 x2 x3 x4 x5 x6 x8 x9 s
def f_X9_goes_8_b (N : Nat) (k8 : Nat → Int → Int → Int → Int → Int → Int → Int → sj_Mem → Option (Int × sj_Mem)) (a0 : Nat) (x1 : Int) (x2 : Int) (x3 : Int) (x4 : Int) (x5 : Int) (x6 : Int) (x8 : Int) (s : sj_Mem) : Option (Int × sj_Mem) :=
  e_gR 9 0 a0 s fun r1 =>
  e_nn r1 fun a2 =>
  e_aI 100 a2 0 s fun v3 =>
  e_ilt v3 x8 (
    some (x6, s)) (
    f_X9_goes_22 N k8 N a0 x1 x2 x3 x4 x5 x6 x8 0 s)
def f_X9_goes_8 (N : Nat) : Nat → Nat → Int → Int → Int → Int → Int → Int → Int → sj_Mem → Option (Int × sj_Mem)
  | 0 => fun _ _ _ _ _ _ _ _ _ => none
  | n + 1 => fun a0 x1 x2 x3 x4 x5 x6 x8 s => f_X9_goes_8_b N (f_X9_goes_8 N n) a0 x1 x2 x3 x4 x5 x6 x8 s
def f_X9_goes (N : Nat) (a0 : Nat) (x1 : Int) (x2 : Int) (x3 : Int) (x4 : Int) (x5 : Int) (s : sj_Mem) : Option (Int × sj_Mem) :=
  f_X9_goes_8 N N a0 x1 x2 x3 x4 x5 4000000000000000000 x1 s
def f_X9_tableK_48 (N : Nat) (k7 : Nat → Int → Int → Int → Int → sj_Mem → Option (Int × sj_Mem)) (a0 : Nat) (x1 : Int) (x2 : Int) (x3 : Int) (x4 : Int) (s : sj_Mem) : Option (Int × sj_Mem) :=
  k7 a0 x1 x2 x3 x4 s
def f_X9_tableK_7_b (N : Nat) (k7 : Nat → Int → Int → Int → Int → sj_Mem → Option (Int × sj_Mem)) (a0 : Nat) (x1 : Int) (x2 : Int) (x3 : Int) (x4 : Int) (s : sj_Mem) : Option (Int × sj_Mem) :=
  e_ile (x4 - x3) 1 (
    some (x3, s)) (
    e_dI (x3 + x4) 2 fun v1 =>
    e_cv 9 a0 s (f_X9_goes N a0 0 1 x1 x2 v1 s) fun v3 s2 =>
    e_llt v3 0 (
      f_X9_tableK_48 N k7 a0 x1 x2 x3 v1 s2) (
      f_X9_tableK_48 N k7 a0 x1 x2 v1 x4 s2))
def f_X9_tableK_7 (N : Nat) : Nat → Nat → Int → Int → Int → Int → sj_Mem → Option (Int × sj_Mem)
  | 0 => fun _ _ _ _ _ _ => none
  | n + 1 => fun a0 x1 x2 x3 x4 s => f_X9_tableK_7_b N (f_X9_tableK_7 N n) a0 x1 x2 x3 x4 s
def f_X9_tableK (N : Nat) (a0 : Nat) (x1 : Int) (x2 : Int) (s : sj_Mem) : Option (Int × sj_Mem) :=
  f_X9_tableK_7 N N a0 x1 x2 0 20001 s
def f_X9_findsWorst_119_b (N : Nat) (k119 : Nat → Int → Int → sj_Mem → Option (Int × sj_Mem)) (a0 : Nat) (x6 : Int) (x8 : Int) (s : sj_Mem) : Option (Int × sj_Mem) :=
  e_ile x8 x6 (
    e_z 1 s) (
    e_gR 9 16 a0 s fun r1 =>
    e_gR 9 23 a0 s fun r2 =>
    e_gR 9 16 a0 s fun r3 =>
    e_nn r3 fun a4 =>
    e_aI 100 a4 x8 s fun v5 =>
    e_nn r2 fun a6 =>
    e_aI 100 a6 ((101 * x8) + v5) s fun v7 =>
    e_nn r1 fun a8 =>
    e_uI 100 a8 (x8 - 1) v7 s fun s9 =>
    e_lt (x8 + (-1)) fun v10 =>
    k119 a0 x6 v10 s9)
def f_X9_findsWorst_119 (N : Nat) : Nat → Nat → Int → Int → sj_Mem → Option (Int × sj_Mem)
  | 0 => fun _ _ _ _ => none
  | n + 1 => fun a0 x6 x8 s => f_X9_findsWorst_119_b N (f_X9_findsWorst_119 N n) a0 x6 x8 s
def f_X9_findsWorst_63_b (N : Nat) (k63 : Nat → Int → Int → Int → Int → sj_Mem → Option (Int × sj_Mem)) (a0 : Nat) (x2 : Int) (x4 : Int) (x6 : Int) (x7 : Int) (s : sj_Mem) : Option (Int × sj_Mem) :=
  e_gR 9 24 a0 s fun r1 =>
  e_nn r1 fun a2 =>
  e_aI 101 a2 x7 s fun v3 =>
  e_leq v3 x4 (
    e_pI 9 13 a0 x6 s fun s4 =>
    e_pI 9 14 a0 x7 s4 fun s5 =>
    e_pZ 9 15 a0 x2 s5 fun s6 =>
    e_gR 9 16 a0 s6 fun r7 =>
    e_gR 9 0 a0 s6 fun r8 =>
    e_nn r8 fun a9 =>
    e_aI 100 a9 (3 + x7) s6 fun v10 =>
    e_nn r7 fun a11 =>
    e_uI 100 a11 x7 v10 s6 fun s12 =>
    f_X9_findsWorst_119 N N a0 x6 x7 s12) (
    e_lt (x7 + 1) fun v13 =>
    k63 a0 x2 x4 x6 v13 s)
def f_X9_findsWorst_63 (N : Nat) : Nat → Nat → Int → Int → Int → Int → sj_Mem → Option (Int × sj_Mem)
  | 0 => fun _ _ _ _ _ _ => none
  | n + 1 => fun a0 x2 x4 x6 x7 s => f_X9_findsWorst_63_b N (f_X9_findsWorst_63 N n) a0 x2 x4 x6 x7 s
def f_X9_findsWorst_25_b (N : Nat) (k25 : Nat → Int → Int → Int → Int → Int → sj_Mem → Option (Int × sj_Mem)) (a0 : Nat) (x1 : Int) (x2 : Int) (x3 : Int) (x4 : Int) (x6 : Int) (s : sj_Mem) : Option (Int × sj_Mem) :=
  e_gR 9 0 a0 s fun r1 =>
  e_nn r1 fun a2 =>
  e_aI 100 a2 0 s fun v3 =>
  e_ile v3 x6 (
    e_z 0 s) (
    e_cv 9 a0 s (f_X9_goes N a0 x6 0 x1 x2 (x3 + 1) s) fun v5 s4 =>
    e_leq v5 x4 (
      e_lt (x6 + 1) fun v6 =>
      f_X9_findsWorst_63 N N a0 x2 x4 x6 v6 s4) (
      e_lt (x6 + 1) fun v7 =>
      k25 a0 x1 x2 x3 x4 v7 s4))
def f_X9_findsWorst_25 (N : Nat) : Nat → Nat → Int → Int → Int → Int → Int → sj_Mem → Option (Int × sj_Mem)
  | 0 => fun _ _ _ _ _ _ _ => none
  | n + 1 => fun a0 x1 x2 x3 x4 x6 s => f_X9_findsWorst_25_b N (f_X9_findsWorst_25 N n) a0 x1 x2 x3 x4 x6 s
def f_X9_findsWorst (N : Nat) (a0 : Nat) (x1 : Int) (x2 : Int) (x3 : Int) (s : sj_Mem) : Option (Int × sj_Mem) :=
  e_ieq x3 20000 (
    e_z 0 s) (
    e_cv 9 a0 s (f_X9_goes N a0 0 1 x1 x2 (x3 + 1) s) fun v2 s1 =>
    f_X9_findsWorst_25 N N a0 x1 x2 x3 v2 0 s1)
def f_X9_tables_40 (N : Nat) (a0 : Nat) (x1 : Int) (x2 : Int) (x3 : Int) (s : sj_Mem) : Option (Int × sj_Mem) :=
  e_cv 9 a0 s (f_X9_tableK N a0 x1 x2 s) fun v2 s1 =>
  e_ieq x3 0 (
    some (v2, s1)) (
    e_cv 9 a0 s1 (f_X9_findsWorst N a0 x1 x2 v2 s1) fun v4 s3 =>
    e_ieq v4 0 (
      some ((-1), s3)) (
      e_ieq x3 1 (
        e_gI 9 13 a0 s3 fun v16 =>
        some (v16, s3)) (
        e_ieq x3 2 (
          e_gI 9 14 a0 s3 fun v15 =>
          some (v15, s3)) (
          e_wid (x3 - 10) fun v5 =>
          e_gI 9 13 a0 s3 fun v6 =>
          e_wid v6 fun v7 =>
          e_gI 9 14 a0 s3 fun v8 =>
          e_wid v8 fun v9 =>
          e_cl (f_X9_isIn N v5 v7 v9 s3) fun v11 s10 =>
          e_ieq v11 0 (
            some ((-1), s10)) (
            e_gR 9 16 a0 s10 fun r12 =>
            e_nn r12 fun a13 =>
            e_aI 100 a13 (x3 - 10) s10 fun v14 =>
            some (v14, s10))))))
def f_X9_tables (N : Nat) (a0 : Nat) (x1 : Int) (x2 : Int) (x3 : Int) (s : sj_Mem) : Option (Int × sj_Mem) :=
  e_wid x1 fun v1 =>
  e_cl (f_X9_isIn N v1 1 12 s) fun v3 s2 =>
  e_ieq v3 0 (
    some ((-1), s2)) (
    e_wid x3 fun v4 =>
    e_cl (f_X9_isIn N v4 0 2 s2) fun v6 s5 =>
    e_ieq v6 0 (
      e_wid x3 fun v7 =>
      e_cl (f_X9_isIn N v7 10 50 s5) fun v9 s8 =>
      e_ieq v9 0 (
        some ((-1), s8)) (
        f_X9_tables_40 N a0 x1 x2 x3 s8)) (
      f_X9_tables_40 N a0 x1 x2 x3 s5))
def f_X9_boxes (N : Nat) (a0 : Nat) (x1 : Int) (x2 : Int) (x3 : Int) (x4 : Int) (x5 : Int) (x6 : Int) (s : sj_Mem) : Option (Int × sj_Mem) :=
  e_cl (f_X9_isCircle N x1 x2 x3 s) fun v2 s1 =>
  e_ieq v2 0 (
    some ((-100), s1)) (
    e_wid x4 fun v3 =>
    e_cl (f_X9_isIn N v3 1 64 s1) fun v5 s4 =>
    e_ieq v5 0 (
      some ((-100), s4)) (
      e_wid x6 fun v6 =>
      e_cl (f_X9_isIn N v6 0 4 s4) fun v8 s7 =>
      e_ieq v8 0 (
        some ((-100), s7)) (
        e_cv 9 a0 s7 (f_X9_searches N a0 x1 x2 x3 x4 x5 s7) fun v10 s9 =>
        e_ieq v10 ((-1)) (
          some ((-100), s9)) (
          e_ieq x6 0 (
            e_gI 9 20 a0 s9 fun v15 =>
            some (v15, s9)) (
            e_ieq x6 1 (
              e_gI 9 17 a0 s9 fun v14 =>
              some (v14, s9)) (
              e_ieq x6 2 (
                e_gI 9 18 a0 s9 fun v13 =>
                some (v13, s9)) (
                e_ieq x6 3 (
                  e_gI 9 19 a0 s9 fun v12 =>
                  some (v12, s9)) (
                  e_gI 9 21 a0 s9 fun v11 =>
                  some (v11, s9)))))))))
def f_X9_tried (N : Nat) (a0 : Nat) (x1 : Int) (x2 : Int) (x3 : Int) (x4 : Int) (s : sj_Mem) : Option (Int × sj_Mem) :=
  e_cv 9 a0 s (f_X9_factorBy N a0 x1 x2 x3 x4 s) fun v2 s1 =>
  some (v2, s1)
def f_X9_pull_91 (N : Nat) (k45 : Nat → Int → Int → Int → sj_Mem → Option (Int × sj_Mem)) (a0 : Nat) (x1 : Int) (x2 : Int) (x3 : Int) (s : sj_Mem) : Option (Int × sj_Mem) :=
  k45 a0 x1 x2 x3 s
def f_X9_pull_45_b (N : Nat) (k45 : Nat → Int → Int → Int → sj_Mem → Option (Int × sj_Mem)) (a0 : Nat) (x1 : Int) (x2 : Int) (x3 : Int) (s : sj_Mem) : Option (Int × sj_Mem) :=
  e_ile (x3 - x2) 1 (
    some (x3, s)) (
    e_dI (x2 + x3) 2 fun v1 =>
    e_gR 9 0 a0 s fun r2 =>
    e_nn r2 fun a3 =>
    e_aI 100 a3 1 s fun v4 =>
    e_wid v4 fun v5 =>
    e_wid v1 fun v6 =>
    e_cv 9 a0 s (f_X9_standsWith N a0 x1 ((2000 * v5) * v6) s) fun v8 s7 =>
    e_ieq v8 0 (
      f_X9_pull_91 N k45 a0 x1 v1 x3 s7) (
      f_X9_pull_91 N k45 a0 x1 x2 v1 s7))
def f_X9_pull_45 (N : Nat) : Nat → Nat → Int → Int → Int → sj_Mem → Option (Int × sj_Mem)
  | 0 => fun _ _ _ _ _ => none
  | n + 1 => fun a0 x1 x2 x3 s => f_X9_pull_45_b N (f_X9_pull_45 N n) a0 x1 x2 x3 s
def f_X9_pull (N : Nat) (a0 : Nat) (x1 : Int) (s : sj_Mem) : Option (Int × sj_Mem) :=
  e_cl (f_X9_isK N x1 s) fun v2 s1 =>
  e_ieq v2 0 (
    some ((-1), s1)) (
    e_cv 9 a0 s1 (f_X9_takesSlip N a0 s1) fun v4 s3 =>
    e_ieq v4 0 (
      some ((-1), s3)) (
      e_gR 9 0 a0 s3 fun r5 =>
      e_nn r5 fun a6 =>
      e_aI 100 a6 1 s3 fun v7 =>
      e_wid v7 fun v8 =>
      e_cv 9 a0 s3 (f_X9_standsWith N a0 x1 ((2000 * v8) * 20000) s3) fun v10 s9 =>
      e_ieq v10 0 (
        some ((-1), s9)) (
        f_X9_pull_45 N N a0 x1 ((-1)) 20000 s9)))
def f_X9_needs_42_b (N : Nat) (k22 : Nat → Int → Int → sj_Mem → Option (Int × sj_Mem)) (k42 : Nat → Int → Int → Int → sj_Mem → Option (Int × sj_Mem)) (a0 : Nat) (x1 : Int) (x2 : Int) (x3 : Int) (s : sj_Mem) : Option (Int × sj_Mem) :=
  e_ile 4 x3 (
    k22 a0 x1 x2 s) (
    e_gR 9 0 a0 s fun r1 =>
    e_gR 9 1 a0 s fun r2 =>
    e_nn r2 fun a3 =>
    e_aI 100 a3 ((290 + (3 * x3)) + 1) s fun v4 =>
    e_nn r1 fun a5 =>
    e_uI 100 a5 ((290 + (3 * x3)) + 1) (v4 + x2) s fun s6 =>
    e_lt (x3 + 1) fun v7 =>
    k42 a0 x1 x2 v7 s6)
def f_X9_needs_42 (N : Nat) (k22 : Nat → Int → Int → sj_Mem → Option (Int × sj_Mem)) : Nat → Nat → Int → Int → Int → sj_Mem → Option (Int × sj_Mem)
  | 0 => fun _ _ _ _ _ => none
  | n + 1 => fun a0 x1 x2 x3 s => f_X9_needs_42_b N k22 (f_X9_needs_42 N k22 n) a0 x1 x2 x3 s
def f_X9_needs_86 (N : Nat) (a0 : Nat) (x2 : Int) (s : sj_Mem) : Option (Int × sj_Mem) :=
  e_cv 9 a0 s (f_X9_comesBack N a0 s) fun _u s1 =>
  e_ile x2 500 (
    some (x2, s1)) (
    some ((-1), s1))
def f_X9_needs_22_b (N : Nat) (k22 : Nat → Int → Int → sj_Mem → Option (Int × sj_Mem)) (a0 : Nat) (x1 : Int) (x2 : Int) (s : sj_Mem) : Option (Int × sj_Mem) :=
  e_ilt 500 x2 (
    f_X9_needs_86 N a0 x2 s) (
    e_cv 9 a0 s (f_X9_isStanding N a0 x1 s) fun v2 s1 =>
    e_ieq v2 0 (
      e_lt (x2 + 1) fun v3 =>
      f_X9_needs_42 N k22 N a0 x1 v3 0 s1) (
      f_X9_needs_86 N a0 x2 s1))
def f_X9_needs_22 (N : Nat) : Nat → Nat → Int → Int → sj_Mem → Option (Int × sj_Mem)
  | 0 => fun _ _ _ _ => none
  | n + 1 => fun a0 x1 x2 s => f_X9_needs_22_b N (f_X9_needs_22 N n) a0 x1 x2 s
def f_X9_needs (N : Nat) (a0 : Nat) (x1 : Int) (s : sj_Mem) : Option (Int × sj_Mem) :=
  e_cl (f_X9_isK N x1 s) fun v2 s1 =>
  e_ieq v2 0 (
    some ((-1), s1)) (
    e_cv 9 a0 s1 (f_X9_takesSlip N a0 s1) fun v4 s3 =>
    e_ieq v4 0 (
      some ((-1), s3)) (
      e_cv 9 a0 s3 (f_X9_laysAside N a0 s3) fun _u s5 =>
      f_X9_needs_22 N N a0 x1 0 s5))
def f_X9_bears_41_b (N : Nat) (k22 : Nat → Int → Int → sj_Mem → Option (Int × sj_Mem)) (k41 : Nat → Int → Int → Int → sj_Mem → Option (Int × sj_Mem)) (a0 : Nat) (x1 : Int) (x2 : Int) (x3 : Int) (s : sj_Mem) : Option (Int × sj_Mem) :=
  e_ile 41 x3 (
    k22 a0 x1 x2 s) (
    e_gR 9 0 a0 s fun r1 =>
    e_gR 9 1 a0 s fun r2 =>
    e_nn r2 fun a3 =>
    e_aI 100 a3 (85 + x3) s fun v4 =>
    e_cl (f_X9_least N 100 (v4 + x2) s) fun v6 s5 =>
    e_nn r1 fun a7 =>
    e_uI 100 a7 (85 + x3) v6 s5 fun s8 =>
    e_lt (x3 + 1) fun v9 =>
    k41 a0 x1 x2 v9 s8)
def f_X9_bears_41 (N : Nat) (k22 : Nat → Int → Int → sj_Mem → Option (Int × sj_Mem)) : Nat → Nat → Int → Int → Int → sj_Mem → Option (Int × sj_Mem)
  | 0 => fun _ _ _ _ _ => none
  | n + 1 => fun a0 x1 x2 x3 s => f_X9_bears_41_b N k22 (f_X9_bears_41 N k22 n) a0 x1 x2 x3 s
def f_X9_bears_81 (N : Nat) (a0 : Nat) (x2 : Int) (s : sj_Mem) : Option (Int × sj_Mem) :=
  e_cv 9 a0 s (f_X9_comesBack N a0 s) fun _u s1 =>
  some (x2 - 1, s1)
def f_X9_bears_22_b (N : Nat) (k22 : Nat → Int → Int → sj_Mem → Option (Int × sj_Mem)) (a0 : Nat) (x1 : Int) (x2 : Int) (s : sj_Mem) : Option (Int × sj_Mem) :=
  e_ilt 100 x2 (
    f_X9_bears_81 N a0 x2 s) (
    e_cv 9 a0 s (f_X9_isStanding N a0 x1 s) fun v2 s1 =>
    e_ieq v2 0 (
      f_X9_bears_81 N a0 x2 s1) (
      e_lt (x2 + 1) fun v3 =>
      f_X9_bears_41 N k22 N a0 x1 v3 0 s1))
def f_X9_bears_22 (N : Nat) : Nat → Nat → Int → Int → sj_Mem → Option (Int × sj_Mem)
  | 0 => fun _ _ _ _ => none
  | n + 1 => fun a0 x1 x2 s => f_X9_bears_22_b N (f_X9_bears_22 N n) a0 x1 x2 s
def f_X9_bears (N : Nat) (a0 : Nat) (x1 : Int) (s : sj_Mem) : Option (Int × sj_Mem) :=
  e_cl (f_X9_isK N x1 s) fun v2 s1 =>
  e_ieq v2 0 (
    some ((-1), s1)) (
    e_cv 9 a0 s1 (f_X9_takesSlip N a0 s1) fun v4 s3 =>
    e_ieq v4 0 (
      some ((-1), s3)) (
      e_cv 9 a0 s3 (f_X9_laysAside N a0 s3) fun _u s5 =>
      f_X9_bears_22 N N a0 x1 0 s5))
def f_X9_dry_15_b (N : Nat) (k15 : Nat → Int → sj_Mem → Option (Int × sj_Mem)) (a0 : Nat) (x1 : Int) (s : sj_Mem) : Option (Int × sj_Mem) :=
  e_ile 41 x1 (
    e_cv 9 a0 s (f_X9_factorOf N a0 s) fun v2 s1 =>
    e_cv 9 a0 s1 (f_X9_comesBack N a0 s1) fun _u s3 =>
    some (v2, s3)) (
    e_gR 9 0 a0 s fun r4 =>
    e_nn r4 fun a5 =>
    e_uI 100 a5 (85 + x1) 0 s fun s6 =>
    e_lt (x1 + 1) fun v7 =>
    k15 a0 v7 s6)
def f_X9_dry_15 (N : Nat) : Nat → Nat → Int → sj_Mem → Option (Int × sj_Mem)
  | 0 => fun _ _ _ => none
  | n + 1 => fun a0 x1 s => f_X9_dry_15_b N (f_X9_dry_15 N n) a0 x1 s
def f_X9_dry (N : Nat) (a0 : Nat) (s : sj_Mem) : Option (Int × sj_Mem) :=
  e_cv 9 a0 s (f_X9_takesSlip N a0 s) fun v2 s1 =>
  e_ieq v2 0 (
    some ((-1), s1)) (
    e_cv 9 a0 s1 (f_X9_laysAside N a0 s1) fun _u s3 =>
    f_X9_dry_15 N N a0 0 s3)
def f_X9_sum_96 (N : Nat) (k41 : Nat → Int → Int → Int → sj_Mem → Option (Int × sj_Mem)) (a0 : Nat) (x1 : Int) (x4 : Int) (y0 : Int) (y1 : Int) (s : sj_Mem) : Option (Int × sj_Mem) :=
  e_lt (y1 + y0) fun v1 =>
  e_lt (x4 + 1) fun v2 =>
  k41 a0 x1 v1 v2 s
def f_X9_sum_41_b (N : Nat) (k41 : Nat → Int → Int → Int → sj_Mem → Option (Int × sj_Mem)) (a0 : Nat) (x1 : Int) (x2 : Int) (x4 : Int) (s : sj_Mem) : Option (Int × sj_Mem) :=
  e_gI 9 14 a0 s fun v1 =>
  e_ile v1 x4 (
    some (x2, s)) (
    e_cv 9 a0 s (f_X9_laysAt N a0 x4 s) fun _u s2 =>
    e_ieq x1 0 (
      e_gI 9 12 a0 s2 fun v6 =>
      f_X9_sum_96 N k41 a0 x1 x4 v6 x2 s2) (
      e_ieq x1 2 (
        e_gI 9 8 a0 s2 fun v5 =>
        f_X9_sum_96 N k41 a0 x1 x4 v5 x2 s2) (
        e_ieq x1 3 (
          e_gI 9 9 a0 s2 fun v4 =>
          f_X9_sum_96 N k41 a0 x1 x4 v4 x2 s2) (
          e_gI 9 11 a0 s2 fun v3 =>
          f_X9_sum_96 N k41 a0 x1 x4 v3 x2 s2))))
def f_X9_sum_41 (N : Nat) : Nat → Nat → Int → Int → Int → sj_Mem → Option (Int × sj_Mem)
  | 0 => fun _ _ _ _ _ => none
  | n + 1 => fun a0 x1 x2 x4 s => f_X9_sum_41_b N (f_X9_sum_41 N n) a0 x1 x2 x4 s
def f_X9_sum (N : Nat) (a0 : Nat) (x1 : Int) (s : sj_Mem) : Option (Int × sj_Mem) :=
  e_cv 9 a0 s (f_X9_takesSlip N a0 s) fun v2 s1 =>
  e_ieq v2 0 (
    some ((-10000000000000), s1)) (
    e_wid x1 fun v3 =>
    e_cl (f_X9_isIn N v3 0 4 s1) fun v5 s4 =>
    e_ieq v5 0 (
      some ((-10000000000000), s4)) (
      e_ieq x1 1 (
        e_cv 9 a0 s4 (f_X9_pulls N a0 s4) fun v8 s7 =>
        some (v8, s7)) (
        e_gI 9 13 a0 s4 fun v6 =>
        f_X9_sum_41 N N a0 x1 0 v6 s4)))
def f_X9_stands (N : Nat) (a0 : Nat) (x1 : Int) (s : sj_Mem) : Option (Int × sj_Mem) :=
  e_cl (f_X9_isK N x1 s) fun v2 s1 =>
  e_ieq v2 0 (
    some ((-1), s1)) (
    e_cv 9 a0 s1 (f_X9_takesSlip N a0 s1) fun v4 s3 =>
    e_ieq v4 0 (
      some ((-1), s3)) (
      e_cv 9 a0 s3 (f_X9_isStanding N a0 x1 s3) fun v6 s5 =>
      e_ieq v6 0 (
        some (0, s5)) (
        some (1, s5))))
def f_X9_rubs (N : Nat) (a0 : Nat) (x1 : Int) (x2 : Int) (s : sj_Mem) : Option (Int × sj_Mem) :=
  e_cv 9 a0 s (f_X9_isSlice N a0 x1 s) fun v2 s1 =>
  e_ieq v2 0 (
    some ((-10), s1)) (
    e_cl (f_X9_isK N x2 s1) fun v4 s3 =>
    e_ieq v4 0 (
      some ((-10), s3)) (
      e_gI 9 13 a0 s3 fun v5 =>
      e_cv 9 a0 s3 (f_X9_laysAt N a0 (v5 + x1) s3) fun _u s6 =>
      e_cv 9 a0 s6 (f_X9_rubsOf N a0 x2 s6) fun v8 s7 =>
      some (v8, s7)))
def f_X9_slice (N : Nat) (a0 : Nat) (x1 : Int) (x2 : Int) (s : sj_Mem) : Option (Int × sj_Mem) :=
  e_cv 9 a0 s (f_X9_isSlice N a0 x1 s) fun v2 s1 =>
  e_ieq v2 0 (
    some ((-10000000000000), s1)) (
    e_gI 9 13 a0 s1 fun v3 =>
    e_cv 9 a0 s1 (f_X9_laysAt N a0 (v3 + x1) s1) fun _u s4 =>
    e_sw x2 (
    if x2 = 0 then (
      e_gI 9 13 a0 s4 fun v5 =>
      e_wid (v5 + x1) fun v6 =>
      some (v6, s4)) else (
    if x2 = 1 then (
      e_gI 9 6 a0 s4 fun v7 =>
      e_wid v7 fun v8 =>
      some (v8, s4)) else (
    if x2 = 2 then (
      e_gI 9 8 a0 s4 fun v9 =>
      some (v9, s4)) else (
    if x2 = 3 then (
      e_gI 9 9 a0 s4 fun v10 =>
      some (v10, s4)) else (
    if x2 = 4 then (
      e_gI 9 10 a0 s4 fun v11 =>
      some (v11, s4)) else (
    if x2 = 5 then (
      e_gI 9 7 a0 s4 fun v12 =>
      e_wid v12 fun v13 =>
      some (v13, s4)) else (
    if x2 = 6 then (
      e_gI 9 11 a0 s4 fun v14 =>
      some (v14, s4)) else (
    if x2 = 7 then (
      e_gI 9 12 a0 s4 fun v15 =>
      some (v15, s4)) else (
      some ((-10000000000000), s4)))))))))))
def f_X9_anchored (N : Nat) (a0 : Nat) (x1 : Int) (x2 : Int) (s : sj_Mem) : Option (Int × sj_Mem) :=
  e_cv 9 a0 s (f_X9_isAnchor N a0 x1 s) fun v2 s1 =>
  e_ieq v2 0 (
    some ((-1), s1)) (
    e_wid x2 fun v3 =>
    e_cl (f_X9_isIn N v3 0 3 s1) fun v5 s4 =>
    e_ieq v5 0 (
      some ((-1), s4)) (
      e_ile 3 x2 (
        e_cv 9 a0 s4 (f_X9_takesSlip N a0 s4) fun v7 s6 =>
        e_ieq v7 0 (
          some (0, s6)) (
          e_cv 9 a0 s6 (f_X9_isCounting N a0 x1 s6) fun v9 s8 =>
          e_ieq v9 0 (
            some (0, s8)) (
            some (1, s8)))) (
        e_gR 9 0 a0 s4 fun r10 =>
        e_nn r10 fun a11 =>
        e_aI 100 a11 ((302 + (3 * x1)) + x2) s4 fun v12 =>
        some (v12, s4))))
def f_X9_layer (N : Nat) (a0 : Nat) (x1 : Int) (x2 : Int) (s : sj_Mem) : Option (Int × sj_Mem) :=
  e_wid x1 fun v1 =>
  e_cl (f_X9_isIn N v1 0 3 s) fun v3 s2 =>
  e_ieq v3 0 (
    some ((-1), s2)) (
    e_wid x2 fun v4 =>
    e_cl (f_X9_isIn N v4 0 2 s2) fun v6 s5 =>
    e_ieq v6 0 (
      some ((-1), s5)) (
      e_gR 9 0 a0 s5 fun r7 =>
      e_nn r7 fun a8 =>
      e_aI 100 a8 ((290 + (3 * x1)) + x2) s5 fun v9 =>
      some (v9, s5)))
def f_X9_column (N : Nat) (a0 : Nat) (x1 : Int) (x2 : Int) (s : sj_Mem) : Option (Int × sj_Mem) :=
  e_cv 9 a0 s (f_X9_isColumn N a0 x1 s) fun v2 s1 =>
  e_ieq v2 0 (
    some ((-10), s1)) (
    e_sw x2 (
    if x2 = 0 then (
      e_gR 9 0 a0 s1 fun r3 =>
      e_nn r3 fun a4 =>
      e_aI 100 a4 (3 + x1) s1 fun v5 =>
      some (v5, s1)) else (
    if x2 = 1 then (
      e_gR 9 0 a0 s1 fun r6 =>
      e_nn r6 fun a7 =>
      e_aI 100 a7 (44 + x1) s1 fun v8 =>
      some (v8, s1)) else (
    if x2 = 2 then (
      e_cv 9 a0 s1 (f_X9_water N a0 x1 s1) fun v10 s9 =>
      some (v10, s9)) else (
    if x2 = 3 then (
      e_gR 9 0 a0 s1 fun r11 =>
      e_nn r11 fun a12 =>
      e_aI 100 a12 (126 + x1) s1 fun v13 =>
      some (v13, s1)) else (
    if x2 = 4 then (
      e_cv 9 a0 s1 (f_X9_top N a0 (x2 - 4) x1 s1) fun v15 s14 =>
      some (v15, s14)) else (
    if x2 = 5 then (
      e_cv 9 a0 s1 (f_X9_top N a0 (x2 - 4) x1 s1) fun v17 s16 =>
      some (v17, s16)) else (
    if x2 = 6 then (
      e_cv 9 a0 s1 (f_X9_top N a0 (x2 - 4) x1 s1) fun v19 s18 =>
      some (v19, s18)) else (
    if x2 = 7 then (
      e_cv 9 a0 s1 (f_X9_top N a0 (x2 - 4) x1 s1) fun v21 s20 =>
      some (v21, s20)) else (
    if x2 = 8 then (
      e_cv 9 a0 s1 (f_X9_hasSlip N a0 s1) fun v23 s22 =>
      e_ieq v23 0 (
        some ((-1), s22)) (
        e_wid x1 fun v24 =>
        e_gR 9 0 a0 s22 fun r25 =>
        e_nn r25 fun a26 =>
        e_aI 100 a26 320 s22 fun v27 =>
        e_wid v27 fun v28 =>
        e_gR 9 0 a0 s22 fun r29 =>
        e_nn r29 fun a30 =>
        e_aI 100 a30 321 s22 fun v31 =>
        e_wid v31 fun v32 =>
        e_cl (f_X9_isIn N v24 v28 v32 s22) fun v34 s33 =>
        e_ieq v34 0 (
          some ((-1), s33)) (
          e_gR 9 0 a0 s33 fun r35 =>
          e_nn r35 fun a36 =>
          e_aI 100 a36 (323 + x1) s33 fun v37 =>
          some (v37, s33)))) else (
      some ((-10), s1))))))))))))
def f_X9_undo_21_b (N : Nat) (k21 : Nat → Int → sj_Mem → Option (Int × sj_Mem)) (a0 : Nat) (x1 : Int) (s : sj_Mem) : Option (Int × sj_Mem) :=
  e_ile 364 x1 (
    e_gI 9 4 a0 s fun v1 =>
    some (v1, s)) (
    e_gR 9 0 a0 s fun r2 =>
    e_gR 9 3 a0 s fun r3 =>
    e_gI 9 4 a0 s fun v4 =>
    e_nn r3 fun a5 =>
    e_aI 100 a5 ((364 * v4) + x1) s fun v6 =>
    e_nn r2 fun a7 =>
    e_uI 100 a7 x1 v6 s fun s8 =>
    e_lt (x1 + 1) fun v9 =>
    k21 a0 v9 s8)
def f_X9_undo_21 (N : Nat) : Nat → Nat → Int → sj_Mem → Option (Int × sj_Mem)
  | 0 => fun _ _ _ => none
  | n + 1 => fun a0 x1 s => f_X9_undo_21_b N (f_X9_undo_21 N n) a0 x1 s
def f_X9_undo (N : Nat) (a0 : Nat) (s : sj_Mem) : Option (Int × sj_Mem) :=
  e_gI 9 4 a0 s fun v1 =>
  e_ieq v1 0 (
    some ((-1), s)) (
    e_gI 9 4 a0 s fun v2 =>
    e_pI 9 4 a0 (v2 - 1) s fun s3 =>
    f_X9_undo_21 N N a0 0 s3)
def f_X9_keepsSlip_46_b (N : Nat) (k46 : Nat → Int → sj_Mem → Option (Int × sj_Mem)) (a0 : Nat) (x1 : Int) (s : sj_Mem) : Option (Int × sj_Mem) :=
  e_ile 41 x1 (
    e_gI 9 14 a0 s fun v1 =>
    e_gI 9 13 a0 s fun v2 =>
    some (v1 - v2, s)) (
    e_gR 9 0 a0 s fun r3 =>
    e_gR 9 16 a0 s fun r4 =>
    e_nn r4 fun a5 =>
    e_aI 100 a5 x1 s fun v6 =>
    e_nn r3 fun a7 =>
    e_uI 100 a7 (323 + x1) v6 s fun s8 =>
    e_lt (x1 + 1) fun v9 =>
    k46 a0 v9 s8)
def f_X9_keepsSlip_46 (N : Nat) : Nat → Nat → Int → sj_Mem → Option (Int × sj_Mem)
  | 0 => fun _ _ _ => none
  | n + 1 => fun a0 x1 s => f_X9_keepsSlip_46_b N (f_X9_keepsSlip_46 N n) a0 x1 s
def f_X9_keepsSlip_43 (N : Nat) (a0 : Nat) (y0 : Int) (y1 : Int) (y2 : Option Nat) (s : sj_Mem) : Option (Int × sj_Mem) :=
  e_nn y2 fun a1 =>
  e_uI 100 a1 y1 y0 s fun s2 =>
  f_X9_keepsSlip_46 N N a0 0 s2
def f_X9_keepsSlip (N : Nat) (a0 : Nat) (s : sj_Mem) : Option (Int × sj_Mem) :=
  e_gR 9 0 a0 s fun r1 =>
  e_gI 9 13 a0 s fun v2 =>
  e_nn r1 fun a3 =>
  e_uI 100 a3 320 v2 s fun s4 =>
  e_gR 9 0 a0 s4 fun r5 =>
  e_gI 9 14 a0 s4 fun v6 =>
  e_nn r5 fun a7 =>
  e_uI 100 a7 321 v6 s4 fun s8 =>
  e_gR 9 0 a0 s8 fun r9 =>
  e_gI 9 15 a0 s8 fun v10 =>
  e_ieq v10 0 (
    f_X9_keepsSlip_43 N a0 0 322 r9 s8) (
    f_X9_keepsSlip_43 N a0 1 322 r9 s8)
def f_X9_worst (N : Nat) (a0 : Nat) (x1 : Int) (x2 : Int) (s : sj_Mem) : Option (Int × sj_Mem) :=
  e_wid x1 fun v1 =>
  e_cl (f_X9_isIn N v1 1 12 s) fun v3 s2 =>
  e_ieq v3 0 (
    some ((-1), s2)) (
    e_cv 9 a0 s2 (f_X9_tableK N a0 x1 x2 s2) fun v5 s4 =>
    e_cv 9 a0 s4 (f_X9_findsWorst N a0 x1 x2 v5 s4) fun v7 s6 =>
    e_ieq v7 0 (
      some ((-1), s6)) (
      e_cv 9 a0 s6 (f_X9_keepsSlip N a0 s6) fun v9 s8 =>
      some (v9, s8)))
def f_X9_pointsCan_102_b (N : Nat) (k67 : Nat → Int → Int → sj_Mem → Option (Int × sj_Mem)) (k102 : Nat → Int → Int → Int → Int → Int → sj_Mem → Option (Int × sj_Mem)) (a0 : Nat) (x1 : Int) (x2 : Int) (x3 : Int) (x4 : Int) (x5 : Int) (s : sj_Mem) : Option (Int × sj_Mem) :=
  e_ilt x4 x5 (
    e_lt (x2 + 1) fun v1 =>
    k67 a0 x1 v1 s) (
    e_gR 9 16 a0 s fun r2 =>
    e_gR 9 0 a0 s fun r3 =>
    e_nn r3 fun a4 =>
    e_aI 100 a4 (377 + x2) s fun v5 =>
    e_gR 9 0 a0 s fun r6 =>
    e_nn r6 fun a7 =>
    e_aI 100 a7 ((377 + x2) + 1) s fun v8 =>
    e_gR 9 0 a0 s fun r9 =>
    e_nn r9 fun a10 =>
    e_aI 100 a10 (377 + x2) s fun v11 =>
    e_wid (v8 - v11) fun v12 =>
    e_wid (x5 - x3) fun v13 =>
    e_wid (x4 - x3) fun v14 =>
    e_cl (f_X9_downwards N (v12 * v13) v14 s) fun v16 s15 =>
    e_nn r2 fun a17 =>
    e_uI 100 a17 x5 (v5 + v16) s15 fun s18 =>
    e_lt (x5 + 1) fun v19 =>
    k102 a0 x1 x2 x3 x4 v19 s18)
def f_X9_pointsCan_102 (N : Nat) (k67 : Nat → Int → Int → sj_Mem → Option (Int × sj_Mem)) : Nat → Nat → Int → Int → Int → Int → Int → sj_Mem → Option (Int × sj_Mem)
  | 0 => fun _ _ _ _ _ _ _ => none
  | n + 1 => fun a0 x1 x2 x3 x4 x5 s => f_X9_pointsCan_102_b N k67 (f_X9_pointsCan_102 N k67 n) a0 x1 x2 x3 x4 x5 s
def f_X9_pointsCan_225_b (N : Nat) (k225 : Nat → Int → sj_Mem → Option (Int × sj_Mem)) (a0 : Nat) (x2 : Int) (s : sj_Mem) : Option (Int × sj_Mem) :=
  e_gI 9 14 a0 s fun v1 =>
  e_ile v1 x2 (
    e_z 1 s) (
    e_gR 9 16 a0 s fun r2 =>
    e_nn r2 fun a3 =>
    e_aI 100 a3 x2 s fun v4 =>
    e_gR 9 0 a0 s fun r5 =>
    e_nn r5 fun a6 =>
    e_aI 100 a6 (3 + x2) s fun v7 =>
    e_ile v7 v4 (
      e_z 0 s) (
      e_gR 9 16 a0 s fun r8 =>
      e_nn r8 fun a9 =>
      e_aI 100 a9 x2 s fun v10 =>
      e_gR 9 0 a0 s fun r11 =>
      e_nn r11 fun a12 =>
      e_aI 100 a12 (44 + x2) s fun v13 =>
      e_ile v13 v10 (
        e_lt (x2 + 1) fun v14 =>
        k225 a0 v14 s) (
        e_z 0 s)))
def f_X9_pointsCan_225 (N : Nat) : Nat → Nat → Int → sj_Mem → Option (Int × sj_Mem)
  | 0 => fun _ _ _ => none
  | n + 1 => fun a0 x2 s => f_X9_pointsCan_225_b N (f_X9_pointsCan_225 N n) a0 x2 s
def f_X9_pointsCan_67_b (N : Nat) (k67 : Nat → Int → Int → sj_Mem → Option (Int × sj_Mem)) (a0 : Nat) (x1 : Int) (x2 : Int) (s : sj_Mem) : Option (Int × sj_Mem) :=
  e_ile x1 (x2 + 1) (
    e_gR 9 16 a0 s fun r1 =>
    e_gI 9 13 a0 s fun v2 =>
    e_gR 9 0 a0 s fun r3 =>
    e_gI 9 13 a0 s fun v4 =>
    e_nn r3 fun a5 =>
    e_aI 100 a5 (3 + v4) s fun v6 =>
    e_nn r1 fun a7 =>
    e_uI 100 a7 v2 v6 s fun s8 =>
    e_gR 9 16 a0 s8 fun r9 =>
    e_gI 9 14 a0 s8 fun v10 =>
    e_gR 9 0 a0 s8 fun r11 =>
    e_gI 9 14 a0 s8 fun v12 =>
    e_nn r11 fun a13 =>
    e_aI 100 a13 (3 + v12) s8 fun v14 =>
    e_nn r9 fun a15 =>
    e_uI 100 a15 v10 v14 s8 fun s16 =>
    e_gI 9 13 a0 s16 fun v17 =>
    e_lt (v17 + 1) fun v18 =>
    f_X9_pointsCan_225 N N a0 v18 s16) (
    e_gR 9 0 a0 s fun r19 =>
    e_nn r19 fun a20 =>
    e_aI 100 a20 (365 + x2) s fun v21 =>
    e_gR 9 0 a0 s fun r22 =>
    e_nn r22 fun a23 =>
    e_aI 100 a23 ((365 + x2) + 1) s fun v24 =>
    f_X9_pointsCan_102 N k67 N a0 x1 x2 v21 v24 v21 s)
def f_X9_pointsCan_67 (N : Nat) : Nat → Nat → Int → Int → sj_Mem → Option (Int × sj_Mem)
  | 0 => fun _ _ _ _ => none
  | n + 1 => fun a0 x1 x2 s => f_X9_pointsCan_67_b N (f_X9_pointsCan_67 N n) a0 x1 x2 s
def f_X9_pointsCan (N : Nat) (a0 : Nat) (s : sj_Mem) : Option (Int × sj_Mem) :=
  e_gR 9 0 a0 s fun r1 =>
  e_nn r1 fun a2 =>
  e_aI 100 a2 364 s fun v3 =>
  e_ilt v3 2 (
    e_z 0 s) (
    e_gR 9 0 a0 s fun r4 =>
    e_nn r4 fun a5 =>
    e_aI 100 a5 ((365 + v3) - 1) s fun v6 =>
    e_gR 9 0 a0 s fun r7 =>
    e_nn r7 fun a8 =>
    e_aI 100 a8 0 s fun v9 =>
    e_ile v6 v9 (
      e_gR 9 0 a0 s fun r10 =>
      e_nn r10 fun a11 =>
      e_aI 100 a11 365 s fun v12 =>
      e_pI 9 13 a0 v12 s fun s13 =>
      e_gR 9 0 a0 s13 fun r14 =>
      e_nn r14 fun a15 =>
      e_aI 100 a15 ((365 + v3) - 1) s13 fun v16 =>
      e_pI 9 14 a0 v16 s13 fun s17 =>
      f_X9_pointsCan_67 N N a0 v3 0 s17) (
      e_z 0 s))
def f_X9_points (N : Nat) (a0 : Nat) (x1 : Int) (s : sj_Mem) : Option (Int × sj_Mem) :=
  e_cv 9 a0 s (f_X9_pointsCan N a0 s) fun v2 s1 =>
  e_ieq v2 0 (
    some ((-1), s1)) (
    e_pZ 9 15 a0 x1 s1 fun s3 =>
    e_cv 9 a0 s3 (f_X9_keepsSlip N a0 s3) fun v5 s4 =>
    some (v5, s4))
def f_X9_point_73 (N : Nat) (a0 : Nat) (x1 : Int) (x2 : Int) (x3 : Int) (s : sj_Mem) : Option (Int × sj_Mem) :=
  e_gR 9 0 a0 s fun r1 =>
  e_nn r1 fun a2 =>
  e_uI 100 a2 (365 + x3) x1 s fun s3 =>
  e_gR 9 0 a0 s3 fun r4 =>
  e_nn r4 fun a5 =>
  e_uI 100 a5 (377 + x3) x2 s3 fun s6 =>
  e_gR 9 0 a0 s6 fun r7 =>
  e_nn r7 fun a8 =>
  e_aI 100 a8 364 s6 fun v9 =>
  e_uI 100 a8 364 (v9 + 1) s6 fun s10 =>
  e_gR 9 0 a0 s10 fun r11 =>
  e_nn r11 fun a12 =>
  e_aI 100 a12 364 s10 fun v13 =>
  some (v13, s10)
def f_X9_point (N : Nat) (a0 : Nat) (x1 : Int) (x2 : Int) (s : sj_Mem) : Option (Int × sj_Mem) :=
  e_ieq x1 ((-1)) (
    e_gR 9 0 a0 s fun r12 =>
    e_nn r12 fun a13 =>
    e_uI 100 a13 364 0 s fun s14 =>
    some (0, s14)) (
    e_gR 9 0 a0 s fun r1 =>
    e_nn r1 fun a2 =>
    e_aI 100 a2 364 s fun v3 =>
    e_cv 9 a0 s (f_X9_isColumn N a0 x1 s) fun v5 s4 =>
    e_ieq v5 0 (
      some ((-1), s4)) (
      e_wid x2 fun v6 =>
      e_cl (f_X9_isIn N v6 0 100 s4) fun v8 s7 =>
      e_ieq v8 0 (
        some ((-1), s7)) (
        e_ieq v3 12 (
          some ((-1), s7)) (
          e_ile v3 0 (
            f_X9_point_73 N a0 x1 x2 v3 s7) (
            e_gR 9 0 a0 s7 fun r9 =>
            e_nn r9 fun a10 =>
            e_aI 100 a10 ((365 + v3) - 1) s7 fun v11 =>
            e_ilt v11 x1 (
              f_X9_point_73 N a0 x1 x2 v3 s7) (
              some ((-1), s7)))))))
def f_X9_circle (N : Nat) (a0 : Nat) (x1 : Int) (x2 : Int) (x3 : Int) (x4 : Int) (s : sj_Mem) : Option (Int × sj_Mem) :=
  e_cl (f_X9_isCircle N x1 x2 x3 s) fun v2 s1 =>
  e_ieq v2 0 (
    some ((-1), s1)) (
    e_cv 9 a0 s1 (f_X9_cuts N a0 x1 x2 x3 x4 s1) fun v4 s3 =>
    e_ieq v4 0 (
      some ((-1), s3)) (
      e_cv 9 a0 s3 (f_X9_keepsSlip N a0 s3) fun v6 s5 =>
      some (v6, s5)))
def f_X9_fault (N : Nat) (a0 : Nat) (x1 : Int) (s : sj_Mem) : Option (Int × sj_Mem) :=
  e_ieq x1 0 (
    e_gI 9 30 a0 s fun v2 =>
    some (v2, s)) (
    e_ieq x1 1 (
      e_gI 9 31 a0 s fun v1 =>
      some (v1, s)) (
      some ((-1), s)))
def f_X9_blanks_0_b (N : Nat) (k0 : Nat → sj_Mem → Option (Unit × sj_Mem)) (a0 : Nat) (s : sj_Mem) : Option (Unit × sj_Mem) :=
  e_gI 9 29 a0 s fun v1 =>
  e_gI 9 28 a0 s fun v2 =>
  e_ile v2 v1 (
    some ((), s)) (
    e_gR 9 27 a0 s fun r3 =>
    e_gI 9 29 a0 s fun v4 =>
    e_nn r3 fun a5 =>
    e_aI 103 a5 v4 s fun v6 =>
    e_ieq v6 32 (
      e_gI 9 29 a0 s fun v7 =>
      e_pI 9 29 a0 (v7 + 1) s fun s8 =>
      k0 a0 s8) (
      some ((), s)))
def f_X9_blanks_0 (N : Nat) : Nat → Nat → sj_Mem → Option (Unit × sj_Mem)
  | 0 => fun _ _ => none
  | n + 1 => fun a0 s => f_X9_blanks_0_b N (f_X9_blanks_0 N n) a0 s
def f_X9_blanks (N : Nat) (a0 : Nat) (s : sj_Mem) : Option (Unit × sj_Mem) := f_X9_blanks_0 N N a0 s
def f_X9_wordEnd_5_b (N : Nat) (k5 : Nat → Int → sj_Mem → Option (Int × sj_Mem)) (a0 : Nat) (x1 : Int) (s : sj_Mem) : Option (Int × sj_Mem) :=
  e_gI 9 28 a0 s fun v1 =>
  e_ile v1 x1 (
    some (x1, s)) (
    e_gR 9 27 a0 s fun r2 =>
    e_nn r2 fun a3 =>
    e_aI 103 a3 x1 s fun v4 =>
    e_wid v4 fun v5 =>
    e_cl (f_X9_isIn N v5 97 122 s) fun v7 s6 =>
    e_ieq v7 0 (
      some (x1, s6)) (
      e_lt (x1 + 1) fun v8 =>
      k5 a0 v8 s6))
def f_X9_wordEnd_5 (N : Nat) : Nat → Nat → Int → sj_Mem → Option (Int × sj_Mem)
  | 0 => fun _ _ _ => none
  | n + 1 => fun a0 x1 s => f_X9_wordEnd_5_b N (f_X9_wordEnd_5 N n) a0 x1 s
def f_X9_wordEnd (N : Nat) (a0 : Nat) (s : sj_Mem) : Option (Int × sj_Mem) :=
  e_gI 9 29 a0 s fun v1 =>
  f_X9_wordEnd_5 N N a0 v1 s
def f_X9_spells_148 (N : Nat) (s : sj_Mem) : Option (Int × sj_Mem) :=
  e_z 1 s
def f_X9_spells_125 (N : Nat) (a0 : Nat) (x1 : Int) (x8 : Int) (s : sj_Mem) : Option (Int × sj_Mem) :=
  e_ilt x1 7 (
    f_X9_spells_148 N s) (
    e_gR 9 27 a0 s fun r1 =>
    e_gI 9 29 a0 s fun v2 =>
    e_nn r1 fun a3 =>
    e_aI 103 a3 (v2 + 6) s fun v4 =>
    e_ieq v4 x8 (
      f_X9_spells_148 N s) (
      e_z 0 s))
def f_X9_spells_103 (N : Nat) (a0 : Nat) (x1 : Int) (x7 : Int) (x8 : Int) (s : sj_Mem) : Option (Int × sj_Mem) :=
  e_ilt x1 6 (
    f_X9_spells_125 N a0 x1 x8 s) (
    e_gR 9 27 a0 s fun r1 =>
    e_gI 9 29 a0 s fun v2 =>
    e_nn r1 fun a3 =>
    e_aI 103 a3 (v2 + 5) s fun v4 =>
    e_ieq v4 x7 (
      f_X9_spells_125 N a0 x1 x8 s) (
      e_z 0 s))
def f_X9_spells_80 (N : Nat) (a0 : Nat) (x1 : Int) (x6 : Int) (x7 : Int) (x8 : Int) (s : sj_Mem) : Option (Int × sj_Mem) :=
  e_ile x1 4 (
    f_X9_spells_103 N a0 x1 x7 x8 s) (
    e_gR 9 27 a0 s fun r1 =>
    e_gI 9 29 a0 s fun v2 =>
    e_nn r1 fun a3 =>
    e_aI 103 a3 (v2 + 4) s fun v4 =>
    e_ieq v4 x6 (
      f_X9_spells_103 N a0 x1 x7 x8 s) (
      e_z 0 s))
def f_X9_spells (N : Nat) (a0 : Nat) (x1 : Int) (x2 : Int) (x3 : Int) (x4 : Int) (x5 : Int) (x6 : Int) (x7 : Int) (x8 : Int) (s : sj_Mem) : Option (Int × sj_Mem) :=
  e_cv 9 a0 s (f_X9_wordEnd N a0 s) fun v2 s1 =>
  e_gI 9 29 a0 s1 fun v3 =>
  e_ieq v2 (v3 + x1) (
    e_gR 9 27 a0 s1 fun r4 =>
    e_gI 9 29 a0 s1 fun v5 =>
    e_nn r4 fun a6 =>
    e_aI 103 a6 v5 s1 fun v7 =>
    e_ieq v7 x2 (
      e_gR 9 27 a0 s1 fun r8 =>
      e_gI 9 29 a0 s1 fun v9 =>
      e_nn r8 fun a10 =>
      e_aI 103 a10 (v9 + 1) s1 fun v11 =>
      e_ieq v11 x3 (
        e_gR 9 27 a0 s1 fun r12 =>
        e_gI 9 29 a0 s1 fun v13 =>
        e_nn r12 fun a14 =>
        e_aI 103 a14 (v13 + 2) s1 fun v15 =>
        e_ieq v15 x4 (
          e_ile x1 3 (
            f_X9_spells_80 N a0 x1 x6 x7 x8 s1) (
            e_gR 9 27 a0 s1 fun r16 =>
            e_gI 9 29 a0 s1 fun v17 =>
            e_nn r16 fun a18 =>
            e_aI 103 a18 (v17 + 3) s1 fun v19 =>
            e_ieq v19 x5 (
              f_X9_spells_80 N a0 x1 x6 x7 x8 s1) (
              e_z 0 s1))) (
          e_z 0 s1)) (
        e_z 0 s1)) (
      e_z 0 s1)) (
    e_z 0 s1)
def f_X9_wrong (N : Nat) (a0 : Nat) (x1 : Int) (x2 : Int) (s : sj_Mem) : Option (Unit × sj_Mem) :=
  e_gI 9 32 a0 s fun v1 =>
  e_ieq v1 0 (
    e_pZ 9 32 a0 1 s fun s2 =>
    e_pI 9 30 a0 x1 s2 fun s3 =>
    e_pI 9 31 a0 x2 s3 fun s4 =>
    some ((), s4)) (
    some ((), s))
def f_X9_isDigitNext (N : Nat) (a0 : Nat) (s : sj_Mem) : Option (Int × sj_Mem) :=
  e_cv 9 a0 s (f_X9_blanks N a0 s) fun _u s1 =>
  e_gI 9 29 a0 s1 fun v2 =>
  e_gI 9 28 a0 s1 fun v3 =>
  e_ile v3 v2 (
    e_z 0 s1) (
    e_gR 9 27 a0 s1 fun r4 =>
    e_gI 9 29 a0 s1 fun v5 =>
    e_nn r4 fun a6 =>
    e_aI 103 a6 v5 s1 fun v7 =>
    e_wid v7 fun v8 =>
    e_cl (f_X9_isIn N v8 48 57 s1) fun v10 s9 =>
    e_ieq v10 0 (
      e_z 0 s9) (
      e_z 1 s9))
def f_X9_number_102 (N : Nat) (k38 : Nat → Int → Int → Int → sj_Mem → Option (Int × sj_Mem)) (a0 : Nat) (x1 : Int) (x2 : Int) (y0 : Int) (s : sj_Mem) : Option (Int × sj_Mem) :=
  e_gI 9 29 a0 s fun v1 =>
  e_pI 9 29 a0 (v1 + 1) s fun s2 =>
  k38 a0 x1 x2 y0 s2
def f_X9_number_139 (N : Nat) (a0 : Nat) (x1 : Int) (x4 : Int) (s : sj_Mem) : Option (Int × sj_Mem) :=
  e_gI 9 32 a0 s fun v1 =>
  e_ieq v1 0 (
    some (x4, s)) (
    some (x1, s))
def f_X9_number_117 (N : Nat) (a0 : Nat) (x1 : Int) (x2 : Int) (x4 : Int) (s : sj_Mem) : Option (Int × sj_Mem) :=
  e_wid x4 fun v1 =>
  e_wid x1 fun v2 =>
  e_wid x2 fun v3 =>
  e_cl (f_X9_isIn N v1 v2 v3 s) fun v5 s4 =>
  e_ieq v5 0 (
    e_gI 9 33 a0 s4 fun v6 =>
    e_cv 9 a0 s4 (f_X9_wrong N a0 2 v6 s4) fun _u s7 =>
    f_X9_number_139 N a0 x1 x4 s7) (
    f_X9_number_139 N a0 x1 x4 s4)
def f_X9_number_38_b (N : Nat) (k38 : Nat → Int → Int → Int → sj_Mem → Option (Int × sj_Mem)) (a0 : Nat) (x1 : Int) (x2 : Int) (x4 : Int) (s : sj_Mem) : Option (Int × sj_Mem) :=
  e_gI 9 29 a0 s fun v1 =>
  e_gI 9 28 a0 s fun v2 =>
  e_ile v2 v1 (
    f_X9_number_117 N a0 x1 x2 x4 s) (
    e_gR 9 27 a0 s fun r3 =>
    e_gI 9 29 a0 s fun v4 =>
    e_nn r3 fun a5 =>
    e_aI 103 a5 v4 s fun v6 =>
    e_wid v6 fun v7 =>
    e_cl (f_X9_isIn N v7 48 57 s) fun v9 s8 =>
    e_ieq v9 0 (
      f_X9_number_117 N a0 x1 x2 x4 s8) (
      e_ile x4 1000000 (
        e_gR 9 27 a0 s8 fun r10 =>
        e_gI 9 29 a0 s8 fun v11 =>
        e_nn r10 fun a12 =>
        e_aI 103 a12 v11 s8 fun v13 =>
        f_X9_number_102 N k38 a0 x1 x2 (((10 * x4) + v13) - 48) s8) (
        f_X9_number_102 N k38 a0 x1 x2 x4 s8)))
def f_X9_number_38 (N : Nat) : Nat → Nat → Int → Int → Int → sj_Mem → Option (Int × sj_Mem)
  | 0 => fun _ _ _ _ _ => none
  | n + 1 => fun a0 x1 x2 x4 s => f_X9_number_38_b N (f_X9_number_38 N n) a0 x1 x2 x4 s
def f_X9_number_35 (N : Nat) (a0 : Nat) (x1 : Int) (x2 : Int) (s : sj_Mem) : Option (Int × sj_Mem) :=
  f_X9_number_38 N N a0 x1 x2 0 s
def f_X9_number (N : Nat) (a0 : Nat) (x1 : Int) (x2 : Int) (s : sj_Mem) : Option (Int × sj_Mem) :=
  e_gI 9 32 a0 s fun v1 =>
  e_ieq v1 0 (
    e_cv 9 a0 s (f_X9_isDigitNext N a0 s) fun v3 s2 =>
    e_gI 9 29 a0 s2 fun v4 =>
    e_pI 9 33 a0 v4 s2 fun s5 =>
    e_ieq v3 0 (
      e_gI 9 29 a0 s5 fun v6 =>
      e_cv 9 a0 s5 (f_X9_wrong N a0 1 v6 s5) fun _u s7 =>
      f_X9_number_35 N a0 x1 x2 s7) (
      f_X9_number_35 N a0 x1 x2 s5)) (
    some (x1, s))
def f_X9_isNext (N : Nat) (a0 : Nat) (x1 : Int) (s : sj_Mem) : Option (Int × sj_Mem) :=
  e_cv 9 a0 s (f_X9_blanks N a0 s) fun _u s1 =>
  e_gI 9 29 a0 s1 fun v2 =>
  e_gI 9 28 a0 s1 fun v3 =>
  e_ile v3 v2 (
    e_z 0 s1) (
    e_gR 9 27 a0 s1 fun r4 =>
    e_gI 9 29 a0 s1 fun v5 =>
    e_nn r4 fun a6 =>
    e_aI 103 a6 v5 s1 fun v7 =>
    e_ieq v7 x1 (
      e_z 1 s1) (
      e_z 0 s1))
def f_X9_must (N : Nat) (a0 : Nat) (x1 : Int) (s : sj_Mem) : Option (Unit × sj_Mem) :=
  e_cv 9 a0 s (f_X9_isNext N a0 x1 s) fun v2 s1 =>
  e_ieq v2 0 (
    e_gI 9 29 a0 s1 fun v3 =>
    e_cv 9 a0 s1 (f_X9_wrong N a0 1 v3 s1) fun _u s4 =>
    some ((), s4)) (
    e_gI 9 29 a0 s1 fun v5 =>
    e_pI 9 29 a0 (v5 + 1) s1 fun s6 =>
    some ((), s6))
def f_X9_word (N : Nat) (a0 : Nat) (s : sj_Mem) : Option (Int × sj_Mem) :=
  e_cv 9 a0 s (f_X9_spells N a0 6 103 114 111 117 110 100 0 s) fun v2 s1 =>
  e_ieq v2 0 (
    e_cv 9 a0 s1 (f_X9_spells N a0 4 114 111 99 107 0 0 0 s1) fun v4 s3 =>
    e_ieq v4 0 (
      e_cv 9 a0 s3 (f_X9_spells N a0 5 119 97 116 101 114 0 0 s3) fun v6 s5 =>
      e_ieq v6 0 (
        e_cv 9 a0 s5 (f_X9_spells N a0 4 108 111 97 100 0 0 0 s5) fun v8 s7 =>
        e_ieq v8 0 (
          e_cv 9 a0 s7 (f_X9_spells N a0 5 113 117 97 107 101 0 0 s7) fun v10 s9 =>
          e_ieq v10 0 (
            e_cv 9 a0 s9 (f_X9_spells N a0 3 116 111 112 0 0 0 0 s9) fun v12 s11 =>
            e_ieq v12 0 (
              e_cv 9 a0 s11 (f_X9_spells N a0 4 115 111 105 108 0 0 0 s11) fun v14 s13 =>
              e_ieq v14 0 (
                e_cv 9 a0 s13 (f_X9_spells N a0 6 97 110 99 104 111 114 0 s13) fun v16 s15 =>
                e_ieq v16 0 (
                  some ((-1), s15)) (
                  some (7, s15))) (
                some (6, s13))) (
              some (5, s11))) (
            some (4, s9))) (
          some (3, s7))) (
        some (2, s5))) (
      some (1, s3))) (
    some (0, s1))
def f_X9_tells_23 (N : Nat) (a0 : Nat) (x1 : Int) (s : sj_Mem) : Option (Unit × sj_Mem) :=
  e_gR 9 34 a0 s fun r1 =>
  e_nn r1 fun a2 =>
  e_uZ a2 x1 1 s fun s3 =>
  some ((), s3)
def f_X9_tells (N : Nat) (a0 : Nat) (x1 : Int) (x2 : Int) (s : sj_Mem) : Option (Unit × sj_Mem) :=
  e_gI 9 32 a0 s fun v1 =>
  e_ieq v1 0 (
    e_gR 9 34 a0 s fun r2 =>
    e_nn r2 fun a3 =>
    e_aI 102 a3 x1 s fun v4 =>
    e_ieq v4 0 (
      f_X9_tells_23 N a0 x1 s) (
      e_cv 9 a0 s (f_X9_wrong N a0 3 x2 s) fun _u s5 =>
      f_X9_tells_23 N a0 x1 s5)) (
    some ((), s))
def f_X9_anchorLine (N : Nat) (a0 : Nat) (s : sj_Mem) : Option (Unit × sj_Mem) :=
  e_cv 9 a0 s (f_X9_number N a0 0 5 s) fun v2 s1 =>
  e_gI 9 33 a0 s1 fun v3 =>
  e_cv 9 a0 s1 (f_X9_tells N a0 (12 + v2) v3 s1) fun _u s4 =>
  e_gR 9 0 a0 s4 fun r5 =>
  e_gR 9 0 a0 s4 fun r6 =>
  e_nn r6 fun a7 =>
  e_aI 100 a7 0 s4 fun v8 =>
  e_cv 9 a0 s4 (f_X9_number N a0 0 v8 s4) fun v10 s9 =>
  e_nn r5 fun a11 =>
  e_uI 100 a11 (302 + (3 * v2)) v10 s9 fun s12 =>
  e_gR 9 0 a0 s12 fun r13 =>
  e_cv 9 a0 s12 (f_X9_number N a0 0 100 s12) fun v15 s14 =>
  e_nn r13 fun a16 =>
  e_uI 100 a16 ((302 + (3 * v2)) + 1) v15 s14 fun s17 =>
  e_gR 9 0 a0 s17 fun r18 =>
  e_cv 9 a0 s17 (f_X9_number N a0 1 500 s17) fun v20 s19 =>
  e_nn r18 fun a21 =>
  e_uI 100 a21 ((302 + (3 * v2)) + 2) v20 s19 fun s22 =>
  some ((), s22)
def f_X9_soilLine (N : Nat) (a0 : Nat) (s : sj_Mem) : Option (Unit × sj_Mem) :=
  e_cv 9 a0 s (f_X9_number N a0 0 3 s) fun v2 s1 =>
  e_gI 9 33 a0 s1 fun v3 =>
  e_cv 9 a0 s1 (f_X9_tells N a0 (8 + v2) v3 s1) fun _u s4 =>
  e_gR 9 0 a0 s4 fun r5 =>
  e_cv 9 a0 s4 (f_X9_number N a0 1 30 s4) fun v7 s6 =>
  e_nn r5 fun a8 =>
  e_uI 100 a8 (290 + (3 * v2)) v7 s6 fun s9 =>
  e_gR 9 0 a0 s9 fun r10 =>
  e_cv 9 a0 s9 (f_X9_number N a0 0 200 s9) fun v12 s11 =>
  e_nn r10 fun a13 =>
  e_uI 100 a13 ((290 + (3 * v2)) + 1) v12 s11 fun s14 =>
  e_gR 9 0 a0 s14 fun r15 =>
  e_cv 9 a0 s14 (f_X9_number N a0 0 1500 s14) fun v17 s16 =>
  e_nn r15 fun a18 =>
  e_uI 100 a18 ((290 + (3 * v2)) + 2) v17 s16 fun s19 =>
  some ((), s19)
def f_X9_runs_105_b (N : Nat) (k2 : Nat → Int → Int → Int → sj_Mem → Option (Unit × sj_Mem)) (k105 : Nat → Int → Int → Int → Int → Int → Int → sj_Mem → Option (Unit × sj_Mem)) (a0 : Nat) (x1 : Int) (x2 : Int) (x3 : Int) (x4 : Int) (x5 : Int) (x6 : Int) (s : sj_Mem) : Option (Unit × sj_Mem) :=
  e_ile x5 x6 (
    e_lt (x3 + x5) fun v1 =>
    k2 a0 x1 x2 v1 s) (
    e_gR 9 0 a0 s fun r2 =>
    e_nn r2 fun a3 =>
    e_uI 100 a3 ((x1 + x3) + x6) x4 s fun s4 =>
    e_lt (x6 + 1) fun v5 =>
    k105 a0 x1 x2 x3 x4 x5 v5 s4)
def f_X9_runs_105 (N : Nat) (k2 : Nat → Int → Int → Int → sj_Mem → Option (Unit × sj_Mem)) : Nat → Nat → Int → Int → Int → Int → Int → Int → sj_Mem → Option (Unit × sj_Mem)
  | 0 => fun _ _ _ _ _ _ _ _ => none
  | n + 1 => fun a0 x1 x2 x3 x4 x5 x6 s => f_X9_runs_105_b N k2 (f_X9_runs_105 N k2 n) a0 x1 x2 x3 x4 x5 x6 s
def f_X9_runs_94 (N : Nat) (k2 : Nat → Int → Int → Int → sj_Mem → Option (Unit × sj_Mem)) (a0 : Nat) (x1 : Int) (x2 : Int) (x3 : Int) (x4 : Int) (x5 : Int) (s : sj_Mem) : Option (Unit × sj_Mem) :=
  e_gI 9 32 a0 s fun v1 =>
  e_ieq v1 0 (
    f_X9_runs_105 N k2 N a0 x1 x2 x3 x4 x5 0 s) (
    some ((), s))
def f_X9_runs_20 (N : Nat) (k2 : Nat → Int → Int → Int → sj_Mem → Option (Unit × sj_Mem)) (a0 : Nat) (x1 : Int) (x2 : Int) (x3 : Int) (s : sj_Mem) : Option (Unit × sj_Mem) :=
  e_gR 9 0 a0 s fun r1 =>
  e_nn r1 fun a2 =>
  e_aI 100 a2 0 s fun v3 =>
  e_ile x3 v3 (
    e_cv 9 a0 s (f_X9_number N a0 0 x2 s) fun v5 s4 =>
    e_gI 9 32 a0 s4 fun v6 =>
    e_ieq v6 0 (
      e_cv 9 a0 s4 (f_X9_isNext N a0 42 s4) fun v8 s7 =>
      e_ieq v8 0 (
        f_X9_runs_94 N k2 a0 x1 x2 x3 v5 1 s7) (
        e_gI 9 29 a0 s7 fun v9 =>
        e_pI 9 29 a0 (v9 + 1) s7 fun s10 =>
        e_gR 9 0 a0 s10 fun r11 =>
        e_nn r11 fun a12 =>
        e_aI 100 a12 0 s10 fun v13 =>
        e_cv 9 a0 s10 (f_X9_number N a0 1 ((v13 + 1) - x3) s10) fun v15 s14 =>
        f_X9_runs_94 N k2 a0 x1 x2 x3 v5 v15 s14)) (
      f_X9_runs_94 N k2 a0 x1 x2 x3 v5 1 s4)) (
    e_gI 9 29 a0 s fun v16 =>
    e_cv 9 a0 s (f_X9_wrong N a0 1 v16 s) fun _u s17 =>
    some ((), s17))
def f_X9_runs_171 (N : Nat) (a0 : Nat) (y0 : Int) (y1 : Option Nat) (s : sj_Mem) : Option (Unit × sj_Mem) :=
  e_gI 9 29 a0 s fun v1 =>
  e_nn y1 fun a2 =>
  e_cv 9 a2 s (f_X9_wrong N a2 y0 v1 s) fun _u s3 =>
  some ((), s3)
def f_X9_runs_139 (N : Nat) (a0 : Nat) (x3 : Int) (s : sj_Mem) : Option (Unit × sj_Mem) :=
  e_gI 9 32 a0 s fun v1 =>
  e_ieq v1 0 (
    e_gR 9 0 a0 s fun r2 =>
    e_nn r2 fun a3 =>
    e_aI 100 a3 0 s fun v4 =>
    e_ilt v4 x3 (
      some ((), s)) (
      e_cv 9 a0 s (f_X9_isNext N a0 59 s) fun v6 s5 =>
      e_ieq v6 0 (
        f_X9_runs_171 N a0 1 (some a0) s5) (
        f_X9_runs_171 N a0 2 (some a0) s5))) (
    some ((), s))
def f_X9_runs_2_b (N : Nat) (k2 : Nat → Int → Int → Int → sj_Mem → Option (Unit × sj_Mem)) (a0 : Nat) (x1 : Int) (x2 : Int) (x3 : Int) (s : sj_Mem) : Option (Unit × sj_Mem) :=
  e_gI 9 32 a0 s fun v1 =>
  e_ieq v1 0 (
    e_ieq x3 0 (
      f_X9_runs_20 N k2 a0 x1 x2 x3 s) (
      e_cv 9 a0 s (f_X9_isDigitNext N a0 s) fun v3 s2 =>
      e_ieq v3 0 (
        f_X9_runs_139 N a0 x3 s2) (
        f_X9_runs_20 N k2 a0 x1 x2 x3 s2))) (
    f_X9_runs_139 N a0 x3 s)
def f_X9_runs_2 (N : Nat) : Nat → Nat → Int → Int → Int → sj_Mem → Option (Unit × sj_Mem)
  | 0 => fun _ _ _ _ _ => none
  | n + 1 => fun a0 x1 x2 x3 s => f_X9_runs_2_b N (f_X9_runs_2 N n) a0 x1 x2 x3 s
def f_X9_runs (N : Nat) (a0 : Nat) (x1 : Int) (x2 : Int) (s : sj_Mem) : Option (Unit × sj_Mem) :=
  f_X9_runs_2 N N a0 x1 x2 0 s
def f_X9_line_216 (N : Nat) (a0 : Nat) (s : sj_Mem) : Option (Unit × sj_Mem) :=
  e_cv 9 a0 s (f_X9_must N a0 59 s) fun _u s1 =>
  some ((), s1)
def f_X9_line_39 (N : Nat) (a0 : Nat) (x2 : Int) (s : sj_Mem) : Option (Unit × sj_Mem) :=
  e_cv 9 a0 s (f_X9_wordEnd N a0 s) fun v2 s1 =>
  e_pI 9 29 a0 v2 s1 fun s3 =>
  e_gI 9 32 a0 s3 fun v4 =>
  e_ieq v4 0 (
    e_sw x2 (
    if x2 = 0 then (
      e_cv 9 a0 s3 (f_X9_runs N a0 3 100 s3) fun _u s5 =>
      f_X9_line_216 N a0 s5) else (
    if x2 = 1 then (
      e_cv 9 a0 s3 (f_X9_runs N a0 44 100 s3) fun _u s6 =>
      f_X9_line_216 N a0 s6) else (
    if x2 = 2 then (
      e_cv 9 a0 s3 (f_X9_runs N a0 85 100 s3) fun _u s7 =>
      f_X9_line_216 N a0 s7) else (
    if x2 = 3 then (
      e_cv 9 a0 s3 (f_X9_runs N a0 126 500 s3) fun _u s8 =>
      f_X9_line_216 N a0 s8) else (
    if x2 = 4 then (
      e_gR 9 0 a0 s3 fun r9 =>
      e_cv 9 a0 s3 (f_X9_number N a0 0 500 s3) fun v11 s10 =>
      e_nn r9 fun a12 =>
      e_uI 100 a12 2 v11 s10 fun s13 =>
      f_X9_line_216 N a0 s13) else (
    if x2 = 5 then (
      e_cv 9 a0 s3 (f_X9_number N a0 1 3 s3) fun v15 s14 =>
      e_gI 9 33 a0 s14 fun v16 =>
      e_cv 9 a0 s14 (f_X9_tells N a0 (4 + v15) v16 s14) fun _u s17 =>
      e_gI 9 32 a0 s17 fun v18 =>
      e_ieq v18 0 (
        e_cv 9 a0 s17 (f_X9_runs N a0 (167 + (41 * (v15 - 1))) 100 s17) fun _u s19 =>
        f_X9_line_216 N a0 s19) (
        f_X9_line_216 N a0 s17)) else (
    if x2 = 6 then (
      e_cv 9 a0 s3 (f_X9_soilLine N a0 s3) fun _u s20 =>
      f_X9_line_216 N a0 s20) else (
      e_cv 9 a0 s3 (f_X9_anchorLine N a0 s3) fun _u s21 =>
      f_X9_line_216 N a0 s21))))))))) (
    some ((), s3))
def f_X9_line_21 (N : Nat) (a0 : Nat) (x1 : Int) (x2 : Int) (s : sj_Mem) : Option (Unit × sj_Mem) :=
  e_wid x2 fun v1 =>
  e_cl (f_X9_isIn N v1 0 4 s) fun v3 s2 =>
  e_ieq v3 0 (
    f_X9_line_39 N a0 x2 s2) (
    e_cv 9 a0 s2 (f_X9_tells N a0 x2 x1 s2) fun _u s4 =>
    f_X9_line_39 N a0 x2 s4)
def f_X9_line (N : Nat) (a0 : Nat) (s : sj_Mem) : Option (Unit × sj_Mem) :=
  e_gI 9 29 a0 s fun v1 =>
  e_cv 9 a0 s (f_X9_word N a0 s) fun v3 s2 =>
  e_ieq v3 ((-1)) (
    e_cv 9 a0 s2 (f_X9_wrong N a0 1 v1 s2) fun _u s4 =>
    f_X9_line_21 N a0 v1 v3 s4) (
    f_X9_line_21 N a0 v1 v3 s2)
def f_X9_reads_177 (N : Nat) (k128 : Nat → Int → Int → sj_Mem → Option (Int × sj_Mem)) (a0 : Nat) (x3 : Int) (x4 : Int) (s : sj_Mem) : Option (Int × sj_Mem) :=
  e_lt (x4 + 1) fun v1 =>
  k128 a0 x3 v1 s
def f_X9_reads_128_b (N : Nat) (k128 : Nat → Int → Int → sj_Mem → Option (Int × sj_Mem)) (a0 : Nat) (x3 : Int) (x4 : Int) (s : sj_Mem) : Option (Int × sj_Mem) :=
  e_gR 9 0 a0 s fun r1 =>
  e_nn r1 fun a2 =>
  e_aI 100 a2 0 s fun v3 =>
  e_ilt v3 x4 (
    some (x3, s)) (
    e_gI 9 32 a0 s fun v4 =>
    e_ieq v4 0 (
      e_gR 9 0 a0 s fun r5 =>
      e_nn r5 fun a6 =>
      e_aI 100 a6 (44 + x4) s fun v7 =>
      e_gR 9 0 a0 s fun r8 =>
      e_nn r8 fun a9 =>
      e_aI 100 a9 (3 + x4) s fun v10 =>
      e_ile v7 v10 (
        f_X9_reads_177 N k128 a0 x3 x4 s) (
        e_gI 9 28 a0 s fun v11 =>
        e_cv 9 a0 s (f_X9_wrong N a0 4 v11 s) fun _u s12 =>
        f_X9_reads_177 N k128 a0 x3 x4 s12)) (
      some (x3, s)))
def f_X9_reads_128 (N : Nat) : Nat → Nat → Int → Int → sj_Mem → Option (Int × sj_Mem)
  | 0 => fun _ _ _ _ => none
  | n + 1 => fun a0 x3 x4 s => f_X9_reads_128_b N (f_X9_reads_128 N n) a0 x3 x4 s
def f_X9_reads_125 (N : Nat) (a0 : Nat) (x3 : Int) (s : sj_Mem) : Option (Int × sj_Mem) :=
  f_X9_reads_128 N N a0 x3 0 s
def f_X9_reads_93_b (N : Nat) (k93 : Nat → Int → sj_Mem → Option (Int × sj_Mem)) (a0 : Nat) (x3 : Int) (s : sj_Mem) : Option (Int × sj_Mem) :=
  e_gI 9 29 a0 s fun v1 =>
  e_gI 9 28 a0 s fun v2 =>
  e_ile v2 v1 (
    f_X9_reads_125 N a0 x3 s) (
    e_gI 9 32 a0 s fun v3 =>
    e_ieq v3 0 (
      e_cv 9 a0 s (f_X9_line N a0 s) fun _u s4 =>
      e_lt (x3 + 1) fun v5 =>
      e_cv 9 a0 s4 (f_X9_blanks N a0 s4) fun _u s6 =>
      k93 a0 v5 s6) (
      f_X9_reads_125 N a0 x3 s))
def f_X9_reads_93 (N : Nat) : Nat → Nat → Int → sj_Mem → Option (Int × sj_Mem)
  | 0 => fun _ _ _ => none
  | n + 1 => fun a0 x3 s => f_X9_reads_93_b N (f_X9_reads_93 N n) a0 x3 s
def f_X9_reads_50 (N : Nat) (a0 : Nat) (s : sj_Mem) : Option (Int × sj_Mem) :=
  e_cv 9 a0 s (f_X9_number N a0 4 40 s) fun v2 s1 =>
  e_cv 9 a0 s1 (f_X9_number N a0 1 10 s1) fun v4 s3 =>
  e_cv 9 a0 s3 (f_X9_must N a0 59 s3) fun _u s5 =>
  e_gI 9 32 a0 s5 fun v6 =>
  e_ieq v6 0 (
    e_cv 9 a0 s5 (f_X9_begins N a0 v2 v4 s5) fun _u s7 =>
    e_cv 9 a0 s7 (f_X9_blanks N a0 s7) fun _u s8 =>
    f_X9_reads_93 N N a0 1 s8) (
    some (0, s5))
def f_X9_reads (N : Nat) (a0 : Nat) (s : sj_Mem) : Option (Int × sj_Mem) :=
  e_cv 9 a0 s (f_X9_blanks N a0 s) fun _u s1 =>
  e_cv 9 a0 s1 (f_X9_spells N a0 7 99 111 108 117 109 110 115 s1) fun v3 s2 =>
  e_ieq v3 0 (
    e_gI 9 29 a0 s2 fun v4 =>
    e_cv 9 a0 s2 (f_X9_wrong N a0 1 v4 s2) fun _u s5 =>
    f_X9_reads_50 N a0 s5) (
    e_gI 9 29 a0 s2 fun v6 =>
    e_pI 9 29 a0 (v6 + 7) s2 fun s7 =>
    f_X9_reads_50 N a0 s7)
def f_X9_text_6_b (N : Nat) (k6 : Nat → Int → sj_Mem → Option (Int × sj_Mem)) (a0 : Nat) (x1 : Int) (s : sj_Mem) : Option (Int × sj_Mem) :=
  e_ile 20 x1 (
    e_pZ 9 32 a0 0 s fun s1 =>
    e_pI 9 30 a0 0 s1 fun s2 =>
    e_pI 9 31 a0 ((-1)) s2 fun s3 =>
    e_pI 9 29 a0 0 s3 fun s4 =>
    e_cv 9 a0 s4 (f_X9_reads N a0 s4) fun v6 s5 =>
    e_pI 9 28 a0 0 s5 fun s7 =>
    e_gI 9 32 a0 s7 fun v8 =>
    e_ieq v8 0 (
      e_gR 9 1 a0 s7 fun r9 =>
      e_cv 9 a0 s7 (f_X9_remembers N a0 r9 s7) fun _u s10 =>
      some (v6, s10)) (
      e_cv 9 a0 s7 (f_X9_comesBack N a0 s7) fun _u s11 =>
      some ((-1), s11))) (
    e_gR 9 34 a0 s fun r12 =>
    e_nn r12 fun a13 =>
    e_uZ a13 x1 0 s fun s14 =>
    e_lt (x1 + 1) fun v15 =>
    k6 a0 v15 s14)
def f_X9_text_6 (N : Nat) : Nat → Nat → Int → sj_Mem → Option (Int × sj_Mem)
  | 0 => fun _ _ _ => none
  | n + 1 => fun a0 x1 s => f_X9_text_6_b N (f_X9_text_6 N n) a0 x1 s
def f_X9_text (N : Nat) (a0 : Nat) (s : sj_Mem) : Option (Int × sj_Mem) :=
  e_cv 9 a0 s (f_X9_laysAside N a0 s) fun _u s1 =>
  f_X9_text_6 N N a0 0 s1
def f_X9_end (N : Nat) (a0 : Nat) (x1 : Int) (s : sj_Mem) : Option (Int × sj_Mem) :=
  e_wid x1 fun v1 =>
  e_gI 9 28 a0 s fun v2 =>
  e_wid v2 fun v3 =>
  e_cl (f_X9_isIn N v1 0 v3 s) fun v5 s4 =>
  e_ieq v5 0 (
    e_z 0 s4) (
    e_pI 9 28 a0 x1 s4 fun s6 =>
    e_z 1 s6)
def f_X9_comesWord_3_b (N : Nat) (k3 : Nat → Int → Int → sj_Mem → Option (Unit × sj_Mem)) (a0 : Nat) (x1 : Int) (x2 : Int) (s : sj_Mem) : Option (Unit × sj_Mem) :=
  e_ilt x2 0 (
    some ((), s)) (
    e_gR 9 27 a0 s fun r1 =>
    e_gI 9 28 a0 s fun v2 =>
    e_ush x1 x2 fun v3 =>
    e_nn r1 fun a4 =>
    e_uB a4 v2 (Int.bmod v3 256) s fun s5 =>
    e_gI 9 28 a0 s5 fun v6 =>
    e_pI 9 28 a0 (v6 + 1) s5 fun s7 =>
    e_lt (x2 + (-8)) fun v8 =>
    k3 a0 x1 v8 s7)
def f_X9_comesWord_3 (N : Nat) : Nat → Nat → Int → Int → sj_Mem → Option (Unit × sj_Mem)
  | 0 => fun _ _ _ _ => none
  | n + 1 => fun a0 x1 x2 s => f_X9_comesWord_3_b N (f_X9_comesWord_3 N n) a0 x1 x2 s
def f_X9_comesWord (N : Nat) (a0 : Nat) (x1 : Int) (s : sj_Mem) : Option (Unit × sj_Mem) :=
  f_X9_comesWord_3 N N a0 x1 24 s
def f_X9_feed (N : Nat) (a0 : Nat) (x1 : Int) (x2 : Int) (x3 : Int) (x4 : Int) (x5 : Int) (s : sj_Mem) : Option (Int × sj_Mem) :=
  e_gI 9 28 a0 s fun v1 =>
  e_ile (v1 + 20) 600 (
    e_cv 9 a0 s (f_X9_comesWord N a0 x1 s) fun _u s2 =>
    e_cv 9 a0 s2 (f_X9_comesWord N a0 x2 s2) fun _u s3 =>
    e_cv 9 a0 s3 (f_X9_comesWord N a0 x3 s3) fun _u s4 =>
    e_cv 9 a0 s4 (f_X9_comesWord N a0 x4 s4) fun _u s5 =>
    e_cv 9 a0 s5 (f_X9_comesWord N a0 x5 s5) fun _u s6 =>
    e_gI 9 28 a0 s6 fun v7 =>
    some (v7, s6)) (
    some ((-1), s))
def f_X9_anchor (N : Nat) (a0 : Nat) (x1 : Int) (x2 : Int) (x3 : Int) (x4 : Int) (s : sj_Mem) : Option (Int × sj_Mem) :=
  e_wid x1 fun v1 =>
  e_cl (f_X9_isIn N v1 0 5 s) fun v3 s2 =>
  e_ieq v3 0 (
    e_z 0 s2) (
    e_cv 9 a0 s2 (f_X9_isColumn N a0 x2 s2) fun v5 s4 =>
    e_ieq v5 0 (
      e_z 0 s4) (
      e_wid x3 fun v6 =>
      e_cl (f_X9_isIn N v6 0 100 s4) fun v8 s7 =>
      e_ieq v8 0 (
        e_z 0 s7) (
        e_wid x4 fun v9 =>
        e_cl (f_X9_isIn N v9 0 500 s7) fun v11 s10 =>
        e_ieq v11 0 (
          e_z 0 s10) (
          e_gR 9 0 a0 s10 fun r12 =>
          e_nn r12 fun a13 =>
          e_uI 100 a13 (302 + (3 * x1)) x2 s10 fun s14 =>
          e_gR 9 0 a0 s14 fun r15 =>
          e_nn r15 fun a16 =>
          e_uI 100 a16 ((302 + (3 * x1)) + 1) x3 s14 fun s17 =>
          e_gR 9 0 a0 s17 fun r18 =>
          e_nn r18 fun a19 =>
          e_uI 100 a19 ((302 + (3 * x1)) + 2) x4 s17 fun s20 =>
          e_z 1 s20))))
def f_X9_quake (N : Nat) (a0 : Nat) (x1 : Int) (s : sj_Mem) : Option (Int × sj_Mem) :=
  e_wid x1 fun v1 =>
  e_cl (f_X9_isIn N v1 0 500 s) fun v3 s2 =>
  e_ieq v3 0 (
    e_z 0 s2) (
    e_gR 9 0 a0 s2 fun r4 =>
    e_nn r4 fun a5 =>
    e_uI 100 a5 2 x1 s2 fun s6 =>
    e_z 1 s6)
def f_X9_soil (N : Nat) (a0 : Nat) (x1 : Int) (x2 : Int) (x3 : Int) (x4 : Int) (s : sj_Mem) : Option (Int × sj_Mem) :=
  e_wid x1 fun v1 =>
  e_cl (f_X9_isIn N v1 0 3 s) fun v3 s2 =>
  e_ieq v3 0 (
    e_z 0 s2) (
    e_wid x2 fun v4 =>
    e_cl (f_X9_isIn N v4 1 30 s2) fun v6 s5 =>
    e_ieq v6 0 (
      e_z 0 s5) (
      e_wid x3 fun v7 =>
      e_cl (f_X9_isIn N v7 0 200 s5) fun v9 s8 =>
      e_ieq v9 0 (
        e_z 0 s8) (
        e_wid x4 fun v10 =>
        e_cl (f_X9_isIn N v10 0 1500 s8) fun v12 s11 =>
        e_ieq v12 0 (
          e_z 0 s11) (
          e_gR 9 0 a0 s11 fun r13 =>
          e_nn r13 fun a14 =>
          e_uI 100 a14 (290 + (3 * x1)) x2 s11 fun s15 =>
          e_gR 9 0 a0 s15 fun r16 =>
          e_nn r16 fun a17 =>
          e_uI 100 a17 ((290 + (3 * x1)) + 1) x3 s15 fun s18 =>
          e_gR 9 0 a0 s18 fun r19 =>
          e_nn r19 fun a20 =>
          e_uI 100 a20 ((290 + (3 * x1)) + 2) x4 s18 fun s21 =>
          e_z 1 s21))))
def f_X9_dig (N : Nat) (a0 : Nat) (x1 : Int) (x2 : Int) (s : sj_Mem) : Option (Int × sj_Mem) :=
  e_cv 9 a0 s (f_X9_canDig N a0 x1 x2 s) fun v2 s1 =>
  e_ieq v2 0 (
    some ((-1), s1)) (
    e_gR 9 0 a0 s1 fun r3 =>
    e_cv 9 a0 s1 (f_X9_remembers N a0 r3 s1) fun _u s4 =>
    e_gR 9 0 a0 s4 fun r5 =>
    e_nn r5 fun a6 =>
    e_aI 100 a6 (3 + x1) s4 fun v7 =>
    e_uI 100 a6 (3 + x1) (v7 - x2) s4 fun s8 =>
    e_gR 9 0 a0 s8 fun r9 =>
    e_nn r9 fun a10 =>
    e_uI 100 a10 320 ((-1)) s8 fun s11 =>
    e_gR 9 0 a0 s11 fun r12 =>
    e_nn r12 fun a13 =>
    e_aI 100 a13 (3 + x1) s11 fun v14 =>
    some (v14, s11))
def f_X9_tell_110 (N : Nat) (x1 : Int) (x3 : Int) (y0 : Int) (y1 : Option Nat) (s : sj_Mem) : Option (Int × sj_Mem) :=
  e_nn y1 fun a1 =>
  e_uI 100 a1 (y0 + x1) x3 s fun s2 =>
  e_z 1 s2
def f_X9_tell_55 (N : Nat) (a0 : Nat) (x1 : Int) (x2 : Int) (x3 : Int) (y0 : Int) (y1 : Int) (y2 : Int) (s : sj_Mem) : Option (Int × sj_Mem) :=
  e_cl (f_X9_isIn N y2 y1 y0 s) fun v2 s1 =>
  e_ieq v2 0 (
    e_z 0 s1) (
    e_ieq x2 0 (
      e_gR 9 0 a0 s1 fun r7 =>
      e_nn r7 fun a8 =>
      e_uI 100 a8 (44 + x1) x3 s1 fun s9 =>
      e_gR 9 0 a0 s9 fun r10 =>
      e_nn r10 fun a11 =>
      e_uI 100 a11 320 ((-1)) s9 fun s12 =>
      e_z 1 s12) (
      e_ile 3 x2 (
        e_gR 9 0 a0 s1 fun r3 =>
        e_nn r3 fun a4 =>
        e_uI 100 a4 ((167 + (41 * (x2 - 3))) + x1) x3 s1 fun s5 =>
        e_z 1 s5) (
        e_gR 9 0 a0 s1 fun r6 =>
        e_ieq x2 1 (
          f_X9_tell_110 N x1 x3 85 r6 s1) (
          f_X9_tell_110 N x1 x3 126 r6 s1))))
def f_X9_tell (N : Nat) (a0 : Nat) (x1 : Int) (x2 : Int) (x3 : Int) (s : sj_Mem) : Option (Int × sj_Mem) :=
  e_cv 9 a0 s (f_X9_isColumn N a0 x1 s) fun v2 s1 =>
  e_ieq v2 0 (
    e_z 0 s1) (
    e_wid x2 fun v3 =>
    e_cl (f_X9_isIn N v3 0 5 s1) fun v5 s4 =>
    e_ieq v5 0 (
      e_z 0 s4) (
      e_wid x3 fun v6 =>
      e_ieq x2 0 (
        e_gR 9 0 a0 s4 fun r7 =>
        e_nn r7 fun a8 =>
        e_aI 100 a8 (3 + x1) s4 fun v9 =>
        e_wid v9 fun v10 =>
        f_X9_tell_55 N a0 x1 x2 x3 v10 0 v6 s4) (
        e_ieq x2 2 (
          f_X9_tell_55 N a0 x1 x2 x3 500 0 v6 s4) (
          f_X9_tell_55 N a0 x1 x2 x3 100 0 v6 s4))))
def f_X9_size (N : Nat) (a0 : Nat) (x1 : Int) (x2 : Int) (s : sj_Mem) : Option (Int × sj_Mem) :=
  e_wid x1 fun v1 =>
  e_cl (f_X9_isIn N v1 4 40 s) fun v3 s2 =>
  e_ieq v3 0 (
    e_z 0 s2) (
    e_wid x2 fun v4 =>
    e_cl (f_X9_isIn N v4 1 10 s2) fun v6 s5 =>
    e_ieq v6 0 (
      e_z 0 s5) (
      e_gR 9 0 a0 s5 fun r7 =>
      e_cv 9 a0 s5 (f_X9_remembers N a0 r7 s5) fun _u s8 =>
      e_cv 9 a0 s8 (f_X9_begins N a0 x1 x2 s8) fun _u s9 =>
      e_z 1 s9))
def f_L_law_1900 (N : Nat) (L : Nat) (xs : Nat → Int) (k18 : Option Nat → Option Nat → Int → sj_Mem → Option (Int × sj_Mem)) (x1 : Option Nat) (x2 : Option Nat) (x3 : Int) (s : sj_Mem) : Option (Int × sj_Mem) :=
  e_lt (x3 + 8) fun v1 =>
  k18 x1 x2 v1 s
def f_L_law_645 (N : Nat) (L : Nat) (xs : Nat → Int) (k18 : Option Nat → Option Nat → Int → sj_Mem → Option (Int × sj_Mem)) (x1 : Option Nat) (x2 : Option Nat) (x3 : Int) (y0 : Int) (y1 : Int) (y2 : Int) (y3 : Int) (y4 : Option Nat) (y5 : Int) (s : sj_Mem) : Option (Int × sj_Mem) :=
  e_nn y4 fun a1 =>
  e_cv 9 a1 s (f_X9_circle N a1 y3 y2 y1 y0 s) fun v3 s2 =>
  e_ieq y5 v3 (
    f_L_law_1900 N L xs k18 x1 x2 x3 s2) (
    e_z 0 s2)
def f_L_law_613 (N : Nat) (L : Nat) (xs : Nat → Int) (k18 : Option Nat → Option Nat → Int → sj_Mem → Option (Int × sj_Mem)) (x1 : Option Nat) (x2 : Option Nat) (x3 : Int) (y0 : Int) (y1 : Int) (y2 : Int) (y3 : Int) (y4 : Option Nat) (s : sj_Mem) : Option (Int × sj_Mem) :=
  e_nn y4 fun a1 =>
  e_cv 8 a1 s (f_X8_circle N a1 y3 y2 y1 y0 s) fun v3 s2 =>
  e_aS L xs (x3 + 1) fun v4 =>
  e_aS L xs (x3 + 2) fun v5 =>
  e_aS L xs (x3 + 3) fun v6 =>
  e_aS L xs (x3 + 4) fun v7 =>
  e_ieq v7 0 (
    f_L_law_645 N L xs k18 x1 x2 x3 0 v6 v5 v4 x2 v3 s2) (
    f_L_law_645 N L xs k18 x1 x2 x3 1 v6 v5 v4 x2 v3 s2)
def f_L_law_717 (N : Nat) (L : Nat) (xs : Nat → Int) (k18 : Option Nat → Option Nat → Int → sj_Mem → Option (Int × sj_Mem)) (x1 : Option Nat) (x2 : Option Nat) (x3 : Int) (y0 : Int) (y1 : Option Nat) (y2 : Int) (s : sj_Mem) : Option (Int × sj_Mem) :=
  e_nn y1 fun a1 =>
  e_cv 9 a1 s (f_X9_points N a1 y0 s) fun v3 s2 =>
  e_ieq y2 v3 (
    f_L_law_1900 N L xs k18 x1 x2 x3 s2) (
    e_z 0 s2)
def f_L_law_700 (N : Nat) (L : Nat) (xs : Nat → Int) (k18 : Option Nat → Option Nat → Int → sj_Mem → Option (Int × sj_Mem)) (x1 : Option Nat) (x2 : Option Nat) (x3 : Int) (y0 : Int) (y1 : Option Nat) (s : sj_Mem) : Option (Int × sj_Mem) :=
  e_nn y1 fun a1 =>
  e_cv 8 a1 s (f_X8_points N a1 y0 s) fun v3 s2 =>
  e_aS L xs (x3 + 1) fun v4 =>
  e_ieq v4 0 (
    f_L_law_717 N L xs k18 x1 x2 x3 0 x2 v3 s2) (
    f_L_law_717 N L xs k18 x1 x2 x3 1 x2 v3 s2)
def f_L_law_766 (N : Nat) (L : Nat) (xs : Nat → Int) (k18 : Option Nat → Option Nat → Int → sj_Mem → Option (Int × sj_Mem)) (x1 : Option Nat) (x2 : Option Nat) (x3 : Int) (y0 : Int) (y1 : Int) (y2 : Option Nat) (y3 : Int) (s : sj_Mem) : Option (Int × sj_Mem) :=
  e_nn y2 fun a1 =>
  e_cv 9 a1 s (f_X9_worst N a1 y1 y0 s) fun v3 s2 =>
  e_ieq y3 v3 (
    f_L_law_1900 N L xs k18 x1 x2 x3 s2) (
    e_z 0 s2)
def f_L_law_744 (N : Nat) (L : Nat) (xs : Nat → Int) (k18 : Option Nat → Option Nat → Int → sj_Mem → Option (Int × sj_Mem)) (x1 : Option Nat) (x2 : Option Nat) (x3 : Int) (y0 : Int) (y1 : Int) (y2 : Option Nat) (s : sj_Mem) : Option (Int × sj_Mem) :=
  e_nn y2 fun a1 =>
  e_cv 8 a1 s (f_X8_worst N a1 y1 y0 s) fun v3 s2 =>
  e_aS L xs (x3 + 1) fun v4 =>
  e_aS L xs (x3 + 2) fun v5 =>
  e_ieq v5 0 (
    f_L_law_766 N L xs k18 x1 x2 x3 0 v4 x2 v3 s2) (
    f_L_law_766 N L xs k18 x1 x2 x3 1 v4 x2 v3 s2)
def f_L_law_1157 (N : Nat) (L : Nat) (xs : Nat → Int) (k18 : Option Nat → Option Nat → Int → sj_Mem → Option (Int × sj_Mem)) (x1 : Option Nat) (x2 : Option Nat) (x3 : Int) (y0 : Int) (y1 : Int) (y2 : Int) (y3 : Int) (y4 : Option Nat) (y5 : Int) (s : sj_Mem) : Option (Int × sj_Mem) :=
  e_nn y4 fun a1 =>
  e_cv 9 a1 s (f_X9_tried N a1 y3 y2 y1 y0 s) fun v3 s2 =>
  e_ieq y5 v3 (
    f_L_law_1900 N L xs k18 x1 x2 x3 s2) (
    e_z 0 s2)
def f_L_law_1125 (N : Nat) (L : Nat) (xs : Nat → Int) (k18 : Option Nat → Option Nat → Int → sj_Mem → Option (Int × sj_Mem)) (x1 : Option Nat) (x2 : Option Nat) (x3 : Int) (y0 : Int) (y1 : Int) (y2 : Int) (y3 : Int) (y4 : Option Nat) (s : sj_Mem) : Option (Int × sj_Mem) :=
  e_nn y4 fun a1 =>
  e_cv 8 a1 s (f_X8_tried N a1 y3 y2 y1 y0 s) fun v3 s2 =>
  e_aS L xs (x3 + 1) fun v4 =>
  e_aS L xs (x3 + 2) fun v5 =>
  e_aS L xs (x3 + 3) fun v6 =>
  e_aS L xs (x3 + 4) fun v7 =>
  e_ieq v7 0 (
    f_L_law_1157 N L xs k18 x1 x2 x3 0 v6 v5 v4 x2 v3 s2) (
    f_L_law_1157 N L xs k18 x1 x2 x3 1 v6 v5 v4 x2 v3 s2)
def f_L_law_1242 (N : Nat) (L : Nat) (xs : Nat → Int) (k18 : Option Nat → Option Nat → Int → sj_Mem → Option (Int × sj_Mem)) (x1 : Option Nat) (x2 : Option Nat) (x3 : Int) (y0 : Int) (y1 : Int) (y2 : Int) (y3 : Int) (y4 : Int) (y5 : Option Nat) (y6 : Int) (s : sj_Mem) : Option (Int × sj_Mem) :=
  e_aS L xs (x3 + 6) fun v1 =>
  e_nn y5 fun a2 =>
  e_cv 9 a2 s (f_X9_boxes N a2 y4 y3 y2 y1 y0 v1 s) fun v4 s3 =>
  e_ieq y6 v4 (
    f_L_law_1900 N L xs k18 x1 x2 x3 s3) (
    e_z 0 s3)
def f_L_law_1199 (N : Nat) (L : Nat) (xs : Nat → Int) (k18 : Option Nat → Option Nat → Int → sj_Mem → Option (Int × sj_Mem)) (x1 : Option Nat) (x2 : Option Nat) (x3 : Int) (y0 : Int) (y1 : Int) (y2 : Int) (y3 : Int) (y4 : Int) (y5 : Option Nat) (s : sj_Mem) : Option (Int × sj_Mem) :=
  e_aS L xs (x3 + 6) fun v1 =>
  e_nn y5 fun a2 =>
  e_cv 8 a2 s (f_X8_boxes N a2 y4 y3 y2 y1 y0 v1 s) fun v4 s3 =>
  e_aS L xs (x3 + 1) fun v5 =>
  e_aS L xs (x3 + 2) fun v6 =>
  e_aS L xs (x3 + 3) fun v7 =>
  e_aS L xs (x3 + 4) fun v8 =>
  e_aS L xs (x3 + 5) fun v9 =>
  e_ieq v9 0 (
    f_L_law_1242 N L xs k18 x1 x2 x3 0 v8 v7 v6 v5 x2 v4 s3) (
    f_L_law_1242 N L xs k18 x1 x2 x3 1 v8 v7 v6 v5 x2 v4 s3)
def f_L_law_1302 (N : Nat) (L : Nat) (xs : Nat → Int) (k18 : Option Nat → Option Nat → Int → sj_Mem → Option (Int × sj_Mem)) (x1 : Option Nat) (x2 : Option Nat) (x3 : Int) (y0 : Int) (y1 : Int) (y2 : Option Nat) (y3 : Int) (s : sj_Mem) : Option (Int × sj_Mem) :=
  e_aS L xs (x3 + 3) fun v1 =>
  e_nn y2 fun a2 =>
  e_cv 9 a2 s (f_X9_tables N a2 y1 y0 v1 s) fun v4 s3 =>
  e_ieq y3 v4 (
    f_L_law_1900 N L xs k18 x1 x2 x3 s3) (
    e_z 0 s3)
def f_L_law_1275 (N : Nat) (L : Nat) (xs : Nat → Int) (k18 : Option Nat → Option Nat → Int → sj_Mem → Option (Int × sj_Mem)) (x1 : Option Nat) (x2 : Option Nat) (x3 : Int) (y0 : Int) (y1 : Int) (y2 : Option Nat) (s : sj_Mem) : Option (Int × sj_Mem) :=
  e_aS L xs (x3 + 3) fun v1 =>
  e_nn y2 fun a2 =>
  e_cv 8 a2 s (f_X8_tables N a2 y1 y0 v1 s) fun v4 s3 =>
  e_aS L xs (x3 + 1) fun v5 =>
  e_aS L xs (x3 + 2) fun v6 =>
  e_ieq v6 0 (
    f_L_law_1302 N L xs k18 x1 x2 x3 0 v5 x2 v4 s3) (
    f_L_law_1302 N L xs k18 x1 x2 x3 1 v5 x2 v4 s3)
def f_L_law_1398 (N : Nat) (L : Nat) (xs : Nat → Int) (k18 : Option Nat → Option Nat → Int → sj_Mem → Option (Int × sj_Mem)) (x1 : Option Nat) (x2 : Option Nat) (x3 : Int) (y0 : Int) (y1 : Int) (y2 : Int) (y3 : Int) (y4 : Int) (y5 : Int) (y6 : Option Nat) (y7 : Int) (s : sj_Mem) : Option (Int × sj_Mem) :=
  e_nn y6 fun a1 =>
  e_cv 9 a1 s (f_X9_dug N a1 y5 y4 y3 y2 y1 y0 s) fun v3 s2 =>
  e_ieq y7 v3 (
    f_L_law_1900 N L xs k18 x1 x2 x3 s2) (
    e_z 0 s2)
def f_L_law_1355 (N : Nat) (L : Nat) (xs : Nat → Int) (k18 : Option Nat → Option Nat → Int → sj_Mem → Option (Int × sj_Mem)) (x1 : Option Nat) (x2 : Option Nat) (x3 : Int) (y0 : Int) (y1 : Int) (y2 : Int) (y3 : Int) (y4 : Int) (y5 : Int) (y6 : Option Nat) (s : sj_Mem) : Option (Int × sj_Mem) :=
  e_nn y6 fun a1 =>
  e_cv 8 a1 s (f_X8_dug N a1 y5 y4 y3 y2 y1 y0 s) fun v3 s2 =>
  e_aS L xs (x3 + 1) fun v4 =>
  e_aS L xs (x3 + 2) fun v5 =>
  e_aS L xs (x3 + 3) fun v6 =>
  e_aS L xs (x3 + 4) fun v7 =>
  e_aS L xs (x3 + 5) fun v8 =>
  e_aS L xs (x3 + 6) fun v9 =>
  e_ieq v9 0 (
    f_L_law_1398 N L xs k18 x1 x2 x3 0 v8 v7 v6 v5 v4 x2 v3 s2) (
    f_L_law_1398 N L xs k18 x1 x2 x3 1 v8 v7 v6 v5 v4 x2 v3 s2)
def f_L_law_1625 (N : Nat) (L : Nat) (xs : Nat → Int) (k18 : Option Nat → Option Nat → Int → sj_Mem → Option (Int × sj_Mem)) (x1 : Option Nat) (x2 : Option Nat) (x3 : Int) (y0 : Int) (y1 : Int) (y2 : Int) (y3 : Int) (y4 : Int) (y5 : Int) (y6 : Option Nat) (y7 : Int) (s : sj_Mem) : Option (Int × sj_Mem) :=
  e_nn y6 fun a1 =>
  e_cv 9 a1 s (f_X9_deep N a1 y5 y4 y3 y2 y1 y0 s) fun v3 s2 =>
  e_ieq y7 v3 (
    f_L_law_1900 N L xs k18 x1 x2 x3 s2) (
    e_z 0 s2)
def f_L_law_1582 (N : Nat) (L : Nat) (xs : Nat → Int) (k18 : Option Nat → Option Nat → Int → sj_Mem → Option (Int × sj_Mem)) (x1 : Option Nat) (x2 : Option Nat) (x3 : Int) (y0 : Int) (y1 : Int) (y2 : Int) (y3 : Int) (y4 : Int) (y5 : Int) (y6 : Option Nat) (s : sj_Mem) : Option (Int × sj_Mem) :=
  e_nn y6 fun a1 =>
  e_cv 8 a1 s (f_X8_deep N a1 y5 y4 y3 y2 y1 y0 s) fun v3 s2 =>
  e_aS L xs (x3 + 1) fun v4 =>
  e_aS L xs (x3 + 2) fun v5 =>
  e_aS L xs (x3 + 3) fun v6 =>
  e_aS L xs (x3 + 4) fun v7 =>
  e_aS L xs (x3 + 5) fun v8 =>
  e_aS L xs (x3 + 6) fun v9 =>
  e_ieq v9 0 (
    f_L_law_1625 N L xs k18 x1 x2 x3 0 v8 v7 v6 v5 v4 x2 v3 s2) (
    f_L_law_1625 N L xs k18 x1 x2 x3 1 v8 v7 v6 v5 v4 x2 v3 s2)
def f_L_law_1716 (N : Nat) (L : Nat) (xs : Nat → Int) (k18 : Option Nat → Option Nat → Int → sj_Mem → Option (Int × sj_Mem)) (x1 : Option Nat) (x2 : Option Nat) (x3 : Int) (y0 : Int) (y1 : Int) (y2 : Int) (y3 : Int) (y4 : Int) (y5 : Option Nat) (y6 : Int) (s : sj_Mem) : Option (Int × sj_Mem) :=
  e_aS L xs (x3 + 6) fun v1 =>
  e_aS L xs (x3 + 7) fun v2 =>
  e_nn y5 fun a3 =>
  e_cv 9 a3 s (f_X9_scan N a3 y4 y3 y2 y1 y0 v1 v2 s) fun v5 s4 =>
  e_ieq y6 v5 (
    f_L_law_1900 N L xs k18 x1 x2 x3 s4) (
    e_z 0 s4)
def f_L_law_1667 (N : Nat) (L : Nat) (xs : Nat → Int) (k18 : Option Nat → Option Nat → Int → sj_Mem → Option (Int × sj_Mem)) (x1 : Option Nat) (x2 : Option Nat) (x3 : Int) (y0 : Int) (y1 : Int) (y2 : Int) (y3 : Int) (y4 : Int) (y5 : Option Nat) (s : sj_Mem) : Option (Int × sj_Mem) :=
  e_aS L xs (x3 + 6) fun v1 =>
  e_aS L xs (x3 + 7) fun v2 =>
  e_nn y5 fun a3 =>
  e_cv 8 a3 s (f_X8_scan N a3 y4 y3 y2 y1 y0 v1 v2 s) fun v5 s4 =>
  e_aS L xs (x3 + 1) fun v6 =>
  e_aS L xs (x3 + 2) fun v7 =>
  e_aS L xs (x3 + 3) fun v8 =>
  e_aS L xs (x3 + 4) fun v9 =>
  e_aS L xs (x3 + 5) fun v10 =>
  e_ieq v10 0 (
    f_L_law_1716 N L xs k18 x1 x2 x3 0 v9 v8 v7 v6 x2 v5 s4) (
    f_L_law_1716 N L xs k18 x1 x2 x3 1 v9 v8 v7 v6 x2 v5 s4)
def f_L_law_1869 (N : Nat) (L : Nat) (xs : Nat → Int) (k18 : Option Nat → Option Nat → Int → sj_Mem → Option (Int × sj_Mem)) (x1 : Option Nat) (x2 : Option Nat) (x3 : Int) (y0 : Int) (y1 : Option Nat) (y2 : Int) (s : sj_Mem) : Option (Int × sj_Mem) :=
  e_nn y1 fun a1 =>
  e_cv 9 a1 s (f_X9_image N a1 y0 s) fun v3 s2 =>
  e_ieq y2 v3 (
    f_L_law_1900 N L xs k18 x1 x2 x3 s2) (
    e_z 0 s2)
def f_L_law_1852 (N : Nat) (L : Nat) (xs : Nat → Int) (k18 : Option Nat → Option Nat → Int → sj_Mem → Option (Int × sj_Mem)) (x1 : Option Nat) (x2 : Option Nat) (x3 : Int) (y0 : Int) (y1 : Option Nat) (s : sj_Mem) : Option (Int × sj_Mem) :=
  e_nn y1 fun a1 =>
  e_cv 8 a1 s (f_X8_image N a1 y0 s) fun v3 s2 =>
  e_aS L xs (x3 + 1) fun v4 =>
  e_ieq v4 0 (
    f_L_law_1869 N L xs k18 x1 x2 x3 0 x2 v3 s2) (
    f_L_law_1869 N L xs k18 x1 x2 x3 1 x2 v3 s2)
def f_L_law_18_b (N : Nat) (L : Nat) (xs : Nat → Int) (k18 : Option Nat → Option Nat → Int → sj_Mem → Option (Int × sj_Mem)) (x1 : Option Nat) (x2 : Option Nat) (x3 : Int) (s : sj_Mem) : Option (Int × sj_Mem) :=
  e_ilt (((L : Int)) - 8) x3 (
    e_z 1 s) (
    e_aS L xs x3 fun v1 =>
    e_sw (sj_and v1 63) (
    if (sj_and v1 63) = 0 then (
      e_aS L xs (x3 + 1) fun v2 =>
      e_aS L xs (x3 + 2) fun v3 =>
      e_nn x1 fun a4 =>
      e_cv 8 a4 s (f_X8_size N a4 v2 v3 s) fun v6 s5 =>
      e_aS L xs (x3 + 1) fun v7 =>
      e_aS L xs (x3 + 2) fun v8 =>
      e_nn x2 fun a9 =>
      e_cv 9 a9 s5 (f_X9_size N a9 v7 v8 s5) fun v11 s10 =>
      e_ieq v6 v11 (
        f_L_law_1900 N L xs k18 (some a4) (some a9) x3 s10) (
        e_z 0 s10)) else (
    if (sj_and v1 63) = 1 then (
      e_aS L xs (x3 + 1) fun v12 =>
      e_aS L xs (x3 + 2) fun v13 =>
      e_aS L xs (x3 + 3) fun v14 =>
      e_nn x1 fun a15 =>
      e_cv 8 a15 s (f_X8_tell N a15 v12 v13 v14 s) fun v17 s16 =>
      e_aS L xs (x3 + 1) fun v18 =>
      e_aS L xs (x3 + 2) fun v19 =>
      e_aS L xs (x3 + 3) fun v20 =>
      e_nn x2 fun a21 =>
      e_cv 9 a21 s16 (f_X9_tell N a21 v18 v19 v20 s16) fun v23 s22 =>
      e_ieq v17 v23 (
        f_L_law_1900 N L xs k18 (some a15) (some a21) x3 s22) (
        e_z 0 s22)) else (
    if (sj_and v1 63) = 2 then (
      e_aS L xs (x3 + 1) fun v24 =>
      e_aS L xs (x3 + 2) fun v25 =>
      e_nn x1 fun a26 =>
      e_cv 8 a26 s (f_X8_dig N a26 v24 v25 s) fun v28 s27 =>
      e_aS L xs (x3 + 1) fun v29 =>
      e_aS L xs (x3 + 2) fun v30 =>
      e_nn x2 fun a31 =>
      e_cv 9 a31 s27 (f_X9_dig N a31 v29 v30 s27) fun v33 s32 =>
      e_ieq v28 v33 (
        f_L_law_1900 N L xs k18 (some a26) (some a31) x3 s32) (
        e_z 0 s32)) else (
    if (sj_and v1 63) = 3 then (
      e_aS L xs (x3 + 1) fun v34 =>
      e_aS L xs (x3 + 2) fun v35 =>
      e_aS L xs (x3 + 3) fun v36 =>
      e_aS L xs (x3 + 4) fun v37 =>
      e_nn x1 fun a38 =>
      e_cv 8 a38 s (f_X8_soil N a38 v34 v35 v36 v37 s) fun v40 s39 =>
      e_aS L xs (x3 + 1) fun v41 =>
      e_aS L xs (x3 + 2) fun v42 =>
      e_aS L xs (x3 + 3) fun v43 =>
      e_aS L xs (x3 + 4) fun v44 =>
      e_nn x2 fun a45 =>
      e_cv 9 a45 s39 (f_X9_soil N a45 v41 v42 v43 v44 s39) fun v47 s46 =>
      e_ieq v40 v47 (
        f_L_law_1900 N L xs k18 (some a38) (some a45) x3 s46) (
        e_z 0 s46)) else (
    if (sj_and v1 63) = 4 then (
      e_aS L xs (x3 + 1) fun v48 =>
      e_nn x1 fun a49 =>
      e_cv 8 a49 s (f_X8_quake N a49 v48 s) fun v51 s50 =>
      e_aS L xs (x3 + 1) fun v52 =>
      e_nn x2 fun a53 =>
      e_cv 9 a53 s50 (f_X9_quake N a53 v52 s50) fun v55 s54 =>
      e_ieq v51 v55 (
        f_L_law_1900 N L xs k18 (some a49) (some a53) x3 s54) (
        e_z 0 s54)) else (
    if (sj_and v1 63) = 5 then (
      e_aS L xs (x3 + 1) fun v56 =>
      e_aS L xs (x3 + 2) fun v57 =>
      e_aS L xs (x3 + 3) fun v58 =>
      e_aS L xs (x3 + 4) fun v59 =>
      e_nn x1 fun a60 =>
      e_cv 8 a60 s (f_X8_anchor N a60 v56 v57 v58 v59 s) fun v62 s61 =>
      e_aS L xs (x3 + 1) fun v63 =>
      e_aS L xs (x3 + 2) fun v64 =>
      e_aS L xs (x3 + 3) fun v65 =>
      e_aS L xs (x3 + 4) fun v66 =>
      e_nn x2 fun a67 =>
      e_cv 9 a67 s61 (f_X9_anchor N a67 v63 v64 v65 v66 s61) fun v69 s68 =>
      e_ieq v62 v69 (
        f_L_law_1900 N L xs k18 (some a60) (some a67) x3 s68) (
        e_z 0 s68)) else (
    if (sj_and v1 63) = 6 then (
      e_aS L xs (x3 + 1) fun v70 =>
      e_aS L xs (x3 + 2) fun v71 =>
      e_aS L xs (x3 + 3) fun v72 =>
      e_aS L xs (x3 + 4) fun v73 =>
      e_aS L xs (x3 + 5) fun v74 =>
      e_nn x1 fun a75 =>
      e_cv 8 a75 s (f_X8_feed N a75 v70 v71 v72 v73 v74 s) fun v77 s76 =>
      e_aS L xs (x3 + 1) fun v78 =>
      e_aS L xs (x3 + 2) fun v79 =>
      e_aS L xs (x3 + 3) fun v80 =>
      e_aS L xs (x3 + 4) fun v81 =>
      e_aS L xs (x3 + 5) fun v82 =>
      e_nn x2 fun a83 =>
      e_cv 9 a83 s76 (f_X9_feed N a83 v78 v79 v80 v81 v82 s76) fun v85 s84 =>
      e_ieq v77 v85 (
        f_L_law_1900 N L xs k18 (some a75) (some a83) x3 s84) (
        e_z 0 s84)) else (
    if (sj_and v1 63) = 7 then (
      e_aS L xs (x3 + 1) fun v86 =>
      e_nn x1 fun a87 =>
      e_cv 8 a87 s (f_X8_end N a87 v86 s) fun v89 s88 =>
      e_aS L xs (x3 + 1) fun v90 =>
      e_nn x2 fun a91 =>
      e_cv 9 a91 s88 (f_X9_end N a91 v90 s88) fun v93 s92 =>
      e_ieq v89 v93 (
        f_L_law_1900 N L xs k18 (some a87) (some a91) x3 s92) (
        e_z 0 s92)) else (
    if (sj_and v1 63) = 8 then (
      e_nn x1 fun a94 =>
      e_cv 8 a94 s (f_X8_text N a94 s) fun v96 s95 =>
      e_nn x2 fun a97 =>
      e_cv 9 a97 s95 (f_X9_text N a97 s95) fun v99 s98 =>
      e_ieq v96 v99 (
        f_L_law_1900 N L xs k18 (some a94) (some a97) x3 s98) (
        e_z 0 s98)) else (
    if (sj_and v1 63) = 9 then (
      e_aS L xs (x3 + 1) fun v100 =>
      e_nn x1 fun a101 =>
      e_cv 8 a101 s (f_X8_fault N a101 v100 s) fun v103 s102 =>
      e_aS L xs (x3 + 1) fun v104 =>
      e_nn x2 fun a105 =>
      e_cv 9 a105 s102 (f_X9_fault N a105 v104 s102) fun v107 s106 =>
      e_ieq v103 v107 (
        f_L_law_1900 N L xs k18 (some a101) (some a105) x3 s106) (
        e_z 0 s106)) else (
    if (sj_and v1 63) = 10 then (
      e_aS L xs (x3 + 1) fun v108 =>
      e_aS L xs (x3 + 2) fun v109 =>
      e_aS L xs (x3 + 3) fun v110 =>
      e_aS L xs (x3 + 4) fun v111 =>
      e_ieq v111 0 (
        f_L_law_613 N L xs k18 x1 x2 x3 0 v110 v109 v108 x1 s) (
        f_L_law_613 N L xs k18 x1 x2 x3 1 v110 v109 v108 x1 s)) else (
    if (sj_and v1 63) = 11 then (
      e_aS L xs (x3 + 1) fun v112 =>
      e_aS L xs (x3 + 2) fun v113 =>
      e_nn x1 fun a114 =>
      e_cv 8 a114 s (f_X8_point N a114 v112 v113 s) fun v116 s115 =>
      e_aS L xs (x3 + 1) fun v117 =>
      e_aS L xs (x3 + 2) fun v118 =>
      e_nn x2 fun a119 =>
      e_cv 9 a119 s115 (f_X9_point N a119 v117 v118 s115) fun v121 s120 =>
      e_ieq v116 v121 (
        f_L_law_1900 N L xs k18 (some a114) (some a119) x3 s120) (
        e_z 0 s120)) else (
    if (sj_and v1 63) = 12 then (
      e_aS L xs (x3 + 1) fun v122 =>
      e_ieq v122 0 (
        f_L_law_700 N L xs k18 x1 x2 x3 0 x1 s) (
        f_L_law_700 N L xs k18 x1 x2 x3 1 x1 s)) else (
    if (sj_and v1 63) = 13 then (
      e_aS L xs (x3 + 1) fun v123 =>
      e_aS L xs (x3 + 2) fun v124 =>
      e_ieq v124 0 (
        f_L_law_744 N L xs k18 x1 x2 x3 0 v123 x1 s) (
        f_L_law_744 N L xs k18 x1 x2 x3 1 v123 x1 s)) else (
    if (sj_and v1 63) = 14 then (
      e_nn x1 fun a125 =>
      e_cv 8 a125 s (f_X8_undo N a125 s) fun v127 s126 =>
      e_nn x2 fun a128 =>
      e_cv 9 a128 s126 (f_X9_undo N a128 s126) fun v130 s129 =>
      e_ieq v127 v130 (
        f_L_law_1900 N L xs k18 (some a125) (some a128) x3 s129) (
        e_z 0 s129)) else (
    if (sj_and v1 63) = 15 then (
      e_aS L xs (x3 + 1) fun v131 =>
      e_aS L xs (x3 + 2) fun v132 =>
      e_nn x1 fun a133 =>
      e_cv 8 a133 s (f_X8_column N a133 v131 v132 s) fun v135 s134 =>
      e_aS L xs (x3 + 1) fun v136 =>
      e_aS L xs (x3 + 2) fun v137 =>
      e_nn x2 fun a138 =>
      e_cv 9 a138 s134 (f_X9_column N a138 v136 v137 s134) fun v140 s139 =>
      e_ieq v135 v140 (
        f_L_law_1900 N L xs k18 (some a133) (some a138) x3 s139) (
        e_z 0 s139)) else (
    if (sj_and v1 63) = 16 then (
      e_aS L xs (x3 + 1) fun v141 =>
      e_aS L xs (x3 + 2) fun v142 =>
      e_nn x1 fun a143 =>
      e_cv 8 a143 s (f_X8_layer N a143 v141 v142 s) fun v145 s144 =>
      e_aS L xs (x3 + 1) fun v146 =>
      e_aS L xs (x3 + 2) fun v147 =>
      e_nn x2 fun a148 =>
      e_cv 9 a148 s144 (f_X9_layer N a148 v146 v147 s144) fun v150 s149 =>
      e_ieq v145 v150 (
        f_L_law_1900 N L xs k18 (some a143) (some a148) x3 s149) (
        e_z 0 s149)) else (
    if (sj_and v1 63) = 17 then (
      e_aS L xs (x3 + 1) fun v151 =>
      e_aS L xs (x3 + 2) fun v152 =>
      e_nn x1 fun a153 =>
      e_cv 8 a153 s (f_X8_anchored N a153 v151 v152 s) fun v155 s154 =>
      e_aS L xs (x3 + 1) fun v156 =>
      e_aS L xs (x3 + 2) fun v157 =>
      e_nn x2 fun a158 =>
      e_cv 9 a158 s154 (f_X9_anchored N a158 v156 v157 s154) fun v160 s159 =>
      e_ieq v155 v160 (
        f_L_law_1900 N L xs k18 (some a153) (some a158) x3 s159) (
        e_z 0 s159)) else (
    if (sj_and v1 63) = 18 then (
      e_aS L xs (x3 + 1) fun v161 =>
      e_aS L xs (x3 + 2) fun v162 =>
      e_nn x1 fun a163 =>
      e_cv 8 a163 s (f_X8_slice N a163 v161 v162 s) fun v165 s164 =>
      e_aS L xs (x3 + 1) fun v166 =>
      e_aS L xs (x3 + 2) fun v167 =>
      e_nn x2 fun a168 =>
      e_cv 9 a168 s164 (f_X9_slice N a168 v166 v167 s164) fun v170 s169 =>
      e_leq v165 v170 (
        f_L_law_1900 N L xs k18 (some a163) (some a168) x3 s169) (
        e_z 0 s169)) else (
    if (sj_and v1 63) = 19 then (
      e_aS L xs (x3 + 1) fun v171 =>
      e_aS L xs (x3 + 2) fun v172 =>
      e_nn x1 fun a173 =>
      e_cv 8 a173 s (f_X8_rubs N a173 v171 v172 s) fun v175 s174 =>
      e_aS L xs (x3 + 1) fun v176 =>
      e_aS L xs (x3 + 2) fun v177 =>
      e_nn x2 fun a178 =>
      e_cv 9 a178 s174 (f_X9_rubs N a178 v176 v177 s174) fun v180 s179 =>
      e_leq v175 v180 (
        f_L_law_1900 N L xs k18 (some a173) (some a178) x3 s179) (
        e_z 0 s179)) else (
    if (sj_and v1 63) = 20 then (
      e_aS L xs (x3 + 1) fun v181 =>
      e_nn x1 fun a182 =>
      e_cv 8 a182 s (f_X8_stands N a182 v181 s) fun v184 s183 =>
      e_aS L xs (x3 + 1) fun v185 =>
      e_nn x2 fun a186 =>
      e_cv 9 a186 s183 (f_X9_stands N a186 v185 s183) fun v188 s187 =>
      e_ieq v184 v188 (
        f_L_law_1900 N L xs k18 (some a182) (some a186) x3 s187) (
        e_z 0 s187)) else (
    if (sj_and v1 63) = 21 then (
      e_nn x1 fun a189 =>
      e_cv 8 a189 s (f_X8_factor N a189 s) fun v191 s190 =>
      e_nn x2 fun a192 =>
      e_cv 9 a192 s190 (f_X9_factor N a192 s190) fun v194 s193 =>
      e_ieq v191 v194 (
        f_L_law_1900 N L xs k18 (some a189) (some a192) x3 s193) (
        e_z 0 s193)) else (
    if (sj_and v1 63) = 22 then (
      e_aS L xs (x3 + 1) fun v195 =>
      e_nn x1 fun a196 =>
      e_cv 8 a196 s (f_X8_sum N a196 v195 s) fun v198 s197 =>
      e_aS L xs (x3 + 1) fun v199 =>
      e_nn x2 fun a200 =>
      e_cv 9 a200 s197 (f_X9_sum N a200 v199 s197) fun v202 s201 =>
      e_leq v198 v202 (
        f_L_law_1900 N L xs k18 (some a196) (some a200) x3 s201) (
        e_z 0 s201)) else (
    if (sj_and v1 63) = 23 then (
      e_nn x1 fun a203 =>
      e_cv 8 a203 s (f_X8_dry N a203 s) fun v205 s204 =>
      e_nn x2 fun a206 =>
      e_cv 9 a206 s204 (f_X9_dry N a206 s204) fun v208 s207 =>
      e_ieq v205 v208 (
        f_L_law_1900 N L xs k18 (some a203) (some a206) x3 s207) (
        e_z 0 s207)) else (
    if (sj_and v1 63) = 24 then (
      e_aS L xs (x3 + 1) fun v209 =>
      e_nn x1 fun a210 =>
      e_cv 8 a210 s (f_X8_bears N a210 v209 s) fun v212 s211 =>
      e_aS L xs (x3 + 1) fun v213 =>
      e_nn x2 fun a214 =>
      e_cv 9 a214 s211 (f_X9_bears N a214 v213 s211) fun v216 s215 =>
      e_ieq v212 v216 (
        f_L_law_1900 N L xs k18 (some a210) (some a214) x3 s215) (
        e_z 0 s215)) else (
    if (sj_and v1 63) = 25 then (
      e_aS L xs (x3 + 1) fun v217 =>
      e_nn x1 fun a218 =>
      e_cv 8 a218 s (f_X8_needs N a218 v217 s) fun v220 s219 =>
      e_aS L xs (x3 + 1) fun v221 =>
      e_nn x2 fun a222 =>
      e_cv 9 a222 s219 (f_X9_needs N a222 v221 s219) fun v224 s223 =>
      e_ieq v220 v224 (
        f_L_law_1900 N L xs k18 (some a218) (some a222) x3 s223) (
        e_z 0 s223)) else (
    if (sj_and v1 63) = 26 then (
      e_aS L xs (x3 + 1) fun v225 =>
      e_nn x1 fun a226 =>
      e_cv 8 a226 s (f_X8_pull N a226 v225 s) fun v228 s227 =>
      e_aS L xs (x3 + 1) fun v229 =>
      e_nn x2 fun a230 =>
      e_cv 9 a230 s227 (f_X9_pull N a230 v229 s227) fun v232 s231 =>
      e_ieq v228 v232 (
        f_L_law_1900 N L xs k18 (some a226) (some a230) x3 s231) (
        e_z 0 s231)) else (
    if (sj_and v1 63) = 27 then (
      e_aS L xs (x3 + 1) fun v233 =>
      e_aS L xs (x3 + 2) fun v234 =>
      e_aS L xs (x3 + 3) fun v235 =>
      e_aS L xs (x3 + 4) fun v236 =>
      e_ieq v236 0 (
        f_L_law_1125 N L xs k18 x1 x2 x3 0 v235 v234 v233 x1 s) (
        f_L_law_1125 N L xs k18 x1 x2 x3 1 v235 v234 v233 x1 s)) else (
    if (sj_and v1 63) = 28 then (
      e_aS L xs (x3 + 1) fun v237 =>
      e_aS L xs (x3 + 2) fun v238 =>
      e_aS L xs (x3 + 3) fun v239 =>
      e_aS L xs (x3 + 4) fun v240 =>
      e_aS L xs (x3 + 5) fun v241 =>
      e_ieq v241 0 (
        f_L_law_1199 N L xs k18 x1 x2 x3 0 v240 v239 v238 v237 x1 s) (
        f_L_law_1199 N L xs k18 x1 x2 x3 1 v240 v239 v238 v237 x1 s)) else (
    if (sj_and v1 63) = 29 then (
      e_aS L xs (x3 + 1) fun v242 =>
      e_aS L xs (x3 + 2) fun v243 =>
      e_ieq v243 0 (
        f_L_law_1275 N L xs k18 x1 x2 x3 0 v242 x1 s) (
        f_L_law_1275 N L xs k18 x1 x2 x3 1 v242 x1 s)) else (
    if (sj_and v1 63) = 30 then (
      e_aS L xs (x3 + 1) fun v244 =>
      e_aS L xs (x3 + 2) fun v245 =>
      e_aS L xs (x3 + 3) fun v246 =>
      e_aS L xs (x3 + 4) fun v247 =>
      e_aS L xs (x3 + 5) fun v248 =>
      e_aS L xs (x3 + 6) fun v249 =>
      e_ieq v249 0 (
        f_L_law_1355 N L xs k18 x1 x2 x3 0 v248 v247 v246 v245 v244 x1 s) (
        f_L_law_1355 N L xs k18 x1 x2 x3 1 v248 v247 v246 v245 v244 x1 s)) else (
    if (sj_and v1 63) = 31 then (
      e_nn x1 fun a250 =>
      e_cv 8 a250 s (f_X8_mirror N a250 s) fun v252 s251 =>
      e_nn x2 fun a253 =>
      e_cv 9 a253 s251 (f_X9_mirror N a253 s251) fun v255 s254 =>
      e_ieq v252 v255 (
        f_L_law_1900 N L xs k18 (some a250) (some a253) x3 s254) (
        e_z 0 s254)) else (
    if (sj_and v1 63) = 32 then (
      e_aS L xs (x3 + 1) fun v256 =>
      e_aS L xs (x3 + 2) fun v257 =>
      e_aS L xs (x3 + 3) fun v258 =>
      e_nn x1 fun a259 =>
      e_cv 8 a259 s (f_X8_berm N a259 v256 v257 v258 s) fun v261 s260 =>
      e_aS L xs (x3 + 1) fun v262 =>
      e_aS L xs (x3 + 2) fun v263 =>
      e_aS L xs (x3 + 3) fun v264 =>
      e_nn x2 fun a265 =>
      e_cv 9 a265 s260 (f_X9_berm N a265 v262 v263 v264 s260) fun v267 s266 =>
      e_ieq v261 v267 (
        f_L_law_1900 N L xs k18 (some a259) (some a265) x3 s266) (
        e_z 0 s266)) else (
    if (sj_and v1 63) = 33 then (
      e_aS L xs (x3 + 1) fun v268 =>
      e_nn x1 fun a269 =>
      e_cv 8 a269 s (f_X8_shape N a269 v268 s) fun v271 s270 =>
      e_aS L xs (x3 + 1) fun v272 =>
      e_nn x2 fun a273 =>
      e_cv 9 a273 s270 (f_X9_shape N a273 v272 s270) fun v275 s274 =>
      e_ieq v271 v275 (
        f_L_law_1900 N L xs k18 (some a269) (some a273) x3 s274) (
        e_z 0 s274)) else (
    if (sj_and v1 63) = 34 then (
      e_aS L xs (x3 + 1) fun v276 =>
      e_aS L xs (x3 + 2) fun v277 =>
      e_nn x1 fun a278 =>
      e_cv 8 a278 s (f_X8_thrust N a278 v276 v277 s) fun v280 s279 =>
      e_aS L xs (x3 + 1) fun v281 =>
      e_aS L xs (x3 + 2) fun v282 =>
      e_nn x2 fun a283 =>
      e_cv 9 a283 s279 (f_X9_thrust N a283 v281 v282 s279) fun v285 s284 =>
      e_leq v280 v285 (
        f_L_law_1900 N L xs k18 (some a278) (some a283) x3 s284) (
        e_z 0 s284)) else (
    if (sj_and v1 63) = 35 then (
      e_aS L xs (x3 + 1) fun v286 =>
      e_nn x1 fun a287 =>
      e_cv 8 a287 s (f_X8_crest N a287 v286 s) fun v289 s288 =>
      e_aS L xs (x3 + 1) fun v290 =>
      e_nn x2 fun a291 =>
      e_cv 9 a291 s288 (f_X9_crest N a291 v290 s288) fun v293 s292 =>
      e_ieq v289 v293 (
        f_L_law_1900 N L xs k18 (some a287) (some a291) x3 s292) (
        e_z 0 s292)) else (
    if (sj_and v1 63) = 36 then (
      e_aS L xs (x3 + 1) fun v294 =>
      e_aS L xs (x3 + 2) fun v295 =>
      e_aS L xs (x3 + 3) fun v296 =>
      e_aS L xs (x3 + 4) fun v297 =>
      e_aS L xs (x3 + 5) fun v298 =>
      e_aS L xs (x3 + 6) fun v299 =>
      e_ieq v299 0 (
        f_L_law_1582 N L xs k18 x1 x2 x3 0 v298 v297 v296 v295 v294 x1 s) (
        f_L_law_1582 N L xs k18 x1 x2 x3 1 v298 v297 v296 v295 v294 x1 s)) else (
    if (sj_and v1 63) = 37 then (
      e_aS L xs (x3 + 1) fun v300 =>
      e_aS L xs (x3 + 2) fun v301 =>
      e_aS L xs (x3 + 3) fun v302 =>
      e_aS L xs (x3 + 4) fun v303 =>
      e_aS L xs (x3 + 5) fun v304 =>
      e_ieq v304 0 (
        f_L_law_1667 N L xs k18 x1 x2 x3 0 v303 v302 v301 v300 x1 s) (
        f_L_law_1667 N L xs k18 x1 x2 x3 1 v303 v302 v301 v300 x1 s)) else (
    if (sj_and v1 63) = 38 then (
      e_aS L xs (x3 + 1) fun v305 =>
      e_nn x1 fun a306 =>
      e_cv 8 a306 s (f_X8_state N a306 v305 s) fun v308 s307 =>
      e_aS L xs (x3 + 1) fun v309 =>
      e_nn x2 fun a310 =>
      e_cv 9 a310 s307 (f_X9_state N a310 v309 s307) fun v312 s311 =>
      e_ieq v308 v312 (
        f_L_law_1900 N L xs k18 (some a306) (some a310) x3 s311) (
        e_z 0 s311)) else (
    if (sj_and v1 63) = 39 then (
      e_aS L xs (x3 + 1) fun v313 =>
      e_aS L xs (x3 + 2) fun v314 =>
      e_aS L xs (x3 + 3) fun v315 =>
      e_nn x1 fun a316 =>
      e_cv 8 a316 s (f_X8_chance N a316 v313 v314 v315 s) fun v318 s317 =>
      e_aS L xs (x3 + 1) fun v319 =>
      e_aS L xs (x3 + 2) fun v320 =>
      e_aS L xs (x3 + 3) fun v321 =>
      e_nn x2 fun a322 =>
      e_cv 9 a322 s317 (f_X9_chance N a322 v319 v320 v321 s317) fun v324 s323 =>
      e_ieq v318 v324 (
        f_L_law_1900 N L xs k18 (some a316) (some a322) x3 s323) (
        e_z 0 s323)) else (
    if (sj_and v1 63) = 40 then (
      e_nn x1 fun a325 =>
      e_cv 8 a325 s (f_X8_report N a325 s) fun v327 s326 =>
      e_nn x2 fun a328 =>
      e_cv 9 a328 s326 (f_X9_report N a328 s326) fun v330 s329 =>
      e_ieq v327 v330 (
        f_L_law_1900 N L xs k18 (some a325) (some a328) x3 s329) (
        e_z 0 s329)) else (
    if (sj_and v1 63) = 41 then (
      e_aS L xs (x3 + 1) fun v331 =>
      e_nn x1 fun a332 =>
      e_cv 8 a332 s (f_X8_sign N a332 v331 s) fun v334 s333 =>
      e_aS L xs (x3 + 1) fun v335 =>
      e_nn x2 fun a336 =>
      e_cv 9 a336 s333 (f_X9_sign N a336 v335 s333) fun v338 s337 =>
      e_ieq v334 v338 (
        f_L_law_1900 N L xs k18 (some a332) (some a336) x3 s337) (
        e_z 0 s337)) else (
    if (sj_and v1 63) = 42 then (
      e_aS L xs (x3 + 1) fun v339 =>
      e_ieq v339 0 (
        f_L_law_1852 N L xs k18 x1 x2 x3 0 x1 s) (
        f_L_law_1852 N L xs k18 x1 x2 x3 1 x1 s)) else (
    if (sj_and v1 63) = 43 then (
      e_aS L xs (x3 + 1) fun v340 =>
      e_nn x1 fun a341 =>
      e_cv 8 a341 s (f_X8_look N a341 v340 s) fun v343 s342 =>
      e_aS L xs (x3 + 1) fun v344 =>
      e_nn x2 fun a345 =>
      e_cv 9 a345 s342 (f_X9_look N a345 v344 s342) fun v347 s346 =>
      e_ieq v343 v347 (
        f_L_law_1900 N L xs k18 (some a341) (some a345) x3 s346) (
        e_z 0 s346)) else (
      f_L_law_1900 N L xs k18 x1 x2 x3 s))))))))))))))))))))))))))))))))))))))))))))))
def f_L_law_18 (N : Nat) (L : Nat) (xs : Nat → Int) : Nat → Option Nat → Option Nat → Int → sj_Mem → Option (Int × sj_Mem)
  | 0 => fun _ _ _ _ => none
  | n + 1 => fun x1 x2 x3 s => f_L_law_18_b N L xs (f_L_law_18 N L xs n) x1 x2 x3 s
def f_L_law (N : Nat) (L : Nat) (xs : Nat → Int) (s : sj_Mem) : Option (Int × sj_Mem) :=
  e_nO 8 15 s fun a1 s2 =>
  e_cl (f_X8_init N a1 s2) fun _u s3 =>
  e_nO 9 35 s3 fun a4 s5 =>
  e_cl (f_X9_init N a4 s5) fun _u s6 =>
  f_L_law_18 N L xs N (some a1) (some a4) 0 s6
