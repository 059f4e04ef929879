def g_J7_fill_53178_5_b (N : Nat) (k5 : Nat → Nat → Int → Int → Int → sj_VV → Option (Unit × sj_VV)) (x0 : Nat) (n0 : Nat) (x1 : Int) (x2 : Int) (x3 : Int) (V : sj_VV) : Option (Unit × sj_VV) :=
  e_ile x3 x2 (
    some ((), V)) (
    e_ix n0 x2 fun _ =>
    e_lt (sj_up V x0 x2.toNat x1) fun V1 =>
    e_lt (x2 + 1) fun v2 =>
    k5 x0 n0 x1 v2 x3 V1)
def g_J7_fill_53178_5 (N : Nat) : Nat → Nat → Nat → Int → Int → Int → sj_VV → Option (Unit × sj_VV)
  | 0 => fun _ _ _ _ _ _ => none
  | n + 1 => fun x0 n0 x1 x2 x3 V => g_J7_fill_53178_5_b N (g_J7_fill_53178_5 N n) x0 n0 x1 x2 x3 V
def g_J7_fill_53178 (N : Nat) (x0 : Nat) (n0 : Nat) (x1 : Int) (V : sj_VV) : Option (Unit × sj_VV) :=
  e_lt ((n0 : Int)) fun v1 =>
  g_J7_fill_53178_5 N N x0 n0 x1 0 v1 V
def g_X5_drop (N : Nat) (a0 : Nat) (V : sj_VV) : Option (Unit × sj_VV) :=
  e_lt (sj_up V a0 1 ((-1))) fun V1 =>
  e_lt (sj_up V1 a0 2 ((-1))) fun V2 =>
  some ((), V2)
def g_X0_begin (N : Nat) (a0 : Nat) (x1 : Int) (x2 : Int) (V : sj_VV) : Option (Unit × sj_VV) :=
  e_lt (sj_up V a0 0 x1) fun V1 =>
  e_lt (sj_up V1 a0 1 x2) fun V2 =>
  e_lt (sj_up V2 a0 2 0) fun V3 =>
  e_cs (g_J7_fill_53178 N (a0 + 1) 41 20 V3) fun _u V4 =>
  e_cs (g_J7_fill_53178 N (a0 + 2) 41 0 V4) fun _u V5 =>
  e_cs (g_J7_fill_53178 N (a0 + 3) 41 0 V5) fun _u V6 =>
  e_cs (g_J7_fill_53178 N (a0 + 4) 41 0 V6) fun _u V7 =>
  e_cs (g_J7_fill_53178 N (a0 + 5) 123 0 V7) fun _u V8 =>
  e_cs (g_J7_fill_53178 N (a0 + 6) 4 20 V8) fun _u V9 =>
  e_cs (g_J7_fill_53178 N (a0 + 7) 4 10 V9) fun _u V10 =>
  e_cs (g_J7_fill_53178 N (a0 + 8) 4 300 V10) fun _u V11 =>
  e_cs (g_J7_fill_53178 N (a0 + 11) 6 0 V11) fun _u V12 =>
  e_cs (g_X5_drop N (a0 + 12) V12) fun _u V13 =>
  some ((), V13)
def g_X5_copy (N : Nat) (a0 : Nat) (x1 : Nat) (V : sj_VV) : Option (Unit × sj_VV) :=
  e_cpv (x1 + 1) 41 0 (a0 + 1) 41 0 41 V fun V1 =>
  e_lt (sj_up V1 a0 1 (V1 x1 1)) fun V2 =>
  e_lt (sj_up V2 a0 2 (V2 x1 2)) fun V3 =>
  e_zz (V3 x1 3) fun _ =>
  e_lt (sj_up V3 a0 3 (V3 x1 3)) fun V4 =>
  some ((), V4)
noncomputable def f_X5_copy (N : Nat) (a0 : Nat) (x1 : Option Nat) (s : sj_Mem) : Option (Unit × sj_Mem) := e_ok (OK5 s.1 a0 ∧ x1 = some (x1.getD 0) ∧ OK5 s.1 (x1.getD 0)) ((g_X5_copy N a0 (x1.getD 0) s.2).map (fun q => (q.1, (s.1, q.2))))
def g_X0_copy (N : Nat) (a0 : Nat) (x1 : Nat) (V : sj_VV) : Option (Unit × sj_VV) :=
  e_lt (sj_up V a0 0 (V x1 0)) fun V1 =>
  e_lt (sj_up V1 a0 1 (V1 x1 1)) fun V2 =>
  e_lt (sj_up V2 a0 2 (V2 x1 2)) fun V3 =>
  e_cpv (x1 + 1) 41 0 (a0 + 1) 41 0 41 V3 fun V4 =>
  e_cpv (x1 + 2) 41 0 (a0 + 2) 41 0 41 V4 fun V5 =>
  e_cpv (x1 + 3) 41 0 (a0 + 3) 41 0 41 V5 fun V6 =>
  e_cpv (x1 + 4) 41 0 (a0 + 4) 41 0 41 V6 fun V7 =>
  e_cpv (x1 + 5) 123 0 (a0 + 5) 123 0 123 V7 fun V8 =>
  e_cpv (x1 + 6) 4 0 (a0 + 6) 4 0 4 V8 fun V9 =>
  e_cpv (x1 + 7) 4 0 (a0 + 7) 4 0 4 V9 fun V10 =>
  e_cpv (x1 + 8) 4 0 (a0 + 8) 4 0 4 V10 fun V11 =>
  e_cpv (x1 + 9) 6 0 (a0 + 9) 6 0 6 V11 fun V12 =>
  e_cpv (x1 + 10) 6 0 (a0 + 10) 6 0 6 V12 fun V13 =>
  e_cpv (x1 + 11) 6 0 (a0 + 11) 6 0 6 V13 fun V14 =>
  e_cs (g_X5_copy N (a0 + 12) (x1 + 12) V14) fun _u V15 =>
  some ((), V15)
noncomputable def f_X0_copy (N : Nat) (a0 : Nat) (x1 : Option Nat) (s : sj_Mem) : Option (Unit × sj_Mem) := e_ok (OK0 s.1 a0 ∧ x1 = some (x1.getD 0) ∧ OK0 s.1 (x1.getD 0)) ((g_X0_copy N a0 (x1.getD 0) s.2).map (fun q => (q.1, (s.1, q.2))))
def g_X0_hasColumn (N : Nat) (a0 : Nat) (x1 : Int) (V : sj_VV) : Option (Int × sj_VV) :=
  e_ilt x1 0 (
    e_zs 0 V) (
    e_ilt (V a0 0) x1 (
      e_zs 0 V) (
      e_zs 1 V))
noncomputable def f_X0_hasColumn (N : Nat) (a0 : Nat) (x1 : Int) (s : sj_Mem) : Option (Int × sj_Mem) := e_ok (OK0 s.1 a0) ((g_X0_hasColumn N a0 x1 s.2).map (fun q => (q.1, (s.1, q.2))))
def g_X0_canLower (N : Nat) (a0 : Nat) (x1 : Int) (x2 : Int) (V : sj_VV) : Option (Int × sj_VV) :=
  e_cs (g_X0_hasColumn N a0 x1 V) fun v2 V1 =>
  e_ieq v2 0 (
    e_zs 0 V1) (
    e_ieq x2 0 (
      e_zs 0 V1) (
      e_ix 41 x1 fun _ =>
      e_wid (V1 (a0 + 1) x1.toNat) fun v3 =>
      e_wid x2 fun v4 =>
      e_lt (v3 - v4) fun v5 =>
      e_ix 41 x1 fun _ =>
      e_wid (V1 (a0 + 2) x1.toNat) fun v6 =>
      e_llt v5 v6 (
        e_zs 0 V1) (
        e_llt 100 v5 (
          e_zs 0 V1) (
          e_zs 1 V1))))
noncomputable def f_X0_canLower (N : Nat) (a0 : Nat) (x1 : Int) (x2 : Int) (s : sj_Mem) : Option (Int × sj_Mem) := e_ok (OK0 s.1 a0) ((g_X0_canLower N a0 x1 x2 s.2).map (fun q => (q.1, (s.1, q.2))))
def g_X0_rockIsBelow_2_b (N : Nat) (k2 : Nat → Int → sj_VV → Option (Int × sj_VV)) (a0 : Nat) (x1 : Int) (V : sj_VV) : Option (Int × sj_VV) :=
  e_ilt (V a0 0) x1 (
    e_zs 1 V) (
    e_ix 41 x1 fun _ =>
    e_ix 41 x1 fun _ =>
    e_ile (V (a0 + 2) x1.toNat) (V (a0 + 1) x1.toNat) (
      e_lt (x1 + 1) fun v1 =>
      k2 a0 v1 V) (
      e_zs 0 V))
def g_X0_rockIsBelow_2 (N : Nat) : Nat → Nat → Int → sj_VV → Option (Int × sj_VV)
  | 0 => fun _ _ _ => none
  | n + 1 => fun a0 x1 V => g_X0_rockIsBelow_2_b N (g_X0_rockIsBelow_2 N n) a0 x1 V
def g_X0_rockIsBelow (N : Nat) (a0 : Nat) (V : sj_VV) : Option (Int × sj_VV) :=
  g_X0_rockIsBelow_2 N N a0 0 V
noncomputable def f_X0_rockIsBelow (N : Nat) (a0 : Nat) (s : sj_Mem) : Option (Int × sj_Mem) := e_ok (OK0 s.1 a0) ((g_X0_rockIsBelow N a0 s.2).map (fun q => (q.1, (s.1, q.2))))
def g_X0_waterAt (N : Nat) (a0 : Nat) (x1 : Int) (V : sj_VV) : Option (Int × sj_VV) :=
  e_ix 41 x1 fun _ =>
  e_ix 41 x1 fun _ =>
  e_min (V (a0 + 3) x1.toNat) (V (a0 + 1) x1.toNat) fun v1 =>
  some (v1, V)
noncomputable def f_X0_waterAt (N : Nat) (a0 : Nat) (x1 : Int) (s : sj_Mem) : Option (Int × sj_Mem) := e_ok (OK0 s.1 a0) ((g_X0_waterAt N a0 x1 s.2).map (fun q => (q.1, (s.1, q.2))))
def g_X8_topPlace (N : Nat) (x0 : Int) (x1 : Int) (V : sj_VV) : Option (Int × sj_VV) :=
  some (((x0 - 1) * 41) + x1, V)
noncomputable def f_X8_topPlace (N : Nat) (x0 : Int) (x1 : Int) (s : sj_Mem) : Option (Int × sj_Mem) := e_ok (True) ((g_X8_topPlace N x0 x1 s.2).map (fun q => (q.1, (s.1, q.2))))
def g_X0_topAt_10_b (N : Nat) (k10 : Nat → Int → Int → Int → Int → sj_VV → Option (Int × sj_VV)) (a0 : Nat) (x1 : Int) (x2 : Int) (x3 : Int) (x4 : Int) (V : sj_VV) : Option (Int × sj_VV) :=
  e_ilt x1 x4 (
    some (x3, V)) (
    e_cs (g_X8_topPlace N x4 x2 V) fun v2 V1 =>
    e_ix 123 v2 fun _ =>
    e_min x3 (V1 (a0 + 5) v2.toNat) fun v3 =>
    e_lt (x4 + 1) fun v4 =>
    k10 a0 x1 x2 v3 v4 V1)
def g_X0_topAt_10 (N : Nat) : Nat → Nat → Int → Int → Int → Int → sj_VV → Option (Int × sj_VV)
  | 0 => fun _ _ _ _ _ _ => none
  | n + 1 => fun a0 x1 x2 x3 x4 V => g_X0_topAt_10_b N (g_X0_topAt_10 N n) a0 x1 x2 x3 x4 V
def g_X0_topAt (N : Nat) (a0 : Nat) (x1 : Int) (x2 : Int) (V : sj_VV) : Option (Int × sj_VV) :=
  e_ix 41 x2 fun _ =>
  e_lt (V (a0 + 1) x2.toNat) fun v1 =>
  g_X0_topAt_10 N N a0 x1 x2 v1 1 V
noncomputable def f_X0_topAt (N : Nat) (a0 : Nat) (x1 : Int) (x2 : Int) (s : sj_Mem) : Option (Int × sj_Mem) := e_ok (OK0 s.1 a0) ((g_X0_topAt N a0 x1 x2 s.2).map (fun q => (q.1, (s.1, q.2))))
def g_X0_weightOn_60 (N : Nat) (k18 : Nat → Int → Int → Int → Int → Int → sj_VV → Option (Int × sj_VV)) (a0 : Nat) (x1 : Int) (x2 : Int) (x3 : Int) (x4 : Int) (x5 : Int) (y0 : Int) (V : sj_VV) : Option (Int × sj_VV) :=
  e_ix 4 x5 fun _ =>
  e_max y0 x2 fun v1 =>
  e_lt (x3 + ((V (a0 + 6) x5.toNat) * (x4 - v1))) fun v2 =>
  e_lt (x5 + 1) fun v3 =>
  k18 a0 x1 x2 v2 y0 v3 V
def g_X0_weightOn_18_b (N : Nat) (k18 : Nat → Int → Int → Int → Int → Int → sj_VV → Option (Int × sj_VV)) (a0 : Nat) (x1 : Int) (x2 : Int) (x3 : Int) (x4 : Int) (x5 : Int) (V : sj_VV) : Option (Int × sj_VV) :=
  e_ile 4 x5 (
    some (x3, V)) (
    e_ile x4 x2 (
      some (x3, V)) (
      e_ile 4 (x5 + 1) (
        g_X0_weightOn_60 N k18 a0 x1 x2 x3 x4 x5 x2 V) (
        e_cs (g_X8_topPlace N (x5 + 1) x1 V) fun v2 V1 =>
        e_ix 123 v2 fun _ =>
        e_min x4 (V1 (a0 + 5) v2.toNat) fun v3 =>
        g_X0_weightOn_60 N k18 a0 x1 x2 x3 x4 x5 v3 V1)))
def g_X0_weightOn_18 (N : Nat) : Nat → Nat → Int → Int → Int → Int → Int → sj_VV → Option (Int × sj_VV)
  | 0 => fun _ _ _ _ _ _ _ => none
  | n + 1 => fun a0 x1 x2 x3 x4 x5 V => g_X0_weightOn_18_b N (g_X0_weightOn_18 N n) a0 x1 x2 x3 x4 x5 V
def g_X0_weightOn (N : Nat) (a0 : Nat) (x1 : Int) (x2 : Int) (V : sj_VV) : Option (Int × sj_VV) :=
  e_ix 41 x1 fun _ =>
  e_lt (V (a0 + 4) x1.toNat) fun v1 =>
  e_ix 41 x1 fun _ =>
  e_lt (V (a0 + 1) x1.toNat) fun v2 =>
  g_X0_weightOn_18 N N a0 x1 x2 v1 v2 0 V
noncomputable def f_X0_weightOn (N : Nat) (a0 : Nat) (x1 : Int) (x2 : Int) (s : sj_Mem) : Option (Int × sj_Mem) := e_ok (OK0 s.1 a0) ((g_X0_weightOn N a0 x1 x2 s.2).map (fun q => (q.1, (s.1, q.2))))
def g_X0_headOn (N : Nat) (a0 : Nat) (x1 : Int) (x2 : Int) (V : sj_VV) : Option (Int × sj_VV) :=
  e_ix 41 x1 fun _ =>
  e_ix 41 x1 fun _ =>
  e_min (V (a0 + 3) x1.toNat) (V (a0 + 1) x1.toNat) fun v1 =>
  e_max 0 (v1 - x2) fun v2 =>
  some (v2, V)
noncomputable def f_X0_headOn (N : Nat) (a0 : Nat) (x1 : Int) (x2 : Int) (s : sj_Mem) : Option (Int × sj_Mem) := e_ok (OK0 s.1 a0) ((g_X0_headOn N a0 x1 x2 s.2).map (fun q => (q.1, (s.1, q.2))))
def g_X0_layerUnder_2_b (N : Nat) (k2 : Nat → Int → Int → Int → sj_VV → Option (Int × sj_VV)) (a0 : Nat) (x1 : Int) (x2 : Int) (x3 : Int) (V : sj_VV) : Option (Int × sj_VV) :=
  e_ile x3 0 (
    some (0, V)) (
    e_cs (g_X0_topAt N a0 x3 x1 V) fun v2 V1 =>
    e_cs (g_X0_topAt N a0 x3 (x1 + 1) V1) fun v4 V3 =>
    e_ile (v2 + v4) x2 (
      e_lt (x3 + (-1)) fun v5 =>
      k2 a0 x1 x2 v5 V3) (
      some (x3, V3)))
def g_X0_layerUnder_2 (N : Nat) : Nat → Nat → Int → Int → Int → sj_VV → Option (Int × sj_VV)
  | 0 => fun _ _ _ _ _ => none
  | n + 1 => fun a0 x1 x2 x3 V => g_X0_layerUnder_2_b N (g_X0_layerUnder_2 N n) a0 x1 x2 x3 V
def g_X0_layerUnder (N : Nat) (a0 : Nat) (x1 : Int) (x2 : Int) (V : sj_VV) : Option (Int × sj_VV) :=
  g_X0_layerUnder_2 N N a0 x1 x2 3 V
noncomputable def f_X0_layerUnder (N : Nat) (a0 : Nat) (x1 : Int) (x2 : Int) (s : sj_Mem) : Option (Int × sj_Mem) := e_ok (OK0 s.1 a0) ((g_X0_layerUnder N a0 x1 x2 s.2).map (fun q => (q.1, (s.1, q.2))))
def g_X5_isNone (N : Nat) (a0 : Nat) (V : sj_VV) : Option (Int × sj_VV) :=
  e_ile 0 (V a0 1) (
    e_zs 0 V) (
    e_zs 1 V)
noncomputable def f_X5_isNone (N : Nat) (a0 : Nat) (s : sj_Mem) : Option (Int × sj_Mem) := e_ok (OK5 s.1 a0) ((g_X5_isNone N a0 s.2).map (fun q => (q.1, (s.1, q.2))))
def g_X0_anchorCounts (N : Nat) (a0 : Nat) (x1 : Int) (x2 : Nat) (V : sj_VV) : Option (Int × sj_VV) :=
  e_ix 6 x1 fun _ =>
  e_lt (V (a0 + 9) x1.toNat) fun v1 =>
  e_ix 6 x1 fun _ =>
  e_ile (V (a0 + 11) x1.toNat) 0 (
    e_zs 0 V) (
    e_cs (g_X5_isNone N x2 V) fun v3 V2 =>
    e_ieq v3 0 (
      e_ilt v1 (V2 x2 1) (
        e_zs 0 V2) (
        e_ile (V2 x2 2) v1 (
          e_zs 0 V2) (
          e_ix 6 x1 fun _ =>
          e_ix 41 v1 fun _ =>
          e_ile (V2 (a0 + 10) x1.toNat) (V2 (x2 + 1) v1.toNat) (
            e_zs 0 V2) (
            e_zs 1 V2)))) (
      e_zs 0 V2))
noncomputable def f_X0_anchorCounts (N : Nat) (a0 : Nat) (x1 : Int) (x2 : Option Nat) (s : sj_Mem) : Option (Int × sj_Mem) := e_ok (OK0 s.1 a0 ∧ x2 = some (x2.getD 0) ∧ OK5 s.1 (x2.getD 0)) ((g_X0_anchorCounts N a0 x1 (x2.getD 0) s.2).map (fun q => (q.1, (s.1, q.2))))
def g_X0_pullsOn_43 (N : Nat) (k5 : Nat → Nat → Int → Int → sj_VV → Option (Int × sj_VV)) (a0 : Nat) (x1 : Nat) (x2 : Int) (x4 : Int) (V : sj_VV) : Option (Int × sj_VV) :=
  e_lt (x4 + 1) fun v1 =>
  k5 a0 x1 x2 v1 V
def g_X0_pullsOn_5_b (N : Nat) (k5 : Nat → Nat → Int → Int → sj_VV → Option (Int × sj_VV)) (a0 : Nat) (x1 : Nat) (x2 : Int) (x4 : Int) (V : sj_VV) : Option (Int × sj_VV) :=
  e_ile 6 x4 (
    some (x2, V)) (
    e_cs (g_X0_anchorCounts N a0 x4 x1 V) fun v2 V1 =>
    e_ieq v2 0 (
      g_X0_pullsOn_43 N k5 a0 x1 x2 x4 V1) (
      e_wid (V1 a0 1) fun v3 =>
      e_ix 6 x4 fun _ =>
      e_wid (V1 (a0 + 11) x4.toNat) fun v4 =>
      e_lt (x2 + ((2000 * v3) * v4)) fun v5 =>
      g_X0_pullsOn_43 N k5 a0 x1 v5 x4 V1))
def g_X0_pullsOn_5 (N : Nat) : Nat → Nat → Nat → Int → Int → sj_VV → Option (Int × sj_VV)
  | 0 => fun _ _ _ _ _ => none
  | n + 1 => fun a0 x1 x2 x4 V => g_X0_pullsOn_5_b N (g_X0_pullsOn_5 N n) a0 x1 x2 x4 V
def g_X0_pullsOn (N : Nat) (a0 : Nat) (x1 : Nat) (V : sj_VV) : Option (Int × sj_VV) :=
  g_X0_pullsOn_5 N N a0 x1 0 0 V
noncomputable def f_X0_pullsOn (N : Nat) (a0 : Nat) (x1 : Option Nat) (s : sj_Mem) : Option (Int × sj_Mem) := e_ok (OK0 s.1 a0 ∧ x1 = some (x1.getD 0) ∧ OK5 s.1 (x1.getD 0)) ((g_X0_pullsOn N a0 (x1.getD 0) s.2).map (fun q => (q.1, (s.1, q.2))))
def g_X0_anchorSet_25 (N : Nat) (k4 : Nat → Int → Int → sj_VV → Option (Int × sj_VV)) (a0 : Nat) (x1 : Int) (x2 : Int) (V : sj_VV) : Option (Int × sj_VV) :=
  e_lt (x2 + 1) fun v1 =>
  k4 a0 x1 v1 V
def g_X0_anchorSet_4_b (N : Nat) (k4 : Nat → Int → Int → sj_VV → Option (Int × sj_VV)) (a0 : Nat) (x1 : Int) (x2 : Int) (V : sj_VV) : Option (Int × sj_VV) :=
  e_ile 6 x2 (
    some (x1, V)) (
    e_ix 6 x2 fun _ =>
    e_ile (V (a0 + 11) x2.toNat) 0 (
      g_X0_anchorSet_25 N k4 a0 x1 x2 V) (
      e_shl 1 x2 fun v1 =>
      e_lt (sj_or x1 v1) fun v2 =>
      g_X0_anchorSet_25 N k4 a0 v2 x2 V))
def g_X0_anchorSet_4 (N : Nat) : Nat → Nat → Int → Int → sj_VV → Option (Int × sj_VV)
  | 0 => fun _ _ _ _ => none
  | n + 1 => fun a0 x1 x2 V => g_X0_anchorSet_4_b N (g_X0_anchorSet_4 N n) a0 x1 x2 V
def g_X0_anchorSet (N : Nat) (a0 : Nat) (V : sj_VV) : Option (Int × sj_VV) :=
  g_X0_anchorSet_4 N N a0 0 0 V
noncomputable def f_X0_anchorSet (N : Nat) (a0 : Nat) (s : sj_Mem) : Option (Int × sj_Mem) := e_ok (OK0 s.1 a0) ((g_X0_anchorSet N a0 s.2).map (fun q => (q.1, (s.1, q.2))))
def g_X0_greatestGround_4_b (N : Nat) (k4 : Nat → Int → Int → sj_VV → Option (Int × sj_VV)) (a0 : Nat) (x1 : Int) (x2 : Int) (V : sj_VV) : Option (Int × sj_VV) :=
  e_ilt (V a0 0) x2 (
    some (x1, V)) (
    e_ix 41 x2 fun _ =>
    e_max x1 (V (a0 + 1) x2.toNat) fun v1 =>
    e_lt (x2 + 1) fun v2 =>
    k4 a0 v1 v2 V)
def g_X0_greatestGround_4 (N : Nat) : Nat → Nat → Int → Int → sj_VV → Option (Int × sj_VV)
  | 0 => fun _ _ _ _ => none
  | n + 1 => fun a0 x1 x2 V => g_X0_greatestGround_4_b N (g_X0_greatestGround_4 N n) a0 x1 x2 V
def g_X0_greatestGround (N : Nat) (a0 : Nat) (V : sj_VV) : Option (Int × sj_VV) :=
  g_X0_greatestGround_4 N N a0 0 0 V
noncomputable def f_X0_greatestGround (N : Nat) (a0 : Nat) (s : sj_Mem) : Option (Int × sj_Mem) := e_ok (OK0 s.1 a0) ((g_X0_greatestGround N a0 s.2).map (fun q => (q.1, (s.1, q.2))))
def g_X0_allSoil_4_b (N : Nat) (k4 : Nat → Int → Int → sj_VV → Option (Int × sj_VV)) (a0 : Nat) (x1 : Int) (x2 : Int) (V : sj_VV) : Option (Int × sj_VV) :=
  e_ilt (V a0 0) x2 (
    some (x1, V)) (
    e_ix 41 x2 fun _ =>
    e_ix 41 x2 fun _ =>
    e_lt (x1 + ((V (a0 + 1) x2.toNat) - (V (a0 + 2) x2.toNat))) fun v1 =>
    e_lt (x2 + 1) fun v2 =>
    k4 a0 v1 v2 V)
def g_X0_allSoil_4 (N : Nat) : Nat → Nat → Int → Int → sj_VV → Option (Int × sj_VV)
  | 0 => fun _ _ _ _ => none
  | n + 1 => fun a0 x1 x2 V => g_X0_allSoil_4_b N (g_X0_allSoil_4 N n) a0 x1 x2 V
def g_X0_allSoil (N : Nat) (a0 : Nat) (V : sj_VV) : Option (Int × sj_VV) :=
  g_X0_allSoil_4 N N a0 0 0 V
noncomputable def f_X0_allSoil (N : Nat) (a0 : Nat) (s : sj_Mem) : Option (Int × sj_Mem) := e_ok (OK0 s.1 a0) ((g_X0_allSoil N a0 s.2).map (fun q => (q.1, (s.1, q.2))))
def g_X0_thickAt_14 (N : Nat) (V : sj_VV) : Option (Int × sj_VV) :=
  some (0, V)
def g_X0_thickAt (N : Nat) (a0 : Nat) (x1 : Int) (V : sj_VV) : Option (Int × sj_VV) :=
  e_ilt x1 0 (
    g_X0_thickAt_14 N V) (
    e_cs (g_X5_isNone N (a0 + 12) V) fun v2 V1 =>
    e_ieq v2 0 (
      e_ix 41 x1 fun _ =>
      e_ix 41 x1 fun _ =>
      some ((V1 (a0 + 1) x1.toNat) - (V1 ((a0 + 12) + 1) x1.toNat), V1)) (
      g_X0_thickAt_14 N V1))
noncomputable def f_X0_thickAt (N : Nat) (a0 : Nat) (x1 : Int) (s : sj_Mem) : Option (Int × sj_Mem) := e_ok (OK0 s.1 a0) ((g_X0_thickAt N a0 x1 s.2).map (fun q => (q.1, (s.1, q.2))))
def g_X0_thickest_46 (N : Nat) (k20 : Nat → Int → Int → sj_VV → Option (Int × sj_VV)) (a0 : Nat) (x1 : Int) (x2 : Int) (V : sj_VV) : Option (Int × sj_VV) :=
  e_lt (x2 + 1) fun v1 =>
  k20 a0 x1 v1 V
def g_X0_thickest_20_b (N : Nat) (k20 : Nat → Int → Int → sj_VV → Option (Int × sj_VV)) (a0 : Nat) (x1 : Int) (x2 : Int) (V : sj_VV) : Option (Int × sj_VV) :=
  e_ilt (V (a0 + 12) 2) x2 (
    some (x1, V)) (
    e_cs (g_X0_thickAt N a0 x2 V) fun v2 V1 =>
    e_cs (g_X0_thickAt N a0 x1 V1) fun v4 V3 =>
    e_ile v2 v4 (
      g_X0_thickest_46 N k20 a0 x1 x2 V3) (
      g_X0_thickest_46 N k20 a0 x2 x2 V3))
def g_X0_thickest_20 (N : Nat) : Nat → Nat → Int → Int → sj_VV → Option (Int × sj_VV)
  | 0 => fun _ _ _ _ => none
  | n + 1 => fun a0 x1 x2 V => g_X0_thickest_20_b N (g_X0_thickest_20 N n) a0 x1 x2 V
def g_X0_thickest (N : Nat) (a0 : Nat) (V : sj_VV) : Option (Int × sj_VV) :=
  e_lt (V (a0 + 12) 1) fun v1 =>
  e_max (V (a0 + 12) 1) 0 fun v2 =>
  g_X0_thickest_20 N N a0 v1 v2 V
noncomputable def f_X0_thickest (N : Nat) (a0 : Nat) (s : sj_Mem) : Option (Int × sj_Mem) := e_ok (OK0 s.1 a0) ((g_X0_thickest N a0 s.2).map (fun q => (q.1, (s.1, q.2))))
def g_X0_slipArea_14_b (N : Nat) (k14 : Nat → Int → Int → sj_VV → Option (Int × sj_VV)) (a0 : Nat) (x1 : Int) (x2 : Int) (V : sj_VV) : Option (Int × sj_VV) :=
  e_ile (V (a0 + 12) 2) x2 (
    some (x1, V)) (
    e_cs (g_X0_thickAt N a0 x2 V) fun v2 V1 =>
    e_cs (g_X0_thickAt N a0 (x2 + 1) V1) fun v4 V3 =>
    e_lt (x1 + ((V a0 1) * (v2 + v4))) fun v5 =>
    e_lt (x2 + 1) fun v6 =>
    k14 a0 v5 v6 V3)
def g_X0_slipArea_14 (N : Nat) : Nat → Nat → Int → Int → sj_VV → Option (Int × sj_VV)
  | 0 => fun _ _ _ _ => none
  | n + 1 => fun a0 x1 x2 V => g_X0_slipArea_14_b N (g_X0_slipArea_14 N n) a0 x1 x2 V
def g_X0_slipArea (N : Nat) (a0 : Nat) (V : sj_VV) : Option (Int × sj_VV) :=
  e_max (V (a0 + 12) 1) 0 fun v1 =>
  g_X0_slipArea_14 N N a0 0 v1 V
noncomputable def f_X0_slipArea (N : Nat) (a0 : Nat) (s : sj_Mem) : Option (Int × sj_Mem) := e_ok (OK0 s.1 a0) ((g_X0_slipArea N a0 s.2).map (fun q => (q.1, (s.1, q.2))))
def g_X0_dryUp (N : Nat) (a0 : Nat) (V : sj_VV) : Option (Unit × sj_VV) :=
  e_cs (g_J7_fill_53178 N (a0 + 3) 41 0 V) fun _u V1 =>
  some ((), V1)
noncomputable def f_X0_dryUp (N : Nat) (a0 : Nat) (s : sj_Mem) : Option (Unit × sj_Mem) := e_ok (OK0 s.1 a0) ((g_X0_dryUp N a0 s.2).map (fun q => (q.1, (s.1, q.2))))
def g_X0_raiseWater_2_b (N : Nat) (k2 : Nat → Int → sj_VV → Option (Unit × sj_VV)) (a0 : Nat) (x1 : Int) (V : sj_VV) : Option (Unit × sj_VV) :=
  e_ilt (V a0 0) x1 (
    some ((), V)) (
    e_ix 41 x1 fun _ =>
    e_min ((V (a0 + 3) x1.toNat) + 1) 100 fun v1 =>
    e_ix 41 x1 fun _ =>
    e_lt (sj_up V (a0 + 3) x1.toNat v1) fun V2 =>
    e_lt (x1 + 1) fun v3 =>
    k2 a0 v3 V2)
def g_X0_raiseWater_2 (N : Nat) : Nat → Nat → Int → sj_VV → Option (Unit × sj_VV)
  | 0 => fun _ _ _ => none
  | n + 1 => fun a0 x1 V => g_X0_raiseWater_2_b N (g_X0_raiseWater_2 N n) a0 x1 V
def g_X0_raiseWater (N : Nat) (a0 : Nat) (V : sj_VV) : Option (Unit × sj_VV) :=
  g_X0_raiseWater_2 N N a0 0 V
noncomputable def f_X0_raiseWater (N : Nat) (a0 : Nat) (s : sj_Mem) : Option (Unit × sj_Mem) := e_ok (OK0 s.1 a0) ((g_X0_raiseWater N a0 s.2).map (fun q => (q.1, (s.1, q.2))))
def g_X0_turnRow_2_b (N : Nat) (k2 : Nat → Nat → Nat → Int → Int → sj_VV → Option (Unit × sj_VV)) (a0 : Nat) (x1 : Nat) (n1 : Nat) (x2 : Int) (x3 : Int) (V : sj_VV) : Option (Unit × sj_VV) :=
  e_ile ((V a0 0) - x3) x3 (
    some ((), V)) (
    e_ix n1 (x2 + x3) fun _ =>
    e_lt (V x1 (x2 + x3).toNat) fun v1 =>
    e_ix n1 ((x2 + (V a0 0)) - x3) fun _ =>
    e_ix n1 (x2 + x3) fun _ =>
    e_lt (sj_up V x1 (x2 + x3).toNat (V x1 ((x2 + (V a0 0)) - x3).toNat)) fun V2 =>
    e_ix n1 ((x2 + (V2 a0 0)) - x3) fun _ =>
    e_lt (sj_up V2 x1 ((x2 + (V2 a0 0)) - x3).toNat v1) fun V3 =>
    e_lt (x3 + 1) fun v4 =>
    k2 a0 x1 n1 x2 v4 V3)
def g_X0_turnRow_2 (N : Nat) : Nat → Nat → Nat → Nat → Int → Int → sj_VV → Option (Unit × sj_VV)
  | 0 => fun _ _ _ _ _ _ => none
  | n + 1 => fun a0 x1 n1 x2 x3 V => g_X0_turnRow_2_b N (g_X0_turnRow_2 N n) a0 x1 n1 x2 x3 V
def g_X0_turnRow (N : Nat) (a0 : Nat) (x1 : Nat) (n1 : Nat) (x2 : Int) (V : sj_VV) : Option (Unit × sj_VV) :=
  g_X0_turnRow_2 N N a0 x1 n1 x2 0 V
def g_X0_turn_64_b (N : Nat) (k64 : Nat → Int → sj_VV → Option (Unit × sj_VV)) (a0 : Nat) (x1 : Int) (V : sj_VV) : Option (Unit × sj_VV) :=
  e_ile 6 x1 (
    e_cs (g_X0_turnRow N a0 ((a0 + 12) + 1) 41 0 V) fun _u V1 =>
    e_cs (g_X5_isNone N (a0 + 12) V1) fun v3 V2 =>
    e_ieq v3 0 (
      e_lt ((V2 a0 0) - (V2 (a0 + 12) 2)) fun v4 =>
      e_lt (sj_up V2 (a0 + 12) 2 ((V2 a0 0) - (V2 (a0 + 12) 1))) fun V5 =>
      e_lt (sj_up V5 (a0 + 12) 1 v4) fun V6 =>
      e_ieq (V6 (a0 + 12) 3) 0 (
        e_zz 1 fun _ =>
        e_lt (sj_up V6 (a0 + 12) 3 1) fun V8 =>
        some ((), V8)) (
        e_zz 0 fun _ =>
        e_lt (sj_up V6 (a0 + 12) 3 0) fun V7 =>
        some ((), V7))) (
      some ((), V2))) (
    e_ix 6 x1 fun _ =>
    e_ix 6 x1 fun _ =>
    e_lt (sj_up V (a0 + 9) x1.toNat ((V a0 0) - (V (a0 + 9) x1.toNat))) fun V9 =>
    e_lt (x1 + 1) fun v10 =>
    k64 a0 v10 V9)
def g_X0_turn_64 (N : Nat) : Nat → Nat → Int → sj_VV → Option (Unit × sj_VV)
  | 0 => fun _ _ _ => none
  | n + 1 => fun a0 x1 V => g_X0_turn_64_b N (g_X0_turn_64 N n) a0 x1 V
def g_X0_turn_38_b (N : Nat) (k38 : Nat → Int → sj_VV → Option (Unit × sj_VV)) (a0 : Nat) (x1 : Int) (V : sj_VV) : Option (Unit × sj_VV) :=
  e_ile 4 x1 (
    g_X0_turn_64 N N a0 0 V) (
    e_cs (g_X8_topPlace N x1 0 V) fun v2 V1 =>
    e_cs (g_X0_turnRow N a0 (a0 + 5) 123 v2 V1) fun _u V3 =>
    e_lt (x1 + 1) fun v4 =>
    k38 a0 v4 V3)
def g_X0_turn_38 (N : Nat) : Nat → Nat → Int → sj_VV → Option (Unit × sj_VV)
  | 0 => fun _ _ _ => none
  | n + 1 => fun a0 x1 V => g_X0_turn_38_b N (g_X0_turn_38 N n) a0 x1 V
def g_X0_turn (N : Nat) (a0 : Nat) (V : sj_VV) : Option (Unit × sj_VV) :=
  e_cs (g_X0_turnRow N a0 (a0 + 1) 41 0 V) fun _u V1 =>
  e_cs (g_X0_turnRow N a0 (a0 + 2) 41 0 V1) fun _u V2 =>
  e_cs (g_X0_turnRow N a0 (a0 + 3) 41 0 V2) fun _u V3 =>
  e_cs (g_X0_turnRow N a0 (a0 + 4) 41 0 V3) fun _u V4 =>
  g_X0_turn_38 N N a0 1 V4
noncomputable def f_X0_turn (N : Nat) (a0 : Nat) (s : sj_Mem) : Option (Unit × sj_Mem) := e_ok (OK0 s.1 a0) ((g_X0_turn N a0 s.2).map (fun q => (q.1, (s.1, q.2))))
def g_X1_copy (N : Nat) (a0 : Nat) (x1 : Nat) (V : sj_VV) : Option (Unit × sj_VV) :=
  e_cpv (x1 + 1) 12 0 (a0 + 1) 12 0 12 V fun V1 =>
  e_cpv (x1 + 2) 12 0 (a0 + 2) 12 0 12 V1 fun V2 =>
  e_lt (sj_up V2 a0 2 (V2 x1 2)) fun V3 =>
  e_lt (sj_up V3 a0 3 (V3 x1 3)) fun V4 =>
  some ((), V4)
noncomputable def f_X1_copy (N : Nat) (a0 : Nat) (x1 : Option Nat) (s : sj_Mem) : Option (Unit × sj_Mem) := e_ok (OK1 s.1 a0 ∧ x1 = some (x1.getD 0) ∧ OK1 s.1 (x1.getD 0)) ((g_X1_copy N a0 (x1.getD 0) s.2).map (fun q => (q.1, (s.1, q.2))))
def g_X1_draw (N : Nat) (a0 : Nat) (x1 : Int) (V : sj_VV) : Option (Int × sj_VV) :=
  e_lt (sj_up V a0 3 ((1664525 * (V a0 3)) + 1013904223)) fun V1 =>
  e_ilt 0 x1 (
    e_ush (V1 a0 3) 8 fun v2 =>
    e_rI v2 x1 fun v3 =>
    some (v3, V1)) (
    some (0, V1))
noncomputable def f_X1_draw (N : Nat) (a0 : Nat) (x1 : Int) (s : sj_Mem) : Option (Int × sj_Mem) := e_ok (OK1 s.1 a0) ((g_X1_draw N a0 x1 s.2).map (fun q => (q.1, (s.1, q.2))))
def g_X2_write (N : Nat) (a0 : Nat) (x1 : Int) (V : sj_VV) : Option (Unit × sj_VV) :=
  e_ile 16 (V a0 1) (
    some ((), V)) (
    e_ix 16 (V a0 1) fun _ =>
    e_lt (sj_up V (a0 + 1) (V a0 1).toNat x1) fun V1 =>
    e_lt (sj_up V1 a0 1 ((V1 a0 1) + 1)) fun V2 =>
    some ((), V2))
noncomputable def f_X2_write (N : Nat) (a0 : Nat) (x1 : Int) (s : sj_Mem) : Option (Unit × sj_Mem) := e_ok (OK2 s.1 a0) ((g_X2_write N a0 x1 s.2).map (fun q => (q.1, (s.1, q.2))))
def g_X2_writeNumber_20 (N : Nat) (a0 : Nat) (x1 : Int) (V : sj_VV) : Option (Unit × sj_VV) :=
  e_rI x1 10 fun v1 =>
  e_cs (g_X2_write N a0 (48 + v1) V) fun _u V2 =>
  some ((), V2)
def g_X2_writeNumber (N : Nat) (a0 : Nat) (x1 : Int) (V : sj_VV) : Option (Unit × sj_VV) :=
  e_ilt x1 10 (
    g_X2_writeNumber_20 N a0 x1 V) (
    e_dI x1 10 fun v1 =>
    e_rI v1 10 fun v2 =>
    e_cs (g_X2_write N a0 (48 + v2) V) fun _u V3 =>
    g_X2_writeNumber_20 N a0 x1 V3)
noncomputable def f_X2_writeNumber (N : Nat) (a0 : Nat) (x1 : Int) (s : sj_Mem) : Option (Unit × sj_Mem) := e_ok (OK2 s.1 a0) ((g_X2_writeNumber N a0 x1 s.2).map (fun q => (q.1, (s.1, q.2))))
def g_X2_writeFactor (N : Nat) (a0 : Nat) (x1 : Int) (V : sj_VV) : Option (Unit × sj_VV) :=
  e_dI x1 1000 fun v1 =>
  e_cs (g_X2_writeNumber N a0 v1 V) fun _u V2 =>
  e_cs (g_X2_write N a0 46 V2) fun _u V3 =>
  e_dI x1 100 fun v4 =>
  e_rI v4 10 fun v5 =>
  e_cs (g_X2_write N a0 (48 + v5) V3) fun _u V6 =>
  e_dI x1 10 fun v7 =>
  e_rI v7 10 fun v8 =>
  e_cs (g_X2_write N a0 (48 + v8) V6) fun _u V9 =>
  e_rI x1 10 fun v10 =>
  e_cs (g_X2_write N a0 (48 + v10) V9) fun _u V11 =>
  some ((), V11)
noncomputable def f_X2_writeFactor (N : Nat) (a0 : Nat) (x1 : Int) (s : sj_Mem) : Option (Unit × sj_Mem) := e_ok (OK2 s.1 a0) ((g_X2_writeFactor N a0 x1 s.2).map (fun q => (q.1, (s.1, q.2))))
def g_X8_isCircle (N : Nat) (x0 : Int) (x1 : Int) (x2 : Int) (V : sj_VV) : Option (Int × sj_VV) :=
  e_ilt x0 ((-50)) (
    e_zs 0 V) (
    e_ilt 450 x0 (
      e_zs 0 V) (
      e_ilt x1 ((-50)) (
        e_zs 0 V) (
        e_ilt 450 x1 (
          e_zs 0 V) (
          e_ilt x2 1 (
            e_zs 0 V) (
            e_ilt 500 x2 (
              e_zs 0 V) (
              e_zs 1 V))))))
noncomputable def f_X8_isCircle (N : Nat) (x0 : Int) (x1 : Int) (x2 : Int) (s : sj_Mem) : Option (Int × sj_Mem) := e_ok (True) ((g_X8_isCircle N x0 x1 x2 s.2).map (fun q => (q.1, (s.1, q.2))))
def g_X5_span (N : Nat) (a0 : Nat) (x1 : Nat) (x2 : Int) (x3 : Int) (x4 : Int) (V : sj_VV) : Option (Unit × sj_VV) :=
  e_lt (sj_up V a0 1 x2) fun V1 =>
  e_lt (sj_up V1 a0 2 x3) fun V2 =>
  e_zz x4 fun _ =>
  e_lt (sj_up V2 a0 3 x4) fun V3 =>
  e_ix 41 x2 fun _ =>
  e_ix 41 x2 fun _ =>
  e_lt (sj_up V3 (a0 + 1) x2.toNat (V3 (x1 + 1) x2.toNat)) fun V4 =>
  e_ix 41 x3 fun _ =>
  e_ix 41 x3 fun _ =>
  e_lt (sj_up V4 (a0 + 1) x3.toNat (V4 (x1 + 1) x3.toNat)) fun V5 =>
  some ((), V5)
noncomputable def f_X5_span (N : Nat) (a0 : Nat) (x1 : Option Nat) (x2 : Int) (x3 : Int) (x4 : Int) (s : sj_Mem) : Option (Unit × sj_Mem) := e_ok (OK5 s.1 a0 ∧ x1 = some (x1.getD 0) ∧ OK0 s.1 (x1.getD 0)) ((g_X5_span N a0 (x1.getD 0) x2 x3 x4 s.2).map (fun q => (q.1, (s.1, q.2))))
def g_X8_rootOf_23 (N : Nat) (k6 : Int → Int → Int → sj_VV → Option (Int × sj_VV)) (x0 : Int) (x1 : Int) (x2 : Int) (V : sj_VV) : Option (Int × sj_VV) :=
  e_dI x2 2 fun v1 =>
  k6 x0 x1 v1 V
def g_X8_rootOf_6_b (N : Nat) (k6 : Int → Int → Int → sj_VV → Option (Int × sj_VV)) (x0 : Int) (x1 : Int) (x2 : Int) (V : sj_VV) : Option (Int × sj_VV) :=
  e_ile x2 0 (
    some (x1, V)) (
    e_lt (x1 + x2) fun v1 =>
    e_ilt x0 (v1 * v1) (
      g_X8_rootOf_23 N k6 x0 x1 x2 V) (
      g_X8_rootOf_23 N k6 x0 v1 x2 V))
def g_X8_rootOf_6 (N : Nat) : Nat → Int → Int → Int → sj_VV → Option (Int × sj_VV)
  | 0 => fun _ _ _ _ => none
  | n + 1 => fun x0 x1 x2 V => g_X8_rootOf_6_b N (g_X8_rootOf_6 N n) x0 x1 x2 V
def g_X8_rootOf (N : Nat) (x0 : Int) (V : sj_VV) : Option (Int × sj_VV) :=
  g_X8_rootOf_6 N N x0 0 256 V
noncomputable def f_X8_rootOf (N : Nat) (x0 : Int) (s : sj_Mem) : Option (Int × sj_Mem) := e_ok (True) ((g_X8_rootOf N x0 s.2).map (fun q => (q.1, (s.1, q.2))))
def g_X5_cut_123 (N : Nat) (k9 : Nat → Nat → Int → Int → Int → Int → Int → Int → Int → sj_VV → Option (Int × sj_VV)) (a0 : Nat) (x1 : Nat) (x2 : Int) (x3 : Int) (x4 : Int) (x5 : Int) (x6 : Int) (x7 : Int) (x8 : Int) (V : sj_VV) : Option (Int × sj_VV) :=
  e_lt (x8 + 1) fun v1 =>
  k9 a0 x1 x2 x3 x4 x5 x6 x7 v1 V
def g_X5_cut_129 (N : Nat) (a0 : Nat) (x1 : Nat) (x5 : Int) (x6 : Int) (x7 : Int) (V : sj_VV) : Option (Int × sj_VV) :=
  e_ilt x6 1 (
    e_zs 0 V) (
    e_ilt x7 (V x1 0) (
      e_cs (g_X5_span N a0 x1 (x6 - 1) (x7 + 1) x5 V) fun _u V1 =>
      e_zs 1 V1) (
      e_zs 0 V))
def g_X5_cut_74 (N : Nat) (k9 : Nat → Nat → Int → Int → Int → Int → Int → Int → Int → sj_VV → Option (Int × sj_VV)) (a0 : Nat) (x1 : Nat) (x2 : Int) (x3 : Int) (x4 : Int) (x5 : Int) (x6 : Int) (x7 : Int) (x8 : Int) (y0 : Int) (V : sj_VV) : Option (Int × sj_VV) :=
  e_ix 41 x8 fun _ =>
  e_ile (V (x1 + 1) x8.toNat) y0 (
    e_ieq x6 ((-1)) (
      g_X5_cut_123 N k9 a0 x1 x2 x3 x4 x5 x6 x7 x8 V) (
      g_X5_cut_129 N a0 x1 x5 x6 x7 V)) (
    e_ix 41 x8 fun _ =>
    e_lt (sj_up V (a0 + 1) x8.toNat y0) fun V1 =>
    e_ieq x6 ((-1)) (
      g_X5_cut_123 N k9 a0 x1 x2 x3 x4 x5 x8 x8 x8 V1) (
      g_X5_cut_123 N k9 a0 x1 x2 x3 x4 x5 x6 x8 x8 V1))
def g_X5_cut_9_b (N : Nat) (k9 : Nat → Nat → Int → Int → Int → Int → Int → Int → Int → sj_VV → Option (Int × sj_VV)) (a0 : Nat) (x1 : Nat) (x2 : Int) (x3 : Int) (x4 : Int) (x5 : Int) (x6 : Int) (x7 : Int) (x8 : Int) (V : sj_VV) : Option (Int × sj_VV) :=
  e_ilt (V x1 0) x8 (
    g_X5_cut_129 N a0 x1 x5 x6 x7 V) (
    e_lt (((V x1 1) * x8) - x2) fun v1 =>
    e_lt ((x4 * x4) - (v1 * v1)) fun v2 =>
    e_ile 0 v2 (
      e_cs (g_X8_rootOf N v2 V) fun v4 V3 =>
      e_ix 41 x8 fun _ =>
      e_max (x3 - v4) (V3 (x1 + 2) x8.toNat) fun v5 =>
      g_X5_cut_74 N k9 a0 x1 x2 x3 x4 x5 x6 x7 x8 v5 V3) (
      e_ix 41 x8 fun _ =>
      g_X5_cut_74 N k9 a0 x1 x2 x3 x4 x5 x6 x7 x8 (V (x1 + 1) x8.toNat) V))
def g_X5_cut_9 (N : Nat) : Nat → Nat → Nat → Int → Int → Int → Int → Int → Int → Int → sj_VV → Option (Int × sj_VV)
  | 0 => fun _ _ _ _ _ _ _ _ _ _ => none
  | n + 1 => fun a0 x1 x2 x3 x4 x5 x6 x7 x8 V => g_X5_cut_9_b N (g_X5_cut_9 N n) a0 x1 x2 x3 x4 x5 x6 x7 x8 V
def g_X5_cut (N : Nat) (a0 : Nat) (x1 : Nat) (x2 : Int) (x3 : Int) (x4 : Int) (x5 : Int) (V : sj_VV) : Option (Int × sj_VV) :=
  g_X5_cut_9 N N a0 x1 x2 x3 x4 x5 ((-1)) ((-1)) 0 V
noncomputable def f_X5_cut (N : Nat) (a0 : Nat) (x1 : Option Nat) (x2 : Int) (x3 : Int) (x4 : Int) (x5 : Int) (s : sj_Mem) : Option (Int × sj_Mem) := e_ok (OK5 s.1 a0 ∧ x1 = some (x1.getD 0) ∧ OK0 s.1 (x1.getD 0)) ((g_X5_cut N a0 (x1.getD 0) x2 x3 x4 x5 s.2).map (fun q => (q.1, (s.1, q.2))))
def g_X5_count (N : Nat) (a0 : Nat) (V : sj_VV) : Option (Int × sj_VV) :=
  some ((V a0 2) - (V a0 1), V)
noncomputable def f_X5_count (N : Nat) (a0 : Nat) (s : sj_Mem) : Option (Int × sj_Mem) := e_ok (OK5 s.1 a0) ((g_X5_count N a0 s.2).map (fun q => (q.1, (s.1, q.2))))
def g_X4_weigh_161 (N : Nat) (k73 : Nat → Nat → Nat → Int → Int → Int → sj_VV → Option (Unit × sj_VV)) (a0 : Nat) (x1 : Nat) (x2 : Nat) (x3 : Int) (x4 : Int) (x5 : Int) (x6 : Int) (x7 : Int) (x8 : Int) (x9 : Int) (x10 : Int) (y0 : Int) (y1 : Int) (y2 : Nat) (m2 : Nat) (V : sj_VV) : Option (Unit × sj_VV) :=
  e_ix m2 y1 fun _ =>
  e_lt (sj_up V y2 y1.toNat y0) fun V1 =>
  e_ix 41 x5 fun _ =>
  e_lt (sj_up V1 (a0 + 2) x5.toNat ((V1 a0 9) * (x3 + x9))) fun V2 =>
  e_ix 41 x5 fun _ =>
  e_lt (sj_up V2 (a0 + 3) x5.toNat ((10 * (V2 a0 9)) * (x4 + x10))) fun V3 =>
  e_cs (g_X0_layerUnder N x1 x6 (x7 + x8) V3) fun v5 V4 =>
  e_ix 41 x5 fun _ =>
  e_lt (sj_up V4 (a0 + 4) x5.toNat v5) fun V6 =>
  e_lt (x5 + 1) fun v7 =>
  k73 a0 x1 x2 x9 x10 v7 V6
def g_X4_weigh_73_b (N : Nat) (k73 : Nat → Nat → Nat → Int → Int → Int → sj_VV → Option (Unit × sj_VV)) (a0 : Nat) (x1 : Nat) (x2 : Nat) (x3 : Int) (x4 : Int) (x5 : Int) (V : sj_VV) : Option (Unit × sj_VV) :=
  e_ile (V a0 8) x5 (
    some ((), V)) (
    e_lt ((V x2 1) + x5) fun v1 =>
    e_ix 41 v1 fun _ =>
    e_lt (V (x2 + 1) v1.toNat) fun v2 =>
    e_ix 41 (v1 + 1) fun _ =>
    e_lt (V (x2 + 1) (v1 + 1).toNat) fun v3 =>
    e_cs (g_X0_weightOn N x1 (v1 + 1) v3 V) fun v5 V4 =>
    e_cs (g_X0_headOn N x1 (v1 + 1) v3 V4) fun v7 V6 =>
    e_ieq (V6 x2 3) 0 (
      g_X4_weigh_161 N k73 a0 x1 x2 x3 x4 x5 v1 v2 v3 v5 v7 (v2 - v3) x5 (a0 + 1) 41 V6) (
      g_X4_weigh_161 N k73 a0 x1 x2 x3 x4 x5 v1 v2 v3 v5 v7 (v3 - v2) x5 (a0 + 1) 41 V6))
def g_X4_weigh_73 (N : Nat) : Nat → Nat → Nat → Nat → Int → Int → Int → sj_VV → Option (Unit × sj_VV)
  | 0 => fun _ _ _ _ _ _ _ => none
  | n + 1 => fun a0 x1 x2 x3 x4 x5 V => g_X4_weigh_73_b N (g_X4_weigh_73 N n) a0 x1 x2 x3 x4 x5 V
def g_X4_weigh (N : Nat) (a0 : Nat) (x1 : Nat) (x2 : Nat) (V : sj_VV) : Option (Unit × sj_VV) :=
  e_lt (sj_up V a0 9 (V x1 1)) fun V1 =>
  e_cs (g_X5_count N x2 V1) fun v3 V2 =>
  e_lt (sj_up V2 a0 8 v3) fun V4 =>
  e_cs (g_X0_pullsOn N x1 x2 V4) fun v6 V5 =>
  e_lt (sj_up V5 a0 10 v6) fun V7 =>
  e_cs (g_X5_isNone N x2 V7) fun v9 V8 =>
  e_ieq v9 0 (
    e_ix 41 (V8 x2 1) fun _ =>
    e_cs (g_X0_weightOn N x1 (V8 x2 1) (V8 (x2 + 1) (V8 x2 1).toNat) V8) fun v11 V10 =>
    e_ix 41 (V10 x2 1) fun _ =>
    e_cs (g_X0_headOn N x1 (V10 x2 1) (V10 (x2 + 1) (V10 x2 1).toNat) V10) fun v13 V12 =>
    g_X4_weigh_73 N N a0 x1 x2 v11 v13 0 V12) (
    some ((), V8))
noncomputable def f_X4_weigh (N : Nat) (a0 : Nat) (x1 : Option Nat) (x2 : Option Nat) (s : sj_Mem) : Option (Unit × sj_Mem) := e_ok (OK4 s.1 a0 ∧ x1 = some (x1.getD 0) ∧ OK0 s.1 (x1.getD 0) ∧ x2 = some (x2.getD 0) ∧ OK5 s.1 (x2.getD 0)) ((g_X4_weigh N a0 (x1.getD 0) (x2.getD 0) s.2).map (fun q => (q.1, (s.1, q.2))))
def g_X4_press (N : Nat) (a0 : Nat) (x1 : Int) (V : sj_VV) : Option (Int × sj_VV) :=
  e_ix 41 x1 fun _ =>
  e_ix 41 x1 fun _ =>
  e_max 0 ((V (a0 + 2) x1.toNat) - (V (a0 + 3) x1.toNat)) fun v1 =>
  some (v1, V)
noncomputable def f_X4_press (N : Nat) (a0 : Nat) (x1 : Int) (s : sj_Mem) : Option (Int × sj_Mem) := e_ok (OK4 s.1 a0) ((g_X4_press N a0 x1 s.2).map (fun q => (q.1, (s.1, q.2))))
def g_X4_settle_2_b (N : Nat) (k2 : Nat → Nat → Int → Int → sj_VV → Option (Unit × sj_VV)) (a0 : Nat) (x1 : Nat) (x2 : Int) (x3 : Int) (V : sj_VV) : Option (Unit × sj_VV) :=
  e_ile (V a0 8) x3 (
    some ((), V)) (
    e_ix 41 x3 fun _ =>
    e_ix 4 (V (a0 + 4) x3.toNat) fun _ =>
    e_lt (V (x1 + 8) (V (a0 + 4) x3.toNat).toNat) fun v1 =>
    e_ix 41 x3 fun _ =>
    e_ix 4 (V (a0 + 4) x3.toNat) fun _ =>
    e_wid ((V (x1 + 7) (V (a0 + 4) x3.toNat).toNat) + x2) fun v2 =>
    e_wid (V a0 9) fun v3 =>
    e_cs (g_X4_press N a0 x3 V) fun v5 V4 =>
    e_wid v5 fun v6 =>
    e_wid v1 fun v7 =>
    e_ix 41 x3 fun _ =>
    e_lt (sj_up V4 (a0 + 5) x3.toNat (((2000 * v2) * v3) + (v6 * v7))) fun V8 =>
    e_ix 41 x3 fun _ =>
    e_wid (V8 (a0 + 2) x3.toNat) fun v9 =>
    e_ix 41 x3 fun _ =>
    e_wid (V8 (a0 + 1) x3.toNat) fun v10 =>
    e_wid ((V8 x1 2) * (V8 a0 9)) fun v11 =>
    e_ix 41 x3 fun _ =>
    e_lt (sj_up V8 (a0 + 6) x3.toNat (v9 * ((1000 * v10) + v11))) fun V12 =>
    e_ix 41 x3 fun _ =>
    e_ix 41 x3 fun _ =>
    e_ix 41 x3 fun _ =>
    e_wid (((V12 a0 9) * (V12 a0 9)) + ((V12 (a0 + 1) x3.toNat) * (V12 (a0 + 1) x3.toNat))) fun v13 =>
    e_ix 41 x3 fun _ =>
    e_lt (sj_up V12 (a0 + 7) x3.toNat ((V12 (a0 + 5) x3.toNat) * v13)) fun V14 =>
    e_ix 41 x3 fun _ =>
    e_wid (V14 (a0 + 1) x3.toNat) fun v15 =>
    e_wid v1 fun v16 =>
    e_ix 41 x3 fun _ =>
    e_lt (sj_up V14 (a0 + 8) x3.toNat (v15 * v16)) fun V17 =>
    e_lt (x3 + 1) fun v18 =>
    k2 a0 x1 x2 v18 V17)
def g_X4_settle_2 (N : Nat) : Nat → Nat → Nat → Int → Int → sj_VV → Option (Unit × sj_VV)
  | 0 => fun _ _ _ _ _ => none
  | n + 1 => fun a0 x1 x2 x3 V => g_X4_settle_2_b N (g_X4_settle_2 N n) a0 x1 x2 x3 V
def g_X4_settle (N : Nat) (a0 : Nat) (x1 : Nat) (x2 : Int) (V : sj_VV) : Option (Unit × sj_VV) :=
  g_X4_settle_2 N N a0 x1 x2 0 V
noncomputable def f_X4_settle (N : Nat) (a0 : Nat) (x1 : Option Nat) (x2 : Int) (s : sj_Mem) : Option (Unit × sj_Mem) := e_ok (OK4 s.1 a0 ∧ x1 = some (x1.getD 0) ∧ OK0 s.1 (x1.getD 0)) ((g_X4_settle N a0 (x1.getD 0) x2 s.2).map (fun q => (q.1, (s.1, q.2))))
def g_X4_lack_22_b (N : Nat) (k22 : Nat → Int → Int → Int → Int → Int → sj_VV → Option (Int × sj_VV)) (a0 : Nat) (x1 : Int) (x2 : Int) (x4 : Int) (x6 : Int) (x8 : Int) (V : sj_VV) : Option (Int × sj_VV) :=
  e_ile (V a0 8) x8 (
    e_lle x4 1000000000000000 (
      e_wid x1 fun v1 =>
      some ((v1 * x6) - (1000 * x4), V)) (
      some (0, V))) (
    e_ix 41 x8 fun _ =>
    e_lt (x2 + (V (a0 + 8) x8.toNat)) fun v2 =>
    e_llt 0 v2 (
      e_ix 41 x8 fun _ =>
      e_wid x1 fun v3 =>
      e_dJ ((V (a0 + 7) x8.toNat) * v3) v2 fun v4 =>
      e_lt (x4 + v4) fun v5 =>
      e_ix 41 x8 fun _ =>
      e_lt (x6 + (V (a0 + 6) x8.toNat)) fun v6 =>
      e_lt (x8 + 1) fun v7 =>
      k22 a0 x1 x2 v5 v6 v7 V) (
      some (0, V)))
def g_X4_lack_22 (N : Nat) : Nat → Nat → Int → Int → Int → Int → Int → sj_VV → Option (Int × sj_VV)
  | 0 => fun _ _ _ _ _ _ _ => none
  | n + 1 => fun a0 x1 x2 x4 x6 x8 V => g_X4_lack_22_b N (g_X4_lack_22 N n) a0 x1 x2 x4 x6 x8 V
def g_X4_lack (N : Nat) (a0 : Nat) (x1 : Int) (V : sj_VV) : Option (Int × sj_VV) :=
  e_wid (V a0 9) fun v1 =>
  e_wid x1 fun v2 =>
  e_lt (v1 * v2) fun v3 =>
  e_lt (-(V a0 10)) fun v4 =>
  g_X4_lack_22 N N a0 x1 v3 0 v4 0 V
noncomputable def f_X4_lack (N : Nat) (a0 : Nat) (x1 : Int) (s : sj_Mem) : Option (Int × sj_Mem) := e_ok (OK4 s.1 a0) ((g_X4_lack N a0 x1 s.2).map (fun q => (q.1, (s.1, q.2))))
def g_X4_hold (N : Nat) (a0 : Nat) (x1 : Int) (V : sj_VV) : Option (Int × sj_VV) :=
  e_cs (g_X4_lack N a0 x1 V) fun v2 V1 =>
  e_llt 0 v2 (
    e_zs 0 V1) (
    e_zs 1 V1)
noncomputable def f_X4_hold (N : Nat) (a0 : Nat) (x1 : Int) (s : sj_Mem) : Option (Int × sj_Mem) := e_ok (OK4 s.1 a0) ((g_X4_hold N a0 x1 s.2).map (fun q => (q.1, (s.1, q.2))))
def g_X4_leastBound_53 (N : Nat) (k9 : Nat → Int → Int → Int → Int → sj_VV → Option (Int × sj_VV)) (a0 : Nat) (x1 : Int) (x2 : Int) (x3 : Int) (x4 : Int) (V : sj_VV) : Option (Int × sj_VV) :=
  e_lt (x4 + 1) fun v1 =>
  k9 a0 x1 x2 x3 v1 V
def g_X4_leastBound_9_b (N : Nat) (k9 : Nat → Int → Int → Int → Int → sj_VV → Option (Int × sj_VV)) (a0 : Nat) (x1 : Int) (x2 : Int) (x3 : Int) (x4 : Int) (V : sj_VV) : Option (Int × sj_VV) :=
  e_ile 15 x4 (
    some (x2, V)) (
    e_ile (x3 - x2) 1 (
      some (x2, V)) (
      e_ile x1 x2 (
        some (x2, V)) (
        e_dI (x2 + x3) 2 fun v1 =>
        e_cs (g_X4_hold N a0 v1 V) fun v3 V2 =>
        e_ieq v3 0 (
          g_X4_leastBound_53 N k9 a0 x1 x2 v1 x4 V2) (
          g_X4_leastBound_53 N k9 a0 x1 v1 x3 x4 V2))))
def g_X4_leastBound_9 (N : Nat) : Nat → Nat → Int → Int → Int → Int → sj_VV → Option (Int × sj_VV)
  | 0 => fun _ _ _ _ _ _ => none
  | n + 1 => fun a0 x1 x2 x3 x4 V => g_X4_leastBound_9_b N (g_X4_leastBound_9 N n) a0 x1 x2 x3 x4 V
def g_X4_leastBound (N : Nat) (a0 : Nat) (x1 : Int) (V : sj_VV) : Option (Int × sj_VV) :=
  g_X4_leastBound_9 N N a0 x1 0 20001 0 V
noncomputable def f_X4_leastBound (N : Nat) (a0 : Nat) (x1 : Int) (s : sj_Mem) : Option (Int × sj_Mem) := e_ok (OK4 s.1 a0) ((g_X4_leastBound N a0 x1 s.2).map (fun q => (q.1, (s.1, q.2))))
def g_X3_ask (N : Nat) (a0 : Nat) (x1 : Nat) (x2 : Int) (x3 : Int) (x4 : Int) (x5 : Int) (x6 : Int) (V : sj_VV) : Option (Int × sj_VV) :=
  e_cs (g_X8_isCircle N x2 x3 x4 V) fun v2 V1 =>
  e_ieq v2 0 (
    some ((-1), V1)) (
    e_cs (g_X5_cut N (a0 + 1) x1 x2 x3 x4 x5 V1) fun v4 V3 =>
    e_ieq v4 0 (
      some ((-1), V3)) (
      e_cs (g_X4_weigh N (a0 + 3) x1 (a0 + 1) V3) fun _u V5 =>
      e_cs (g_X4_settle N (a0 + 3) x1 0 V5) fun _u V6 =>
      e_cs (g_X4_leastBound N (a0 + 3) x6 V6) fun v8 V7 =>
      some (v8, V7)))
noncomputable def f_X3_ask (N : Nat) (a0 : Nat) (x1 : Option Nat) (x2 : Int) (x3 : Int) (x4 : Int) (x5 : Int) (x6 : Int) (s : sj_Mem) : Option (Int × sj_Mem) := e_ok (OK3 s.1 a0 ∧ x1 = some (x1.getD 0) ∧ OK0 s.1 (x1.getD 0)) ((g_X3_ask N a0 (x1.getD 0) x2 x3 x4 x5 x6 s.2).map (fun q => (q.1, (s.1, q.2))))
def g_X3_off (N : Nat) (x0 : Int) (x1 : Int) (V : sj_VV) : Option (Int × sj_VV) :=
  some ((x0 - 1) * x1, V)
noncomputable def f_X3_off (N : Nat) (x0 : Int) (x1 : Int) (s : sj_Mem) : Option (Int × sj_Mem) := e_ok (True) ((g_X3_off N x0 x1 s.2).map (fun q => (q.1, (s.1, q.2))))
def g_X3_goOn_92 (N : Nat) (k6 : Nat → Nat → Int → Int → Int → Int → sj_VV → Option (Int × sj_VV)) (a0 : Nat) (x1 : Nat) (x2 : Int) (x3 : Int) (x4 : Int) (x5 : Int) (V : sj_VV) : Option (Int × sj_VV) :=
  e_lt (x5 + 1) fun v1 =>
  k6 a0 x1 x2 x3 x4 v1 V
def g_X3_goOn_6_b (N : Nat) (k6 : Nat → Nat → Int → Int → Int → Int → sj_VV → Option (Int × sj_VV)) (a0 : Nat) (x1 : Nat) (x2 : Int) (x3 : Int) (x4 : Int) (x5 : Int) (V : sj_VV) : Option (Int × sj_VV) :=
  e_ile 27 x5 (
    e_ieq x4 ((-1)) (
      e_zs 0 V) (
      e_dI x4 9 fun v1 =>
      e_cs (g_X3_off N v1 x2 V) fun v3 V2 =>
      e_lt (sj_up V2 a0 2 ((V a0 2) + v3)) fun V4 =>
      e_dI x4 3 fun v5 =>
      e_rI v5 3 fun v6 =>
      e_cs (g_X3_off N v6 x2 V4) fun v8 V7 =>
      e_lt (sj_up V7 a0 3 ((V4 a0 3) + v8)) fun V9 =>
      e_rI x4 3 fun v10 =>
      e_cs (g_X3_off N v10 x2 V9) fun v12 V11 =>
      e_lt (sj_up V11 a0 4 ((V9 a0 4) + v12)) fun V13 =>
      e_zs 1 V13)) (
    e_dI x5 9 fun v14 =>
    e_cs (g_X3_off N v14 x2 V) fun v16 V15 =>
    e_dI x5 3 fun v17 =>
    e_rI v17 3 fun v18 =>
    e_cs (g_X3_off N v18 x2 V15) fun v20 V19 =>
    e_rI x5 3 fun v21 =>
    e_cs (g_X3_off N v21 x2 V19) fun v23 V22 =>
    e_cs (g_X3_ask N a0 x1 ((V a0 2) + v16) ((V15 a0 3) + v20) ((V19 a0 4) + v23) x3 (V22 a0 5) V22) fun v25 V24 =>
    e_ieq v25 ((-1)) (
      g_X3_goOn_92 N k6 a0 x1 x2 x3 x4 x5 V24) (
      e_ile (V24 a0 5) v25 (
        g_X3_goOn_92 N k6 a0 x1 x2 x3 x4 x5 V24) (
        e_lt (sj_up V24 a0 5 v25) fun V26 =>
        g_X3_goOn_92 N k6 a0 x1 x2 x3 x5 x5 V26)))
def g_X3_goOn_6 (N : Nat) : Nat → Nat → Nat → Int → Int → Int → Int → sj_VV → Option (Int × sj_VV)
  | 0 => fun _ _ _ _ _ _ _ => none
  | n + 1 => fun a0 x1 x2 x3 x4 x5 V => g_X3_goOn_6_b N (g_X3_goOn_6 N n) a0 x1 x2 x3 x4 x5 V
def g_X3_goOn (N : Nat) (a0 : Nat) (x1 : Nat) (x2 : Int) (x3 : Int) (V : sj_VV) : Option (Int × sj_VV) :=
  g_X3_goOn_6 N N a0 x1 x2 x3 ((-1)) 0 V
noncomputable def f_X3_goOn (N : Nat) (a0 : Nat) (x1 : Option Nat) (x2 : Int) (x3 : Int) (s : sj_Mem) : Option (Int × sj_Mem) := e_ok (OK3 s.1 a0 ∧ x1 = some (x1.getD 0) ∧ OK0 s.1 (x1.getD 0)) ((g_X3_goOn N a0 (x1.getD 0) x2 x3 s.2).map (fun q => (q.1, (s.1, q.2))))
def g_X3_seek_99 (N : Nat) (k67 : Nat → Nat → Int → Int → sj_VV → Option (Int × sj_VV)) (a0 : Nat) (x1 : Nat) (x6 : Int) (x8 : Int) (V : sj_VV) : Option (Int × sj_VV) :=
  e_lt (sj_up V a0 6 ((V a0 6) + 1)) fun V1 =>
  k67 a0 x1 x6 x8 V1
def g_X3_seek_112 (N : Nat) (a0 : Nat) (V : sj_VV) : Option (Int × sj_VV) :=
  e_ilt 20000 (V a0 5) (
    e_zs 0 V) (
    e_zs 1 V)
def g_X3_seek_67_b (N : Nat) (k67 : Nat → Nat → Int → Int → sj_VV → Option (Int × sj_VV)) (a0 : Nat) (x1 : Nat) (x6 : Int) (x8 : Int) (V : sj_VV) : Option (Int × sj_VV) :=
  e_ile 60 (V a0 6) (
    g_X3_seek_112 N a0 V) (
    e_ile x8 0 (
      g_X3_seek_112 N a0 V) (
      e_cs (g_X3_goOn N a0 x1 x8 x6 V) fun v2 V1 =>
      e_ieq v2 0 (
        e_dI x8 2 fun v3 =>
        g_X3_seek_99 N k67 a0 x1 x6 v3 V1) (
        g_X3_seek_99 N k67 a0 x1 x6 x8 V1)))
def g_X3_seek_67 (N : Nat) : Nat → Nat → Nat → Int → Int → sj_VV → Option (Int × sj_VV)
  | 0 => fun _ _ _ _ _ => none
  | n + 1 => fun a0 x1 x6 x8 V => g_X3_seek_67_b N (g_X3_seek_67 N n) a0 x1 x6 x8 V
def g_X3_seek_55 (N : Nat) (a0 : Nat) (x1 : Nat) (x5 : Int) (x6 : Int) (y0 : Int) (y1 : Nat) (V : sj_VV) : Option (Int × sj_VV) :=
  e_lt (sj_up V y1 5 y0) fun V1 =>
  e_lt (sj_up V1 a0 6 0) fun V2 =>
  g_X3_seek_67 N N a0 x1 x6 x5 V2
def g_X3_seek (N : Nat) (a0 : Nat) (x1 : Nat) (x2 : Int) (x3 : Int) (x4 : Int) (x5 : Int) (x6 : Int) (V : sj_VV) : Option (Int × sj_VV) :=
  e_lt (sj_up V a0 2 x2) fun V1 =>
  e_lt (sj_up V1 a0 3 x3) fun V2 =>
  e_lt (sj_up V2 a0 4 x4) fun V3 =>
  e_cs (g_X3_ask N a0 x1 (V3 a0 2) (V3 a0 3) (V3 a0 4) x6 20001 V3) fun v5 V4 =>
  e_ieq v5 ((-1)) (
    g_X3_seek_55 N a0 x1 x5 x6 20001 a0 V4) (
    g_X3_seek_55 N a0 x1 x5 x6 v5 a0 V4)
noncomputable def f_X3_seek (N : Nat) (a0 : Nat) (x1 : Option Nat) (x2 : Int) (x3 : Int) (x4 : Int) (x5 : Int) (x6 : Int) (s : sj_Mem) : Option (Int × sj_Mem) := e_ok (OK3 s.1 a0 ∧ x1 = some (x1.getD 0) ∧ OK0 s.1 (x1.getD 0)) ((g_X3_seek N a0 (x1.getD 0) x2 x3 x4 x5 x6 s.2).map (fun q => (q.1, (s.1, q.2))))
def g_X4_burden_74 (N : Nat) (k3 : Nat → Int → Int → Int → Int → sj_VV → Option (Unit × sj_VV)) (a0 : Nat) (x1 : Int) (x2 : Int) (x3 : Int) (x4 : Int) (V : sj_VV) : Option (Unit × sj_VV) :=
  e_lt (x4 + 1) fun v1 =>
  k3 a0 x1 x2 x3 v1 V
def g_X4_burden_44 (N : Nat) (k3 : Nat → Int → Int → Int → Int → sj_VV → Option (Unit × sj_VV)) (a0 : Nat) (x1 : Int) (x2 : Int) (x3 : Int) (x4 : Int) (x5 : Int) (V : sj_VV) : Option (Unit × sj_VV) :=
  e_ilt (x5 + 1) x2 (
    g_X4_burden_74 N k3 a0 x1 x2 x3 x4 V) (
    e_ilt x3 (x5 + 1) (
      g_X4_burden_74 N k3 a0 x1 x2 x3 x4 V) (
      e_ix 41 x4 fun _ =>
      e_ix 41 x4 fun _ =>
      e_lt (sj_up V (a0 + 2) x4.toNat ((V (a0 + 2) x4.toNat) + (V a0 9))) fun V1 =>
      g_X4_burden_74 N k3 a0 x1 x2 x3 x4 V1))
def g_X4_burden_3_b (N : Nat) (k3 : Nat → Int → Int → Int → Int → sj_VV → Option (Unit × sj_VV)) (a0 : Nat) (x1 : Int) (x2 : Int) (x3 : Int) (x4 : Int) (V : sj_VV) : Option (Unit × sj_VV) :=
  e_ile (V a0 8) x4 (
    some ((), V)) (
    e_lt (x1 + x4) fun v1 =>
    e_ilt v1 x2 (
      g_X4_burden_44 N k3 a0 x1 x2 x3 x4 v1 V) (
      e_ilt x3 v1 (
        g_X4_burden_44 N k3 a0 x1 x2 x3 x4 v1 V) (
        e_ix 41 x4 fun _ =>
        e_ix 41 x4 fun _ =>
        e_lt (sj_up V (a0 + 2) x4.toNat ((V (a0 + 2) x4.toNat) + (V a0 9))) fun V2 =>
        g_X4_burden_44 N k3 a0 x1 x2 x3 x4 v1 V2)))
def g_X4_burden_3 (N : Nat) : Nat → Nat → Int → Int → Int → Int → sj_VV → Option (Unit × sj_VV)
  | 0 => fun _ _ _ _ _ _ => none
  | n + 1 => fun a0 x1 x2 x3 x4 V => g_X4_burden_3_b N (g_X4_burden_3 N n) a0 x1 x2 x3 x4 V
def g_X4_burden (N : Nat) (a0 : Nat) (x1 : Int) (x2 : Int) (x3 : Int) (V : sj_VV) : Option (Unit × sj_VV) :=
  g_X4_burden_3 N N a0 x1 x2 x3 0 V
noncomputable def f_X4_burden (N : Nat) (a0 : Nat) (x1 : Int) (x2 : Int) (x3 : Int) (s : sj_Mem) : Option (Unit × sj_Mem) := e_ok (OK4 s.1 a0) ((g_X4_burden N a0 x1 x2 x3 s.2).map (fun q => (q.1, (s.1, q.2))))
def g_X4_isFast (N : Nat) (a0 : Nat) (x1 : Int) (x2 : Int) (V : sj_VV) : Option (Int × sj_VV) :=
  e_wid (V a0 9) fun v1 =>
  e_wid x2 fun v2 =>
  e_ix 41 x1 fun _ =>
  e_llt 0 ((v1 * v2) + (V (a0 + 8) x1.toNat)) (
    e_zs 0 V) (
    e_zs 1 V)
noncomputable def f_X4_isFast (N : Nat) (a0 : Nat) (x1 : Int) (x2 : Int) (s : sj_Mem) : Option (Int × sj_Mem) := e_ok (OK4 s.1 a0) ((g_X4_isFast N a0 x1 x2 s.2).map (fun q => (q.1, (s.1, q.2))))
def g_X4_rubsOf (N : Nat) (a0 : Nat) (x1 : Int) (x2 : Int) (V : sj_VV) : Option (Int × sj_VV) :=
  e_wid (V a0 9) fun v1 =>
  e_wid x2 fun v2 =>
  e_ix 41 x1 fun _ =>
  e_lt ((v1 * v2) + (V (a0 + 8) x1.toNat)) fun v3 =>
  e_llt 0 v3 (
    e_ix 41 x1 fun _ =>
    e_wid x2 fun v4 =>
    e_dJ ((V (a0 + 7) x1.toNat) * v4) v3 fun v5 =>
    some (v5, V)) (
    some ((-1), V))
noncomputable def f_X4_rubsOf (N : Nat) (a0 : Nat) (x1 : Int) (x2 : Int) (s : sj_Mem) : Option (Int × sj_Mem) := e_ok (OK4 s.1 a0) ((g_X4_rubsOf N a0 x1 x2 s.2).map (fun q => (q.1, (s.1, q.2))))
def g_J9_floorDiv_f86c9 (N : Nat) (x0 : Int) (x2 : Int) (V : sj_VV) : Option (Int × sj_VV) :=
  e_dJ x0 x2 fun v1 =>
  e_lle 0 (sj_xorl x0 x2) (
    some (v1, V)) (
    e_leq (v1 * x2) x0 (
      some (v1, V)) (
      some (v1 - 1, V)))
noncomputable def f_J9_floorDiv_f86c9 (N : Nat) (x0 : Int) (x2 : Int) (s : sj_Mem) : Option (Int × sj_Mem) := e_ok (True) ((g_J9_floorDiv_f86c9 N x0 x2 s.2).map (fun q => (q.1, (s.1, q.2))))
def g_X4_thrustOf (N : Nat) (a0 : Nat) (x1 : Int) (x2 : Int) (V : sj_VV) : Option (Int × sj_VV) :=
  e_wid x2 fun v1 =>
  e_ix 41 x1 fun _ =>
  e_cs (g_J9_floorDiv_f86c9 N (v1 * (V (a0 + 6) x1.toNat)) 1000 V) fun v3 V2 =>
  e_cs (g_X4_rubsOf N a0 x1 x2 V2) fun v5 V4 =>
  some (v3 - v5, V4)
noncomputable def f_X4_thrustOf (N : Nat) (a0 : Nat) (x1 : Int) (x2 : Int) (s : sj_Mem) : Option (Int × sj_Mem) := e_ok (OK4 s.1 a0) ((g_X4_thrustOf N a0 x1 x2 s.2).map (fun q => (q.1, (s.1, q.2))))
def g_X4_allPushes_4_b (N : Nat) (k4 : Nat → Int → Int → sj_VV → Option (Int × sj_VV)) (a0 : Nat) (x1 : Int) (x3 : Int) (V : sj_VV) : Option (Int × sj_VV) :=
  e_ile (V a0 8) x3 (
    some (x1, V)) (
    e_ix 41 x3 fun _ =>
    e_lt (x1 + (V (a0 + 6) x3.toNat)) fun v1 =>
    e_lt (x3 + 1) fun v2 =>
    k4 a0 v1 v2 V)
def g_X4_allPushes_4 (N : Nat) : Nat → Nat → Int → Int → sj_VV → Option (Int × sj_VV)
  | 0 => fun _ _ _ _ => none
  | n + 1 => fun a0 x1 x3 V => g_X4_allPushes_4_b N (g_X4_allPushes_4 N n) a0 x1 x3 V
def g_X4_allPushes (N : Nat) (a0 : Nat) (V : sj_VV) : Option (Int × sj_VV) :=
  g_X4_allPushes_4 N N a0 0 0 V
noncomputable def f_X4_allPushes (N : Nat) (a0 : Nat) (s : sj_Mem) : Option (Int × sj_Mem) := e_ok (OK4 s.1 a0) ((g_X4_allPushes N a0 s.2).map (fun q => (q.1, (s.1, q.2))))
def g_X4_allWeights_4_b (N : Nat) (k4 : Nat → Int → Int → sj_VV → Option (Int × sj_VV)) (a0 : Nat) (x1 : Int) (x3 : Int) (V : sj_VV) : Option (Int × sj_VV) :=
  e_ile (V a0 8) x3 (
    some (x1, V)) (
    e_ix 41 x3 fun _ =>
    e_wid (V (a0 + 2) x3.toNat) fun v1 =>
    e_lt (x1 + v1) fun v2 =>
    e_lt (x3 + 1) fun v3 =>
    k4 a0 v2 v3 V)
def g_X4_allWeights_4 (N : Nat) : Nat → Nat → Int → Int → sj_VV → Option (Int × sj_VV)
  | 0 => fun _ _ _ _ => none
  | n + 1 => fun a0 x1 x3 V => g_X4_allWeights_4_b N (g_X4_allWeights_4 N n) a0 x1 x3 V
def g_X4_allWeights (N : Nat) (a0 : Nat) (V : sj_VV) : Option (Int × sj_VV) :=
  g_X4_allWeights_4 N N a0 0 0 V
noncomputable def f_X4_allWeights (N : Nat) (a0 : Nat) (s : sj_Mem) : Option (Int × sj_Mem) := e_ok (OK4 s.1 a0) ((g_X4_allWeights N a0 s.2).map (fun q => (q.1, (s.1, q.2))))
def g_X4_allLifts_4_b (N : Nat) (k4 : Nat → Int → Int → sj_VV → Option (Int × sj_VV)) (a0 : Nat) (x1 : Int) (x3 : Int) (V : sj_VV) : Option (Int × sj_VV) :=
  e_ile (V a0 8) x3 (
    some (x1, V)) (
    e_ix 41 x3 fun _ =>
    e_wid (V (a0 + 3) x3.toNat) fun v1 =>
    e_lt (x1 + v1) fun v2 =>
    e_lt (x3 + 1) fun v3 =>
    k4 a0 v2 v3 V)
def g_X4_allLifts_4 (N : Nat) : Nat → Nat → Int → Int → sj_VV → Option (Int × sj_VV)
  | 0 => fun _ _ _ _ => none
  | n + 1 => fun a0 x1 x3 V => g_X4_allLifts_4_b N (g_X4_allLifts_4 N n) a0 x1 x3 V
def g_X4_allLifts (N : Nat) (a0 : Nat) (V : sj_VV) : Option (Int × sj_VV) :=
  g_X4_allLifts_4 N N a0 0 0 V
noncomputable def f_X4_allLifts (N : Nat) (a0 : Nat) (s : sj_Mem) : Option (Int × sj_Mem) := e_ok (OK4 s.1 a0) ((g_X4_allLifts N a0 s.2).map (fun q => (q.1, (s.1, q.2))))
def g_X4_allStrengths_4_b (N : Nat) (k4 : Nat → Int → Int → sj_VV → Option (Int × sj_VV)) (a0 : Nat) (x1 : Int) (x3 : Int) (V : sj_VV) : Option (Int × sj_VV) :=
  e_ile (V a0 8) x3 (
    some (x1, V)) (
    e_ix 41 x3 fun _ =>
    e_lt (x1 + (V (a0 + 5) x3.toNat)) fun v1 =>
    e_lt (x3 + 1) fun v2 =>
    k4 a0 v1 v2 V)
def g_X4_allStrengths_4 (N : Nat) : Nat → Nat → Int → Int → sj_VV → Option (Int × sj_VV)
  | 0 => fun _ _ _ _ => none
  | n + 1 => fun a0 x1 x3 V => g_X4_allStrengths_4_b N (g_X4_allStrengths_4 N n) a0 x1 x3 V
def g_X4_allStrengths (N : Nat) (a0 : Nat) (V : sj_VV) : Option (Int × sj_VV) :=
  g_X4_allStrengths_4 N N a0 0 0 V
noncomputable def f_X4_allStrengths (N : Nat) (a0 : Nat) (s : sj_Mem) : Option (Int × sj_Mem) := e_ok (OK4 s.1 a0) ((g_X4_allStrengths N a0 s.2).map (fun q => (q.1, (s.1, q.2))))
def g_X4_countFalling_24 (N : Nat) (k4 : Nat → Int → Int → sj_VV → Option (Int × sj_VV)) (a0 : Nat) (x1 : Int) (x2 : Int) (V : sj_VV) : Option (Int × sj_VV) :=
  e_lt (x2 + 1) fun v1 =>
  k4 a0 x1 v1 V
def g_X4_countFalling_4_b (N : Nat) (k4 : Nat → Int → Int → sj_VV → Option (Int × sj_VV)) (a0 : Nat) (x1 : Int) (x2 : Int) (V : sj_VV) : Option (Int × sj_VV) :=
  e_ile (V a0 8) x2 (
    some (x1, V)) (
    e_ix 41 x2 fun _ =>
    e_ile 0 (V (a0 + 1) x2.toNat) (
      g_X4_countFalling_24 N k4 a0 x1 x2 V) (
      e_lt (x1 + 1) fun v1 =>
      g_X4_countFalling_24 N k4 a0 v1 x2 V))
def g_X4_countFalling_4 (N : Nat) : Nat → Nat → Int → Int → sj_VV → Option (Int × sj_VV)
  | 0 => fun _ _ _ _ => none
  | n + 1 => fun a0 x1 x2 V => g_X4_countFalling_4_b N (g_X4_countFalling_4 N n) a0 x1 x2 V
def g_X4_countFalling (N : Nat) (a0 : Nat) (V : sj_VV) : Option (Int × sj_VV) :=
  g_X4_countFalling_4 N N a0 0 0 V
noncomputable def f_X4_countFalling (N : Nat) (a0 : Nat) (s : sj_Mem) : Option (Int × sj_Mem) := e_ok (OK4 s.1 a0) ((g_X4_countFalling N a0 s.2).map (fun q => (q.1, (s.1, q.2))))
def g_X4_countAfloat_30 (N : Nat) (k4 : Nat → Int → Int → sj_VV → Option (Int × sj_VV)) (a0 : Nat) (x1 : Int) (x2 : Int) (V : sj_VV) : Option (Int × sj_VV) :=
  e_lt (x2 + 1) fun v1 =>
  k4 a0 x1 v1 V
def g_X4_countAfloat_4_b (N : Nat) (k4 : Nat → Int → Int → sj_VV → Option (Int × sj_VV)) (a0 : Nat) (x1 : Int) (x2 : Int) (V : sj_VV) : Option (Int × sj_VV) :=
  e_ile (V a0 8) x2 (
    some (x1, V)) (
    e_ix 41 x2 fun _ =>
    e_ix 41 x2 fun _ =>
    e_ile (V (a0 + 3) x2.toNat) (V (a0 + 2) x2.toNat) (
      g_X4_countAfloat_30 N k4 a0 x1 x2 V) (
      e_lt (x1 + 1) fun v1 =>
      g_X4_countAfloat_30 N k4 a0 v1 x2 V))
def g_X4_countAfloat_4 (N : Nat) : Nat → Nat → Int → Int → sj_VV → Option (Int × sj_VV)
  | 0 => fun _ _ _ _ => none
  | n + 1 => fun a0 x1 x2 V => g_X4_countAfloat_4_b N (g_X4_countAfloat_4 N n) a0 x1 x2 V
def g_X4_countAfloat (N : Nat) (a0 : Nat) (V : sj_VV) : Option (Int × sj_VV) :=
  g_X4_countAfloat_4 N N a0 0 0 V
noncomputable def f_X4_countAfloat (N : Nat) (a0 : Nat) (s : sj_Mem) : Option (Int × sj_Mem) := e_ok (OK4 s.1 a0) ((g_X4_countAfloat N a0 s.2).map (fun q => (q.1, (s.1, q.2))))
def g_X5_baseAt_23 (N : Nat) (V : sj_VV) : Option (Int × sj_VV) :=
  some ((-1), V)
def g_X5_baseAt (N : Nat) (a0 : Nat) (x1 : Int) (V : sj_VV) : Option (Int × sj_VV) :=
  e_cs (g_X5_isNone N a0 V) fun v2 V1 =>
  e_ieq v2 0 (
    e_ilt x1 (V1 a0 1) (
      g_X5_baseAt_23 N V1) (
      e_ile x1 (V1 a0 2) (
        e_ix 41 x1 fun _ =>
        some (V1 (a0 + 1) x1.toNat, V1)) (
        g_X5_baseAt_23 N V1))) (
    g_X5_baseAt_23 N V1)
noncomputable def f_X5_baseAt (N : Nat) (a0 : Nat) (x1 : Int) (s : sj_Mem) : Option (Int × sj_Mem) := e_ok (OK5 s.1 a0) ((g_X5_baseAt N a0 x1 s.2).map (fun q => (q.1, (s.1, q.2))))
def g_X5_leastBase_12_b (N : Nat) (k12 : Nat → Int → Int → sj_VV → Option (Int × sj_VV)) (a0 : Nat) (x1 : Int) (x2 : Int) (V : sj_VV) : Option (Int × sj_VV) :=
  e_ilt (V a0 2) x2 (
    some (x1, V)) (
    e_ix 41 x2 fun _ =>
    e_min x1 (V (a0 + 1) x2.toNat) fun v1 =>
    e_lt (x2 + 1) fun v2 =>
    k12 a0 v1 v2 V)
def g_X5_leastBase_12 (N : Nat) : Nat → Nat → Int → Int → sj_VV → Option (Int × sj_VV)
  | 0 => fun _ _ _ _ => none
  | n + 1 => fun a0 x1 x2 V => g_X5_leastBase_12_b N (g_X5_leastBase_12 N n) a0 x1 x2 V
def g_X5_leastBase (N : Nat) (a0 : Nat) (V : sj_VV) : Option (Int × sj_VV) :=
  e_max (V a0 1) 0 fun v1 =>
  g_X5_leastBase_12 N N a0 100 v1 V
noncomputable def f_X5_leastBase (N : Nat) (a0 : Nat) (s : sj_Mem) : Option (Int × sj_Mem) := e_ok (OK5 s.1 a0) ((g_X5_leastBase N a0 s.2).map (fun q => (q.1, (s.1, q.2))))
def g_J9_floorDiv_7cf53 (N : Nat) (x0 : Int) (x1 : Int) (V : sj_VV) : Option (Int × sj_VV) :=
  e_dI x0 x1 fun v1 =>
  e_ile 0 (sj_xor x0 x1) (
    some (v1, V)) (
    e_ieq (v1 * x1) x0 (
      some (v1, V)) (
      some (v1 - 1, V)))
noncomputable def f_J9_floorDiv_7cf53 (N : Nat) (x0 : Int) (x1 : Int) (s : sj_Mem) : Option (Int × sj_Mem) := e_ok (True) ((g_J9_floorDiv_7cf53 N x0 x1 s.2).map (fun q => (q.1, (s.1, q.2))))
def g_X5_heightAt (N : Nat) (x0 : Nat) (x1 : Int) (x2 : Int) (V : sj_VV) : Option (Int × sj_VV) :=
  e_lt (x1 - 1) fun v1 =>
  e_ix 12 x1 fun _ =>
  e_ix 12 v1 fun _ =>
  e_lt ((V (x0 + 1) x1.toNat) - (V (x0 + 1) v1.toNat)) fun v2 =>
  e_ilt 0 v2 (
    e_ix 12 x1 fun _ =>
    e_ix 12 v1 fun _ =>
    e_lt ((V (x0 + 2) x1.toNat) - (V (x0 + 2) v1.toNat)) fun v3 =>
    e_ix 12 v1 fun _ =>
    e_ix 12 v1 fun _ =>
    e_cs (g_J9_floorDiv_7cf53 N (v3 * (x2 - (V (x0 + 1) v1.toNat))) v2 V) fun v5 V4 =>
    some ((V (x0 + 2) v1.toNat) + v5, V4)) (
    e_ix 12 x1 fun _ =>
    some (V (x0 + 2) x1.toNat, V))
noncomputable def f_X5_heightAt (N : Nat) (x0 : Option Nat) (x1 : Int) (x2 : Int) (s : sj_Mem) : Option (Int × sj_Mem) := e_ok (x0 = some (x0.getD 0) ∧ OK1 s.1 (x0.getD 0)) ((g_X5_heightAt N (x0.getD 0) x1 x2 s.2).map (fun q => (q.1, (s.1, q.2))))
def g_X5_follow_96 (N : Nat) (k65 : Nat → Nat → Nat → Int → Int → Int → Int → Int → Int → sj_VV → Option (Int × sj_VV)) (a0 : Nat) (x1 : Nat) (x2 : Nat) (x3 : Int) (x4 : Int) (x5 : Int) (x6 : Int) (x7 : Int) (x8 : Int) (V : sj_VV) : Option (Int × sj_VV) :=
  e_cs (g_X5_heightAt N x2 x5 x8 V) fun v2 V1 =>
  e_ix 41 x8 fun _ =>
  e_ile (V1 (x1 + 1) x8.toNat) v2 (
    e_zs 0 V1) (
    e_ix 41 x8 fun _ =>
    e_ile (V1 (x1 + 2) x8.toNat) v2 (
      e_ix 41 x8 fun _ =>
      e_lt (sj_up V1 (a0 + 1) x8.toNat v2) fun V3 =>
      e_lt (x8 + 1) fun v4 =>
      k65 a0 x1 x2 x3 x4 x5 x6 x7 v4 V3) (
      e_zs 0 V1))
def g_X5_follow_65_b (N : Nat) (k65 : Nat → Nat → Nat → Int → Int → Int → Int → Int → Int → sj_VV → Option (Int × sj_VV)) (a0 : Nat) (x1 : Nat) (x2 : Nat) (x3 : Int) (x4 : Int) (x5 : Int) (x6 : Int) (x7 : Int) (x8 : Int) (V : sj_VV) : Option (Int × sj_VV) :=
  e_ile x7 x8 (
    e_cs (g_X5_span N a0 x1 x6 x7 x3 V) fun _u V1 =>
    e_zs 1 V1) (
    e_ile (x4 - 1) x5 (
      g_X5_follow_96 N k65 a0 x1 x2 x3 x4 x5 x6 x7 x8 V) (
      e_ix 12 x5 fun _ =>
      e_ile x8 (V (x2 + 1) x5.toNat) (
        g_X5_follow_96 N k65 a0 x1 x2 x3 x4 x5 x6 x7 x8 V) (
        e_lt (x5 + 1) fun v2 =>
        g_X5_follow_96 N k65 a0 x1 x2 x3 x4 v2 x6 x7 x8 V)))
def g_X5_follow_65 (N : Nat) : Nat → Nat → Nat → Nat → Int → Int → Int → Int → Int → Int → sj_VV → Option (Int × sj_VV)
  | 0 => fun _ _ _ _ _ _ _ _ _ _ => none
  | n + 1 => fun a0 x1 x2 x3 x4 x5 x6 x7 x8 V => g_X5_follow_65_b N (g_X5_follow_65 N n) a0 x1 x2 x3 x4 x5 x6 x7 x8 V
def g_X5_follow (N : Nat) (a0 : Nat) (x1 : Nat) (x2 : Nat) (x3 : Int) (V : sj_VV) : Option (Int × sj_VV) :=
  e_lt (V x2 2) fun v1 =>
  e_ilt v1 2 (
    e_zs 0 V) (
    e_ilt 12 v1 (
      e_zs 0 V) (
      e_ix 12 (v1 - 1) fun _ =>
      e_ile (V (x2 + 1) (v1 - 1).toNat) (V x1 0) (
        e_ix 12 0 fun _ =>
        e_lt (V (x2 + 1) (0 : Int).toNat) fun v2 =>
        e_ix 12 (v1 - 1) fun _ =>
        e_lt (V (x2 + 1) (v1 - 1).toNat) fun v3 =>
        e_lt (v2 + 1) fun v4 =>
        g_X5_follow_65 N N a0 x1 x2 x3 v1 1 v2 v3 v4 V) (
        e_zs 0 V)))
noncomputable def f_X5_follow (N : Nat) (a0 : Nat) (x1 : Option Nat) (x2 : Option Nat) (x3 : Int) (s : sj_Mem) : Option (Int × sj_Mem) := e_ok (OK5 s.1 a0 ∧ x1 = some (x1.getD 0) ∧ OK0 s.1 (x1.getD 0) ∧ x2 = some (x2.getD 0) ∧ OK1 s.1 (x2.getD 0)) ((g_X5_follow N a0 (x1.getD 0) (x2.getD 0) x3 s.2).map (fun q => (q.1, (s.1, q.2))))
def g_X6_weighAll_23_b (N : Nat) (k2 : Nat → Int → sj_VV → Option (Unit × sj_VV)) (k23 : Nat → Int → Int → sj_VV → Option (Unit × sj_VV)) (a0 : Nat) (x1 : Int) (x2 : Int) (V : sj_VV) : Option (Unit × sj_VV) :=
  e_ix 41 x1 fun _ =>
  e_ilt (V (1 + 1) x1.toNat) x2 (
    e_lt (x1 + 1) fun v1 =>
    k2 a0 v1 V) (
    e_cs (g_X0_weightOn N 1 x1 x2 V) fun v3 V2 =>
    e_ix 4141 ((x1 * 101) + x2) fun _ =>
    e_lt (sj_up V2 (a0 + 3) ((x1 * 101) + x2).toNat v3) fun V4 =>
    e_lt (x2 + 1) fun v5 =>
    k23 a0 x1 v5 V4)
def g_X6_weighAll_23 (N : Nat) (k2 : Nat → Int → sj_VV → Option (Unit × sj_VV)) : Nat → Nat → Int → Int → sj_VV → Option (Unit × sj_VV)
  | 0 => fun _ _ _ _ => none
  | n + 1 => fun a0 x1 x2 V => g_X6_weighAll_23_b N k2 (g_X6_weighAll_23 N k2 n) a0 x1 x2 V
def g_X6_weighAll_2_b (N : Nat) (k2 : Nat → Int → sj_VV → Option (Unit × sj_VV)) (a0 : Nat) (x1 : Int) (V : sj_VV) : Option (Unit × sj_VV) :=
  e_ilt (V 1 0) x1 (
    some ((), V)) (
    e_ix 41 x1 fun _ =>
    e_lt (V (1 + 2) x1.toNat) fun v1 =>
    g_X6_weighAll_23 N k2 N a0 x1 v1 V)
def g_X6_weighAll_2 (N : Nat) : Nat → Nat → Int → sj_VV → Option (Unit × sj_VV)
  | 0 => fun _ _ _ => none
  | n + 1 => fun a0 x1 V => g_X6_weighAll_2_b N (g_X6_weighAll_2 N n) a0 x1 V
def g_X6_weighAll (N : Nat) (a0 : Nat) (V : sj_VV) : Option (Unit × sj_VV) :=
  g_X6_weighAll_2 N N a0 0 V
noncomputable def f_X6_weighAll (N : Nat) (a0 : Nat) (s : sj_Mem) : Option (Unit × sj_Mem) := e_ok (OK6 s.1 a0) ((g_X6_weighAll N a0 s.2).map (fun q => (q.1, (s.1, q.2))))
def g_X6_addTops_2_b (N : Nat) (k2 : Nat → Int → Int → sj_VV → Option (Unit × sj_VV)) (a0 : Nat) (x1 : Int) (x2 : Int) (V : sj_VV) : Option (Unit × sj_VV) :=
  e_ile 4 x2 (
    some ((), V)) (
    e_cs (g_X0_topAt N 1 x2 x1 V) fun v2 V1 =>
    e_cs (g_X0_topAt N 1 x2 (x1 + 1) V1) fun v4 V3 =>
    e_ix 4 x2 fun _ =>
    e_lt (sj_up V3 (a0 + 4) x2.toNat (v2 + v4)) fun V5 =>
    e_lt (x2 + 1) fun v6 =>
    k2 a0 x1 v6 V5)
def g_X6_addTops_2 (N : Nat) : Nat → Nat → Int → Int → sj_VV → Option (Unit × sj_VV)
  | 0 => fun _ _ _ _ => none
  | n + 1 => fun a0 x1 x2 V => g_X6_addTops_2_b N (g_X6_addTops_2 N n) a0 x1 x2 V
def g_X6_addTops (N : Nat) (a0 : Nat) (x1 : Int) (V : sj_VV) : Option (Unit × sj_VV) :=
  g_X6_addTops_2 N N a0 x1 0 V
noncomputable def f_X6_addTops (N : Nat) (a0 : Nat) (x1 : Int) (s : sj_Mem) : Option (Unit × sj_Mem) := e_ok (OK6 s.1 a0) ((g_X6_addTops N a0 x1 s.2).map (fun q => (q.1, (s.1, q.2))))
def g_X6_leftOver_98 (N : Nat) (a0 : Nat) (x1 : Int) (x2 : Int) (x3 : Int) (x4 : Int) (x5 : Int) (x6 : Int) (x7 : Int) (x8 : Int) (y0 : Int) (y1 : Nat) (V : sj_VV) : Option (Int × sj_VV) :=
  e_zz y0 fun _ =>
  e_lt (sj_up V y1 13 y0) fun V1 =>
  e_llt 0 x8 (
    e_ix 4141 ((x1 * 101) + x2) fun _ =>
    e_ix 4141 (((x1 + 1) * 101) + x3) fun _ =>
    e_lt (x5 * ((V1 (a0 + 3) ((x1 * 101) + x2).toNat) + (V1 (a0 + 3) (((x1 + 1) * 101) + x3).toNat))) fun v2 =>
    e_cs (g_X0_headOn N 1 x1 x2 V1) fun v4 V3 =>
    e_cs (g_X0_headOn N 1 (x1 + 1) x3 V3) fun v6 V5 =>
    e_lt ((10 * x5) * (v4 + v6)) fun v7 =>
    e_ix 4 x4 fun _ =>
    e_wid (V5 (1 + 7) x4.toNat) fun v8 =>
    e_wid x5 fun v9 =>
    e_max 0 (v2 - v7) fun v10 =>
    e_wid v10 fun v11 =>
    e_wid x6 fun v12 =>
    e_lt (((2000 * v8) * v9) + (v11 * v12)) fun v13 =>
    e_wid ((x5 * x5) + (x7 * x7)) fun v14 =>
    e_wid (V5 a0 8) fun v15 =>
    e_dJ ((v13 * v14) * v15) x8 fun v16 =>
    e_wid (V5 a0 8) fun v17 =>
    e_wid v2 fun v18 =>
    e_wid x7 fun v19 =>
    e_wid ((V5 1 2) * x5) fun v20 =>
    some ((1000 * v16) - (v17 * (v18 * ((1000 * v19) + v20))), V5)) (
    some (0, V1))
def g_X6_leftOver_64 (N : Nat) (a0 : Nat) (x1 : Int) (x2 : Int) (x3 : Int) (x4 : Int) (x5 : Int) (x6 : Int) (y0 : Int) (V : sj_VV) : Option (Int × sj_VV) :=
  e_wid x5 fun v1 =>
  e_wid (V a0 8) fun v2 =>
  e_wid y0 fun v3 =>
  e_wid x6 fun v4 =>
  e_lt ((v1 * v2) + (v3 * v4)) fun v5 =>
  e_llt 0 v5 (
    g_X6_leftOver_98 N a0 x1 x2 x3 x4 x5 x6 y0 v5 0 a0 V) (
    g_X6_leftOver_98 N a0 x1 x2 x3 x4 x5 x6 y0 v5 1 a0 V)
def g_X6_leftOver_27 (N : Nat) (a0 : Nat) (x1 : Int) (x2 : Int) (x3 : Int) (x4 : Int) (V : sj_VV) : Option (Int × sj_VV) :=
  e_lt (V 1 1) fun v1 =>
  e_ix 4 x4 fun _ =>
  e_lt (V (1 + 8) x4.toNat) fun v2 =>
  e_ieq (V a0 7) 0 (
    g_X6_leftOver_64 N a0 x1 x2 x3 x4 v1 v2 (x2 - x3) V) (
    g_X6_leftOver_64 N a0 x1 x2 x3 x4 v1 v2 (x3 - x2) V)
def g_X6_leftOver_3_b (N : Nat) (k3 : Nat → Int → Int → Int → Int → sj_VV → Option (Int × sj_VV)) (a0 : Nat) (x1 : Int) (x2 : Int) (x3 : Int) (x4 : Int) (V : sj_VV) : Option (Int × sj_VV) :=
  e_ile x4 0 (
    g_X6_leftOver_27 N a0 x1 x2 x3 x4 V) (
    e_ix 4 x4 fun _ =>
    e_ilt (x2 + x3) (V (a0 + 4) x4.toNat) (
      g_X6_leftOver_27 N a0 x1 x2 x3 x4 V) (
      e_lt (x4 + (-1)) fun v1 =>
      k3 a0 x1 x2 x3 v1 V))
def g_X6_leftOver_3 (N : Nat) : Nat → Nat → Int → Int → Int → Int → sj_VV → Option (Int × sj_VV)
  | 0 => fun _ _ _ _ _ _ => none
  | n + 1 => fun a0 x1 x2 x3 x4 V => g_X6_leftOver_3_b N (g_X6_leftOver_3 N n) a0 x1 x2 x3 x4 V
def g_X6_leftOver (N : Nat) (a0 : Nat) (x1 : Int) (x2 : Int) (x3 : Int) (V : sj_VV) : Option (Int × sj_VV) :=
  g_X6_leftOver_3 N N a0 x1 x2 x3 3 V
noncomputable def f_X6_leftOver (N : Nat) (a0 : Nat) (x1 : Int) (x2 : Int) (x3 : Int) (s : sj_Mem) : Option (Int × sj_Mem) := e_ok (OK6 s.1 a0) ((g_X6_leftOver N a0 x1 x2 x3 s.2).map (fun q => (q.1, (s.1, q.2))))
def g_X6_pass_42 (N : Nat) (a0 : Nat) (x1 : Int) (x2 : Int) (x3 : Int) (V : sj_VV) : Option (Unit × sj_VV) :=
  e_ix 4141 x1 fun _ =>
  e_lt (sj_up V (a0 + 1) x1.toNat x3) fun V1 =>
  e_ix 4141 x1 fun _ =>
  e_lt (sj_up V1 (a0 + 2) x1.toNat x2) fun V2 =>
  some ((), V2)
def g_X6_pass (N : Nat) (a0 : Nat) (x1 : Int) (x2 : Int) (x3 : Int) (V : sj_VV) : Option (Unit × sj_VV) :=
  e_ix 4141 x1 fun _ =>
  e_ieq (V (a0 + 2) x1.toNat) ((-1)) (
    g_X6_pass_42 N a0 x1 x2 x3 V) (
    e_ix 4141 x1 fun _ =>
    e_llt x3 (V (a0 + 1) x1.toNat) (
      g_X6_pass_42 N a0 x1 x2 x3 V) (
      e_ix 4141 x1 fun _ =>
      e_leq x3 (V (a0 + 1) x1.toNat) (
        e_ix 4141 x1 fun _ =>
        e_ile (V (a0 + 2) x1.toNat) x2 (
          some ((), V)) (
          g_X6_pass_42 N a0 x1 x2 x3 V)) (
        some ((), V))))
noncomputable def f_X6_pass (N : Nat) (a0 : Nat) (x1 : Int) (x2 : Int) (x3 : Int) (s : sj_Mem) : Option (Unit × sj_Mem) := e_ok (OK6 s.1 a0) ((g_X6_pass N a0 x1 x2 x3 s.2).map (fun q => (q.1, (s.1, q.2))))
def g_X6_close_34 (N : Nat) (a0 : Nat) (x1 : Int) (x2 : Int) (x3 : Int) (V : sj_VV) : Option (Unit × sj_VV) :=
  e_lt (sj_up V a0 10 x3) fun V1 =>
  e_lt (sj_up V1 a0 11 x2) fun V2 =>
  e_lt (sj_up V2 a0 12 x1) fun V3 =>
  some ((), V3)
def g_X6_close (N : Nat) (a0 : Nat) (x1 : Int) (x2 : Int) (x3 : Int) (V : sj_VV) : Option (Unit × sj_VV) :=
  e_ieq (V a0 11) ((-1)) (
    g_X6_close_34 N a0 x1 x2 x3 V) (
    e_llt x3 (V a0 10) (
      g_X6_close_34 N a0 x1 x2 x3 V) (
      e_leq x3 (V a0 10) (
        e_ile (V a0 11) x2 (
          some ((), V)) (
          g_X6_close_34 N a0 x1 x2 x3 V)) (
        some ((), V))))
noncomputable def f_X6_close (N : Nat) (a0 : Nat) (x1 : Int) (x2 : Int) (x3 : Int) (s : sj_Mem) : Option (Unit × sj_Mem) := e_ok (OK6 s.1 a0) ((g_X6_close N a0 x1 x2 x3 s.2).map (fun q => (q.1, (s.1, q.2))))
def g_X6_stepOn_139 (N : Nat) (k73 : Nat → Int → Int → Int → Int → Int → Int → Int → sj_VV → Option (Unit × sj_VV)) (a0 : Nat) (x1 : Int) (x2 : Int) (x3 : Int) (x4 : Int) (x6 : Int) (x7 : Int) (x8 : Int) (V : sj_VV) : Option (Unit × sj_VV) :=
  e_lt (x8 + 1) fun v1 =>
  k73 a0 x1 x2 x3 x4 x6 x7 v1 V
def g_X6_stepOn_73_b (N : Nat) (k73 : Nat → Int → Int → Int → Int → Int → Int → Int → sj_VV → Option (Unit × sj_VV)) (a0 : Nat) (x1 : Int) (x2 : Int) (x3 : Int) (x4 : Int) (x6 : Int) (x7 : Int) (x8 : Int) (V : sj_VV) : Option (Unit × sj_VV) :=
  e_ilt x7 x8 (
    some ((), V)) (
    e_cs (g_X6_leftOver N a0 x1 x2 x8 V) fun v2 V1 =>
    e_lt (x4 + v2) fun v3 =>
    e_ieq (V1 a0 13) 0 (
      e_ieq x8 x6 (
        e_cs (g_X6_close N a0 (x1 + 1) x3 v3 V1) fun _u V5 =>
        g_X6_stepOn_139 N k73 a0 x1 x2 x3 x4 x6 x7 x8 V5) (
        e_cs (g_X6_pass N a0 (((x1 + 1) * 101) + x8) x3 v3 V1) fun _u V4 =>
        g_X6_stepOn_139 N k73 a0 x1 x2 x3 x4 x6 x7 x8 V4)) (
      g_X6_stepOn_139 N k73 a0 x1 x2 x3 x4 x6 x7 x8 V1))
def g_X6_stepOn_73 (N : Nat) : Nat → Nat → Int → Int → Int → Int → Int → Int → Int → sj_VV → Option (Unit × sj_VV)
  | 0 => fun _ _ _ _ _ _ _ _ _ => none
  | n + 1 => fun a0 x1 x2 x3 x4 x6 x7 x8 V => g_X6_stepOn_73_b N (g_X6_stepOn_73 N n) a0 x1 x2 x3 x4 x6 x7 x8 V
def g_X6_stepOn (N : Nat) (a0 : Nat) (x1 : Int) (x2 : Int) (V : sj_VV) : Option (Unit × sj_VV) :=
  e_ix 4141 ((x1 * 101) + x2) fun _ =>
  e_lt (V (a0 + 2) ((x1 * 101) + x2).toNat) fun v1 =>
  e_ix 4141 ((x1 * 101) + x2) fun _ =>
  e_lt (V (a0 + 1) ((x1 * 101) + x2).toNat) fun v2 =>
  e_ix 41 (x1 + 1) fun _ =>
  e_lt (V (1 + 1) (x1 + 1).toNat) fun v3 =>
  e_min v3 (x2 + (V a0 6)) fun v4 =>
  e_ix 41 (x1 + 1) fun _ =>
  e_max (V (1 + 2) (x1 + 1).toNat) (x2 - (V a0 6)) fun v5 =>
  g_X6_stepOn_73 N N a0 x1 x2 v1 v2 v3 v4 v5 V
noncomputable def f_X6_stepOn (N : Nat) (a0 : Nat) (x1 : Int) (x2 : Int) (s : sj_Mem) : Option (Unit × sj_Mem) := e_ok (OK6 s.1 a0) ((g_X6_stepOn N a0 x1 x2 s.2).map (fun q => (q.1, (s.1, q.2))))
def g_X6_sweep_174 (N : Nat) (k89 : Nat → Int → Int → sj_VV → Option (Unit × sj_VV)) (k137 : Nat → Int → Int → Int → sj_VV → Option (Unit × sj_VV)) (a0 : Nat) (x2 : Int) (x3 : Int) (x4 : Int) (V : sj_VV) : Option (Unit × sj_VV) :=
  e_lt (x4 + 1) fun v1 =>
  k137 a0 x2 x3 v1 V
def g_X6_sweep_137_b (N : Nat) (k89 : Nat → Int → Int → sj_VV → Option (Unit × sj_VV)) (k137 : Nat → Int → Int → Int → sj_VV → Option (Unit × sj_VV)) (a0 : Nat) (x2 : Int) (x3 : Int) (x4 : Int) (V : sj_VV) : Option (Unit × sj_VV) :=
  e_ix 41 x3 fun _ =>
  e_ilt (V (1 + 1) x3.toNat) x4 (
    e_lt (x3 + 1) fun v1 =>
    k89 a0 x2 v1 V) (
    e_ix 4141 ((x3 * 101) + x4) fun _ =>
    e_ieq (V (a0 + 2) ((x3 * 101) + x4).toNat) ((-1)) (
      g_X6_sweep_174 N k89 k137 a0 x2 x3 x4 V) (
      e_cs (g_X6_stepOn N a0 x3 x4 V) fun _u V2 =>
      g_X6_sweep_174 N k89 k137 a0 x2 x3 x4 V2))
def g_X6_sweep_137 (N : Nat) (k89 : Nat → Int → Int → sj_VV → Option (Unit × sj_VV)) : Nat → Nat → Int → Int → Int → sj_VV → Option (Unit × sj_VV)
  | 0 => fun _ _ _ _ _ => none
  | n + 1 => fun a0 x2 x3 x4 V => g_X6_sweep_137_b N k89 (g_X6_sweep_137 N k89 n) a0 x2 x3 x4 V
def g_X6_sweep_121 (N : Nat) (k89 : Nat → Int → Int → sj_VV → Option (Unit × sj_VV)) (a0 : Nat) (x2 : Int) (x3 : Int) (V : sj_VV) : Option (Unit × sj_VV) :=
  e_cs (g_X6_addTops N a0 x3 V) fun _u V1 =>
  e_ix 41 x3 fun _ =>
  e_lt (V1 (1 + 2) x3.toNat) fun v2 =>
  g_X6_sweep_137 N k89 N a0 x2 x3 v2 V1
def g_X6_sweep_89_b (N : Nat) (k89 : Nat → Int → Int → sj_VV → Option (Unit × sj_VV)) (a0 : Nat) (x2 : Int) (x3 : Int) (V : sj_VV) : Option (Unit × sj_VV) :=
  e_ile (V 1 0) x3 (
    some ((), V)) (
    e_ieq x2 0 (
      g_X6_sweep_121 N k89 a0 x2 x3 V) (
      e_ieq (V a0 11) ((-1)) (
        g_X6_sweep_121 N k89 a0 x2 x3 V) (
        e_llt (V a0 10) 0 (
          some ((), V)) (
          g_X6_sweep_121 N k89 a0 x2 x3 V))))
def g_X6_sweep_89 (N : Nat) : Nat → Nat → Int → Int → sj_VV → Option (Unit × sj_VV)
  | 0 => fun _ _ _ _ => none
  | n + 1 => fun a0 x2 x3 V => g_X6_sweep_89_b N (g_X6_sweep_89 N n) a0 x2 x3 V
def g_X6_sweep_30_b (N : Nat) (k30 : Nat → Int → Int → sj_VV → Option (Unit × sj_VV)) (a0 : Nat) (x2 : Int) (x3 : Int) (V : sj_VV) : Option (Unit × sj_VV) :=
  e_ilt (V 1 0) x3 (
    g_X6_sweep_89 N N a0 x2 0 V) (
    e_ix 41 x3 fun _ =>
    e_ix 4141 ((x3 * 101) + (V (1 + 1) x3.toNat)) fun _ =>
    e_lt (sj_up V (a0 + 1) ((x3 * 101) + (V (1 + 1) x3.toNat)).toNat 0) fun V1 =>
    e_ix 41 x3 fun _ =>
    e_ix 4141 ((x3 * 101) + (V1 (1 + 1) x3.toNat)) fun _ =>
    e_lt (sj_up V1 (a0 + 2) ((x3 * 101) + (V1 (1 + 1) x3.toNat)).toNat x3) fun V2 =>
    e_lt (x3 + 1) fun v3 =>
    k30 a0 x2 v3 V2)
def g_X6_sweep_30 (N : Nat) : Nat → Nat → Int → Int → sj_VV → Option (Unit × sj_VV)
  | 0 => fun _ _ _ _ => none
  | n + 1 => fun a0 x2 x3 V => g_X6_sweep_30_b N (g_X6_sweep_30 N n) a0 x2 x3 V
def g_X6_sweep (N : Nat) (a0 : Nat) (x1 : Int) (x2 : Int) (V : sj_VV) : Option (Unit × sj_VV) :=
  e_lt (sj_up V a0 8 x1) fun V1 =>
  e_lt (sj_up V1 a0 10 0) fun V2 =>
  e_lt (sj_up V2 a0 11 ((-1))) fun V3 =>
  e_lt (sj_up V3 a0 12 ((-1))) fun V4 =>
  e_cs (g_J7_fill_53178 N (a0 + 2) 4141 ((-1)) V4) fun _u V5 =>
  g_X6_sweep_30 N N a0 x2 0 V5
noncomputable def f_X6_sweep (N : Nat) (a0 : Nat) (x1 : Int) (x2 : Int) (s : sj_Mem) : Option (Unit × sj_Mem) := e_ok (OK6 s.1 a0) ((g_X6_sweep N a0 x1 x2 s.2).map (fun q => (q.1, (s.1, q.2))))
def g_X6_goBack_207 (N : Nat) (k58 : Nat → Int → Int → Int → sj_VV → Option (Unit × sj_VV)) (a0 : Nat) (x1 : Int) (x2 : Int) (x4 : Int) (V : sj_VV) : Option (Unit × sj_VV) :=
  e_lt (x4 + (-1)) fun v1 =>
  k58 a0 x1 x2 v1 V
def g_X6_goBack_201 (N : Nat) (k58 : Nat → Int → Int → Int → sj_VV → Option (Unit × sj_VV)) (k115 : Nat → Int → Int → Int → Int → Int → sj_VV → Option (Unit × sj_VV)) (a0 : Nat) (x1 : Int) (x2 : Int) (x4 : Int) (x5 : Int) (x6 : Int) (V : sj_VV) : Option (Unit × sj_VV) :=
  e_lt (x6 + 1) fun v1 =>
  k115 a0 x1 x2 x4 x5 v1 V
def g_X6_goBack_115_b (N : Nat) (k58 : Nat → Int → Int → Int → sj_VV → Option (Unit × sj_VV)) (k115 : Nat → Int → Int → Int → Int → Int → sj_VV → Option (Unit × sj_VV)) (a0 : Nat) (x1 : Int) (x2 : Int) (x4 : Int) (x5 : Int) (x6 : Int) (V : sj_VV) : Option (Unit × sj_VV) :=
  e_ilt x5 x6 (
    g_X6_goBack_207 N k58 a0 x1 x2 x4 V) (
    e_lt ((x4 * 101) + x6) fun v1 =>
    e_ix 4141 v1 fun _ =>
    e_ieq (V (a0 + 2) v1.toNat) (V a0 11) (
      e_ix 4141 v1 fun _ =>
      e_cs (g_X6_leftOver N a0 x4 x6 x1 V) fun v3 V2 =>
      e_leq ((V (a0 + 1) v1.toNat) + v3) x2 (
        e_ieq (V2 a0 13) 0 (
          e_ix 41 x4 fun _ =>
          e_lt (sj_up V2 ((a0 + 5) + 1) x4.toNat x6) fun V4 =>
          e_ix 4141 v1 fun _ =>
          e_lt (V4 (a0 + 1) v1.toNat) fun v5 =>
          g_X6_goBack_207 N k58 a0 x6 v5 x4 V4) (
          g_X6_goBack_201 N k58 k115 a0 x1 x2 x4 x5 x6 V2)) (
        g_X6_goBack_201 N k58 k115 a0 x1 x2 x4 x5 x6 V2)) (
      g_X6_goBack_201 N k58 k115 a0 x1 x2 x4 x5 x6 V))
def g_X6_goBack_115 (N : Nat) (k58 : Nat → Int → Int → Int → sj_VV → Option (Unit × sj_VV)) : Nat → Nat → Int → Int → Int → Int → Int → sj_VV → Option (Unit × sj_VV)
  | 0 => fun _ _ _ _ _ _ _ => none
  | n + 1 => fun a0 x1 x2 x4 x5 x6 V => g_X6_goBack_115_b N k58 (g_X6_goBack_115 N k58 n) a0 x1 x2 x4 x5 x6 V
def g_X6_goBack_58_b (N : Nat) (k58 : Nat → Int → Int → Int → sj_VV → Option (Unit × sj_VV)) (a0 : Nat) (x1 : Int) (x2 : Int) (x4 : Int) (V : sj_VV) : Option (Unit × sj_VV) :=
  e_ile x4 (V a0 11) (
    some ((), V)) (
    e_cs (g_X6_addTops N a0 x4 V) fun _u V1 =>
    e_ix 41 x4 fun _ =>
    e_min (V1 (1 + 1) x4.toNat) (x1 + (V1 a0 6)) fun v2 =>
    e_ix 41 x4 fun _ =>
    e_max (V1 (1 + 2) x4.toNat) (x1 - (V1 a0 6)) fun v3 =>
    g_X6_goBack_115 N k58 N a0 x1 x2 x4 v2 v3 V1)
def g_X6_goBack_58 (N : Nat) : Nat → Nat → Int → Int → Int → sj_VV → Option (Unit × sj_VV)
  | 0 => fun _ _ _ _ _ => none
  | n + 1 => fun a0 x1 x2 x4 V => g_X6_goBack_58_b N (g_X6_goBack_58 N n) a0 x1 x2 x4 V
def g_X6_goBack (N : Nat) (a0 : Nat) (V : sj_VV) : Option (Unit × sj_VV) :=
  e_ieq (V a0 11) ((-1)) (
    some ((), V)) (
    e_cs (g_X5_span N (a0 + 5) 1 (V a0 11) (V a0 12) (V a0 7) V) fun _u V1 =>
    e_ix 41 (V1 a0 12) fun _ =>
    e_lt (V1 (1 + 1) (V1 a0 12).toNat) fun v2 =>
    e_lt (V1 a0 10) fun v3 =>
    e_lt ((V1 a0 12) - 1) fun v4 =>
    g_X6_goBack_58 N N a0 v2 v3 v4 V1)
noncomputable def f_X6_goBack (N : Nat) (a0 : Nat) (s : sj_Mem) : Option (Unit × sj_Mem) := e_ok (OK6 s.1 a0) ((g_X6_goBack N a0 s.2).map (fun q => (q.1, (s.1, q.2))))
def g_X7_put_3_b (N : Nat) (k3 : Nat → Int → Int → sj_VV → Option (Unit × sj_VV)) (a0 : Nat) (x1 : Int) (x2 : Int) (V : sj_VV) : Option (Unit × sj_VV) :=
  e_ilt x2 0 (
    some ((), V)) (
    e_ile 600 (V a0 1) (
      some ((), V)) (
      e_ush x1 x2 fun v1 =>
      e_ix 600 (V a0 1) fun _ =>
      e_lt (sj_up V (a0 + 1) (V a0 1).toNat (sj_and v1 255)) fun V2 =>
      e_lt (sj_up V2 a0 1 ((V2 a0 1) + 1)) fun V3 =>
      e_lt (x2 + (-8)) fun v4 =>
      k3 a0 x1 v4 V3))
def g_X7_put_3 (N : Nat) : Nat → Nat → Int → Int → sj_VV → Option (Unit × sj_VV)
  | 0 => fun _ _ _ _ => none
  | n + 1 => fun a0 x1 x2 V => g_X7_put_3_b N (g_X7_put_3 N n) a0 x1 x2 V
def g_X7_put (N : Nat) (a0 : Nat) (x1 : Int) (V : sj_VV) : Option (Unit × sj_VV) :=
  g_X7_put_3 N N a0 x1 24 V
noncomputable def f_X7_put (N : Nat) (a0 : Nat) (x1 : Int) (s : sj_Mem) : Option (Unit × sj_Mem) := e_ok (OK7 s.1 a0) ((g_X7_put N a0 x1 s.2).map (fun q => (q.1, (s.1, q.2))))
def g_X7_skip_0_b (N : Nat) (k0 : Nat → sj_VV → Option (Unit × sj_VV)) (a0 : Nat) (V : sj_VV) : Option (Unit × sj_VV) :=
  e_ile (V a0 1) (V a0 2) (
    some ((), V)) (
    e_ix 600 (V a0 2) fun _ =>
    e_ieq (V (a0 + 1) (V a0 2).toNat) 32 (
      e_lt (sj_up V a0 2 ((V a0 2) + 1)) fun V1 =>
      k0 a0 V1) (
      some ((), V)))
def g_X7_skip_0 (N : Nat) : Nat → Nat → sj_VV → Option (Unit × sj_VV)
  | 0 => fun _ _ => none
  | n + 1 => fun a0 V => g_X7_skip_0_b N (g_X7_skip_0 N n) a0 V
def g_X7_skip (N : Nat) (a0 : Nat) (V : sj_VV) : Option (Unit × sj_VV) := g_X7_skip_0 N N a0 V
noncomputable def f_X7_skip (N : Nat) (a0 : Nat) (s : sj_Mem) : Option (Unit × sj_Mem) := e_ok (OK7 s.1 a0) ((g_X7_skip N a0 s.2).map (fun q => (q.1, (s.1, q.2))))
def g_X7_seesFrom (N : Nat) (a0 : Nat) (x1 : Int) (x2 : Int) (V : sj_VV) : Option (Int × sj_VV) :=
  e_ile (V a0 1) (V a0 2) (
    e_zs 0 V) (
    e_ix 600 (V a0 2) fun _ =>
    e_ilt (V (a0 + 1) (V a0 2).toNat) x1 (
      e_zs 0 V) (
      e_ix 600 (V a0 2) fun _ =>
      e_ilt x2 (V (a0 + 1) (V a0 2).toNat) (
        e_zs 0 V) (
        e_zs 1 V)))
noncomputable def f_X7_seesFrom (N : Nat) (a0 : Nat) (x1 : Int) (x2 : Int) (s : sj_Mem) : Option (Int × sj_Mem) := e_ok (OK7 s.1 a0) ((g_X7_seesFrom N a0 x1 x2 s.2).map (fun q => (q.1, (s.1, q.2))))
def g_X7_readWord_43 (N : Nat) (a0 : Nat) (V : sj_VV) : Option (Unit × sj_VV) :=
  e_lt (sj_up V a0 6 (V a0 2)) fun V1 =>
  e_cs (g_X7_skip N a0 V1) fun _u V2 =>
  some ((), V2)
def g_X7_readWord_8_b (N : Nat) (k8 : Nat → sj_VV → Option (Unit × sj_VV)) (a0 : Nat) (V : sj_VV) : Option (Unit × sj_VV) :=
  e_cs (g_X7_seesFrom N a0 97 122 V) fun v2 V1 =>
  e_ieq v2 0 (
    g_X7_readWord_43 N a0 V1) (
    e_ile (V1 a0 1) (V1 a0 2) (
      g_X7_readWord_43 N a0 V1) (
      e_lt (sj_up V1 a0 2 ((V1 a0 2) + 1)) fun V3 =>
      k8 a0 V3))
def g_X7_readWord_8 (N : Nat) : Nat → Nat → sj_VV → Option (Unit × sj_VV)
  | 0 => fun _ _ => none
  | n + 1 => fun a0 V => g_X7_readWord_8_b N (g_X7_readWord_8 N n) a0 V
def g_X7_readWord (N : Nat) (a0 : Nat) (V : sj_VV) : Option (Unit × sj_VV) :=
  e_lt (sj_up V a0 5 (V a0 2)) fun V1 =>
  g_X7_readWord_8 N N a0 V1
noncomputable def f_X7_readWord (N : Nat) (a0 : Nat) (s : sj_Mem) : Option (Unit × sj_Mem) := e_ok (OK7 s.1 a0) ((g_X7_readWord N a0 s.2).map (fun q => (q.1, (s.1, q.2))))
def g_X7_isWord_20_b (N : Nat) (k20 : Nat → Nat → Int → sj_VV → Option (Int × sj_VV)) (a0 : Nat) (x1 : Nat) (x2 : Int) (V : sj_VV) : Option (Int × sj_VV) :=
  e_tl x1 fun v1 =>
  e_ile v1 x2 (
    e_zs 1 V) (
    e_ix 600 ((V a0 5) + x2) fun _ =>
    e_tc x1 x2 fun v2 =>
    e_ieq (V (a0 + 1) ((V a0 5) + x2).toNat) v2 (
      e_lt (x2 + 1) fun v3 =>
      k20 a0 x1 v3 V) (
      e_zs 0 V))
def g_X7_isWord_20 (N : Nat) : Nat → Nat → Nat → Int → sj_VV → Option (Int × sj_VV)
  | 0 => fun _ _ _ _ => none
  | n + 1 => fun a0 x1 x2 V => g_X7_isWord_20_b N (g_X7_isWord_20 N n) a0 x1 x2 V
def g_X7_isWord (N : Nat) (a0 : Nat) (x1 : Nat) (V : sj_VV) : Option (Int × sj_VV) :=
  e_tl x1 fun v1 =>
  e_ieq v1 ((V a0 6) - (V a0 5)) (
    g_X7_isWord_20 N N a0 x1 0 V) (
    e_zs 0 V)
noncomputable def f_X7_isWord (N : Nat) (a0 : Nat) (x1 : Nat) (s : sj_Mem) : Option (Int × sj_Mem) := e_ok (OK7 s.1 a0) ((g_X7_isWord N a0 x1 s.2).map (fun q => (q.1, (s.1, q.2))))
def g_X7_fail (N : Nat) (a0 : Nat) (x1 : Int) (x2 : Int) (V : sj_VV) : Option (Int × sj_VV) :=
  e_lt (sj_up V a0 3 x1) fun V1 =>
  e_lt (sj_up V1 a0 4 x2) fun V2 =>
  some ((-1), V2)
noncomputable def f_X7_fail (N : Nat) (a0 : Nat) (x1 : Int) (x2 : Int) (s : sj_Mem) : Option (Int × sj_Mem) := e_ok (OK7 s.1 a0) ((g_X7_fail N a0 x1 x2 s.2).map (fun q => (q.1, (s.1, q.2))))
def g_X7_readNumber_103 (N : Nat) (a0 : Nat) (V : sj_VV) : Option (Int × sj_VV) :=
  e_cs (g_X7_fail N a0 2 (V a0 5) V) fun v2 V1 =>
  some (v2, V1)
def g_X7_readNumber_68 (N : Nat) (a0 : Nat) (x1 : Int) (x2 : Int) (x3 : Int) (V : sj_VV) : Option (Int × sj_VV) :=
  e_ieq (V a0 2) (V a0 5) (
    e_cs (g_X7_fail N a0 1 (V a0 5) V) fun v3 V2 =>
    some (v3, V2)) (
    e_cs (g_X7_skip N a0 V) fun _u V1 =>
    e_ilt x3 x1 (
      g_X7_readNumber_103 N a0 V1) (
      e_ile x3 x2 (
        some (x3, V1)) (
        g_X7_readNumber_103 N a0 V1)))
def g_X7_readNumber_10_b (N : Nat) (k10 : Nat → Int → Int → Int → sj_VV → Option (Int × sj_VV)) (a0 : Nat) (x1 : Int) (x2 : Int) (x3 : Int) (V : sj_VV) : Option (Int × sj_VV) :=
  e_cs (g_X7_seesFrom N a0 48 57 V) fun v2 V1 =>
  e_ieq v2 0 (
    g_X7_readNumber_68 N a0 x1 x2 x3 V1) (
    e_ile (V1 a0 1) (V1 a0 2) (
      g_X7_readNumber_68 N a0 x1 x2 x3 V1) (
      e_ix 600 (V1 a0 2) fun _ =>
      e_min 1000000 (((x3 * 10) + (V1 (a0 + 1) (V1 a0 2).toNat)) - 48) fun v3 =>
      e_lt (sj_up V1 a0 2 ((V1 a0 2) + 1)) fun V4 =>
      k10 a0 x1 x2 v3 V4))
def g_X7_readNumber_10 (N : Nat) : Nat → Nat → Int → Int → Int → sj_VV → Option (Int × sj_VV)
  | 0 => fun _ _ _ _ _ => none
  | n + 1 => fun a0 x1 x2 x3 V => g_X7_readNumber_10_b N (g_X7_readNumber_10 N n) a0 x1 x2 x3 V
def g_X7_readNumber (N : Nat) (a0 : Nat) (x1 : Int) (x2 : Int) (V : sj_VV) : Option (Int × sj_VV) :=
  e_lt (sj_up V a0 5 (V a0 2)) fun V1 =>
  g_X7_readNumber_10 N N a0 x1 x2 0 V1
noncomputable def f_X7_readNumber (N : Nat) (a0 : Nat) (x1 : Int) (x2 : Int) (s : sj_Mem) : Option (Int × sj_Mem) := e_ok (OK7 s.1 a0) ((g_X7_readNumber N a0 x1 x2 s.2).map (fun q => (q.1, (s.1, q.2))))
def g_X7_sees (N : Nat) (a0 : Nat) (x1 : Int) (V : sj_VV) : Option (Int × sj_VV) :=
  e_ile (V a0 1) (V a0 2) (
    e_zs 0 V) (
    e_ix 600 (V a0 2) fun _ =>
    e_ieq (V (a0 + 1) (V a0 2).toNat) x1 (
      e_zs 1 V) (
      e_zs 0 V))
noncomputable def f_X7_sees (N : Nat) (a0 : Nat) (x1 : Int) (s : sj_Mem) : Option (Int × sj_Mem) := e_ok (OK7 s.1 a0) ((g_X7_sees N a0 x1 s.2).map (fun q => (q.1, (s.1, q.2))))
def g_X7_readEnd (N : Nat) (a0 : Nat) (V : sj_VV) : Option (Int × sj_VV) :=
  e_cs (g_X7_sees N a0 59 V) fun v2 V1 =>
  e_ieq v2 0 (
    e_cs (g_X7_fail N a0 1 (V1 a0 2) V1) fun v6 V5 =>
    e_zs 0 V5) (
    e_lt (sj_up V1 a0 2 ((V1 a0 2) + 1)) fun V3 =>
    e_cs (g_X7_skip N a0 V3) fun _u V4 =>
    e_zs 1 V4)
noncomputable def f_X7_readEnd (N : Nat) (a0 : Nat) (s : sj_Mem) : Option (Int × sj_Mem) := e_ok (OK7 s.1 a0) ((g_X7_readEnd N a0 s.2).map (fun q => (q.1, (s.1, q.2))))
def g_X7_readColumns (N : Nat) (a0 : Nat) (x1 : Nat) (V : sj_VV) : Option (Int × sj_VV) :=
  e_cs (g_X7_readWord N a0 V) fun _u V1 =>
  e_cs (g_X7_isWord N a0 0 V1) fun v3 V2 =>
  e_ieq v3 0 (
    e_cs (g_X7_fail N a0 1 (V2 a0 5) V2) fun v12 V11 =>
    e_zs 0 V11) (
    e_cs (g_X7_readNumber N a0 4 40 V2) fun v5 V4 =>
    e_ieq v5 ((-1)) (
      e_zs 0 V4) (
      e_cs (g_X7_readNumber N a0 1 10 V4) fun v7 V6 =>
      e_ieq v7 ((-1)) (
        e_zs 0 V6) (
        e_cs (g_X0_begin N x1 v5 v7 V6) fun _u V8 =>
        e_cs (g_X7_readEnd N a0 V8) fun v10 V9 =>
        e_zs v10 V9)))
noncomputable def f_X7_readColumns (N : Nat) (a0 : Nat) (x1 : Option Nat) (s : sj_Mem) : Option (Int × sj_Mem) := e_ok (OK7 s.1 a0 ∧ x1 = some (x1.getD 0) ∧ OK0 s.1 (x1.getD 0)) ((g_X7_readColumns N a0 (x1.getD 0) s.2).map (fun q => (q.1, (s.1, q.2))))
def g_X7_lineKind (N : Nat) (a0 : Nat) (V : sj_VV) : Option (Int × sj_VV) :=
  e_cs (g_X7_isWord N a0 1 V) fun v2 V1 =>
  e_ieq v2 0 (
    e_cs (g_X7_isWord N a0 2 V1) fun v4 V3 =>
    e_ieq v4 0 (
      e_cs (g_X7_isWord N a0 3 V3) fun v6 V5 =>
      e_ieq v6 0 (
        e_cs (g_X7_isWord N a0 4 V5) fun v8 V7 =>
        e_ieq v8 0 (
          e_cs (g_X7_isWord N a0 5 V7) fun v10 V9 =>
          e_ieq v10 0 (
            e_cs (g_X7_isWord N a0 6 V9) fun v12 V11 =>
            e_ieq v12 0 (
              e_cs (g_X7_isWord N a0 7 V11) fun v14 V13 =>
              e_ieq v14 0 (
                e_cs (g_X7_isWord N a0 8 V13) fun v16 V15 =>
                e_ieq v16 0 (
                  some ((-1), V15)) (
                  some (13, V15))) (
                some (9, V13))) (
              some (5, V11))) (
            some (4, V9))) (
          some (3, V7))) (
        some (2, V5))) (
      some (1, V3))) (
    some (0, V1))
noncomputable def f_X7_lineKind (N : Nat) (a0 : Nat) (s : sj_Mem) : Option (Int × sj_Mem) := e_ok (OK7 s.1 a0) ((g_X7_lineKind N a0 s.2).map (fun q => (q.1, (s.1, q.2))))
def g_X7_isNew (N : Nat) (a0 : Nat) (x1 : Int) (V : sj_VV) : Option (Int × sj_VV) :=
  e_shl 1 x1 fun v1 =>
  e_ieq (sj_and (V a0 7) v1) 0 (
    e_lt (sj_up V a0 7 (sj_or (V a0 7) v1)) fun V2 =>
    e_zs 1 V2) (
    e_cs (g_X7_fail N a0 3 (V a0 5) V) fun v4 V3 =>
    e_zs 0 V3)
noncomputable def f_X7_isNew (N : Nat) (a0 : Nat) (x1 : Int) (s : sj_Mem) : Option (Int × sj_Mem) := e_ok (OK7 s.1 a0) ((g_X7_isNew N a0 x1 s.2).map (fun q => (q.1, (s.1, q.2))))
def g_X7_readAnchor (N : Nat) (a0 : Nat) (x1 : Nat) (V : sj_VV) : Option (Int × sj_VV) :=
  e_cs (g_X7_readNumber N a0 0 5 V) fun v2 V1 =>
  e_ieq v2 ((-1)) (
    e_zs 0 V1) (
    e_cs (g_X7_isNew N a0 (13 + v2) V1) fun v4 V3 =>
    e_ieq v4 0 (
      e_zs 0 V3) (
      e_cs (g_X7_readNumber N a0 0 (V3 x1 0) V3) fun v6 V5 =>
      e_ieq v6 ((-1)) (
        e_zs 0 V5) (
        e_cs (g_X7_readNumber N a0 0 100 V5) fun v8 V7 =>
        e_ieq v8 ((-1)) (
          e_zs 0 V7) (
          e_cs (g_X7_readNumber N a0 1 500 V7) fun v10 V9 =>
          e_ix 6 v2 fun _ =>
          e_lt (sj_up V9 (x1 + 9) v2.toNat v6) fun V11 =>
          e_ix 6 v2 fun _ =>
          e_lt (sj_up V11 (x1 + 10) v2.toNat v8) fun V12 =>
          e_ix 6 v2 fun _ =>
          e_lt (sj_up V12 (x1 + 11) v2.toNat v10) fun V13 =>
          e_ieq v10 ((-1)) (
            e_zs 0 V13) (
            e_cs (g_X7_readEnd N a0 V13) fun v15 V14 =>
            e_ieq v15 0 (
              e_zs 0 V14) (
              e_zs 1 V14))))))
noncomputable def f_X7_readAnchor (N : Nat) (a0 : Nat) (x1 : Option Nat) (s : sj_Mem) : Option (Int × sj_Mem) := e_ok (OK7 s.1 a0 ∧ x1 = some (x1.getD 0) ∧ OK0 s.1 (x1.getD 0)) ((g_X7_readAnchor N a0 (x1.getD 0) s.2).map (fun q => (q.1, (s.1, q.2))))
def g_X7_readSoil (N : Nat) (a0 : Nat) (x1 : Nat) (V : sj_VV) : Option (Int × sj_VV) :=
  e_cs (g_X7_readNumber N a0 0 3 V) fun v2 V1 =>
  e_ieq v2 ((-1)) (
    e_zs 0 V1) (
    e_cs (g_X7_isNew N a0 (9 + v2) V1) fun v4 V3 =>
    e_ieq v4 0 (
      e_zs 0 V3) (
      e_cs (g_X7_readNumber N a0 1 30 V3) fun v6 V5 =>
      e_ieq v6 ((-1)) (
        e_zs 0 V5) (
        e_cs (g_X7_readNumber N a0 0 200 V5) fun v8 V7 =>
        e_ieq v8 ((-1)) (
          e_zs 0 V7) (
          e_cs (g_X7_readNumber N a0 0 1500 V7) fun v10 V9 =>
          e_ix 4 v2 fun _ =>
          e_lt (sj_up V9 (x1 + 6) v2.toNat v6) fun V11 =>
          e_ix 4 v2 fun _ =>
          e_lt (sj_up V11 (x1 + 7) v2.toNat v8) fun V12 =>
          e_ix 4 v2 fun _ =>
          e_lt (sj_up V12 (x1 + 8) v2.toNat v10) fun V13 =>
          e_ieq v10 ((-1)) (
            e_zs 0 V13) (
            e_cs (g_X7_readEnd N a0 V13) fun v15 V14 =>
            e_ieq v15 0 (
              e_zs 0 V14) (
              e_zs 1 V14))))))
noncomputable def f_X7_readSoil (N : Nat) (a0 : Nat) (x1 : Option Nat) (s : sj_Mem) : Option (Int × sj_Mem) := e_ok (OK7 s.1 a0 ∧ x1 = some (x1.getD 0) ∧ OK0 s.1 (x1.getD 0)) ((g_X7_readSoil N a0 (x1.getD 0) s.2).map (fun q => (q.1, (s.1, q.2))))
def g_X7_readTimes (N : Nat) (a0 : Nat) (x1 : Int) (V : sj_VV) : Option (Int × sj_VV) :=
  e_cs (g_X7_sees N a0 42 V) fun v2 V1 =>
  e_ieq v2 0 (
    some (1, V1)) (
    e_lt (sj_up V1 a0 2 ((V1 a0 2) + 1)) fun V3 =>
    e_cs (g_X7_skip N a0 V3) fun _u V4 =>
    e_cs (g_X7_readNumber N a0 1 x1 V4) fun v6 V5 =>
    some (v6, V5))
noncomputable def f_X7_readTimes (N : Nat) (a0 : Nat) (x1 : Int) (s : sj_Mem) : Option (Int × sj_Mem) := e_ok (OK7 s.1 a0) ((g_X7_readTimes N a0 x1 s.2).map (fun q => (q.1, (s.1, q.2))))
def g_X7_readRow_118 (N : Nat) (a0 : Nat) (V : sj_VV) : Option (Int × sj_VV) :=
  e_cs (g_X7_readEnd N a0 V) fun v2 V1 =>
  e_zs v2 V1
def g_X7_readRow_91 (N : Nat) (a0 : Nat) (x3 : Int) (x5 : Int) (V : sj_VV) : Option (Int × sj_VV) :=
  e_ilt x3 x5 (
    g_X7_readRow_118 N a0 V) (
    e_cs (g_X7_sees N a0 59 V) fun v2 V1 =>
    e_ieq v2 0 (
      g_X7_readRow_118 N a0 V1) (
      e_cs (g_X7_fail N a0 2 (V1 a0 2) V1) fun v4 V3 =>
      e_zs 0 V3))
def g_X7_readRow_43_b (N : Nat) (k3 : Nat → Nat → Nat → Int → Int → Int → Int → sj_VV → Option (Int × sj_VV)) (k43 : Nat → Nat → Nat → Int → Int → Int → Int → Int → Int → Int → sj_VV → Option (Int × sj_VV)) (a0 : Nat) (x1 : Nat) (n1 : Nat) (x2 : Int) (x3 : Int) (x4 : Int) (x5 : Int) (x6 : Int) (x7 : Int) (x8 : Int) (V : sj_VV) : Option (Int × sj_VV) :=
  e_ile x7 x8 (
    e_lt (x5 + x7) fun v1 =>
    e_ilt x3 v1 (
      g_X7_readRow_91 N a0 x3 v1 V) (
      e_cs (g_X7_seesFrom N a0 48 57 V) fun v3 V2 =>
      e_ieq v3 0 (
        g_X7_readRow_91 N a0 x3 v1 V2) (
        k3 a0 x1 n1 x2 x3 x4 v1 V2))) (
    e_ix n1 ((x2 + x5) + x8) fun _ =>
    e_lt (sj_up V x1 ((x2 + x5) + x8).toNat x6) fun V4 =>
    e_lt (x8 + 1) fun v5 =>
    k43 a0 x1 n1 x2 x3 x4 x5 x6 x7 v5 V4)
def g_X7_readRow_43 (N : Nat) (k3 : Nat → Nat → Nat → Int → Int → Int → Int → sj_VV → Option (Int × sj_VV)) : Nat → Nat → Nat → Nat → Int → Int → Int → Int → Int → Int → Int → sj_VV → Option (Int × sj_VV)
  | 0 => fun _ _ _ _ _ _ _ _ _ _ _ => none
  | n + 1 => fun a0 x1 n1 x2 x3 x4 x5 x6 x7 x8 V => g_X7_readRow_43_b N k3 (g_X7_readRow_43 N k3 n) a0 x1 n1 x2 x3 x4 x5 x6 x7 x8 V
def g_X7_readRow_3_b (N : Nat) (k3 : Nat → Nat → Nat → Int → Int → Int → Int → sj_VV → Option (Int × sj_VV)) (a0 : Nat) (x1 : Nat) (n1 : Nat) (x2 : Int) (x3 : Int) (x4 : Int) (x5 : Int) (V : sj_VV) : Option (Int × sj_VV) :=
  e_cs (g_X7_readNumber N a0 0 x4 V) fun v2 V1 =>
  e_ieq v2 ((-1)) (
    e_zs 0 V1) (
    e_cs (g_X7_readTimes N a0 ((x3 + 1) - x5) V1) fun v4 V3 =>
    e_ieq v4 ((-1)) (
      e_zs 0 V3) (
      g_X7_readRow_43 N k3 N a0 x1 n1 x2 x3 x4 x5 v2 v4 0 V3))
def g_X7_readRow_3 (N : Nat) : Nat → Nat → Nat → Nat → Int → Int → Int → Int → sj_VV → Option (Int × sj_VV)
  | 0 => fun _ _ _ _ _ _ _ _ => none
  | n + 1 => fun a0 x1 n1 x2 x3 x4 x5 V => g_X7_readRow_3_b N (g_X7_readRow_3 N n) a0 x1 n1 x2 x3 x4 x5 V
def g_X7_readRow (N : Nat) (a0 : Nat) (x1 : Nat) (n1 : Nat) (x2 : Int) (x3 : Int) (x4 : Int) (V : sj_VV) : Option (Int × sj_VV) :=
  g_X7_readRow_3 N N a0 x1 n1 x2 x3 x4 0 V
def g_X7_readTop (N : Nat) (a0 : Nat) (x1 : Nat) (V : sj_VV) : Option (Int × sj_VV) :=
  e_cs (g_X7_readNumber N a0 1 3 V) fun v2 V1 =>
  e_ieq v2 ((-1)) (
    e_zs 0 V1) (
    e_cs (g_X7_isNew N a0 (5 + v2) V1) fun v4 V3 =>
    e_ieq v4 0 (
      e_zs 0 V3) (
      e_cs (g_X8_topPlace N v2 0 V3) fun v6 V5 =>
      e_cs (g_X7_readRow N a0 (x1 + 5) 123 v6 (V5 x1 0) 100 V5) fun v8 V7 =>
      e_zs v8 V7))
noncomputable def f_X7_readTop (N : Nat) (a0 : Nat) (x1 : Option Nat) (s : sj_Mem) : Option (Int × sj_Mem) := e_ok (OK7 s.1 a0 ∧ x1 = some (x1.getD 0) ∧ OK0 s.1 (x1.getD 0)) ((g_X7_readTop N a0 (x1.getD 0) s.2).map (fun q => (q.1, (s.1, q.2))))
def g_X7_readQuake (N : Nat) (a0 : Nat) (x1 : Nat) (V : sj_VV) : Option (Int × sj_VV) :=
  e_cs (g_X7_readNumber N a0 0 500 V) fun v2 V1 =>
  e_lt (sj_up V1 x1 2 v2) fun V3 =>
  e_ieq v2 ((-1)) (
    e_zs 0 V3) (
    e_cs (g_X7_readEnd N a0 V3) fun v5 V4 =>
    e_ieq v5 0 (
      e_zs 0 V4) (
      e_zs 1 V4))
noncomputable def f_X7_readQuake (N : Nat) (a0 : Nat) (x1 : Option Nat) (s : sj_Mem) : Option (Int × sj_Mem) := e_ok (OK7 s.1 a0 ∧ x1 = some (x1.getD 0) ∧ OK0 s.1 (x1.getD 0)) ((g_X7_readQuake N a0 (x1.getD 0) s.2).map (fun q => (q.1, (s.1, q.2))))
def g_X7_readLine (N : Nat) (a0 : Nat) (x1 : Nat) (V : sj_VV) : Option (Int × sj_VV) :=
  e_cs (g_X7_readWord N a0 V) fun _u V1 =>
  e_cs (g_X7_lineKind N a0 V1) fun v3 V2 =>
  e_sw v3 (
  if v3 = 0 then (
    e_cs (g_X7_isNew N a0 v3 V2) fun v5 V4 =>
    e_ieq v5 0 (
      e_zs 0 V4) (
      e_cs (g_X7_readRow N a0 (x1 + 1) 41 0 (V4 x1 0) 100 V4) fun v7 V6 =>
      e_ieq v7 0 (
        e_zs 0 V6) (
        e_zs 1 V6))) else (
  if v3 = 1 then (
    e_cs (g_X7_isNew N a0 v3 V2) fun v9 V8 =>
    e_ieq v9 0 (
      e_zs 0 V8) (
      e_cs (g_X7_readRow N a0 (x1 + 2) 41 0 (V8 x1 0) 100 V8) fun v11 V10 =>
      e_ieq v11 0 (
        e_zs 0 V10) (
        e_zs 1 V10))) else (
  if v3 = 2 then (
    e_cs (g_X7_isNew N a0 v3 V2) fun v13 V12 =>
    e_ieq v13 0 (
      e_zs 0 V12) (
      e_cs (g_X7_readRow N a0 (x1 + 3) 41 0 (V12 x1 0) 100 V12) fun v15 V14 =>
      e_ieq v15 0 (
        e_zs 0 V14) (
        e_zs 1 V14))) else (
  if v3 = 3 then (
    e_cs (g_X7_isNew N a0 v3 V2) fun v17 V16 =>
    e_ieq v17 0 (
      e_zs 0 V16) (
      e_cs (g_X7_readRow N a0 (x1 + 4) 41 0 (V16 x1 0) 500 V16) fun v19 V18 =>
      e_ieq v19 0 (
        e_zs 0 V18) (
        e_zs 1 V18))) else (
  if v3 = 4 then (
    e_cs (g_X7_isNew N a0 v3 V2) fun v21 V20 =>
    e_ieq v21 0 (
      e_zs 0 V20) (
      e_cs (g_X7_readQuake N a0 x1 V20) fun v23 V22 =>
      e_ieq v23 0 (
        e_zs 0 V22) (
        e_zs 1 V22))) else (
  if v3 = 5 then (
    e_cs (g_X7_readTop N a0 x1 V2) fun v25 V24 =>
    e_zs v25 V24) else (
  if v3 = 6 then (
    e_cs (g_X7_fail N a0 1 (V2 a0 5) V2) fun v27 V26 =>
    e_zs 0 V26) else (
  if v3 = 7 then (
    e_cs (g_X7_fail N a0 1 (V2 a0 5) V2) fun v29 V28 =>
    e_zs 0 V28) else (
  if v3 = 8 then (
    e_cs (g_X7_fail N a0 1 (V2 a0 5) V2) fun v31 V30 =>
    e_zs 0 V30) else (
  if v3 = 9 then (
    e_cs (g_X7_readSoil N a0 x1 V2) fun v33 V32 =>
    e_zs v33 V32) else (
  if v3 = 10 then (
    e_cs (g_X7_fail N a0 1 (V2 a0 5) V2) fun v35 V34 =>
    e_zs 0 V34) else (
  if v3 = 11 then (
    e_cs (g_X7_fail N a0 1 (V2 a0 5) V2) fun v37 V36 =>
    e_zs 0 V36) else (
  if v3 = 12 then (
    e_cs (g_X7_fail N a0 1 (V2 a0 5) V2) fun v39 V38 =>
    e_zs 0 V38) else (
  if v3 = 13 then (
    e_cs (g_X7_readAnchor N a0 x1 V2) fun v41 V40 =>
    e_zs v41 V40) else (
    e_cs (g_X7_fail N a0 1 (V2 a0 5) V2) fun v43 V42 =>
    e_zs 0 V42)))))))))))))))
noncomputable def f_X7_readLine (N : Nat) (a0 : Nat) (x1 : Option Nat) (s : sj_Mem) : Option (Int × sj_Mem) := e_ok (OK7 s.1 a0 ∧ x1 = some (x1.getD 0) ∧ OK0 s.1 (x1.getD 0)) ((g_X7_readLine N a0 (x1.getD 0) s.2).map (fun q => (q.1, (s.1, q.2))))
def g_X7_read_70 (N : Nat) (a0 : Nat) (x1 : Nat) (x2 : Int) (V : sj_VV) : Option (Int × sj_VV) :=
  e_cs (g_X0_rockIsBelow N x1 V) fun v2 V1 =>
  e_ieq v2 0 (
    e_cs (g_X7_fail N a0 4 (V1 a0 1) V1) fun v4 V3 =>
    some (v4, V3)) (
    some (x2, V1))
def g_X7_read_36_b (N : Nat) (k36 : Nat → Nat → Int → sj_VV → Option (Int × sj_VV)) (a0 : Nat) (x1 : Nat) (x2 : Int) (V : sj_VV) : Option (Int × sj_VV) :=
  e_ile (V a0 1) (V a0 2) (
    g_X7_read_70 N a0 x1 x2 V) (
    e_ilt 600 x2 (
      g_X7_read_70 N a0 x1 x2 V) (
      e_cs (g_X7_readLine N a0 x1 V) fun v2 V1 =>
      e_ieq v2 0 (
        some ((-1), V1)) (
        e_lt (x2 + 1) fun v3 =>
        k36 a0 x1 v3 V1)))
def g_X7_read_36 (N : Nat) : Nat → Nat → Nat → Int → sj_VV → Option (Int × sj_VV)
  | 0 => fun _ _ _ _ => none
  | n + 1 => fun a0 x1 x2 V => g_X7_read_36_b N (g_X7_read_36 N n) a0 x1 x2 V
def g_X7_read (N : Nat) (a0 : Nat) (x1 : Nat) (V : sj_VV) : Option (Int × sj_VV) :=
  e_lt (sj_up V a0 2 0) fun V1 =>
  e_lt (sj_up V1 a0 3 0) fun V2 =>
  e_lt (sj_up V2 a0 4 ((-1))) fun V3 =>
  e_lt (sj_up V3 a0 7 0) fun V4 =>
  e_cs (g_X7_skip N a0 V4) fun _u V5 =>
  e_cs (g_X7_readColumns N a0 x1 V5) fun v7 V6 =>
  e_ieq v7 0 (
    some ((-1), V6)) (
    g_X7_read_36 N N a0 x1 1 V6)
noncomputable def f_X7_read (N : Nat) (a0 : Nat) (x1 : Option Nat) (s : sj_Mem) : Option (Int × sj_Mem) := e_ok (OK7 s.1 a0 ∧ x1 = some (x1.getD 0) ∧ OK0 s.1 (x1.getD 0)) ((g_X7_read N a0 (x1.getD 0) s.2).map (fun q => (q.1, (s.1, q.2))))
def g_X8_keepAct (N : Nat) (a0 : Nat) (V : sj_VV) : Option (Unit × sj_VV) :=
  e_ix 8 (V a0 14) fun _ =>
  e_cs (g_X0_copy N (a0 + 77 + 14 * (V a0 14).toNat) (a0 + 1) V) fun _u V2 =>
  e_rI ((V2 a0 14) + 1) 8 fun v3 =>
  e_lt (sj_up V2 a0 14 v3) fun V4 =>
  e_ile 8 (V4 a0 13) (
    some ((), V4)) (
    e_lt (sj_up V4 a0 13 ((V4 a0 13) + 1)) fun V5 =>
    some ((), V5))
noncomputable def f_X8_keepAct (N : Nat) (a0 : Nat) (s : sj_Mem) : Option (Unit × sj_Mem) := e_ok (OK8 s.1 a0) ((g_X8_keepAct N a0 s.2).map (fun q => (q.1, (s.1, q.2))))
def g_X8_size (N : Nat) (a0 : Nat) (x1 : Int) (x2 : Int) (V : sj_VV) : Option (Int × sj_VV) :=
  e_ilt x1 4 (
    e_zs 0 V) (
    e_ile 41 x1 (
      e_zs 0 V) (
      e_ilt x2 1 (
        e_zs 0 V) (
        e_ile x2 10 (
          e_cs (g_X8_keepAct N a0 V) fun _u V1 =>
          e_cs (g_X0_begin N (a0 + 1) x1 x2 V1) fun _u V2 =>
          e_zs 1 V2) (
          e_zs 0 V))))
noncomputable def f_X8_size (N : Nat) (a0 : Nat) (x1 : Int) (x2 : Int) (s : sj_Mem) : Option (Int × sj_Mem) := e_ok (OK8 s.1 a0) ((g_X8_size N a0 x1 x2 s.2).map (fun q => (q.1, (s.1, q.2))))
def g_X8_tellRock (N : Nat) (a0 : Nat) (x1 : Int) (x2 : Int) (V : sj_VV) : Option (Int × sj_VV) :=
  e_ix 41 x1 fun _ =>
  e_ile x2 (V ((a0 + 1) + 1) x1.toNat) (
    e_ix 41 x1 fun _ =>
    e_lt (sj_up V ((a0 + 1) + 2) x1.toNat x2) fun V1 =>
    e_cs (g_X5_drop N ((a0 + 1) + 12) V1) fun _u V2 =>
    e_zs 1 V2) (
    e_zs 0 V)
noncomputable def f_X8_tellRock (N : Nat) (a0 : Nat) (x1 : Int) (x2 : Int) (s : sj_Mem) : Option (Int × sj_Mem) := e_ok (OK8 s.1 a0) ((g_X8_tellRock N a0 x1 x2 s.2).map (fun q => (q.1, (s.1, q.2))))
def g_X8_tell_51 (N : Nat) (a0 : Nat) (x1 : Int) (x2 : Int) (x3 : Int) (y0 : Int) (y1 : Int) (V : sj_VV) : Option (Int × sj_VV) :=
  e_ile y1 y0 (
    e_ieq x2 1 (
      e_ix 41 x1 fun _ =>
      e_lt (sj_up V ((a0 + 1) + 3) x1.toNat x3) fun V5 =>
      e_zs 1 V5) (
      e_ieq x2 2 (
        e_ix 41 x1 fun _ =>
        e_lt (sj_up V ((a0 + 1) + 4) x1.toNat x3) fun V4 =>
        e_zs 1 V4) (
        e_cs (g_X8_topPlace N (x2 - 2) x1 V) fun v2 V1 =>
        e_ix 123 v2 fun _ =>
        e_lt (sj_up V1 ((a0 + 1) + 5) v2.toNat x3) fun V3 =>
        e_zs 1 V3))) (
    e_zs 0 V)
def g_X8_tell (N : Nat) (a0 : Nat) (x1 : Int) (x2 : Int) (x3 : Int) (V : sj_VV) : Option (Int × sj_VV) :=
  e_cs (g_X0_hasColumn N (a0 + 1) x1 V) fun v2 V1 =>
  e_ieq v2 0 (
    e_zs 0 V1) (
    e_ilt x2 0 (
      e_zs 0 V1) (
      e_ilt 5 x2 (
        e_zs 0 V1) (
        e_ile 0 x3 (
          e_ieq x2 0 (
            e_cs (g_X8_tellRock N a0 x1 x3 V1) fun v4 V3 =>
            e_zs v4 V3) (
            e_ieq x2 2 (
              g_X8_tell_51 N a0 x1 x2 x3 500 x3 V1) (
              g_X8_tell_51 N a0 x1 x2 x3 100 x3 V1))) (
          e_zs 0 V1))))
noncomputable def f_X8_tell (N : Nat) (a0 : Nat) (x1 : Int) (x2 : Int) (x3 : Int) (s : sj_Mem) : Option (Int × sj_Mem) := e_ok (OK8 s.1 a0) ((g_X8_tell N a0 x1 x2 x3 s.2).map (fun q => (q.1, (s.1, q.2))))
def g_X8_dig (N : Nat) (a0 : Nat) (x1 : Int) (x2 : Int) (V : sj_VV) : Option (Int × sj_VV) :=
  e_cs (g_X0_canLower N (a0 + 1) x1 x2 V) fun v2 V1 =>
  e_ieq v2 0 (
    some ((-1), V1)) (
    e_cs (g_X8_keepAct N a0 V1) fun _u V3 =>
    e_ix 41 x1 fun _ =>
    e_ix 41 x1 fun _ =>
    e_lt (sj_up V3 ((a0 + 1) + 1) x1.toNat ((V3 ((a0 + 1) + 1) x1.toNat) - x2)) fun V4 =>
    e_cs (g_X5_drop N ((a0 + 1) + 12) V4) fun _u V5 =>
    e_ix 41 x1 fun _ =>
    some (V5 ((a0 + 1) + 1) x1.toNat, V5))
noncomputable def f_X8_dig (N : Nat) (a0 : Nat) (x1 : Int) (x2 : Int) (s : sj_Mem) : Option (Int × sj_Mem) := e_ok (OK8 s.1 a0) ((g_X8_dig N a0 x1 x2 s.2).map (fun q => (q.1, (s.1, q.2))))
def g_X8_soil (N : Nat) (a0 : Nat) (x1 : Int) (x2 : Int) (x3 : Int) (x4 : Int) (V : sj_VV) : Option (Int × sj_VV) :=
  e_ilt x1 0 (
    e_zs 0 V) (
    e_ile 4 x1 (
      e_zs 0 V) (
      e_ilt x2 1 (
        e_zs 0 V) (
        e_ilt 30 x2 (
          e_zs 0 V) (
          e_ilt x3 0 (
            e_zs 0 V) (
            e_ilt 200 x3 (
              e_zs 0 V) (
              e_ilt x4 0 (
                e_zs 0 V) (
                e_ile x4 1500 (
                  e_ix 4 x1 fun _ =>
                  e_lt (sj_up V ((a0 + 1) + 6) x1.toNat x2) fun V1 =>
                  e_ix 4 x1 fun _ =>
                  e_lt (sj_up V1 ((a0 + 1) + 7) x1.toNat x3) fun V2 =>
                  e_ix 4 x1 fun _ =>
                  e_lt (sj_up V2 ((a0 + 1) + 8) x1.toNat x4) fun V3 =>
                  e_zs 1 V3) (
                  e_zs 0 V))))))))
noncomputable def f_X8_soil (N : Nat) (a0 : Nat) (x1 : Int) (x2 : Int) (x3 : Int) (x4 : Int) (s : sj_Mem) : Option (Int × sj_Mem) := e_ok (OK8 s.1 a0) ((g_X8_soil N a0 x1 x2 x3 x4 s.2).map (fun q => (q.1, (s.1, q.2))))
def g_X8_quake (N : Nat) (a0 : Nat) (x1 : Int) (V : sj_VV) : Option (Int × sj_VV) :=
  e_ilt x1 0 (
    e_zs 0 V) (
    e_ile x1 500 (
      e_lt (sj_up V (a0 + 1) 2 x1) fun V1 =>
      e_zs 1 V1) (
      e_zs 0 V))
noncomputable def f_X8_quake (N : Nat) (a0 : Nat) (x1 : Int) (s : sj_Mem) : Option (Int × sj_Mem) := e_ok (OK8 s.1 a0) ((g_X8_quake N a0 x1 s.2).map (fun q => (q.1, (s.1, q.2))))
def g_X8_anchor (N : Nat) (a0 : Nat) (x1 : Int) (x2 : Int) (x3 : Int) (x4 : Int) (V : sj_VV) : Option (Int × sj_VV) :=
  e_ilt x1 0 (
    e_zs 0 V) (
    e_ile 6 x1 (
      e_zs 0 V) (
      e_cs (g_X0_hasColumn N (a0 + 1) x2 V) fun v2 V1 =>
      e_ieq v2 0 (
        e_zs 0 V1) (
        e_ilt x3 0 (
          e_zs 0 V1) (
          e_ilt 100 x3 (
            e_zs 0 V1) (
            e_ilt x4 0 (
              e_zs 0 V1) (
              e_ile x4 500 (
                e_ix 6 x1 fun _ =>
                e_lt (sj_up V1 ((a0 + 1) + 9) x1.toNat x2) fun V3 =>
                e_ix 6 x1 fun _ =>
                e_lt (sj_up V3 ((a0 + 1) + 10) x1.toNat x3) fun V4 =>
                e_ix 6 x1 fun _ =>
                e_lt (sj_up V4 ((a0 + 1) + 11) x1.toNat x4) fun V5 =>
                e_zs 1 V5) (
                e_zs 0 V1)))))))
noncomputable def f_X8_anchor (N : Nat) (a0 : Nat) (x1 : Int) (x2 : Int) (x3 : Int) (x4 : Int) (s : sj_Mem) : Option (Int × sj_Mem) := e_ok (OK8 s.1 a0) ((g_X8_anchor N a0 x1 x2 x3 x4 s.2).map (fun q => (q.1, (s.1, q.2))))
def g_X8_feed (N : Nat) (a0 : Nat) (x1 : Int) (x2 : Int) (x3 : Int) (x4 : Int) (x5 : Int) (V : sj_VV) : Option (Int × sj_VV) :=
  e_ile (V (a0 + 52) 1) 580 (
    e_cs (g_X7_put N (a0 + 52) x1 V) fun _u V1 =>
    e_cs (g_X7_put N (a0 + 52) x2 V1) fun _u V2 =>
    e_cs (g_X7_put N (a0 + 52) x3 V2) fun _u V3 =>
    e_cs (g_X7_put N (a0 + 52) x4 V3) fun _u V4 =>
    e_cs (g_X7_put N (a0 + 52) x5 V4) fun _u V5 =>
    some (V5 (a0 + 52) 1, V5)) (
    some ((-1), V))
noncomputable def f_X8_feed (N : Nat) (a0 : Nat) (x1 : Int) (x2 : Int) (x3 : Int) (x4 : Int) (x5 : Int) (s : sj_Mem) : Option (Int × sj_Mem) := e_ok (OK8 s.1 a0) ((g_X8_feed N a0 x1 x2 x3 x4 x5 s.2).map (fun q => (q.1, (s.1, q.2))))
def g_X8_end (N : Nat) (a0 : Nat) (x1 : Int) (V : sj_VV) : Option (Int × sj_VV) :=
  e_ilt x1 0 (
    e_zs 0 V) (
    e_ile x1 (V (a0 + 52) 1) (
      e_lt (sj_up V (a0 + 52) 1 x1) fun V1 =>
      e_zs 1 V1) (
      e_zs 0 V))
noncomputable def f_X8_end (N : Nat) (a0 : Nat) (x1 : Int) (s : sj_Mem) : Option (Int × sj_Mem) := e_ok (OK8 s.1 a0) ((g_X8_end N a0 x1 s.2).map (fun q => (q.1, (s.1, q.2))))
def g_X8_text (N : Nat) (a0 : Nat) (V : sj_VV) : Option (Int × sj_VV) :=
  e_cs (g_X7_read N (a0 + 52) (a0 + 15) V) fun v2 V1 =>
  e_lt (sj_up V1 (a0 + 52) 1 0) fun V3 =>
  e_ieq v2 ((-1)) (
    some ((-1), V3)) (
    e_cs (g_X8_keepAct N a0 V3) fun _u V4 =>
    e_cs (g_X0_copy N (a0 + 1) (a0 + 15) V4) fun _u V5 =>
    some (v2, V5))
noncomputable def f_X8_text (N : Nat) (a0 : Nat) (s : sj_Mem) : Option (Int × sj_Mem) := e_ok (OK8 s.1 a0) ((g_X8_text N a0 s.2).map (fun q => (q.1, (s.1, q.2))))
def g_X8_fault (N : Nat) (a0 : Nat) (x1 : Int) (V : sj_VV) : Option (Int × sj_VV) :=
  e_ieq x1 0 (
    some (V (a0 + 52) 3, V)) (
    e_ieq x1 1 (
      some (V (a0 + 52) 4, V)) (
      some ((-1), V)))
noncomputable def f_X8_fault (N : Nat) (a0 : Nat) (x1 : Int) (s : sj_Mem) : Option (Int × sj_Mem) := e_ok (OK8 s.1 a0) ((g_X8_fault N a0 x1 s.2).map (fun q => (q.1, (s.1, q.2))))
def g_X8_takeTrial (N : Nat) (a0 : Nat) (V : sj_VV) : Option (Int × sj_VV) :=
  e_cs (g_X5_copy N ((a0 + 1) + 12) (a0 + 75) V) fun _u V1 =>
  e_cs (g_X5_count N ((a0 + 1) + 12) V1) fun v3 V2 =>
  some (v3, V2)
noncomputable def f_X8_takeTrial (N : Nat) (a0 : Nat) (s : sj_Mem) : Option (Int × sj_Mem) := e_ok (OK8 s.1 a0) ((g_X8_takeTrial N a0 s.2).map (fun q => (q.1, (s.1, q.2))))
def g_X8_circle (N : Nat) (a0 : Nat) (x1 : Int) (x2 : Int) (x3 : Int) (x4 : Int) (V : sj_VV) : Option (Int × sj_VV) :=
  e_cs (g_X8_isCircle N x1 x2 x3 V) fun v2 V1 =>
  e_ieq v2 0 (
    some ((-1), V1)) (
    e_cs (g_X5_cut N (a0 + 75) (a0 + 1) x1 x2 x3 x4 V1) fun v4 V3 =>
    e_ieq v4 0 (
      some ((-1), V3)) (
      e_cs (g_X8_takeTrial N a0 V3) fun v6 V5 =>
      some (v6, V5)))
noncomputable def f_X8_circle (N : Nat) (a0 : Nat) (x1 : Int) (x2 : Int) (x3 : Int) (x4 : Int) (s : sj_Mem) : Option (Int × sj_Mem) := e_ok (OK8 s.1 a0) ((g_X8_circle N a0 x1 x2 x3 x4 s.2).map (fun q => (q.1, (s.1, q.2))))
def g_X8_point_46 (N : Nat) (a0 : Nat) (x1 : Int) (x2 : Int) (y0 : Int) (V : sj_VV) : Option (Int × sj_VV) :=
  e_cs (g_X0_hasColumn N (a0 + 1) x1 V) fun v2 V1 =>
  e_ieq v2 0 (
    some ((-1), V1)) (
    e_ile x1 y0 (
      some ((-1), V1)) (
      e_ilt x2 0 (
        some ((-1), V1)) (
        e_ilt 100 x2 (
          some ((-1), V1)) (
          e_ilt (V1 (a0 + 43) 2) 12 (
            e_ix 12 (V1 (a0 + 43) 2) fun _ =>
            e_lt (sj_up V1 ((a0 + 43) + 1) (V1 (a0 + 43) 2).toNat x1) fun V3 =>
            e_ix 12 (V3 (a0 + 43) 2) fun _ =>
            e_lt (sj_up V3 ((a0 + 43) + 2) (V3 (a0 + 43) 2).toNat x2) fun V4 =>
            e_lt (sj_up V4 (a0 + 43) 2 ((V4 (a0 + 43) 2) + 1)) fun V5 =>
            some (V5 (a0 + 43) 2, V5)) (
            some ((-1), V1))))))
def g_X8_point (N : Nat) (a0 : Nat) (x1 : Int) (x2 : Int) (V : sj_VV) : Option (Int × sj_VV) :=
  e_ieq x1 ((-1)) (
    e_lt (sj_up V (a0 + 43) 2 0) fun V1 =>
    some (0, V1)) (
    e_ieq (V (a0 + 43) 2) 0 (
      g_X8_point_46 N a0 x1 x2 ((-1)) V) (
      e_ix 12 ((V (a0 + 43) 2) - 1) fun _ =>
      g_X8_point_46 N a0 x1 x2 (V ((a0 + 43) + 1) ((V (a0 + 43) 2) - 1).toNat) V))
noncomputable def f_X8_point (N : Nat) (a0 : Nat) (x1 : Int) (x2 : Int) (s : sj_Mem) : Option (Int × sj_Mem) := e_ok (OK8 s.1 a0) ((g_X8_point N a0 x1 x2 s.2).map (fun q => (q.1, (s.1, q.2))))
def g_X8_points (N : Nat) (a0 : Nat) (x1 : Int) (V : sj_VV) : Option (Int × sj_VV) :=
  e_cs (g_X5_follow N (a0 + 75) (a0 + 1) (a0 + 43) x1 V) fun v2 V1 =>
  e_ieq v2 0 (
    some ((-1), V1)) (
    e_cs (g_X8_takeTrial N a0 V1) fun v4 V3 =>
    some (v4, V3))
noncomputable def f_X8_points (N : Nat) (a0 : Nat) (x1 : Int) (s : sj_Mem) : Option (Int × sj_Mem) := e_ok (OK8 s.1 a0) ((g_X8_points N a0 x1 s.2).map (fun q => (q.1, (s.1, q.2))))
def g_X8_mirror (N : Nat) (a0 : Nat) (V : sj_VV) : Option (Int × sj_VV) :=
  e_cs (g_X8_keepAct N a0 V) fun _u V1 =>
  e_cs (g_X0_turn N (a0 + 1) V1) fun _u V2 =>
  e_cs (g_X5_isNone N ((a0 + 1) + 12) V2) fun v4 V3 =>
  e_ieq v4 0 (
    e_zs 1 V3) (
    e_zs 0 V3)
noncomputable def f_X8_mirror (N : Nat) (a0 : Nat) (s : sj_Mem) : Option (Int × sj_Mem) := e_ok (OK8 s.1 a0) ((g_X8_mirror N a0 s.2).map (fun q => (q.1, (s.1, q.2))))
def g_X8_undo (N : Nat) (a0 : Nat) (V : sj_VV) : Option (Int × sj_VV) :=
  e_ieq (V a0 13) 0 (
    some ((-1), V)) (
    e_rI (((V a0 14) + 8) - 1) 8 fun v1 =>
    e_lt (sj_up V a0 14 v1) fun V2 =>
    e_ix 8 (V2 a0 14) fun _ =>
    e_cs (g_X0_copy N (a0 + 1) (a0 + 77 + 14 * (V2 a0 14).toNat) V2) fun _u V4 =>
    e_lt (sj_up V4 a0 13 ((V4 a0 13) - 1)) fun V5 =>
    some (V5 a0 13, V5))
noncomputable def f_X8_undo (N : Nat) (a0 : Nat) (s : sj_Mem) : Option (Int × sj_Mem) := e_ok (OK8 s.1 a0) ((g_X8_undo N a0 s.2).map (fun q => (q.1, (s.1, q.2))))
def g_X8_image (N : Nat) (a0 : Nat) (x1 : Int) (V : sj_VV) : Option (Int × sj_VV) :=
  e_ieq x1 0 (
    e_ieq (V a0 12) 0 (
      e_zs 0 V) (
      e_cs (g_X0_copy N (a0 + 1) (a0 + 29) V) fun _u V1 =>
      e_cs (g_X1_copy N (a0 + 43) (a0 + 46) V1) fun _u V2 =>
      e_lt (sj_up V2 a0 13 0) fun V3 =>
      e_zs 1 V3)) (
    e_cs (g_X0_copy N (a0 + 29) (a0 + 1) V) fun _u V4 =>
    e_cs (g_X1_copy N (a0 + 46) (a0 + 43) V4) fun _u V5 =>
    e_zz 1 fun _ =>
    e_lt (sj_up V5 a0 12 1) fun V6 =>
    e_zs 1 V6)
noncomputable def f_X8_image (N : Nat) (a0 : Nat) (x1 : Int) (s : sj_Mem) : Option (Int × sj_Mem) := e_ok (OK8 s.1 a0) ((g_X8_image N a0 x1 s.2).map (fun q => (q.1, (s.1, q.2))))
def g_X8_column (N : Nat) (a0 : Nat) (x1 : Int) (x2 : Int) (V : sj_VV) : Option (Int × sj_VV) :=
  e_cs (g_X0_hasColumn N (a0 + 1) x1 V) fun v2 V1 =>
  e_ieq v2 0 (
    some ((-10), V1)) (
    e_sw x2 (
    if x2 = 0 then (
      e_ix 41 x1 fun _ =>
      some (V1 ((a0 + 1) + 1) x1.toNat, V1)) else (
    if x2 = 1 then (
      e_ix 41 x1 fun _ =>
      some (V1 ((a0 + 1) + 2) x1.toNat, V1)) else (
    if x2 = 2 then (
      e_cs (g_X0_waterAt N (a0 + 1) x1 V1) fun v4 V3 =>
      some (v4, V3)) else (
    if x2 = 3 then (
      e_ix 41 x1 fun _ =>
      some (V1 ((a0 + 1) + 4) x1.toNat, V1)) else (
    if x2 = 4 then (
      e_cs (g_X0_topAt N (a0 + 1) (x2 - 4) x1 V1) fun v6 V5 =>
      some (v6, V5)) else (
    if x2 = 5 then (
      e_cs (g_X0_topAt N (a0 + 1) (x2 - 4) x1 V1) fun v8 V7 =>
      some (v8, V7)) else (
    if x2 = 6 then (
      e_cs (g_X0_topAt N (a0 + 1) (x2 - 4) x1 V1) fun v10 V9 =>
      some (v10, V9)) else (
    if x2 = 7 then (
      e_cs (g_X0_topAt N (a0 + 1) (x2 - 4) x1 V1) fun v12 V11 =>
      some (v12, V11)) else (
    if x2 = 8 then (
      e_cs (g_X5_baseAt N ((a0 + 1) + 12) x1 V1) fun v14 V13 =>
      some (v14, V13)) else (
      some ((-10), V1))))))))))))
noncomputable def f_X8_column (N : Nat) (a0 : Nat) (x1 : Int) (x2 : Int) (s : sj_Mem) : Option (Int × sj_Mem) := e_ok (OK8 s.1 a0) ((g_X8_column N a0 x1 x2 s.2).map (fun q => (q.1, (s.1, q.2))))
def g_X8_layer (N : Nat) (a0 : Nat) (x1 : Int) (x2 : Int) (V : sj_VV) : Option (Int × sj_VV) :=
  e_ilt x1 0 (
    some ((-1), V)) (
    e_ilt x1 4 (
      e_sw x2 (
      if x2 = 0 then (
        e_ix 4 x1 fun _ =>
        some (V ((a0 + 1) + 6) x1.toNat, V)) else (
      if x2 = 1 then (
        e_ix 4 x1 fun _ =>
        some (V ((a0 + 1) + 7) x1.toNat, V)) else (
      if x2 = 2 then (
        e_ix 4 x1 fun _ =>
        some (V ((a0 + 1) + 8) x1.toNat, V)) else (
        some ((-1), V)))))) (
      some ((-1), V)))
noncomputable def f_X8_layer (N : Nat) (a0 : Nat) (x1 : Int) (x2 : Int) (s : sj_Mem) : Option (Int × sj_Mem) := e_ok (OK8 s.1 a0) ((g_X8_layer N a0 x1 x2 s.2).map (fun q => (q.1, (s.1, q.2))))
def g_X8_anchored (N : Nat) (a0 : Nat) (x1 : Int) (x2 : Int) (V : sj_VV) : Option (Int × sj_VV) :=
  e_ilt x1 0 (
    some ((-1), V)) (
    e_ile 6 x1 (
      some ((-1), V)) (
      e_ix 6 x1 fun _ =>
      e_ieq (V ((a0 + 1) + 11) x1.toNat) 0 (
        some ((-1), V)) (
        e_sw x2 (
        if x2 = 0 then (
          e_ix 6 x1 fun _ =>
          some (V ((a0 + 1) + 9) x1.toNat, V)) else (
        if x2 = 1 then (
          e_ix 6 x1 fun _ =>
          some (V ((a0 + 1) + 10) x1.toNat, V)) else (
        if x2 = 2 then (
          e_ix 6 x1 fun _ =>
          some (V ((a0 + 1) + 11) x1.toNat, V)) else (
        if x2 = 3 then (
          e_cs (g_X0_anchorCounts N (a0 + 1) x1 ((a0 + 1) + 12) V) fun v2 V1 =>
          e_ieq v2 0 (
            some (0, V1)) (
            some (1, V1))) else (
          some ((-1), V)))))))))
noncomputable def f_X8_anchored (N : Nat) (a0 : Nat) (x1 : Int) (x2 : Int) (s : sj_Mem) : Option (Int × sj_Mem) := e_ok (OK8 s.1 a0) ((g_X8_anchored N a0 x1 x2 s.2).map (fun q => (q.1, (s.1, q.2))))
def g_X8_look (N : Nat) (a0 : Nat) (x1 : Int) (V : sj_VV) : Option (Int × sj_VV) :=
  e_sw x1 (
  if x1 = 0 then (
    some (V (a0 + 1) 0, V)) else (
  if x1 = 1 then (
    some (V (a0 + 1) 1, V)) else (
  if x1 = 2 then (
    some (V (a0 + 1) 2, V)) else (
  if x1 = 3 then (
    e_cs (g_X0_anchorSet N (a0 + 1) V) fun v2 V1 =>
    some (v2, V1)) else (
  if x1 = 4 then (
    e_cs (g_X5_count N ((a0 + 1) + 12) V) fun v4 V3 =>
    some (v4, V3)) else (
  if x1 = 5 then (
    some (V ((a0 + 1) + 12) 1, V)) else (
  if x1 = 6 then (
    some (V ((a0 + 1) + 12) 2, V)) else (
  if x1 = 7 then (
    e_cs (g_X5_isNone N ((a0 + 1) + 12) V) fun v6 V5 =>
    e_ieq v6 0 (
      e_ieq (V5 ((a0 + 1) + 12) 3) 0 (
        some (0, V5)) (
        some (1, V5))) (
      some ((-1), V5))) else (
  if x1 = 8 then (
    some (V (a0 + 43) 2, V)) else (
  if x1 = 9 then (
    some (V a0 13, V)) else (
  if x1 = 10 then (
    some (V (a0 + 52) 1, V)) else (
  if x1 = 11 then (
    e_cs (g_X0_greatestGround N (a0 + 1) V) fun v8 V7 =>
    some (v8, V7)) else (
  if x1 = 12 then (
    e_cs (g_X0_allSoil N (a0 + 1) V) fun v10 V9 =>
    some (v10, V9)) else (
  if x1 = 13 then (
    some (V (a0 + 43) 3, V)) else (
    some ((-10), V))))))))))))))))
noncomputable def f_X8_look (N : Nat) (a0 : Nat) (x1 : Int) (s : sj_Mem) : Option (Int × sj_Mem) := e_ok (OK8 s.1 a0) ((g_X8_look N a0 x1 s.2).map (fun q => (q.1, (s.1, q.2))))
def g_X8_cutUp (N : Nat) (a0 : Nat) (V : sj_VV) : Option (Int × sj_VV) :=
  e_cs (g_X5_isNone N ((a0 + 1) + 12) V) fun v2 V1 =>
  e_ieq v2 0 (
    e_cs (g_X4_weigh N (a0 + 54) (a0 + 1) ((a0 + 1) + 12) V1) fun _u V3 =>
    e_cs (g_X4_settle N (a0 + 54) (a0 + 1) 0 V3) fun _u V4 =>
    e_zs 1 V4) (
    e_zs 0 V1)
noncomputable def f_X8_cutUp (N : Nat) (a0 : Nat) (s : sj_Mem) : Option (Int × sj_Mem) := e_ok (OK8 s.1 a0) ((g_X8_cutUp N a0 s.2).map (fun q => (q.1, (s.1, q.2))))
def g_X8_isK (N : Nat) (x0 : Int) (V : sj_VV) : Option (Int × sj_VV) :=
  e_ilt x0 1 (
    e_zs 0 V) (
    e_ilt 20000 x0 (
      e_zs 0 V) (
      e_zs 1 V))
noncomputable def f_X8_isK (N : Nat) (x0 : Int) (s : sj_Mem) : Option (Int × sj_Mem) := e_ok (True) ((g_X8_isK N x0 s.2).map (fun q => (q.1, (s.1, q.2))))
def g_X8_slice (N : Nat) (a0 : Nat) (x1 : Int) (x2 : Int) (V : sj_VV) : Option (Int × sj_VV) :=
  e_ilt x1 0 (
    some ((-10000000000000), V)) (
    e_cs (g_X5_count N ((a0 + 1) + 12) V) fun v2 V1 =>
    e_ile v2 x1 (
      some ((-10000000000000), V1)) (
      e_cs (g_X8_cutUp N a0 V1) fun v4 V3 =>
      e_ieq v4 0 (
        some ((-10000000000000), V3)) (
        e_sw x2 (
        if x2 = 0 then (
          e_wid ((V3 ((a0 + 1) + 12) 1) + x1) fun v5 =>
          some (v5, V3)) else (
        if x2 = 1 then (
          e_ix 41 x1 fun _ =>
          e_wid (V3 ((a0 + 54) + 1) x1.toNat) fun v6 =>
          some (v6, V3)) else (
        if x2 = 2 then (
          e_ix 41 x1 fun _ =>
          e_wid (V3 ((a0 + 54) + 2) x1.toNat) fun v7 =>
          some (v7, V3)) else (
        if x2 = 3 then (
          e_ix 41 x1 fun _ =>
          e_wid (V3 ((a0 + 54) + 3) x1.toNat) fun v8 =>
          some (v8, V3)) else (
        if x2 = 4 then (
          e_cs (g_X4_press N (a0 + 54) x1 V3) fun v10 V9 =>
          e_wid v10 fun v11 =>
          some (v11, V9)) else (
        if x2 = 5 then (
          e_ix 41 x1 fun _ =>
          e_wid (V3 ((a0 + 54) + 4) x1.toNat) fun v12 =>
          some (v12, V3)) else (
        if x2 = 6 then (
          e_ix 41 x1 fun _ =>
          some (V3 ((a0 + 54) + 5) x1.toNat, V3)) else (
        if x2 = 7 then (
          e_ix 41 x1 fun _ =>
          some (V3 ((a0 + 54) + 6) x1.toNat, V3)) else (
          some ((-10000000000000), V3)))))))))))))
noncomputable def f_X8_slice (N : Nat) (a0 : Nat) (x1 : Int) (x2 : Int) (s : sj_Mem) : Option (Int × sj_Mem) := e_ok (OK8 s.1 a0) ((g_X8_slice N a0 x1 x2 s.2).map (fun q => (q.1, (s.1, q.2))))
def g_X8_rubs (N : Nat) (a0 : Nat) (x1 : Int) (x2 : Int) (V : sj_VV) : Option (Int × sj_VV) :=
  e_ilt x1 0 (
    some ((-10), V)) (
    e_cs (g_X5_count N ((a0 + 1) + 12) V) fun v2 V1 =>
    e_ile v2 x1 (
      some ((-10), V1)) (
      e_cs (g_X8_isK N x2 V1) fun v4 V3 =>
      e_ieq v4 0 (
        some ((-10), V3)) (
        e_cs (g_X8_cutUp N a0 V3) fun v6 V5 =>
        e_ieq v6 0 (
          some ((-10), V5)) (
          e_cs (g_X4_rubsOf N (a0 + 54) x1 x2 V5) fun v8 V7 =>
          some (v8, V7)))))
noncomputable def f_X8_rubs (N : Nat) (a0 : Nat) (x1 : Int) (x2 : Int) (s : sj_Mem) : Option (Int × sj_Mem) := e_ok (OK8 s.1 a0) ((g_X8_rubs N a0 x1 x2 s.2).map (fun q => (q.1, (s.1, q.2))))
def g_X8_stands (N : Nat) (a0 : Nat) (x1 : Int) (V : sj_VV) : Option (Int × sj_VV) :=
  e_cs (g_X8_isK N x1 V) fun v2 V1 =>
  e_ieq v2 0 (
    some ((-1), V1)) (
    e_cs (g_X8_cutUp N a0 V1) fun v4 V3 =>
    e_ieq v4 0 (
      some ((-1), V3)) (
      e_cs (g_X4_hold N (a0 + 54) x1 V3) fun v6 V5 =>
      e_ieq v6 0 (
        some (0, V5)) (
        some (1, V5))))
noncomputable def f_X8_stands (N : Nat) (a0 : Nat) (x1 : Int) (s : sj_Mem) : Option (Int × sj_Mem) := e_ok (OK8 s.1 a0) ((g_X8_stands N a0 x1 s.2).map (fun q => (q.1, (s.1, q.2))))
def g_X8_factor (N : Nat) (a0 : Nat) (V : sj_VV) : Option (Int × sj_VV) :=
  e_cs (g_X8_cutUp N a0 V) fun v2 V1 =>
  e_ieq v2 0 (
    some ((-1), V1)) (
    e_cs (g_X4_leastBound N (a0 + 54) 20001 V1) fun v4 V3 =>
    some (v4, V3))
noncomputable def f_X8_factor (N : Nat) (a0 : Nat) (s : sj_Mem) : Option (Int × sj_Mem) := e_ok (OK8 s.1 a0) ((g_X8_factor N a0 s.2).map (fun q => (q.1, (s.1, q.2))))
def g_X8_sum (N : Nat) (a0 : Nat) (x1 : Int) (V : sj_VV) : Option (Int × sj_VV) :=
  e_cs (g_X8_cutUp N a0 V) fun v2 V1 =>
  e_ieq v2 0 (
    some ((-10000000000000), V1)) (
    e_sw x1 (
    if x1 = 0 then (
      e_cs (g_X4_allPushes N (a0 + 54) V1) fun v4 V3 =>
      some (v4, V3)) else (
    if x1 = 1 then (
      some (V1 (a0 + 54) 10, V1)) else (
    if x1 = 2 then (
      e_cs (g_X4_allWeights N (a0 + 54) V1) fun v6 V5 =>
      some (v6, V5)) else (
    if x1 = 3 then (
      e_cs (g_X4_allLifts N (a0 + 54) V1) fun v8 V7 =>
      some (v8, V7)) else (
    if x1 = 4 then (
      e_cs (g_X4_allStrengths N (a0 + 54) V1) fun v10 V9 =>
      some (v10, V9)) else (
      some ((-10000000000000), V1))))))))
noncomputable def f_X8_sum (N : Nat) (a0 : Nat) (x1 : Int) (s : sj_Mem) : Option (Int × sj_Mem) := e_ok (OK8 s.1 a0) ((g_X8_sum N a0 x1 s.2).map (fun q => (q.1, (s.1, q.2))))
def g_X8_dry (N : Nat) (a0 : Nat) (V : sj_VV) : Option (Int × sj_VV) :=
  e_cs (g_X5_isNone N ((a0 + 1) + 12) V) fun v2 V1 =>
  e_ieq v2 0 (
    e_cs (g_X0_copy N (a0 + 15) (a0 + 1) V1) fun _u V3 =>
    e_cs (g_X0_dryUp N (a0 + 15) V3) fun _u V4 =>
    e_cs (g_X4_weigh N (a0 + 54) (a0 + 15) ((a0 + 1) + 12) V4) fun _u V5 =>
    e_cs (g_X4_settle N (a0 + 54) (a0 + 15) 0 V5) fun _u V6 =>
    e_cs (g_X4_leastBound N (a0 + 54) 20001 V6) fun v8 V7 =>
    some (v8, V7)) (
    some ((-1), V1))
noncomputable def f_X8_dry (N : Nat) (a0 : Nat) (s : sj_Mem) : Option (Int × sj_Mem) := e_ok (OK8 s.1 a0) ((g_X8_dry N a0 s.2).map (fun q => (q.1, (s.1, q.2))))
def g_X8_bears_37_b (N : Nat) (k37 : Nat → Int → Int → Int → sj_VV → Option (Int × sj_VV)) (a0 : Nat) (x1 : Int) (x2 : Int) (x3 : Int) (V : sj_VV) : Option (Int × sj_VV) :=
  e_ilt 100 x3 (
    some (x2, V)) (
    e_cs (g_X4_weigh N (a0 + 54) (a0 + 15) ((a0 + 1) + 12) V) fun _u V1 =>
    e_cs (g_X4_settle N (a0 + 54) (a0 + 15) 0 V1) fun _u V2 =>
    e_cs (g_X4_hold N (a0 + 54) x1 V2) fun v4 V3 =>
    e_ieq v4 0 (
      some (x2, V3)) (
      e_cs (g_X0_raiseWater N (a0 + 15) V3) fun _u V5 =>
      e_lt (x3 + 1) fun v6 =>
      k37 a0 x1 x3 v6 V5))
def g_X8_bears_37 (N : Nat) : Nat → Nat → Int → Int → Int → sj_VV → Option (Int × sj_VV)
  | 0 => fun _ _ _ _ _ => none
  | n + 1 => fun a0 x1 x2 x3 V => g_X8_bears_37_b N (g_X8_bears_37 N n) a0 x1 x2 x3 V
def g_X8_bears (N : Nat) (a0 : Nat) (x1 : Int) (V : sj_VV) : Option (Int × sj_VV) :=
  e_cs (g_X8_isK N x1 V) fun v2 V1 =>
  e_ieq v2 0 (
    some ((-1), V1)) (
    e_cs (g_X5_isNone N ((a0 + 1) + 12) V1) fun v4 V3 =>
    e_ieq v4 0 (
      e_cs (g_X0_copy N (a0 + 15) (a0 + 1) V3) fun _u V5 =>
      g_X8_bears_37 N N a0 x1 ((-1)) 0 V5) (
      some ((-1), V3)))
noncomputable def f_X8_bears (N : Nat) (a0 : Nat) (x1 : Int) (s : sj_Mem) : Option (Int × sj_Mem) := e_ok (OK8 s.1 a0) ((g_X8_bears N a0 x1 s.2).map (fun q => (q.1, (s.1, q.2))))
def g_X8_needs_79 (N : Nat) (k25 : Nat → Int → Int → Int → Int → sj_VV → Option (Int × sj_VV)) (a0 : Nat) (x1 : Int) (x2 : Int) (x3 : Int) (x4 : Int) (V : sj_VV) : Option (Int × sj_VV) :=
  e_lt (x4 + 1) fun v1 =>
  k25 a0 x1 x2 x3 v1 V
def g_X8_needs_85 (N : Nat) (x3 : Int) (V : sj_VV) : Option (Int × sj_VV) :=
  e_ile x3 500 (
    some (x3, V)) (
    some ((-1), V))
def g_X8_needs_25_b (N : Nat) (k25 : Nat → Int → Int → Int → Int → sj_VV → Option (Int × sj_VV)) (a0 : Nat) (x1 : Int) (x2 : Int) (x3 : Int) (x4 : Int) (V : sj_VV) : Option (Int × sj_VV) :=
  e_ile 15 x4 (
    g_X8_needs_85 N x3 V) (
    e_ile (x3 - x2) 1 (
      g_X8_needs_85 N x3 V) (
      e_dI (x2 + x3) 2 fun v1 =>
      e_cs (g_X4_settle N (a0 + 54) (a0 + 1) v1 V) fun _u V2 =>
      e_cs (g_X4_hold N (a0 + 54) x1 V2) fun v4 V3 =>
      e_ieq v4 0 (
        g_X8_needs_79 N k25 a0 x1 v1 x3 x4 V3) (
        g_X8_needs_79 N k25 a0 x1 x2 v1 x4 V3)))
def g_X8_needs_25 (N : Nat) : Nat → Nat → Int → Int → Int → Int → sj_VV → Option (Int × sj_VV)
  | 0 => fun _ _ _ _ _ _ => none
  | n + 1 => fun a0 x1 x2 x3 x4 V => g_X8_needs_25_b N (g_X8_needs_25 N n) a0 x1 x2 x3 x4 V
def g_X8_needs (N : Nat) (a0 : Nat) (x1 : Int) (V : sj_VV) : Option (Int × sj_VV) :=
  e_cs (g_X8_isK N x1 V) fun v2 V1 =>
  e_ieq v2 0 (
    some ((-1), V1)) (
    e_cs (g_X8_cutUp N a0 V1) fun v4 V3 =>
    e_ieq v4 0 (
      some ((-1), V3)) (
      g_X8_needs_25 N N a0 x1 ((-1)) 501 0 V3))
noncomputable def f_X8_needs (N : Nat) (a0 : Nat) (x1 : Int) (s : sj_Mem) : Option (Int × sj_Mem) := e_ok (OK8 s.1 a0) ((g_X8_needs N a0 x1 s.2).map (fun q => (q.1, (s.1, q.2))))
def g_X8_pull (N : Nat) (a0 : Nat) (x1 : Int) (V : sj_VV) : Option (Int × sj_VV) :=
  e_cs (g_X8_isK N x1 V) fun v2 V1 =>
  e_ieq v2 0 (
    some ((-1), V1)) (
    e_cs (g_X8_cutUp N a0 V1) fun v4 V3 =>
    e_ieq v4 0 (
      some ((-1), V3)) (
      e_cs (g_X4_lack N (a0 + 54) x1 V3) fun v6 V5 =>
      e_llt 0 v6 (
        e_wid (V5 (a0 + 1) 1) fun v7 =>
        e_wid x1 fun v8 =>
        e_lt ((2000 * v7) * v8) fun v9 =>
        e_llt 0 v9 (
          e_dJ ((v6 + v9) - 1) v9 fun v10 =>
          e_lle v10 20000 (
            some (v10, V5)) (
            some ((-1), V5))) (
          some ((-1), V5))) (
        some (0, V5))))
noncomputable def f_X8_pull (N : Nat) (a0 : Nat) (x1 : Int) (s : sj_Mem) : Option (Int × sj_Mem) := e_ok (OK8 s.1 a0) ((g_X8_pull N a0 x1 s.2).map (fun q => (q.1, (s.1, q.2))))
def g_X8_berm_46_b (N : Nat) (k46 : Nat → Int → Int → Int → Int → sj_VV → Option (Int × sj_VV)) (a0 : Nat) (x1 : Int) (x2 : Int) (x3 : Int) (x4 : Int) (V : sj_VV) : Option (Int × sj_VV) :=
  e_ilt 500 x4 (
    some ((-1), V)) (
    e_cs (g_X4_hold N (a0 + 54) x3 V) fun v2 V1 =>
    e_ieq v2 0 (
      e_cs (g_X4_burden N (a0 + 54) (V1 ((a0 + 1) + 12) 1) x1 x2 V1) fun _u V3 =>
      e_cs (g_X4_settle N (a0 + 54) (a0 + 1) 0 V3) fun _u V4 =>
      e_lt (x4 + 1) fun v5 =>
      k46 a0 x1 x2 x3 v5 V4) (
      some (x4, V1)))
def g_X8_berm_46 (N : Nat) : Nat → Nat → Int → Int → Int → Int → sj_VV → Option (Int × sj_VV)
  | 0 => fun _ _ _ _ _ _ => none
  | n + 1 => fun a0 x1 x2 x3 x4 V => g_X8_berm_46_b N (g_X8_berm_46 N n) a0 x1 x2 x3 x4 V
def g_X8_berm (N : Nat) (a0 : Nat) (x1 : Int) (x2 : Int) (x3 : Int) (V : sj_VV) : Option (Int × sj_VV) :=
  e_cs (g_X8_isK N x3 V) fun v2 V1 =>
  e_ieq v2 0 (
    some ((-1), V1)) (
    e_cs (g_X0_hasColumn N (a0 + 1) x1 V1) fun v4 V3 =>
    e_ieq v4 0 (
      some ((-1), V3)) (
      e_cs (g_X0_hasColumn N (a0 + 1) x2 V3) fun v6 V5 =>
      e_ieq v6 0 (
        some ((-1), V5)) (
        e_ilt x2 x1 (
          some ((-1), V5)) (
          e_cs (g_X8_cutUp N a0 V5) fun v8 V7 =>
          e_ieq v8 0 (
            some ((-1), V7)) (
            g_X8_berm_46 N N a0 x1 x2 x3 0 V7)))))
noncomputable def f_X8_berm (N : Nat) (a0 : Nat) (x1 : Int) (x2 : Int) (x3 : Int) (s : sj_Mem) : Option (Int × sj_Mem) := e_ok (OK8 s.1 a0) ((g_X8_berm N a0 x1 x2 x3 s.2).map (fun q => (q.1, (s.1, q.2))))
def g_X8_shape (N : Nat) (a0 : Nat) (x1 : Int) (V : sj_VV) : Option (Int × sj_VV) :=
  e_cs (g_X8_cutUp N a0 V) fun v2 V1 =>
  e_ieq v2 0 (
    some ((-1), V1)) (
    e_sw x1 (
    if x1 = 0 then (
      e_cs (g_X0_slipArea N (a0 + 1) V1) fun v4 V3 =>
      some (v4, V3)) else (
    if x1 = 1 then (
      e_cs (g_X0_thickest N (a0 + 1) V1) fun v6 V5 =>
      e_cs (g_X0_thickAt N (a0 + 1) v6 V5) fun v8 V7 =>
      some (v8, V7)) else (
    if x1 = 2 then (
      e_cs (g_X0_thickest N (a0 + 1) V1) fun v10 V9 =>
      some (v10, V9)) else (
    if x1 = 3 then (
      e_cs (g_X5_leastBase N ((a0 + 1) + 12) V1) fun v12 V11 =>
      some (v12, V11)) else (
    if x1 = 4 then (
      e_cs (g_X4_countFalling N (a0 + 54) V1) fun v14 V13 =>
      some (v14, V13)) else (
    if x1 = 5 then (
      e_cs (g_X4_countAfloat N (a0 + 54) V1) fun v16 V15 =>
      some (v16, V15)) else (
      some ((-1), V1)))))))))
noncomputable def f_X8_shape (N : Nat) (a0 : Nat) (x1 : Int) (s : sj_Mem) : Option (Int × sj_Mem) := e_ok (OK8 s.1 a0) ((g_X8_shape N a0 x1 s.2).map (fun q => (q.1, (s.1, q.2))))
def g_X8_thrust_41_b (N : Nat) (k41 : Nat → Int → Int → Int → Int → sj_VV → Option (Int × sj_VV)) (a0 : Nat) (x1 : Int) (x2 : Int) (x3 : Int) (x5 : Int) (V : sj_VV) : Option (Int × sj_VV) :=
  e_ilt x1 x5 (
    some (x3, V)) (
    e_cs (g_X4_isFast N (a0 + 54) x5 x2 V) fun v2 V1 =>
    e_ieq v2 0 (
      e_cs (g_X4_thrustOf N (a0 + 54) x5 x2 V1) fun v4 V3 =>
      e_lt (x3 + v4) fun v5 =>
      e_lt (x5 + 1) fun v6 =>
      k41 a0 x1 x2 v5 v6 V3) (
      some ((-10000000000000000), V1)))
def g_X8_thrust_41 (N : Nat) : Nat → Nat → Int → Int → Int → Int → sj_VV → Option (Int × sj_VV)
  | 0 => fun _ _ _ _ _ _ => none
  | n + 1 => fun a0 x1 x2 x3 x5 V => g_X8_thrust_41_b N (g_X8_thrust_41 N n) a0 x1 x2 x3 x5 V
def g_X8_thrust (N : Nat) (a0 : Nat) (x1 : Int) (x2 : Int) (V : sj_VV) : Option (Int × sj_VV) :=
  e_ilt x1 0 (
    some ((-10000000000000000), V)) (
    e_cs (g_X5_count N ((a0 + 1) + 12) V) fun v2 V1 =>
    e_ile v2 x1 (
      some ((-10000000000000000), V1)) (
      e_cs (g_X8_isK N x2 V1) fun v4 V3 =>
      e_ieq v4 0 (
        some ((-10000000000000000), V3)) (
        e_cs (g_X8_cutUp N a0 V3) fun v6 V5 =>
        e_ieq v6 0 (
          some ((-10000000000000000), V5)) (
          g_X8_thrust_41 N N a0 x1 x2 0 0 V5))))
noncomputable def f_X8_thrust (N : Nat) (a0 : Nat) (x1 : Int) (x2 : Int) (s : sj_Mem) : Option (Int × sj_Mem) := e_ok (OK8 s.1 a0) ((g_X8_thrust N a0 x1 x2 s.2).map (fun q => (q.1, (s.1, q.2))))
def g_X8_crest_87 (N : Nat) (k27 : Nat → Int → Int → Int → Int → Int → sj_VV → Option (Int × sj_VV)) (a0 : Nat) (x1 : Int) (x2 : Int) (x4 : Int) (x6 : Int) (x7 : Int) (V : sj_VV) : Option (Int × sj_VV) :=
  e_lt (x7 + 1) fun v1 =>
  k27 a0 x1 x2 x4 x6 v1 V
def g_X8_crest_80 (N : Nat) (k27 : Nat → Int → Int → Int → Int → Int → sj_VV → Option (Int × sj_VV)) (a0 : Nat) (x1 : Int) (x2 : Int) (x7 : Int) (V : sj_VV) : Option (Int × sj_VV) :=
  g_X8_crest_87 N k27 a0 x1 x2 x2 x7 x7 V
def g_X8_crest_27_b (N : Nat) (k27 : Nat → Int → Int → Int → Int → Int → sj_VV → Option (Int × sj_VV)) (a0 : Nat) (x1 : Int) (x2 : Int) (x4 : Int) (x6 : Int) (x7 : Int) (V : sj_VV) : Option (Int × sj_VV) :=
  e_ile (V (a0 + 54) 8) x7 (
    some (x6, V)) (
    e_cs (g_X4_isFast N (a0 + 54) x7 x1 V) fun v2 V1 =>
    e_ieq v2 0 (
      e_cs (g_X4_thrustOf N (a0 + 54) x7 x1 V1) fun v4 V3 =>
      e_lt (x2 + v4) fun v5 =>
      e_ieq x6 ((-1)) (
        g_X8_crest_80 N k27 a0 x1 v5 x7 V3) (
        e_lle v5 x4 (
          g_X8_crest_87 N k27 a0 x1 v5 x4 x6 x7 V3) (
          g_X8_crest_80 N k27 a0 x1 v5 x7 V3))) (
      some ((-1), V1)))
def g_X8_crest_27 (N : Nat) : Nat → Nat → Int → Int → Int → Int → Int → sj_VV → Option (Int × sj_VV)
  | 0 => fun _ _ _ _ _ _ _ => none
  | n + 1 => fun a0 x1 x2 x4 x6 x7 V => g_X8_crest_27_b N (g_X8_crest_27 N n) a0 x1 x2 x4 x6 x7 V
def g_X8_crest (N : Nat) (a0 : Nat) (x1 : Int) (V : sj_VV) : Option (Int × sj_VV) :=
  e_cs (g_X8_isK N x1 V) fun v2 V1 =>
  e_ieq v2 0 (
    some ((-1), V1)) (
    e_cs (g_X8_cutUp N a0 V1) fun v4 V3 =>
    e_ieq v4 0 (
      some ((-1), V3)) (
      g_X8_crest_27 N N a0 x1 0 0 ((-1)) 0 V3))
noncomputable def f_X8_crest (N : Nat) (a0 : Nat) (x1 : Int) (s : sj_Mem) : Option (Int × sj_Mem) := e_ok (OK8 s.1 a0) ((g_X8_crest N a0 x1 s.2).map (fun q => (q.1, (s.1, q.2))))
def g_X8_tried (N : Nat) (a0 : Nat) (x1 : Int) (x2 : Int) (x3 : Int) (x4 : Int) (V : sj_VV) : Option (Int × sj_VV) :=
  e_cs (g_X3_ask N (a0 + 63) (a0 + 1) x1 x2 x3 x4 20001 V) fun v2 V1 =>
  some (v2, V1)
noncomputable def f_X8_tried (N : Nat) (a0 : Nat) (x1 : Int) (x2 : Int) (x3 : Int) (x4 : Int) (s : sj_Mem) : Option (Int × sj_Mem) := e_ok (OK8 s.1 a0) ((g_X8_tried N a0 x1 x2 x3 x4 s.2).map (fun q => (q.1, (s.1, q.2))))
def g_X8_boxes (N : Nat) (a0 : Nat) (x1 : Int) (x2 : Int) (x3 : Int) (x4 : Int) (x5 : Int) (x6 : Int) (V : sj_VV) : Option (Int × sj_VV) :=
  e_cs (g_X8_isCircle N x1 x2 x3 V) fun v2 V1 =>
  e_ieq v2 0 (
    some ((-100), V1)) (
    e_ilt x4 1 (
      some ((-100), V1)) (
      e_ilt 64 x4 (
        some ((-100), V1)) (
        e_ilt x6 0 (
          some ((-100), V1)) (
          e_ile x6 4 (
            e_cs (g_X3_seek N (a0 + 63) (a0 + 1) x1 x2 x3 x4 x5 V1) fun v4 V3 =>
            e_ieq v4 0 (
              some ((-100), V3)) (
              e_sw x6 (
              if x6 = 0 then (
                some (V3 (a0 + 63) 5, V3)) else (
              if x6 = 1 then (
                some (V3 (a0 + 63) 2, V3)) else (
              if x6 = 2 then (
                some (V3 (a0 + 63) 3, V3)) else (
              if x6 = 3 then (
                some (V3 (a0 + 63) 4, V3)) else (
                some (V3 (a0 + 63) 6, V3)))))))) (
            some ((-100), V1))))))
noncomputable def f_X8_boxes (N : Nat) (a0 : Nat) (x1 : Int) (x2 : Int) (x3 : Int) (x4 : Int) (x5 : Int) (x6 : Int) (s : sj_Mem) : Option (Int × sj_Mem) := e_ok (OK8 s.1 a0) ((g_X8_boxes N a0 x1 x2 x3 x4 x5 x6 s.2).map (fun q => (q.1, (s.1, q.2))))
def g_X8_dug (N : Nat) (a0 : Nat) (x1 : Int) (x2 : Int) (x3 : Int) (x4 : Int) (x5 : Int) (x6 : Int) (V : sj_VV) : Option (Int × sj_VV) :=
  e_cs (g_X8_isCircle N x3 x4 x5 V) fun v2 V1 =>
  e_ieq v2 0 (
    some ((-1), V1)) (
    e_cs (g_X0_canLower N (a0 + 1) x1 x2 V1) fun v4 V3 =>
    e_ieq v4 0 (
      some ((-1), V3)) (
      e_cs (g_X0_copy N (a0 + 15) (a0 + 1) V3) fun _u V5 =>
      e_ix 41 x1 fun _ =>
      e_ix 41 x1 fun _ =>
      e_lt (sj_up V5 ((a0 + 15) + 1) x1.toNat ((V5 ((a0 + 15) + 1) x1.toNat) - x2)) fun V6 =>
      e_cs (g_X3_seek N (a0 + 63) (a0 + 15) x3 x4 x5 8 x6 V6) fun v8 V7 =>
      e_ieq v8 0 (
        some ((-1), V7)) (
        some (V7 (a0 + 63) 5, V7))))
noncomputable def f_X8_dug (N : Nat) (a0 : Nat) (x1 : Int) (x2 : Int) (x3 : Int) (x4 : Int) (x5 : Int) (x6 : Int) (s : sj_Mem) : Option (Int × sj_Mem) := e_ok (OK8 s.1 a0) ((g_X8_dug N a0 x1 x2 x3 x4 x5 x6 s.2).map (fun q => (q.1, (s.1, q.2))))
def g_X8_deep_138 (N : Nat) (k73 : Nat → Int → Int → Int → Int → Int → Int → Int → Int → Int → sj_VV → Option (Int × sj_VV)) (a0 : Nat) (x1 : Int) (x2 : Int) (x3 : Int) (x4 : Int) (x5 : Int) (x6 : Int) (x7 : Int) (x9 : Int) (V : sj_VV) : Option (Int × sj_VV) :=
  e_lt (x9 + 1) fun v1 =>
  k73 a0 x1 x2 x3 x4 x5 x6 x7 x9 v1 V
def g_X8_deep_73_b (N : Nat) (k73 : Nat → Int → Int → Int → Int → Int → Int → Int → Int → Int → sj_VV → Option (Int × sj_VV)) (a0 : Nat) (x1 : Int) (x2 : Int) (x3 : Int) (x4 : Int) (x5 : Int) (x6 : Int) (x7 : Int) (x8 : Int) (x9 : Int) (V : sj_VV) : Option (Int × sj_VV) :=
  e_ilt x7 x9 (
    some (x8, V)) (
    e_ix 41 x1 fun _ =>
    e_ix 41 x1 fun _ =>
    e_lt (sj_up V ((a0 + 15) + 1) x1.toNat ((V ((a0 + 1) + 1) x1.toNat) - x9)) fun V1 =>
    e_cs (g_X3_seek N (a0 + 63) (a0 + 15) x3 x4 x5 8 x6 V1) fun v3 V2 =>
    e_ieq v3 0 (
      g_X8_deep_138 N k73 a0 x1 x2 x3 x4 x5 x6 x7 x9 V2) (
      e_ile x2 (V2 (a0 + 63) 5) (
        g_X8_deep_138 N k73 a0 x1 x2 x3 x4 x5 x6 x7 x9 V2) (
        some (x8, V2))))
def g_X8_deep_73 (N : Nat) : Nat → Nat → Int → Int → Int → Int → Int → Int → Int → Int → Int → sj_VV → Option (Int × sj_VV)
  | 0 => fun _ _ _ _ _ _ _ _ _ _ _ => none
  | n + 1 => fun a0 x1 x2 x3 x4 x5 x6 x7 x8 x9 V => g_X8_deep_73_b N (g_X8_deep_73 N n) a0 x1 x2 x3 x4 x5 x6 x7 x8 x9 V
def g_X8_deep (N : Nat) (a0 : Nat) (x1 : Int) (x2 : Int) (x3 : Int) (x4 : Int) (x5 : Int) (x6 : Int) (V : sj_VV) : Option (Int × sj_VV) :=
  e_cs (g_X8_isCircle N x3 x4 x5 V) fun v2 V1 =>
  e_ieq v2 0 (
    some ((-1), V1)) (
    e_cs (g_X8_isK N x2 V1) fun v4 V3 =>
    e_ieq v4 0 (
      some ((-1), V3)) (
      e_cs (g_X0_hasColumn N (a0 + 1) x1 V3) fun v6 V5 =>
      e_ieq v6 0 (
        some ((-1), V5)) (
        e_ix 41 x1 fun _ =>
        e_ix 41 x1 fun _ =>
        e_min 5 ((V5 ((a0 + 1) + 1) x1.toNat) - (V5 ((a0 + 1) + 2) x1.toNat)) fun v7 =>
        e_cs (g_X0_copy N (a0 + 15) (a0 + 1) V5) fun _u V8 =>
        g_X8_deep_73 N N a0 x1 x2 x3 x4 x5 x6 v7 ((-1)) 0 V8)))
noncomputable def f_X8_deep (N : Nat) (a0 : Nat) (x1 : Int) (x2 : Int) (x3 : Int) (x4 : Int) (x5 : Int) (x6 : Int) (s : sj_Mem) : Option (Int × sj_Mem) := e_ok (OK8 s.1 a0) ((g_X8_deep N a0 x1 x2 x3 x4 x5 x6 s.2).map (fun q => (q.1, (s.1, q.2))))
def g_X8_scan_140 (N : Nat) (k52 : Nat → Int → Int → Int → Int → Int → Int → Int → Int → Int → Int → sj_VV → Option (Int × sj_VV)) (a0 : Nat) (x1 : Int) (x2 : Int) (x3 : Int) (x4 : Int) (x5 : Int) (x6 : Int) (x7 : Int) (x8 : Int) (x9 : Int) (x10 : Int) (V : sj_VV) : Option (Int × sj_VV) :=
  e_lt (x10 + 1) fun v1 =>
  k52 a0 x1 x2 x3 x4 x5 x6 x7 x8 x9 v1 V
def g_X8_scan_116 (N : Nat) (k52 : Nat → Int → Int → Int → Int → Int → Int → Int → Int → Int → Int → sj_VV → Option (Int × sj_VV)) (a0 : Nat) (x1 : Int) (x2 : Int) (x3 : Int) (x4 : Int) (x5 : Int) (x6 : Int) (x7 : Int) (x8 : Int) (x9 : Int) (x10 : Int) (y0 : Int) (y1 : Int) (y2 : Int) (y3 : Int) (y4 : Int) (y5 : Nat) (y6 : Nat) (V : sj_VV) : Option (Int × sj_VV) :=
  e_cs (g_X3_ask N y6 y5 y4 y3 y2 y1 y0 V) fun v2 V1 =>
  e_ieq v2 ((-1)) (
    g_X8_scan_140 N k52 a0 x1 x2 x3 x4 x5 x6 x7 x8 x9 x10 V1) (
    e_lt (x8 + 1) fun v3 =>
    e_ile x6 v2 (
      g_X8_scan_140 N k52 a0 x1 x2 x3 x4 x5 x6 x7 v3 x9 x10 V1) (
      e_lt (x9 + 1) fun v4 =>
      g_X8_scan_140 N k52 a0 x1 x2 x3 x4 x5 x6 x7 v3 v4 x10 V1))
def g_X8_scan_52_b (N : Nat) (k52 : Nat → Int → Int → Int → Int → Int → Int → Int → Int → Int → Int → sj_VV → Option (Int × sj_VV)) (a0 : Nat) (x1 : Int) (x2 : Int) (x3 : Int) (x4 : Int) (x5 : Int) (x6 : Int) (x7 : Int) (x8 : Int) (x9 : Int) (x10 : Int) (V : sj_VV) : Option (Int × sj_VV) :=
  e_ile 125 x10 (
    e_ieq x7 0 (
      some (x8, V)) (
      some (x9, V))) (
    e_dI x10 25 fun v1 =>
    e_dI x10 5 fun v2 =>
    e_rI v2 5 fun v3 =>
    e_rI x10 5 fun v4 =>
    e_ieq x7 0 (
      g_X8_scan_116 N k52 a0 x1 x2 x3 x4 x5 x6 x7 x8 x9 x10 0 x5 (x3 + ((v4 - 2) * x4)) (x2 + ((v3 - 2) * x4)) (x1 + ((v1 - 2) * x4)) (a0 + 1) (a0 + 63) V) (
      g_X8_scan_116 N k52 a0 x1 x2 x3 x4 x5 x6 x7 x8 x9 x10 x6 x5 (x3 + ((v4 - 2) * x4)) (x2 + ((v3 - 2) * x4)) (x1 + ((v1 - 2) * x4)) (a0 + 1) (a0 + 63) V))
def g_X8_scan_52 (N : Nat) : Nat → Nat → Int → Int → Int → Int → Int → Int → Int → Int → Int → Int → sj_VV → Option (Int × sj_VV)
  | 0 => fun _ _ _ _ _ _ _ _ _ _ _ _ => none
  | n + 1 => fun a0 x1 x2 x3 x4 x5 x6 x7 x8 x9 x10 V => g_X8_scan_52_b N (g_X8_scan_52 N n) a0 x1 x2 x3 x4 x5 x6 x7 x8 x9 x10 V
def g_X8_scan (N : Nat) (a0 : Nat) (x1 : Int) (x2 : Int) (x3 : Int) (x4 : Int) (x5 : Int) (x6 : Int) (x7 : Int) (V : sj_VV) : Option (Int × sj_VV) :=
  e_cs (g_X8_isCircle N x1 x2 x3 V) fun v2 V1 =>
  e_ieq v2 0 (
    some ((-1), V1)) (
    e_ilt x4 1 (
      some ((-1), V1)) (
      e_ilt 64 x4 (
        some ((-1), V1)) (
        e_cs (g_X8_isK N x6 V1) fun v4 V3 =>
        e_ieq v4 0 (
          some ((-1), V3)) (
          e_ilt x7 0 (
            some ((-1), V3)) (
            e_ile x7 1 (
              g_X8_scan_52 N N a0 x1 x2 x3 x4 x5 x6 x7 0 0 0 V3) (
              some ((-1), V3)))))))
noncomputable def f_X8_scan (N : Nat) (a0 : Nat) (x1 : Int) (x2 : Int) (x3 : Int) (x4 : Int) (x5 : Int) (x6 : Int) (x7 : Int) (s : sj_Mem) : Option (Int × sj_Mem) := e_ok (OK8 s.1 a0) ((g_X8_scan N a0 x1 x2 x3 x4 x5 x6 x7 s.2).map (fun q => (q.1, (s.1, q.2))))
def g_X8_state (N : Nat) (a0 : Nat) (x1 : Int) (V : sj_VV) : Option (Int × sj_VV) :=
  e_lt (V (a0 + 43) 3) fun v1 =>
  e_lt (sj_up V (a0 + 43) 3 x1) fun V2 =>
  some (v1, V2)
noncomputable def f_X8_state (N : Nat) (a0 : Nat) (x1 : Int) (s : sj_Mem) : Option (Int × sj_Mem) := e_ok (OK8 s.1 a0) ((g_X8_state N a0 x1 s.2).map (fun q => (q.1, (s.1, q.2))))
def g_X8_chance_183 (N : Nat) (k54 : Nat → Int → Int → Int → Int → Int → sj_VV → Option (Int × sj_VV)) (a0 : Nat) (x1 : Int) (x2 : Int) (x3 : Int) (x4 : Int) (x5 : Int) (V : sj_VV) : Option (Int × sj_VV) :=
  e_lt (x5 + 1) fun v1 =>
  k54 a0 x1 x2 x3 x4 v1 V
def g_X8_chance_63_b (N : Nat) (k54 : Nat → Int → Int → Int → Int → Int → sj_VV → Option (Int × sj_VV)) (k63 : Nat → Int → Int → Int → Int → Int → Int → sj_VV → Option (Int × sj_VV)) (a0 : Nat) (x1 : Int) (x2 : Int) (x3 : Int) (x4 : Int) (x5 : Int) (x6 : Int) (V : sj_VV) : Option (Int × sj_VV) :=
  e_ile 4 x6 (
    e_cs (g_X4_settle N (a0 + 54) (a0 + 15) 0 V) fun _u V1 =>
    e_cs (g_X4_hold N (a0 + 54) x3 V1) fun v3 V2 =>
    e_ieq v3 0 (
      e_lt (x4 + 1) fun v4 =>
      g_X8_chance_183 N k54 a0 x1 x2 x3 v4 x5 V2) (
      g_X8_chance_183 N k54 a0 x1 x2 x3 x4 x5 V2)) (
    e_ix 4 x6 fun _ =>
    e_cs (g_X1_draw N (a0 + 43) ((2 * x2) + 1) V) fun v6 V5 =>
    e_dI ((V ((a0 + 1) + 7) x6.toNat) * ((100 - x2) + v6)) 100 fun v7 =>
    e_ix 4 x6 fun _ =>
    e_lt (sj_up V5 ((a0 + 15) + 7) x6.toNat v7) fun V8 =>
    e_ix 4 x6 fun _ =>
    e_cs (g_X1_draw N (a0 + 43) ((2 * x2) + 1) V8) fun v10 V9 =>
    e_dI ((V8 ((a0 + 1) + 8) x6.toNat) * ((100 - x2) + v10)) 100 fun v11 =>
    e_ix 4 x6 fun _ =>
    e_lt (sj_up V9 ((a0 + 15) + 8) x6.toNat v11) fun V12 =>
    e_lt (x6 + 1) fun v13 =>
    k63 a0 x1 x2 x3 x4 x5 v13 V12)
def g_X8_chance_63 (N : Nat) (k54 : Nat → Int → Int → Int → Int → Int → sj_VV → Option (Int × sj_VV)) : Nat → Nat → Int → Int → Int → Int → Int → Int → sj_VV → Option (Int × sj_VV)
  | 0 => fun _ _ _ _ _ _ _ _ => none
  | n + 1 => fun a0 x1 x2 x3 x4 x5 x6 V => g_X8_chance_63_b N k54 (g_X8_chance_63 N k54 n) a0 x1 x2 x3 x4 x5 x6 V
def g_X8_chance_54_b (N : Nat) (k54 : Nat → Int → Int → Int → Int → Int → sj_VV → Option (Int × sj_VV)) (a0 : Nat) (x1 : Int) (x2 : Int) (x3 : Int) (x4 : Int) (x5 : Int) (V : sj_VV) : Option (Int × sj_VV) :=
  e_ile x1 x5 (
    some (x4, V)) (
    g_X8_chance_63 N k54 N a0 x1 x2 x3 x4 x5 0 V)
def g_X8_chance_54 (N : Nat) : Nat → Nat → Int → Int → Int → Int → Int → sj_VV → Option (Int × sj_VV)
  | 0 => fun _ _ _ _ _ _ _ => none
  | n + 1 => fun a0 x1 x2 x3 x4 x5 V => g_X8_chance_54_b N (g_X8_chance_54 N n) a0 x1 x2 x3 x4 x5 V
def g_X8_chance (N : Nat) (a0 : Nat) (x1 : Int) (x2 : Int) (x3 : Int) (V : sj_VV) : Option (Int × sj_VV) :=
  e_ilt x1 1 (
    some ((-1), V)) (
    e_ilt 40 x1 (
      some ((-1), V)) (
      e_ilt x2 0 (
        some ((-1), V)) (
        e_ilt 50 x2 (
          some ((-1), V)) (
          e_cs (g_X8_isK N x3 V) fun v2 V1 =>
          e_ieq v2 0 (
            some ((-1), V1)) (
            e_cs (g_X8_cutUp N a0 V1) fun v4 V3 =>
            e_ieq v4 0 (
              some ((-1), V3)) (
              e_cs (g_X0_copy N (a0 + 15) (a0 + 1) V3) fun _u V5 =>
              g_X8_chance_54 N N a0 x1 x2 x3 0 0 V5))))))
noncomputable def f_X8_chance (N : Nat) (a0 : Nat) (x1 : Int) (x2 : Int) (x3 : Int) (s : sj_Mem) : Option (Int × sj_Mem) := e_ok (OK8 s.1 a0) ((g_X8_chance N a0 x1 x2 x3 s.2).map (fun q => (q.1, (s.1, q.2))))
def g_X8_report_119 (N : Nat) (a0 : Nat) (y0 : Int) (y1 : Nat) (V : sj_VV) : Option (Int × sj_VV) :=
  e_cs (g_X2_write N y1 y0 V) fun _u V1 =>
  some (V1 (a0 + 49) 1, V1)
def g_X8_report (N : Nat) (a0 : Nat) (V : sj_VV) : Option (Int × sj_VV) :=
  e_lt (sj_up V (a0 + 49) 1 0) fun V1 =>
  e_cs (g_X8_cutUp N a0 V1) fun v3 V2 =>
  e_ieq v3 0 (
    some ((-1), V2)) (
    e_cs (g_X4_leastBound N (a0 + 54) 20001 V2) fun v5 V4 =>
    e_cs (g_X2_writeFactor N (a0 + 49) v5 V4) fun _u V6 =>
    e_cs (g_X2_write N (a0 + 49) 32 V6) fun _u V7 =>
    e_cs (g_X2_writeNumber N (a0 + 49) (V7 ((a0 + 1) + 12) 1) V7) fun _u V8 =>
    e_cs (g_X2_write N (a0 + 49) 45 V8) fun _u V9 =>
    e_cs (g_X2_writeNumber N (a0 + 49) (V9 ((a0 + 1) + 12) 2) V9) fun _u V10 =>
    e_cs (g_X2_write N (a0 + 49) 32 V10) fun _u V11 =>
    e_ieq (V11 ((a0 + 1) + 12) 3) 0 (
      g_X8_report_119 N a0 82 (a0 + 49) V11) (
      g_X8_report_119 N a0 76 (a0 + 49) V11))
noncomputable def f_X8_report (N : Nat) (a0 : Nat) (s : sj_Mem) : Option (Int × sj_Mem) := e_ok (OK8 s.1 a0) ((g_X8_report N a0 s.2).map (fun q => (q.1, (s.1, q.2))))
def g_X8_sign (N : Nat) (a0 : Nat) (x1 : Int) (V : sj_VV) : Option (Int × sj_VV) :=
  e_ilt x1 0 (
    some ((-1), V)) (
    e_ile (V (a0 + 49) 1) x1 (
      some ((-1), V)) (
      e_ix 16 x1 fun _ =>
      some (V ((a0 + 49) + 1) x1.toNat, V)))
noncomputable def f_X8_sign (N : Nat) (a0 : Nat) (x1 : Int) (s : sj_Mem) : Option (Int × sj_Mem) := e_ok (OK8 s.1 a0) ((g_X8_sign N a0 x1 s.2).map (fun q => (q.1, (s.1, q.2))))
def g_X9_begins_62_b (N : Nat) (k62 : Nat → Int → sj_VV → Option (Unit × sj_VV)) (a0 : Nat) (x3 : Int) (V : sj_VV) : Option (Unit × sj_VV) :=
  e_ile 4 x3 (
    e_ix 390 320 fun _ =>
    e_lt (sj_up V (a0 + 1) (320 : Int).toNat ((-1))) fun V1 =>
    some ((), V1)) (
    e_ix 390 (290 + (3 * x3)) fun _ =>
    e_lt (sj_up V (a0 + 1) (290 + (3 * x3)).toNat 20) fun V2 =>
    e_ix 390 ((290 + (3 * x3)) + 1) fun _ =>
    e_lt (sj_up V2 (a0 + 1) ((290 + (3 * x3)) + 1).toNat 10) fun V3 =>
    e_ix 390 ((290 + (3 * x3)) + 2) fun _ =>
    e_lt (sj_up V3 (a0 + 1) ((290 + (3 * x3)) + 2).toNat 300) fun V4 =>
    e_lt (x3 + 1) fun v5 =>
    k62 a0 v5 V4)
def g_X9_begins_62 (N : Nat) : Nat → Nat → Int → sj_VV → Option (Unit × sj_VV)
  | 0 => fun _ _ _ => none
  | n + 1 => fun a0 x3 V => g_X9_begins_62_b N (g_X9_begins_62 N n) a0 x3 V
def g_X9_begins_38_b (N : Nat) (k38 : Nat → Int → sj_VV → Option (Unit × sj_VV)) (a0 : Nat) (x3 : Int) (V : sj_VV) : Option (Unit × sj_VV) :=
  e_ile 41 x3 (
    g_X9_begins_62 N N a0 0 V) (
    e_ix 390 (3 + x3) fun _ =>
    e_lt (sj_up V (a0 + 1) (3 + x3).toNat 20) fun V1 =>
    e_lt (x3 + 1) fun v2 =>
    k38 a0 v2 V1)
def g_X9_begins_38 (N : Nat) : Nat → Nat → Int → sj_VV → Option (Unit × sj_VV)
  | 0 => fun _ _ _ => none
  | n + 1 => fun a0 x3 V => g_X9_begins_38_b N (g_X9_begins_38 N n) a0 x3 V
def g_X9_begins_2_b (N : Nat) (k2 : Nat → Int → Int → Int → sj_VV → Option (Unit × sj_VV)) (a0 : Nat) (x1 : Int) (x2 : Int) (x3 : Int) (V : sj_VV) : Option (Unit × sj_VV) :=
  e_ile 364 x3 (
    e_ix 390 0 fun _ =>
    e_lt (sj_up V (a0 + 1) (0 : Int).toNat x1) fun V1 =>
    e_ix 390 1 fun _ =>
    e_lt (sj_up V1 (a0 + 1) (1 : Int).toNat x2) fun V2 =>
    g_X9_begins_38 N N a0 0 V2) (
    e_ix 390 x3 fun _ =>
    e_lt (sj_up V (a0 + 1) x3.toNat 0) fun V3 =>
    e_lt (x3 + 1) fun v4 =>
    k2 a0 x1 x2 v4 V3)
def g_X9_begins_2 (N : Nat) : Nat → Nat → Int → Int → Int → sj_VV → Option (Unit × sj_VV)
  | 0 => fun _ _ _ _ _ => none
  | n + 1 => fun a0 x1 x2 x3 V => g_X9_begins_2_b N (g_X9_begins_2 N n) a0 x1 x2 x3 V
def g_X9_begins (N : Nat) (a0 : Nat) (x1 : Int) (x2 : Int) (V : sj_VV) : Option (Unit × sj_VV) :=
  g_X9_begins_2 N N a0 x1 x2 0 V
def g_X9_soilOver_4_b (N : Nat) (k4 : Nat → Int → Int → sj_VV → Option (Int × sj_VV)) (a0 : Nat) (x1 : Int) (x2 : Int) (V : sj_VV) : Option (Int × sj_VV) :=
  e_ix 390 0 fun _ =>
  e_ilt (V (a0 + 1) (0 : Int).toNat) x2 (
    some (x1, V)) (
    e_ix 390 (3 + x2) fun _ =>
    e_ix 390 (44 + x2) fun _ =>
    e_lt (x1 + ((V (a0 + 1) (3 + x2).toNat) - (V (a0 + 1) (44 + x2).toNat))) fun v1 =>
    e_lt (x2 + 1) fun v2 =>
    k4 a0 v1 v2 V)
def g_X9_soilOver_4 (N : Nat) : Nat → Nat → Int → Int → sj_VV → Option (Int × sj_VV)
  | 0 => fun _ _ _ _ => none
  | n + 1 => fun a0 x1 x2 V => g_X9_soilOver_4_b N (g_X9_soilOver_4 N n) a0 x1 x2 V
def g_X9_soilOver (N : Nat) (a0 : Nat) (V : sj_VV) : Option (Int × sj_VV) :=
  g_X9_soilOver_4 N N a0 0 0 V
noncomputable def f_X9_soilOver (N : Nat) (a0 : Nat) (s : sj_Mem) : Option (Int × sj_Mem) := e_ok (OK9 s.1 a0) ((g_X9_soilOver N a0 s.2).map (fun q => (q.1, (s.1, q.2))))
def g_X9_most (N : Nat) (x0 : Int) (x1 : Int) (V : sj_VV) : Option (Int × sj_VV) :=
  e_ile x0 x1 (
    some (x1, V)) (
    some (x0, V))
noncomputable def f_X9_most (N : Nat) (x0 : Int) (x1 : Int) (s : sj_Mem) : Option (Int × sj_Mem) := e_ok (True) ((g_X9_most N x0 x1 s.2).map (fun q => (q.1, (s.1, q.2))))
def g_X9_highest_4_b (N : Nat) (k4 : Nat → Int → Int → sj_VV → Option (Int × sj_VV)) (a0 : Nat) (x1 : Int) (x2 : Int) (V : sj_VV) : Option (Int × sj_VV) :=
  e_ix 390 0 fun _ =>
  e_ilt (V (a0 + 1) (0 : Int).toNat) x2 (
    some (x1, V)) (
    e_ix 390 (3 + x2) fun _ =>
    e_cs (g_X9_most N x1 (V (a0 + 1) (3 + x2).toNat) V) fun v2 V1 =>
    e_lt (x2 + 1) fun v3 =>
    k4 a0 v2 v3 V1)
def g_X9_highest_4 (N : Nat) : Nat → Nat → Int → Int → sj_VV → Option (Int × sj_VV)
  | 0 => fun _ _ _ _ => none
  | n + 1 => fun a0 x1 x2 V => g_X9_highest_4_b N (g_X9_highest_4 N n) a0 x1 x2 V
def g_X9_highest (N : Nat) (a0 : Nat) (V : sj_VV) : Option (Int × sj_VV) :=
  g_X9_highest_4 N N a0 0 0 V
noncomputable def f_X9_highest (N : Nat) (a0 : Nat) (s : sj_Mem) : Option (Int × sj_Mem) := e_ok (OK9 s.1 a0) ((g_X9_highest N a0 s.2).map (fun q => (q.1, (s.1, q.2))))
def g_X9_hasSlip (N : Nat) (a0 : Nat) (V : sj_VV) : Option (Int × sj_VV) :=
  e_ix 390 320 fun _ =>
  e_ieq (V (a0 + 1) (320 : Int).toNat) ((-1)) (
    e_zs 0 V) (
    e_zs 1 V)
noncomputable def f_X9_hasSlip (N : Nat) (a0 : Nat) (s : sj_Mem) : Option (Int × sj_Mem) := e_ok (OK9 s.1 a0) ((g_X9_hasSlip N a0 s.2).map (fun q => (q.1, (s.1, q.2))))
def g_X9_isIn (N : Nat) (x0 : Int) (x2 : Int) (x4 : Int) (V : sj_VV) : Option (Int × sj_VV) :=
  e_llt x0 x2 (
    e_zs 0 V) (
    e_llt x4 x0 (
      e_zs 0 V) (
      e_zs 1 V))
noncomputable def f_X9_isIn (N : Nat) (x0 : Int) (x2 : Int) (x4 : Int) (s : sj_Mem) : Option (Int × sj_Mem) := e_ok (True) ((g_X9_isIn N x0 x2 x4 s.2).map (fun q => (q.1, (s.1, q.2))))
def g_X9_isAnchor (N : Nat) (a0 : Nat) (x1 : Int) (V : sj_VV) : Option (Int × sj_VV) :=
  e_wid x1 fun v1 =>
  e_cs (g_X9_isIn N v1 0 5 V) fun v3 V2 =>
  e_ieq v3 0 (
    e_zs 0 V2) (
    e_ix 390 ((302 + (3 * x1)) + 2) fun _ =>
    e_ile (V2 (a0 + 1) ((302 + (3 * x1)) + 2).toNat) 0 (
      e_zs 0 V2) (
      e_zs 1 V2))
noncomputable def f_X9_isAnchor (N : Nat) (a0 : Nat) (x1 : Int) (s : sj_Mem) : Option (Int × sj_Mem) := e_ok (OK9 s.1 a0) ((g_X9_isAnchor N a0 x1 s.2).map (fun q => (q.1, (s.1, q.2))))
def g_X9_anchorSet_26 (N : Nat) (k4 : Nat → Int → Int → sj_VV → Option (Int × sj_VV)) (a0 : Nat) (x2 : Int) (y0 : Int) (y1 : Int) (V : sj_VV) : Option (Int × sj_VV) :=
  e_lt (sj_or y1 y0) fun v1 =>
  e_lt (x2 + 1) fun v2 =>
  k4 a0 v1 v2 V
def g_X9_anchorSet_4_b (N : Nat) (k4 : Nat → Int → Int → sj_VV → Option (Int × sj_VV)) (a0 : Nat) (x1 : Int) (x2 : Int) (V : sj_VV) : Option (Int × sj_VV) :=
  e_ile 6 x2 (
    some (x1, V)) (
    e_cs (g_X9_isAnchor N a0 x2 V) fun v2 V1 =>
    e_ieq v2 0 (
      g_X9_anchorSet_26 N k4 a0 x2 0 x1 V1) (
      e_shl 1 x2 fun v3 =>
      g_X9_anchorSet_26 N k4 a0 x2 v3 x1 V1))
def g_X9_anchorSet_4 (N : Nat) : Nat → Nat → Int → Int → sj_VV → Option (Int × sj_VV)
  | 0 => fun _ _ _ _ => none
  | n + 1 => fun a0 x1 x2 V => g_X9_anchorSet_4_b N (g_X9_anchorSet_4 N n) a0 x1 x2 V
def g_X9_anchorSet (N : Nat) (a0 : Nat) (V : sj_VV) : Option (Int × sj_VV) :=
  g_X9_anchorSet_4 N N a0 0 0 V
noncomputable def f_X9_anchorSet (N : Nat) (a0 : Nat) (s : sj_Mem) : Option (Int × sj_Mem) := e_ok (OK9 s.1 a0) ((g_X9_anchorSet N a0 s.2).map (fun q => (q.1, (s.1, q.2))))
def g_X9_look (N : Nat) (a0 : Nat) (x1 : Int) (V : sj_VV) : Option (Int × sj_VV) :=
  e_sw x1 (
  if x1 = 0 then (
    e_ix 390 0 fun _ =>
    some (V (a0 + 1) (0 : Int).toNat, V)) else (
  if x1 = 1 then (
    e_ix 390 1 fun _ =>
    some (V (a0 + 1) (1 : Int).toNat, V)) else (
  if x1 = 2 then (
    e_ix 390 2 fun _ =>
    some (V (a0 + 1) (2 : Int).toNat, V)) else (
  if x1 = 3 then (
    e_cs (g_X9_anchorSet N a0 V) fun v2 V1 =>
    some (v2, V1)) else (
  if x1 = 4 then (
    e_cs (g_X9_hasSlip N a0 V) fun v4 V3 =>
    e_ieq v4 0 (
      some (0, V3)) (
      e_ix 390 321 fun _ =>
      e_ix 390 320 fun _ =>
      some ((V3 (a0 + 1) (321 : Int).toNat) - (V3 (a0 + 1) (320 : Int).toNat), V3))) else (
  if x1 = 5 then (
    e_ix 390 320 fun _ =>
    some (V (a0 + 1) (320 : Int).toNat, V)) else (
  if x1 = 6 then (
    e_cs (g_X9_hasSlip N a0 V) fun v6 V5 =>
    e_ieq v6 0 (
      some ((-1), V5)) (
      e_ix 390 321 fun _ =>
      some (V5 (a0 + 1) (321 : Int).toNat, V5))) else (
  if x1 = 7 then (
    e_cs (g_X9_hasSlip N a0 V) fun v8 V7 =>
    e_ieq v8 0 (
      some ((-1), V7)) (
      e_ix 390 322 fun _ =>
      some (V7 (a0 + 1) (322 : Int).toNat, V7))) else (
  if x1 = 8 then (
    e_ix 390 364 fun _ =>
    some (V (a0 + 1) (364 : Int).toNat, V)) else (
  if x1 = 9 then (
    some (V a0 4, V)) else (
  if x1 = 10 then (
    some (V a0 28, V)) else (
  if x1 = 11 then (
    e_cs (g_X9_highest N a0 V) fun v10 V9 =>
    some (v10, V9)) else (
  if x1 = 12 then (
    e_cs (g_X9_soilOver N a0 V) fun v12 V11 =>
    some (v12, V11)) else (
  if x1 = 13 then (
    e_ix 390 389 fun _ =>
    some (V (a0 + 1) (389 : Int).toNat, V)) else (
    some ((-10), V))))))))))))))))
noncomputable def f_X9_look (N : Nat) (a0 : Nat) (x1 : Int) (s : sj_Mem) : Option (Int × sj_Mem) := e_ok (OK9 s.1 a0) ((g_X9_look N a0 x1 s.2).map (fun q => (q.1, (s.1, q.2))))
def g_X9_image_53 (N : Nat) (k15 : Nat → Int → Int → sj_VV → Option (Int × sj_VV)) (a0 : Nat) (x1 : Int) (x2 : Int) (V : sj_VV) : Option (Int × sj_VV) :=
  e_lt (x2 + 1) fun v1 =>
  k15 a0 x1 v1 V
def g_X9_image_15_b (N : Nat) (k15 : Nat → Int → Int → sj_VV → Option (Int × sj_VV)) (a0 : Nat) (x1 : Int) (x2 : Int) (V : sj_VV) : Option (Int × sj_VV) :=
  e_ile 390 x2 (
    e_ieq x1 0 (
      e_lt (sj_up V a0 4 0) fun V2 =>
      e_zz 1 fun _ =>
      e_lt (sj_up V2 a0 5 1) fun V3 =>
      e_zs 1 V3) (
      e_zz 1 fun _ =>
      e_lt (sj_up V a0 5 1) fun V1 =>
      e_zs 1 V1)) (
    e_ieq x1 0 (
      e_ix 390 x2 fun _ =>
      e_ix 390 x2 fun _ =>
      e_lt (sj_up V (a0 + 1) x2.toNat (V (a0 + 3) x2.toNat)) fun V4 =>
      g_X9_image_53 N k15 a0 x1 x2 V4) (
      e_ix 390 x2 fun _ =>
      e_ix 390 x2 fun _ =>
      e_lt (sj_up V (a0 + 3) x2.toNat (V (a0 + 1) x2.toNat)) fun V5 =>
      g_X9_image_53 N k15 a0 x1 x2 V5))
def g_X9_image_15 (N : Nat) : Nat → Nat → Int → Int → sj_VV → Option (Int × sj_VV)
  | 0 => fun _ _ _ _ => none
  | n + 1 => fun a0 x1 x2 V => g_X9_image_15_b N (g_X9_image_15 N n) a0 x1 x2 V
def g_X9_image_13 (N : Nat) (a0 : Nat) (x1 : Int) (V : sj_VV) : Option (Int × sj_VV) :=
  g_X9_image_15 N N a0 x1 0 V
def g_X9_image (N : Nat) (a0 : Nat) (x1 : Int) (V : sj_VV) : Option (Int × sj_VV) :=
  e_ieq x1 0 (
    e_ieq (V a0 5) 0 (
      e_zs 0 V) (
      g_X9_image_13 N a0 x1 V)) (
    g_X9_image_13 N a0 x1 V)
noncomputable def f_X9_image (N : Nat) (a0 : Nat) (x1 : Int) (s : sj_Mem) : Option (Int × sj_Mem) := e_ok (OK9 s.1 a0) ((g_X9_image N a0 x1 s.2).map (fun q => (q.1, (s.1, q.2))))
def g_X9_sign (N : Nat) (a0 : Nat) (x1 : Int) (V : sj_VV) : Option (Int × sj_VV) :=
  e_wid x1 fun v1 =>
  e_wid ((V a0 26) - 1) fun v2 =>
  e_cs (g_X9_isIn N v1 0 v2 V) fun v4 V3 =>
  e_ieq v4 0 (
    some ((-1), V3)) (
    e_ix 40 x1 fun _ =>
    some (V3 (a0 + 9) x1.toNat, V3))
noncomputable def f_X9_sign (N : Nat) (a0 : Nat) (x1 : Int) (s : sj_Mem) : Option (Int × sj_Mem) := e_ok (OK9 s.1 a0) ((g_X9_sign N a0 x1 s.2).map (fun q => (q.1, (s.1, q.2))))
def g_X9_takesSlip_47_b (N : Nat) (k47 : Nat → Int → sj_VV → Option (Int × sj_VV)) (a0 : Nat) (x1 : Int) (V : sj_VV) : Option (Int × sj_VV) :=
  e_ile 41 x1 (
    e_ieq (V a0 13) ((-1)) (
      e_zs 0 V) (
      e_zs 1 V)) (
    e_ix 390 (323 + x1) fun _ =>
    e_ix 41 x1 fun _ =>
    e_lt (sj_up V (a0 + 5) x1.toNat (V (a0 + 1) (323 + x1).toNat)) fun V1 =>
    e_lt (x1 + 1) fun v2 =>
    k47 a0 v2 V1)
def g_X9_takesSlip_47 (N : Nat) : Nat → Nat → Int → sj_VV → Option (Int × sj_VV)
  | 0 => fun _ _ _ => none
  | n + 1 => fun a0 x1 V => g_X9_takesSlip_47_b N (g_X9_takesSlip_47 N n) a0 x1 V
def g_X9_takesSlip_42 (N : Nat) (a0 : Nat) (y0 : Int) (y1 : Nat) (V : sj_VV) : Option (Int × sj_VV) :=
  e_zz y0 fun _ =>
  e_lt (sj_up V y1 15 y0) fun V1 =>
  g_X9_takesSlip_47 N N a0 0 V1
def g_X9_takesSlip (N : Nat) (a0 : Nat) (V : sj_VV) : Option (Int × sj_VV) :=
  e_ix 390 320 fun _ =>
  e_lt (sj_up V a0 13 (V (a0 + 1) (320 : Int).toNat)) fun V1 =>
  e_ix 390 321 fun _ =>
  e_lt (sj_up V1 a0 14 (V1 (a0 + 1) (321 : Int).toNat)) fun V2 =>
  e_ix 390 322 fun _ =>
  e_ieq (V2 (a0 + 1) (322 : Int).toNat) 1 (
    g_X9_takesSlip_42 N a0 1 a0 V2) (
    g_X9_takesSlip_42 N a0 0 a0 V2)
noncomputable def f_X9_takesSlip (N : Nat) (a0 : Nat) (s : sj_Mem) : Option (Int × sj_Mem) := e_ok (OK9 s.1 a0) ((g_X9_takesSlip N a0 s.2).map (fun q => (q.1, (s.1, q.2))))
def g_X9_isCounting (N : Nat) (a0 : Nat) (x1 : Int) (V : sj_VV) : Option (Int × sj_VV) :=
  e_ix 390 (302 + (3 * x1)) fun _ =>
  e_lt (V (a0 + 1) (302 + (3 * x1)).toNat) fun v1 =>
  e_ix 390 ((302 + (3 * x1)) + 2) fun _ =>
  e_ile (V (a0 + 1) ((302 + (3 * x1)) + 2).toNat) 0 (
    e_zs 0 V) (
    e_wid v1 fun v2 =>
    e_wid (V a0 13) fun v3 =>
    e_wid ((V a0 14) - 1) fun v4 =>
    e_cs (g_X9_isIn N v2 v3 v4 V) fun v6 V5 =>
    e_ieq v6 0 (
      e_zs 0 V5) (
      e_ix 390 ((302 + (3 * x1)) + 1) fun _ =>
      e_ix 41 v1 fun _ =>
      e_ile (V5 (a0 + 1) ((302 + (3 * x1)) + 1).toNat) (V5 (a0 + 5) v1.toNat) (
        e_zs 0 V5) (
        e_zs 1 V5)))
noncomputable def f_X9_isCounting (N : Nat) (a0 : Nat) (x1 : Int) (s : sj_Mem) : Option (Int × sj_Mem) := e_ok (OK9 s.1 a0) ((g_X9_isCounting N a0 x1 s.2).map (fun q => (q.1, (s.1, q.2))))
def g_X9_pulls_50 (N : Nat) (k4 : Nat → Int → Int → sj_VV → Option (Int × sj_VV)) (a0 : Nat) (x3 : Int) (y0 : Int) (y1 : Int) (V : sj_VV) : Option (Int × sj_VV) :=
  e_lt (y1 + y0) fun v1 =>
  e_lt (x3 + 1) fun v2 =>
  k4 a0 v1 v2 V
def g_X9_pulls_4_b (N : Nat) (k4 : Nat → Int → Int → sj_VV → Option (Int × sj_VV)) (a0 : Nat) (x1 : Int) (x3 : Int) (V : sj_VV) : Option (Int × sj_VV) :=
  e_ile 6 x3 (
    some (x1, V)) (
    e_cs (g_X9_isCounting N a0 x3 V) fun v2 V1 =>
    e_ieq v2 0 (
      g_X9_pulls_50 N k4 a0 x3 0 x1 V1) (
      e_ix 390 1 fun _ =>
      e_wid (V1 (a0 + 1) (1 : Int).toNat) fun v3 =>
      e_ix 390 ((302 + (3 * x3)) + 2) fun _ =>
      e_wid (V1 (a0 + 1) ((302 + (3 * x3)) + 2).toNat) fun v4 =>
      g_X9_pulls_50 N k4 a0 x3 ((2000 * v3) * v4) x1 V1))
def g_X9_pulls_4 (N : Nat) : Nat → Nat → Int → Int → sj_VV → Option (Int × sj_VV)
  | 0 => fun _ _ _ _ => none
  | n + 1 => fun a0 x1 x3 V => g_X9_pulls_4_b N (g_X9_pulls_4 N n) a0 x1 x3 V
def g_X9_pulls (N : Nat) (a0 : Nat) (V : sj_VV) : Option (Int × sj_VV) :=
  g_X9_pulls_4 N N a0 0 0 V
noncomputable def f_X9_pulls (N : Nat) (a0 : Nat) (s : sj_Mem) : Option (Int × sj_Mem) := e_ok (OK9 s.1 a0) ((g_X9_pulls N a0 s.2).map (fun q => (q.1, (s.1, q.2))))
def g_X9_upwards (N : Nat) (x0 : Int) (x2 : Int) (V : sj_VV) : Option (Int × sj_VV) :=
  e_llt x0 0 (
    e_dJ (-x0) x2 fun v1 =>
    some (-v1, V)) (
    e_dJ ((x0 + x2) - 1) x2 fun v2 =>
    some (v2, V))
noncomputable def f_X9_upwards (N : Nat) (x0 : Int) (x2 : Int) (s : sj_Mem) : Option (Int × sj_Mem) := e_ok (True) ((g_X9_upwards N x0 x2 s.2).map (fun q => (q.1, (s.1, q.2))))
def g_X9_least (N : Nat) (x0 : Int) (x1 : Int) (V : sj_VV) : Option (Int × sj_VV) :=
  e_ile x1 x0 (
    some (x1, V)) (
    some (x0, V))
noncomputable def f_X9_least (N : Nat) (x0 : Int) (x1 : Int) (s : sj_Mem) : Option (Int × sj_Mem) := e_ok (True) ((g_X9_least N x0 x1 s.2).map (fun q => (q.1, (s.1, q.2))))
def g_X9_water (N : Nat) (a0 : Nat) (x1 : Int) (V : sj_VV) : Option (Int × sj_VV) :=
  e_ix 390 (85 + x1) fun _ =>
  e_ix 390 (3 + x1) fun _ =>
  e_cs (g_X9_least N (V (a0 + 1) (85 + x1).toNat) (V (a0 + 1) (3 + x1).toNat) V) fun v2 V1 =>
  some (v2, V1)
noncomputable def f_X9_water (N : Nat) (a0 : Nat) (x1 : Int) (s : sj_Mem) : Option (Int × sj_Mem) := e_ok (OK9 s.1 a0) ((g_X9_water N a0 x1 s.2).map (fun q => (q.1, (s.1, q.2))))
def g_X9_top_12_b (N : Nat) (k12 : Nat → Int → Int → Int → Int → sj_VV → Option (Int × sj_VV)) (a0 : Nat) (x1 : Int) (x2 : Int) (x3 : Int) (x4 : Int) (V : sj_VV) : Option (Int × sj_VV) :=
  e_ilt x1 x4 (
    some (x3, V)) (
    e_ix 390 ((167 + (41 * (x4 - 1))) + x2) fun _ =>
    e_cs (g_X9_least N x3 (V (a0 + 1) ((167 + (41 * (x4 - 1))) + x2).toNat) V) fun v2 V1 =>
    e_lt (x4 + 1) fun v3 =>
    k12 a0 x1 x2 v2 v3 V1)
def g_X9_top_12 (N : Nat) : Nat → Nat → Int → Int → Int → Int → sj_VV → Option (Int × sj_VV)
  | 0 => fun _ _ _ _ _ _ => none
  | n + 1 => fun a0 x1 x2 x3 x4 V => g_X9_top_12_b N (g_X9_top_12 N n) a0 x1 x2 x3 x4 V
def g_X9_top (N : Nat) (a0 : Nat) (x1 : Int) (x2 : Int) (V : sj_VV) : Option (Int × sj_VV) :=
  e_ix 390 (3 + x2) fun _ =>
  e_lt (V (a0 + 1) (3 + x2).toNat) fun v1 =>
  g_X9_top_12 N N a0 x1 x2 v1 1 V
noncomputable def f_X9_top (N : Nat) (a0 : Nat) (x1 : Int) (x2 : Int) (s : sj_Mem) : Option (Int × sj_Mem) := e_ok (OK9 s.1 a0) ((g_X9_top N a0 x1 x2 s.2).map (fun q => (q.1, (s.1, q.2))))
def g_X9_thick_21 (N : Nat) (a0 : Nat) (x1 : Int) (x2 : Int) (y0 : Int) (V : sj_VV) : Option (Int × sj_VV) :=
  e_cs (g_X9_top N a0 x1 x2 V) fun v2 V1 =>
  e_lt (v2 - y0) fun v3 =>
  e_ile v3 0 (
    some (0, V1)) (
    some (v3, V1))
def g_X9_thick (N : Nat) (a0 : Nat) (x1 : Int) (x2 : Int) (x3 : Int) (V : sj_VV) : Option (Int × sj_VV) :=
  e_ieq x1 3 (
    g_X9_thick_21 N a0 x1 x2 x3 V) (
    e_cs (g_X9_top N a0 (x1 + 1) x2 V) fun v2 V1 =>
    e_cs (g_X9_most N x3 v2 V1) fun v4 V3 =>
    g_X9_thick_21 N a0 x1 x2 v4 V3)
noncomputable def f_X9_thick (N : Nat) (a0 : Nat) (x1 : Int) (x2 : Int) (x3 : Int) (s : sj_Mem) : Option (Int × sj_Mem) := e_ok (OK9 s.1 a0) ((g_X9_thick N a0 x1 x2 x3 s.2).map (fun q => (q.1, (s.1, q.2))))
def g_X9_laysSlice_104 (N : Nat) (k29 : Nat → Int → Int → Int → Int → Int → sj_VV → Option (Unit × sj_VV)) (a0 : Nat) (x1 : Int) (x2 : Int) (x3 : Int) (x5 : Int) (x7 : Int) (V : sj_VV) : Option (Unit × sj_VV) :=
  e_lt (x7 + 1) fun v1 =>
  k29 a0 x1 x2 x3 x5 v1 V
def g_X9_laysSlice_216 (N : Nat) (a0 : Nat) (y0 : Int) (y1 : Nat) (V : sj_VV) : Option (Unit × sj_VV) :=
  e_lt (sj_up V y1 10 y0) fun V1 =>
  e_ix 390 ((290 + (3 * (V1 a0 7))) + 1) fun _ =>
  e_wid (V1 (a0 + 1) ((290 + (3 * (V1 a0 7))) + 1).toNat) fun v2 =>
  e_ix 390 1 fun _ =>
  e_wid (V1 (a0 + 1) (1 : Int).toNat) fun v3 =>
  e_ix 390 ((290 + (3 * (V1 a0 7))) + 2) fun _ =>
  e_wid (V1 (a0 + 1) ((290 + (3 * (V1 a0 7))) + 2).toNat) fun v4 =>
  e_lt (sj_up V1 a0 11 (((2000 * v2) * v3) + ((V1 a0 10) * v4))) fun V5 =>
  e_wid (V5 a0 6) fun v6 =>
  e_ix 390 2 fun _ =>
  e_wid (V5 (a0 + 1) (2 : Int).toNat) fun v7 =>
  e_ix 390 1 fun _ =>
  e_wid (V5 (a0 + 1) (1 : Int).toNat) fun v8 =>
  e_lt (sj_up V5 a0 12 ((V5 a0 8) * ((1000 * v6) + (v7 * v8)))) fun V9 =>
  some ((), V9)
def g_X9_laysSlice_29_b (N : Nat) (k29 : Nat → Int → Int → Int → Int → Int → sj_VV → Option (Unit × sj_VV)) (a0 : Nat) (x1 : Int) (x2 : Int) (x3 : Int) (x5 : Int) (x7 : Int) (V : sj_VV) : Option (Unit × sj_VV) :=
  e_ile 4 x7 (
    e_ix 390 1 fun _ =>
    e_wid (V (a0 + 1) (1 : Int).toNat) fun v1 =>
    e_ix 390 (126 + x1) fun _ =>
    e_wid (V (a0 + 1) (126 + x1).toNat) fun v2 =>
    e_ix 390 ((126 + x1) + 1) fun _ =>
    e_wid (V (a0 + 1) ((126 + x1) + 1).toNat) fun v3 =>
    e_lt (sj_up V a0 8 (v1 * ((x5 + v2) + v3))) fun V4 =>
    e_ix 390 1 fun _ =>
    e_wid (V4 (a0 + 1) (1 : Int).toNat) fun v5 =>
    e_cs (g_X9_water N a0 x1 V4) fun v7 V6 =>
    e_cs (g_X9_most N 0 (v7 - x2) V6) fun v9 V8 =>
    e_cs (g_X9_water N a0 (x1 + 1) V8) fun v11 V10 =>
    e_cs (g_X9_most N 0 (v11 - x3) V10) fun v13 V12 =>
    e_wid (v9 + v13) fun v14 =>
    e_lt (sj_up V12 a0 9 ((10 * v5) * v14)) fun V15 =>
    e_lle (V15 a0 8) (V15 a0 9) (
      g_X9_laysSlice_216 N a0 0 a0 V15) (
      g_X9_laysSlice_216 N a0 ((V15 a0 8) - (V15 a0 9)) a0 V15)) (
    e_ix 390 (290 + (3 * x7)) fun _ =>
    e_wid (V (a0 + 1) (290 + (3 * x7)).toNat) fun v16 =>
    e_cs (g_X9_thick N a0 x7 x1 x2 V) fun v18 V17 =>
    e_cs (g_X9_thick N a0 x7 (x1 + 1) x3 V17) fun v20 V19 =>
    e_wid (v18 + v20) fun v21 =>
    e_lt (x5 + (v16 * v21)) fun v22 =>
    e_cs (g_X9_top N a0 x7 x1 V19) fun v24 V23 =>
    e_cs (g_X9_top N a0 x7 (x1 + 1) V23) fun v26 V25 =>
    e_ile (v24 + v26) (x2 + x3) (
      g_X9_laysSlice_104 N k29 a0 x1 x2 x3 v22 x7 V25) (
      e_lt (sj_up V25 a0 7 x7) fun V27 =>
      g_X9_laysSlice_104 N k29 a0 x1 x2 x3 v22 x7 V27))
def g_X9_laysSlice_29 (N : Nat) : Nat → Nat → Int → Int → Int → Int → Int → sj_VV → Option (Unit × sj_VV)
  | 0 => fun _ _ _ _ _ _ _ => none
  | n + 1 => fun a0 x1 x2 x3 x5 x7 V => g_X9_laysSlice_29_b N (g_X9_laysSlice_29 N n) a0 x1 x2 x3 x5 x7 V
def g_X9_laysSlice_15 (N : Nat) (a0 : Nat) (x1 : Int) (x2 : Int) (x3 : Int) (y0 : Int) (y1 : Nat) (V : sj_VV) : Option (Unit × sj_VV) :=
  e_lt (sj_up V y1 6 y0) fun V1 =>
  e_lt (sj_up V1 a0 7 0) fun V2 =>
  g_X9_laysSlice_29 N N a0 x1 x2 x3 0 0 V2
def g_X9_laysSlice (N : Nat) (a0 : Nat) (x1 : Int) (x2 : Int) (x3 : Int) (x4 : Int) (V : sj_VV) : Option (Unit × sj_VV) :=
  e_ieq x4 0 (
    g_X9_laysSlice_15 N a0 x1 x2 x3 (x2 - x3) a0 V) (
    g_X9_laysSlice_15 N a0 x1 x2 x3 (x3 - x2) a0 V)
noncomputable def f_X9_laysSlice (N : Nat) (a0 : Nat) (x1 : Int) (x2 : Int) (x3 : Int) (x4 : Int) (s : sj_Mem) : Option (Unit × sj_Mem) := e_ok (OK9 s.1 a0) ((g_X9_laysSlice N a0 x1 x2 x3 x4 s.2).map (fun q => (q.1, (s.1, q.2))))
def g_X9_laysAt (N : Nat) (a0 : Nat) (x1 : Int) (V : sj_VV) : Option (Unit × sj_VV) :=
  e_ix 41 x1 fun _ =>
  e_ix 41 (x1 + 1) fun _ =>
  e_cs (g_X9_laysSlice N a0 x1 (V (a0 + 5) x1.toNat) (V (a0 + 5) (x1 + 1).toNat) (V a0 15) V) fun _u V1 =>
  some ((), V1)
noncomputable def f_X9_laysAt (N : Nat) (a0 : Nat) (x1 : Int) (s : sj_Mem) : Option (Unit × sj_Mem) := e_ok (OK9 s.1 a0) ((g_X9_laysAt N a0 x1 s.2).map (fun q => (q.1, (s.1, q.2))))
def g_X9_rubsOf (N : Nat) (a0 : Nat) (x1 : Int) (V : sj_VV) : Option (Int × sj_VV) :=
  e_ix 390 1 fun _ =>
  e_wid (V (a0 + 1) (1 : Int).toNat) fun v1 =>
  e_wid x1 fun v2 =>
  e_wid (V a0 6) fun v3 =>
  e_ix 390 ((290 + (3 * (V a0 7))) + 2) fun _ =>
  e_wid (V (a0 + 1) ((290 + (3 * (V a0 7))) + 2).toNat) fun v4 =>
  e_lt ((v1 * v2) + (v3 * v4)) fun v5 =>
  e_llt 0 v5 (
    e_ix 390 1 fun _ =>
    e_wid (V (a0 + 1) (1 : Int).toNat) fun v6 =>
    e_ix 390 1 fun _ =>
    e_wid (V (a0 + 1) (1 : Int).toNat) fun v7 =>
    e_wid (V a0 6) fun v8 =>
    e_wid (V a0 6) fun v9 =>
    e_wid x1 fun v10 =>
    e_dJ (((V a0 11) * ((v6 * v7) + (v8 * v9))) * v10) v5 fun v11 =>
    some (v11, V)) (
    some ((-1), V))
noncomputable def f_X9_rubsOf (N : Nat) (a0 : Nat) (x1 : Int) (s : sj_Mem) : Option (Int × sj_Mem) := e_ok (OK9 s.1 a0) ((g_X9_rubsOf N a0 x1 s.2).map (fun q => (q.1, (s.1, q.2))))
def g_X9_standsWith_18_b (N : Nat) (k18 : Nat → Int → Int → Int → Int → sj_VV → Option (Int × sj_VV)) (a0 : Nat) (x1 : Int) (x4 : Int) (x6 : Int) (x8 : Int) (V : sj_VV) : Option (Int × sj_VV) :=
  e_ile (V a0 14) x8 (
    e_wid x1 fun v1 =>
    e_cs (g_X9_upwards N (v1 * x6) 1000 V) fun v3 V2 =>
    e_llt x4 v3 (
      e_zs 0 V2) (
      e_zs 1 V2)) (
    e_cs (g_X9_laysAt N a0 x8 V) fun _u V4 =>
    e_cs (g_X9_rubsOf N a0 x1 V4) fun v6 V5 =>
    e_leq v6 ((-1)) (
      e_zs 1 V5) (
      e_lt (x4 + v6) fun v7 =>
      e_lt (x6 + (V5 a0 12)) fun v8 =>
      e_lt (x8 + 1) fun v9 =>
      k18 a0 x1 v7 v8 v9 V5))
def g_X9_standsWith_18 (N : Nat) : Nat → Nat → Int → Int → Int → Int → sj_VV → Option (Int × sj_VV)
  | 0 => fun _ _ _ _ _ _ => none
  | n + 1 => fun a0 x1 x4 x6 x8 V => g_X9_standsWith_18_b N (g_X9_standsWith_18 N n) a0 x1 x4 x6 x8 V
def g_X9_standsWith (N : Nat) (a0 : Nat) (x1 : Int) (x2 : Int) (V : sj_VV) : Option (Int × sj_VV) :=
  e_cs (g_X9_pulls N a0 V) fun v2 V1 =>
  e_lt ((-v2) - x2) fun v3 =>
  e_lt (V1 a0 13) fun v4 =>
  g_X9_standsWith_18 N N a0 x1 0 v3 v4 V1
noncomputable def f_X9_standsWith (N : Nat) (a0 : Nat) (x1 : Int) (x2 : Int) (s : sj_Mem) : Option (Int × sj_Mem) := e_ok (OK9 s.1 a0) ((g_X9_standsWith N a0 x1 x2 s.2).map (fun q => (q.1, (s.1, q.2))))
def g_X9_isStanding (N : Nat) (a0 : Nat) (x1 : Int) (V : sj_VV) : Option (Int × sj_VV) :=
  e_cs (g_X9_standsWith N a0 x1 0 V) fun v2 V1 =>
  e_zs v2 V1
noncomputable def f_X9_isStanding (N : Nat) (a0 : Nat) (x1 : Int) (s : sj_Mem) : Option (Int × sj_Mem) := e_ok (OK9 s.1 a0) ((g_X9_isStanding N a0 x1 s.2).map (fun q => (q.1, (s.1, q.2))))
def g_X9_factorOf_34 (N : Nat) (k6 : Nat → Int → Int → sj_VV → Option (Int × sj_VV)) (a0 : Nat) (x1 : Int) (x2 : Int) (V : sj_VV) : Option (Int × sj_VV) :=
  k6 a0 x1 x2 V
def g_X9_factorOf_6_b (N : Nat) (k6 : Nat → Int → Int → sj_VV → Option (Int × sj_VV)) (a0 : Nat) (x1 : Int) (x2 : Int) (V : sj_VV) : Option (Int × sj_VV) :=
  e_ile (x2 - x1) 1 (
    some (x1, V)) (
    e_dI (x1 + x2) 2 fun v1 =>
    e_cs (g_X9_isStanding N a0 v1 V) fun v3 V2 =>
    e_ieq v3 0 (
      g_X9_factorOf_34 N k6 a0 x1 v1 V2) (
      g_X9_factorOf_34 N k6 a0 v1 x2 V2))
def g_X9_factorOf_6 (N : Nat) : Nat → Nat → Int → Int → sj_VV → Option (Int × sj_VV)
  | 0 => fun _ _ _ _ => none
  | n + 1 => fun a0 x1 x2 V => g_X9_factorOf_6_b N (g_X9_factorOf_6 N n) a0 x1 x2 V
def g_X9_factorOf (N : Nat) (a0 : Nat) (V : sj_VV) : Option (Int × sj_VV) :=
  g_X9_factorOf_6 N N a0 0 20001 V
noncomputable def f_X9_factorOf (N : Nat) (a0 : Nat) (s : sj_Mem) : Option (Int × sj_Mem) := e_ok (OK9 s.1 a0) ((g_X9_factorOf N a0 s.2).map (fun q => (q.1, (s.1, q.2))))
def g_X9_factor (N : Nat) (a0 : Nat) (V : sj_VV) : Option (Int × sj_VV) :=
  e_cs (g_X9_takesSlip N a0 V) fun v2 V1 =>
  e_ieq v2 0 (
    some ((-1), V1)) (
    e_cs (g_X9_factorOf N a0 V1) fun v4 V3 =>
    some (v4, V3))
noncomputable def f_X9_factor (N : Nat) (a0 : Nat) (s : sj_Mem) : Option (Int × sj_Mem) := e_ok (OK9 s.1 a0) ((g_X9_factor N a0 s.2).map (fun q => (q.1, (s.1, q.2))))
def g_X9_says (N : Nat) (a0 : Nat) (x1 : Int) (V : sj_VV) : Option (Unit × sj_VV) :=
  e_ix 40 (V a0 26) fun _ =>
  e_lt (sj_up V (a0 + 9) (V a0 26).toNat x1) fun V1 =>
  e_lt (sj_up V1 a0 26 ((V1 a0 26) + 1)) fun V2 =>
  some ((), V2)
noncomputable def f_X9_says (N : Nat) (a0 : Nat) (x1 : Int) (s : sj_Mem) : Option (Unit × sj_Mem) := e_ok (OK9 s.1 a0) ((g_X9_says N a0 x1 s.2).map (fun q => (q.1, (s.1, q.2))))
def g_X9_saysNumber_14 (N : Nat) (rc : Nat → Int → sj_VV → Option (Unit × sj_VV)) (a0 : Nat) (x1 : Int) (V : sj_VV) : Option (Unit × sj_VV) :=
  e_rI x1 10 fun v1 =>
  e_cs (g_X9_says N a0 (48 + v1) V) fun _u V2 =>
  some ((), V2)
def g_X9_saysNumber_r (N : Nat) (rc : Nat → Int → sj_VV → Option (Unit × sj_VV)) (a0 : Nat) (x1 : Int) (V : sj_VV) : Option (Unit × sj_VV) :=
  e_ile x1 9 (
    g_X9_saysNumber_14 N rc a0 x1 V) (
    e_dI x1 10 fun v1 =>
    e_cs (rc a0 v1 V) fun _u V2 =>
    g_X9_saysNumber_14 N rc a0 x1 V2)
def g_X9_saysNumber (N : Nat) : Nat → Nat → Int → sj_VV → Option (Unit × sj_VV)
  | 0 => fun _ _ _ => none
  | d + 1 => g_X9_saysNumber_r N (g_X9_saysNumber N d)
noncomputable def f_X9_saysNumber (N : Nat) (_d : Nat) (a0 : Nat) (x1 : Int) (s : sj_Mem) : Option (Unit × sj_Mem) := e_ok (OK9 s.1 a0) ((g_X9_saysNumber N 12 a0 x1 s.2).map (fun q => (q.1, (s.1, q.2))))
def g_X9_report_120 (N : Nat) (a0 : Nat) (y0 : Int) (y1 : Nat) (V : sj_VV) : Option (Int × sj_VV) :=
  e_cs (g_X9_says N y1 y0 V) fun _u V1 =>
  some (V1 a0 26, V1)
def g_X9_report (N : Nat) (a0 : Nat) (V : sj_VV) : Option (Int × sj_VV) :=
  e_lt (sj_up V a0 26 0) fun V1 =>
  e_cs (g_X9_factor N a0 V1) fun v3 V2 =>
  e_ieq v3 ((-1)) (
    some ((-1), V2)) (
    e_dI v3 1000 fun v4 =>
    e_cs (g_X9_saysNumber N 12 a0 v4 V2) fun _u V5 =>
    e_cs (g_X9_says N a0 46 V5) fun _u V6 =>
    e_dI v3 100 fun v7 =>
    e_rI v7 10 fun v8 =>
    e_cs (g_X9_says N a0 (48 + v8) V6) fun _u V9 =>
    e_dI v3 10 fun v10 =>
    e_rI v10 10 fun v11 =>
    e_cs (g_X9_says N a0 (48 + v11) V9) fun _u V12 =>
    e_rI v3 10 fun v13 =>
    e_cs (g_X9_says N a0 (48 + v13) V12) fun _u V14 =>
    e_cs (g_X9_says N a0 32 V14) fun _u V15 =>
    e_cs (g_X9_saysNumber N 12 a0 (V15 a0 13) V15) fun _u V16 =>
    e_cs (g_X9_says N a0 45 V16) fun _u V17 =>
    e_cs (g_X9_saysNumber N 12 a0 (V17 a0 14) V17) fun _u V18 =>
    e_cs (g_X9_says N a0 32 V18) fun _u V19 =>
    e_ieq (V19 a0 15) 0 (
      g_X9_report_120 N a0 82 a0 V19) (
      g_X9_report_120 N a0 76 a0 V19))
noncomputable def f_X9_report (N : Nat) (a0 : Nat) (s : sj_Mem) : Option (Int × sj_Mem) := e_ok (OK9 s.1 a0) ((g_X9_report N a0 s.2).map (fun q => (q.1, (s.1, q.2))))
def g_X9_isK (N : Nat) (x0 : Int) (V : sj_VV) : Option (Int × sj_VV) :=
  e_wid x0 fun v1 =>
  e_cs (g_X9_isIn N v1 1 20000 V) fun v3 V2 =>
  e_zs v3 V2
noncomputable def f_X9_isK (N : Nat) (x0 : Int) (s : sj_Mem) : Option (Int × sj_Mem) := e_ok (True) ((g_X9_isK N x0 s.2).map (fun q => (q.1, (s.1, q.2))))
def g_X9_laysAside_2_b (N : Nat) (k2 : Nat → Int → sj_VV → Option (Unit × sj_VV)) (a0 : Nat) (x1 : Int) (V : sj_VV) : Option (Unit × sj_VV) :=
  e_ile 390 x1 (
    some ((), V)) (
    e_ix 390 x1 fun _ =>
    e_ix 390 x1 fun _ =>
    e_lt (sj_up V (a0 + 2) x1.toNat (V (a0 + 1) x1.toNat)) fun V1 =>
    e_lt (x1 + 1) fun v2 =>
    k2 a0 v2 V1)
def g_X9_laysAside_2 (N : Nat) : Nat → Nat → Int → sj_VV → Option (Unit × sj_VV)
  | 0 => fun _ _ _ => none
  | n + 1 => fun a0 x1 V => g_X9_laysAside_2_b N (g_X9_laysAside_2 N n) a0 x1 V
def g_X9_laysAside (N : Nat) (a0 : Nat) (V : sj_VV) : Option (Unit × sj_VV) :=
  g_X9_laysAside_2 N N a0 0 V
noncomputable def f_X9_laysAside (N : Nat) (a0 : Nat) (s : sj_Mem) : Option (Unit × sj_Mem) := e_ok (OK9 s.1 a0) ((g_X9_laysAside N a0 s.2).map (fun q => (q.1, (s.1, q.2))))
def g_X9_comesBack_2_b (N : Nat) (k2 : Nat → Int → sj_VV → Option (Unit × sj_VV)) (a0 : Nat) (x1 : Int) (V : sj_VV) : Option (Unit × sj_VV) :=
  e_ile 390 x1 (
    some ((), V)) (
    e_ix 390 x1 fun _ =>
    e_ix 390 x1 fun _ =>
    e_lt (sj_up V (a0 + 1) x1.toNat (V (a0 + 2) x1.toNat)) fun V1 =>
    e_lt (x1 + 1) fun v2 =>
    k2 a0 v2 V1)
def g_X9_comesBack_2 (N : Nat) : Nat → Nat → Int → sj_VV → Option (Unit × sj_VV)
  | 0 => fun _ _ _ => none
  | n + 1 => fun a0 x1 V => g_X9_comesBack_2_b N (g_X9_comesBack_2 N n) a0 x1 V
def g_X9_comesBack (N : Nat) (a0 : Nat) (V : sj_VV) : Option (Unit × sj_VV) :=
  g_X9_comesBack_2 N N a0 0 V
noncomputable def f_X9_comesBack (N : Nat) (a0 : Nat) (s : sj_Mem) : Option (Unit × sj_Mem) := e_ok (OK9 s.1 a0) ((g_X9_comesBack N a0 s.2).map (fun q => (q.1, (s.1, q.2))))
def g_X9_draw (N : Nat) (a0 : Nat) (x1 : Int) (V : sj_VV) : Option (Int × sj_VV) :=
  e_ix 390 389 fun _ =>
  e_ix 390 389 fun _ =>
  e_lt (sj_up V (a0 + 1) (389 : Int).toNat ((1664525 * (V (a0 + 1) (389 : Int).toNat)) + 1013904223)) fun V1 =>
  e_ix 390 389 fun _ =>
  e_ush (V1 (a0 + 1) (389 : Int).toNat) 8 fun v2 =>
  e_rI v2 x1 fun v3 =>
  some (v3, V1)
noncomputable def f_X9_draw (N : Nat) (a0 : Nat) (x1 : Int) (s : sj_Mem) : Option (Int × sj_Mem) := e_ok (OK9 s.1 a0) ((g_X9_draw N a0 x1 s.2).map (fun q => (q.1, (s.1, q.2))))
def g_X9_chance_68_b (N : Nat) (k50 : Nat → Int → Int → Int → Int → Int → sj_VV → Option (Int × sj_VV)) (k59 : Nat → Int → Int → Int → Int → Int → Int → sj_VV → Option (Int × sj_VV)) (k68 : Nat → Int → Int → Int → Int → Int → Int → Int → sj_VV → Option (Int × sj_VV)) (a0 : Nat) (x1 : Int) (x2 : Int) (x3 : Int) (x4 : Int) (x5 : Int) (x6 : Int) (x7 : Int) (V : sj_VV) : Option (Int × sj_VV) :=
  e_ile 3 x7 (
    e_lt (x6 + 1) fun v1 =>
    k59 a0 x1 x2 x3 x4 x5 v1 V) (
    e_ix 390 ((290 + (3 * x6)) + x7) fun _ =>
    e_cs (g_X9_draw N a0 ((2 * x2) + 1) V) fun v3 V2 =>
    e_dI ((V (a0 + 2) ((290 + (3 * x6)) + x7).toNat) * ((100 - x2) + v3)) 100 fun v4 =>
    e_ix 390 ((290 + (3 * x6)) + x7) fun _ =>
    e_lt (sj_up V2 (a0 + 1) ((290 + (3 * x6)) + x7).toNat v4) fun V5 =>
    e_lt (x7 + 1) fun v6 =>
    k68 a0 x1 x2 x3 x4 x5 x6 v6 V5)
def g_X9_chance_68 (N : Nat) (k50 : Nat → Int → Int → Int → Int → Int → sj_VV → Option (Int × sj_VV)) (k59 : Nat → Int → Int → Int → Int → Int → Int → sj_VV → Option (Int × sj_VV)) : Nat → Nat → Int → Int → Int → Int → Int → Int → Int → sj_VV → Option (Int × sj_VV)
  | 0 => fun _ _ _ _ _ _ _ _ _ => none
  | n + 1 => fun a0 x1 x2 x3 x4 x5 x6 x7 V => g_X9_chance_68_b N k50 k59 (g_X9_chance_68 N k50 k59 n) a0 x1 x2 x3 x4 x5 x6 x7 V
def g_X9_chance_151 (N : Nat) (k50 : Nat → Int → Int → Int → Int → Int → sj_VV → Option (Int × sj_VV)) (a0 : Nat) (x1 : Int) (x2 : Int) (x3 : Int) (x5 : Int) (y0 : Int) (y1 : Int) (V : sj_VV) : Option (Int × sj_VV) :=
  e_lt (y1 + y0) fun v1 =>
  e_lt (x5 + 1) fun v2 =>
  k50 a0 x1 x2 x3 v1 v2 V
def g_X9_chance_59_b (N : Nat) (k50 : Nat → Int → Int → Int → Int → Int → sj_VV → Option (Int × sj_VV)) (k59 : Nat → Int → Int → Int → Int → Int → Int → sj_VV → Option (Int × sj_VV)) (a0 : Nat) (x1 : Int) (x2 : Int) (x3 : Int) (x4 : Int) (x5 : Int) (x6 : Int) (V : sj_VV) : Option (Int × sj_VV) :=
  e_ile 4 x6 (
    e_cs (g_X9_isStanding N a0 x3 V) fun v2 V1 =>
    e_ieq v2 0 (
      g_X9_chance_151 N k50 a0 x1 x2 x3 x5 1 x4 V1) (
      g_X9_chance_151 N k50 a0 x1 x2 x3 x5 0 x4 V1)) (
    g_X9_chance_68 N k50 k59 N a0 x1 x2 x3 x4 x5 x6 1 V)
def g_X9_chance_59 (N : Nat) (k50 : Nat → Int → Int → Int → Int → Int → sj_VV → Option (Int × sj_VV)) : Nat → Nat → Int → Int → Int → Int → Int → Int → sj_VV → Option (Int × sj_VV)
  | 0 => fun _ _ _ _ _ _ _ _ => none
  | n + 1 => fun a0 x1 x2 x3 x4 x5 x6 V => g_X9_chance_59_b N k50 (g_X9_chance_59 N k50 n) a0 x1 x2 x3 x4 x5 x6 V
def g_X9_chance_50_b (N : Nat) (k50 : Nat → Int → Int → Int → Int → Int → sj_VV → Option (Int × sj_VV)) (a0 : Nat) (x1 : Int) (x2 : Int) (x3 : Int) (x4 : Int) (x5 : Int) (V : sj_VV) : Option (Int × sj_VV) :=
  e_ile x1 x5 (
    e_ix 390 389 fun _ =>
    e_lt (V (a0 + 1) (389 : Int).toNat) fun v1 =>
    e_cs (g_X9_comesBack N a0 V) fun _u V2 =>
    e_ix 390 389 fun _ =>
    e_lt (sj_up V2 (a0 + 1) (389 : Int).toNat v1) fun V3 =>
    some (x4, V3)) (
    g_X9_chance_59 N k50 N a0 x1 x2 x3 x4 x5 0 V)
def g_X9_chance_50 (N : Nat) : Nat → Nat → Int → Int → Int → Int → Int → sj_VV → Option (Int × sj_VV)
  | 0 => fun _ _ _ _ _ _ _ => none
  | n + 1 => fun a0 x1 x2 x3 x4 x5 V => g_X9_chance_50_b N (g_X9_chance_50 N n) a0 x1 x2 x3 x4 x5 V
def g_X9_chance (N : Nat) (a0 : Nat) (x1 : Int) (x2 : Int) (x3 : Int) (V : sj_VV) : Option (Int × sj_VV) :=
  e_wid x1 fun v1 =>
  e_cs (g_X9_isIn N v1 1 40 V) fun v3 V2 =>
  e_ieq v3 0 (
    some ((-1), V2)) (
    e_wid x2 fun v4 =>
    e_cs (g_X9_isIn N v4 0 50 V2) fun v6 V5 =>
    e_ieq v6 0 (
      some ((-1), V5)) (
      e_cs (g_X9_isK N x3 V5) fun v8 V7 =>
      e_ieq v8 0 (
        some ((-1), V7)) (
        e_cs (g_X9_takesSlip N a0 V7) fun v10 V9 =>
        e_ieq v10 0 (
          some ((-1), V9)) (
          e_cs (g_X9_laysAside N a0 V9) fun _u V11 =>
          g_X9_chance_50 N N a0 x1 x2 x3 0 0 V11))))
noncomputable def f_X9_chance (N : Nat) (a0 : Nat) (x1 : Int) (x2 : Int) (x3 : Int) (s : sj_Mem) : Option (Int × sj_Mem) := e_ok (OK9 s.1 a0) ((g_X9_chance N a0 x1 x2 x3 s.2).map (fun q => (q.1, (s.1, q.2))))
def g_X9_state (N : Nat) (a0 : Nat) (x1 : Int) (V : sj_VV) : Option (Int × sj_VV) :=
  e_ix 390 389 fun _ =>
  e_lt (V (a0 + 1) (389 : Int).toNat) fun v1 =>
  e_ix 390 389 fun _ =>
  e_lt (sj_up V (a0 + 1) (389 : Int).toNat x1) fun V2 =>
  some (v1, V2)
noncomputable def f_X9_state (N : Nat) (a0 : Nat) (x1 : Int) (s : sj_Mem) : Option (Int × sj_Mem) := e_ok (OK9 s.1 a0) ((g_X9_state N a0 x1 s.2).map (fun q => (q.1, (s.1, q.2))))
def g_X9_isCircle (N : Nat) (x0 : Int) (x1 : Int) (x2 : Int) (V : sj_VV) : Option (Int × sj_VV) :=
  e_wid x0 fun v1 =>
  e_cs (g_X9_isIn N v1 ((-50)) 450 V) fun v3 V2 =>
  e_ieq v3 0 (
    e_zs 0 V2) (
    e_wid x1 fun v4 =>
    e_cs (g_X9_isIn N v4 ((-50)) 450 V2) fun v6 V5 =>
    e_ieq v6 0 (
      e_zs 0 V5) (
      e_wid x2 fun v7 =>
      e_cs (g_X9_isIn N v7 1 500 V5) fun v9 V8 =>
      e_ieq v9 0 (
        e_zs 0 V8) (
        e_zs 1 V8)))
noncomputable def f_X9_isCircle (N : Nat) (x0 : Int) (x1 : Int) (x2 : Int) (s : sj_Mem) : Option (Int × sj_Mem) := e_ok (True) ((g_X9_isCircle N x0 x1 x2 s.2).map (fun q => (q.1, (s.1, q.2))))
def g_X9_root_2_b (N : Nat) (k2 : Int → Int → sj_VV → Option (Int × sj_VV)) (x0 : Int) (x1 : Int) (V : sj_VV) : Option (Int × sj_VV) :=
  e_ilt x0 ((x1 + 1) * (x1 + 1)) (
    some (x1, V)) (
    e_lt (x1 + 1) fun v1 =>
    k2 x0 v1 V)
def g_X9_root_2 (N : Nat) : Nat → Int → Int → sj_VV → Option (Int × sj_VV)
  | 0 => fun _ _ _ => none
  | n + 1 => fun x0 x1 V => g_X9_root_2_b N (g_X9_root_2 N n) x0 x1 V
def g_X9_root (N : Nat) (x0 : Int) (V : sj_VV) : Option (Int × sj_VV) :=
  g_X9_root_2 N N x0 0 V
noncomputable def f_X9_root (N : Nat) (x0 : Int) (s : sj_Mem) : Option (Int × sj_Mem) := e_ok (True) ((g_X9_root N x0 s.2).map (fun q => (q.1, (s.1, q.2))))
def g_X9_isBelow (N : Nat) (a0 : Nat) (x1 : Int) (x2 : Int) (x3 : Int) (x4 : Int) (V : sj_VV) : Option (Int × sj_VV) :=
  e_ix 390 1 fun _ =>
  e_lt (((V (a0 + 1) (1 : Int).toNat) * x1) - x2) fun v1 =>
  e_lt ((x4 * x4) - (v1 * v1)) fun v2 =>
  e_ile 0 v2 (
    e_cs (g_X9_root N v2 V) fun v4 V3 =>
    e_ix 390 (44 + x1) fun _ =>
    e_cs (g_X9_most N (x3 - v4) (V3 (a0 + 1) (44 + x1).toNat) V3) fun v6 V5 =>
    e_ix 41 x1 fun _ =>
    e_lt (sj_up V5 (a0 + 5) x1.toNat v6) fun V7 =>
    e_ix 41 x1 fun _ =>
    e_ix 390 (3 + x1) fun _ =>
    e_ile (V7 (a0 + 1) (3 + x1).toNat) (V7 (a0 + 5) x1.toNat) (
      e_zs 0 V7) (
      e_zs 1 V7)) (
    e_zs 0 V)
noncomputable def f_X9_isBelow (N : Nat) (a0 : Nat) (x1 : Int) (x2 : Int) (x3 : Int) (x4 : Int) (s : sj_Mem) : Option (Int × sj_Mem) := e_ok (OK9 s.1 a0) ((g_X9_isBelow N a0 x1 x2 x3 x4 s.2).map (fun q => (q.1, (s.1, q.2))))
def g_X9_cuts_83 (N : Nat) (a0 : Nat) (x4 : Int) (x5 : Int) (x6 : Int) (V : sj_VV) : Option (Int × sj_VV) :=
  e_ix 390 0 fun _ =>
  e_ile x6 (V (a0 + 1) (0 : Int).toNat) (
    e_lt (sj_up V a0 13 (x5 - 1)) fun V1 =>
    e_lt (sj_up V1 a0 14 x6) fun V2 =>
    e_zz x4 fun _ =>
    e_lt (sj_up V2 a0 15 x4) fun V3 =>
    e_ix 390 (3 + (V3 a0 13)) fun _ =>
    e_ix 41 (V3 a0 13) fun _ =>
    e_lt (sj_up V3 (a0 + 5) (V3 a0 13).toNat (V3 (a0 + 1) (3 + (V3 a0 13)).toNat)) fun V4 =>
    e_ix 390 (3 + (V4 a0 14)) fun _ =>
    e_ix 41 (V4 a0 14) fun _ =>
    e_lt (sj_up V4 (a0 + 5) (V4 a0 14).toNat (V4 (a0 + 1) (3 + (V4 a0 14)).toNat)) fun V5 =>
    e_zs 1 V5) (
    e_zs 0 V)
def g_X9_cuts_54_b (N : Nat) (k54 : Nat → Int → Int → Int → Int → Int → Int → sj_VV → Option (Int × sj_VV)) (a0 : Nat) (x1 : Int) (x2 : Int) (x3 : Int) (x4 : Int) (x5 : Int) (x6 : Int) (V : sj_VV) : Option (Int × sj_VV) :=
  e_ix 390 0 fun _ =>
  e_ilt (V (a0 + 1) (0 : Int).toNat) x6 (
    g_X9_cuts_83 N a0 x4 x5 x6 V) (
    e_cs (g_X9_isBelow N a0 x6 x1 x2 x3 V) fun v2 V1 =>
    e_ieq v2 0 (
      g_X9_cuts_83 N a0 x4 x5 x6 V1) (
      e_lt (x6 + 1) fun v3 =>
      k54 a0 x1 x2 x3 x4 x5 v3 V1))
def g_X9_cuts_54 (N : Nat) : Nat → Nat → Int → Int → Int → Int → Int → Int → sj_VV → Option (Int × sj_VV)
  | 0 => fun _ _ _ _ _ _ _ _ => none
  | n + 1 => fun a0 x1 x2 x3 x4 x5 x6 V => g_X9_cuts_54_b N (g_X9_cuts_54 N n) a0 x1 x2 x3 x4 x5 x6 V
def g_X9_cuts_32 (N : Nat) (a0 : Nat) (x1 : Int) (x2 : Int) (x3 : Int) (x4 : Int) (x5 : Int) (V : sj_VV) : Option (Int × sj_VV) :=
  e_ieq x5 0 (
    e_zs 0 V) (
    e_ix 390 0 fun _ =>
    e_ile x5 (V (a0 + 1) (0 : Int).toNat) (
      g_X9_cuts_54 N N a0 x1 x2 x3 x4 x5 x5 V) (
      e_zs 0 V))
def g_X9_cuts_3_b (N : Nat) (k3 : Nat → Int → Int → Int → Int → Int → sj_VV → Option (Int × sj_VV)) (a0 : Nat) (x1 : Int) (x2 : Int) (x3 : Int) (x4 : Int) (x5 : Int) (V : sj_VV) : Option (Int × sj_VV) :=
  e_ix 390 0 fun _ =>
  e_ilt (V (a0 + 1) (0 : Int).toNat) x5 (
    g_X9_cuts_32 N a0 x1 x2 x3 x4 x5 V) (
    e_cs (g_X9_isBelow N a0 x5 x1 x2 x3 V) fun v2 V1 =>
    e_ieq v2 0 (
      e_lt (x5 + 1) fun v3 =>
      k3 a0 x1 x2 x3 x4 v3 V1) (
      g_X9_cuts_32 N a0 x1 x2 x3 x4 x5 V1))
def g_X9_cuts_3 (N : Nat) : Nat → Nat → Int → Int → Int → Int → Int → sj_VV → Option (Int × sj_VV)
  | 0 => fun _ _ _ _ _ _ _ => none
  | n + 1 => fun a0 x1 x2 x3 x4 x5 V => g_X9_cuts_3_b N (g_X9_cuts_3 N n) a0 x1 x2 x3 x4 x5 V
def g_X9_cuts (N : Nat) (a0 : Nat) (x1 : Int) (x2 : Int) (x3 : Int) (x4 : Int) (V : sj_VV) : Option (Int × sj_VV) :=
  g_X9_cuts_3 N N a0 x1 x2 x3 x4 0 V
noncomputable def f_X9_cuts (N : Nat) (a0 : Nat) (x1 : Int) (x2 : Int) (x3 : Int) (x4 : Int) (s : sj_Mem) : Option (Int × sj_Mem) := e_ok (OK9 s.1 a0) ((g_X9_cuts N a0 x1 x2 x3 x4 s.2).map (fun q => (q.1, (s.1, q.2))))
def g_X9_factorBy (N : Nat) (a0 : Nat) (x1 : Int) (x2 : Int) (x3 : Int) (x4 : Int) (V : sj_VV) : Option (Int × sj_VV) :=
  e_cs (g_X9_isCircle N x1 x2 x3 V) fun v2 V1 =>
  e_ieq v2 0 (
    some ((-1), V1)) (
    e_cs (g_X9_cuts N a0 x1 x2 x3 x4 V1) fun v4 V3 =>
    e_ieq v4 0 (
      some ((-1), V3)) (
      e_cs (g_X9_factorOf N a0 V3) fun v6 V5 =>
      some (v6, V5)))
noncomputable def f_X9_factorBy (N : Nat) (a0 : Nat) (x1 : Int) (x2 : Int) (x3 : Int) (x4 : Int) (s : sj_Mem) : Option (Int × sj_Mem) := e_ok (OK9 s.1 a0) ((g_X9_factorBy N a0 x1 x2 x3 x4 s.2).map (fun q => (q.1, (s.1, q.2))))
def g_X9_scan_139 (N : Nat) (k52 : Nat → Int → Int → Int → Int → Int → Int → Int → Int → Int → Int → sj_VV → Option (Int × sj_VV)) (a0 : Nat) (x1 : Int) (x2 : Int) (x3 : Int) (x4 : Int) (x5 : Int) (x6 : Int) (x7 : Int) (x8 : Int) (x10 : Int) (y0 : Int) (y1 : Int) (V : sj_VV) : Option (Int × sj_VV) :=
  e_lt (y1 + y0) fun v1 =>
  e_lt (x10 + 1) fun v2 =>
  k52 a0 x1 x2 x3 x4 x5 x6 x7 x8 v1 v2 V
def g_X9_scan_138 (N : Nat) (k52 : Nat → Int → Int → Int → Int → Int → Int → Int → Int → Int → Int → sj_VV → Option (Int × sj_VV)) (a0 : Nat) (x1 : Int) (x2 : Int) (x3 : Int) (x4 : Int) (x5 : Int) (x6 : Int) (x7 : Int) (x8 : Int) (x10 : Int) (y0 : Int) (V : sj_VV) : Option (Int × sj_VV) :=
  g_X9_scan_139 N k52 a0 x1 x2 x3 x4 x5 x6 x7 x8 x10 0 y0 V
def g_X9_scan_116 (N : Nat) (k52 : Nat → Int → Int → Int → Int → Int → Int → Int → Int → Int → Int → sj_VV → Option (Int × sj_VV)) (a0 : Nat) (x1 : Int) (x2 : Int) (x3 : Int) (x4 : Int) (x5 : Int) (x6 : Int) (x7 : Int) (x9 : Int) (x10 : Int) (x11 : Int) (y0 : Int) (y1 : Int) (V : sj_VV) : Option (Int × sj_VV) :=
  e_lt (y1 + y0) fun v1 =>
  e_ieq x11 ((-1)) (
    g_X9_scan_138 N k52 a0 x1 x2 x3 x4 x5 x6 x7 v1 x10 x9 V) (
    e_ile x6 x11 (
      g_X9_scan_138 N k52 a0 x1 x2 x3 x4 x5 x6 x7 v1 x10 x9 V) (
      g_X9_scan_139 N k52 a0 x1 x2 x3 x4 x5 x6 x7 v1 x10 1 x9 V))
def g_X9_scan_52_b (N : Nat) (k52 : Nat → Int → Int → Int → Int → Int → Int → Int → Int → Int → Int → sj_VV → Option (Int × sj_VV)) (a0 : Nat) (x1 : Int) (x2 : Int) (x3 : Int) (x4 : Int) (x5 : Int) (x6 : Int) (x7 : Int) (x8 : Int) (x9 : Int) (x10 : Int) (V : sj_VV) : Option (Int × sj_VV) :=
  e_ile 125 x10 (
    e_ieq x7 0 (
      some (x8, V)) (
      some (x9, V))) (
    e_dI x10 25 fun v1 =>
    e_dI x10 5 fun v2 =>
    e_rI v2 5 fun v3 =>
    e_rI x10 5 fun v4 =>
    e_cs (g_X9_factorBy N a0 (x1 + (x4 * (v1 - 2))) (x2 + (x4 * (v3 - 2))) (x3 + (x4 * (v4 - 2))) x5 V) fun v6 V5 =>
    e_ieq v6 ((-1)) (
      g_X9_scan_116 N k52 a0 x1 x2 x3 x4 x5 x6 x7 x9 x10 v6 0 x8 V5) (
      g_X9_scan_116 N k52 a0 x1 x2 x3 x4 x5 x6 x7 x9 x10 v6 1 x8 V5))
def g_X9_scan_52 (N : Nat) : Nat → Nat → Int → Int → Int → Int → Int → Int → Int → Int → Int → Int → sj_VV → Option (Int × sj_VV)
  | 0 => fun _ _ _ _ _ _ _ _ _ _ _ _ => none
  | n + 1 => fun a0 x1 x2 x3 x4 x5 x6 x7 x8 x9 x10 V => g_X9_scan_52_b N (g_X9_scan_52 N n) a0 x1 x2 x3 x4 x5 x6 x7 x8 x9 x10 V
def g_X9_scan (N : Nat) (a0 : Nat) (x1 : Int) (x2 : Int) (x3 : Int) (x4 : Int) (x5 : Int) (x6 : Int) (x7 : Int) (V : sj_VV) : Option (Int × sj_VV) :=
  e_cs (g_X9_isCircle N x1 x2 x3 V) fun v2 V1 =>
  e_ieq v2 0 (
    some ((-1), V1)) (
    e_wid x4 fun v3 =>
    e_cs (g_X9_isIn N v3 1 64 V1) fun v5 V4 =>
    e_ieq v5 0 (
      some ((-1), V4)) (
      e_cs (g_X9_isK N x6 V4) fun v7 V6 =>
      e_ieq v7 0 (
        some ((-1), V6)) (
        e_wid x7 fun v8 =>
        e_cs (g_X9_isIn N v8 0 1 V6) fun v10 V9 =>
        e_ieq v10 0 (
          some ((-1), V9)) (
          g_X9_scan_52 N N a0 x1 x2 x3 x4 x5 x6 x7 0 0 0 V9))))
noncomputable def f_X9_scan (N : Nat) (a0 : Nat) (x1 : Int) (x2 : Int) (x3 : Int) (x4 : Int) (x5 : Int) (x6 : Int) (x7 : Int) (s : sj_Mem) : Option (Int × sj_Mem) := e_ok (OK9 s.1 a0) ((g_X9_scan N a0 x1 x2 x3 x4 x5 x6 x7 s.2).map (fun q => (q.1, (s.1, q.2))))
def g_X9_isColumn (N : Nat) (a0 : Nat) (x1 : Int) (V : sj_VV) : Option (Int × sj_VV) :=
  e_wid x1 fun v1 =>
  e_ix 390 0 fun _ =>
  e_wid (V (a0 + 1) (0 : Int).toNat) fun v2 =>
  e_cs (g_X9_isIn N v1 0 v2 V) fun v4 V3 =>
  e_zs v4 V3
noncomputable def f_X9_isColumn (N : Nat) (a0 : Nat) (x1 : Int) (s : sj_Mem) : Option (Int × sj_Mem) := e_ok (OK9 s.1 a0) ((g_X9_isColumn N a0 x1 s.2).map (fun q => (q.1, (s.1, q.2))))
def g_X9_isBetter_117 (N : Nat) (k14 : Nat → Int → Int → Int → Int → Int → Int → Int → sj_VV → Option (Int × sj_VV)) (a0 : Nat) (x1 : Int) (x2 : Int) (x3 : Int) (x4 : Int) (x5 : Int) (x6 : Int) (x7 : Int) (V : sj_VV) : Option (Int × sj_VV) :=
  e_lt (x7 + 1) fun v1 =>
  k14 a0 x1 x2 x3 x4 x5 x6 v1 V
def g_X9_isBetter_102 (N : Nat) (k14 : Nat → Int → Int → Int → Int → Int → Int → Int → sj_VV → Option (Int × sj_VV)) (a0 : Nat) (x1 : Int) (x2 : Int) (x7 : Int) (x8 : Int) (x9 : Int) (x10 : Int) (x11 : Int) (V : sj_VV) : Option (Int × sj_VV) :=
  g_X9_isBetter_117 N k14 a0 x1 x2 x11 x8 x9 x10 x7 V
def g_X9_isBetter_146 (N : Nat) (a0 : Nat) (x3 : Int) (x4 : Int) (x5 : Int) (x6 : Int) (V : sj_VV) : Option (Int × sj_VV) :=
  e_lt (sj_up V a0 20 x3) fun V1 =>
  e_lt (sj_up V1 a0 17 x4) fun V2 =>
  e_lt (sj_up V2 a0 18 x5) fun V3 =>
  e_lt (sj_up V3 a0 19 x6) fun V4 =>
  e_zs 1 V4
def g_X9_isBetter_14_b (N : Nat) (k14 : Nat → Int → Int → Int → Int → Int → Int → Int → sj_VV → Option (Int × sj_VV)) (a0 : Nat) (x1 : Int) (x2 : Int) (x3 : Int) (x4 : Int) (x5 : Int) (x6 : Int) (x7 : Int) (V : sj_VV) : Option (Int × sj_VV) :=
  e_ile 27 x7 (
    e_ieq x3 ((-1)) (
      e_zs 0 V) (
      e_ieq (V a0 20) ((-1)) (
        g_X9_isBetter_146 N a0 x3 x4 x5 x6 V) (
        e_ilt x3 (V a0 20) (
          g_X9_isBetter_146 N a0 x3 x4 x5 x6 V) (
          e_zs 0 V)))) (
    e_dI x7 9 fun v1 =>
    e_lt ((V a0 17) + (x1 * (v1 - 1))) fun v2 =>
    e_dI x7 3 fun v3 =>
    e_rI v3 3 fun v4 =>
    e_lt ((V a0 18) + (x1 * (v4 - 1))) fun v5 =>
    e_rI x7 3 fun v6 =>
    e_lt ((V a0 19) + (x1 * (v6 - 1))) fun v7 =>
    e_cs (g_X9_factorBy N a0 v2 v5 v7 x2 V) fun v9 V8 =>
    e_ieq v9 ((-1)) (
      g_X9_isBetter_117 N k14 a0 x1 x2 x3 x4 x5 x6 x7 V8) (
      e_ieq x3 ((-1)) (
        g_X9_isBetter_102 N k14 a0 x1 x2 x7 v2 v5 v7 v9 V8) (
        e_ilt v9 x3 (
          g_X9_isBetter_102 N k14 a0 x1 x2 x7 v2 v5 v7 v9 V8) (
          g_X9_isBetter_117 N k14 a0 x1 x2 x3 x4 x5 x6 x7 V8))))
def g_X9_isBetter_14 (N : Nat) : Nat → Nat → Int → Int → Int → Int → Int → Int → Int → sj_VV → Option (Int × sj_VV)
  | 0 => fun _ _ _ _ _ _ _ _ _ => none
  | n + 1 => fun a0 x1 x2 x3 x4 x5 x6 x7 V => g_X9_isBetter_14_b N (g_X9_isBetter_14 N n) a0 x1 x2 x3 x4 x5 x6 x7 V
def g_X9_isBetter (N : Nat) (a0 : Nat) (x1 : Int) (x2 : Int) (V : sj_VV) : Option (Int × sj_VV) :=
  g_X9_isBetter_14 N N a0 x1 x2 ((-1)) 0 0 0 0 V
noncomputable def f_X9_isBetter (N : Nat) (a0 : Nat) (x1 : Int) (x2 : Int) (s : sj_Mem) : Option (Int × sj_Mem) := e_ok (OK9 s.1 a0) ((g_X9_isBetter N a0 x1 x2 s.2).map (fun q => (q.1, (s.1, q.2))))
def g_X9_searches_68 (N : Nat) (k37 : Nat → Int → Int → sj_VV → Option (Int × sj_VV)) (a0 : Nat) (x5 : Int) (x6 : Int) (V : sj_VV) : Option (Int × sj_VV) :=
  e_lt (sj_up V a0 21 ((V a0 21) + 1)) fun V1 =>
  k37 a0 x5 x6 V1
def g_X9_searches_37_b (N : Nat) (k37 : Nat → Int → Int → sj_VV → Option (Int × sj_VV)) (a0 : Nat) (x5 : Int) (x6 : Int) (V : sj_VV) : Option (Int × sj_VV) :=
  e_ile x6 0 (
    some (V a0 20, V)) (
    e_ile 60 (V a0 21) (
      some (V a0 20, V)) (
      e_cs (g_X9_isBetter N a0 x6 x5 V) fun v2 V1 =>
      e_ieq v2 0 (
        e_dI x6 2 fun v3 =>
        g_X9_searches_68 N k37 a0 x5 v3 V1) (
        g_X9_searches_68 N k37 a0 x5 x6 V1)))
def g_X9_searches_37 (N : Nat) : Nat → Nat → Int → Int → sj_VV → Option (Int × sj_VV)
  | 0 => fun _ _ _ _ => none
  | n + 1 => fun a0 x5 x6 V => g_X9_searches_37_b N (g_X9_searches_37 N n) a0 x5 x6 V
def g_X9_searches (N : Nat) (a0 : Nat) (x1 : Int) (x2 : Int) (x3 : Int) (x4 : Int) (x5 : Int) (V : sj_VV) : Option (Int × sj_VV) :=
  e_lt (sj_up V a0 17 x1) fun V1 =>
  e_lt (sj_up V1 a0 18 x2) fun V2 =>
  e_lt (sj_up V2 a0 19 x3) fun V3 =>
  e_cs (g_X9_factorBy N a0 x1 x2 x3 x5 V3) fun v5 V4 =>
  e_lt (sj_up V4 a0 20 v5) fun V6 =>
  e_lt (sj_up V6 a0 21 0) fun V7 =>
  g_X9_searches_37 N N a0 x5 x4 V7
noncomputable def f_X9_searches (N : Nat) (a0 : Nat) (x1 : Int) (x2 : Int) (x3 : Int) (x4 : Int) (x5 : Int) (s : sj_Mem) : Option (Int × sj_Mem) := e_ok (OK9 s.1 a0) ((g_X9_searches N a0 x1 x2 x3 x4 x5 s.2).map (fun q => (q.1, (s.1, q.2))))
def g_X9_deep_133 (N : Nat) (k62 : Nat → Int → Int → Int → Int → Int → Int → Int → Int → Int → Int → sj_VV → Option (Int × sj_VV)) (a0 : Nat) (x1 : Int) (x2 : Int) (x3 : Int) (x4 : Int) (x5 : Int) (x6 : Int) (x7 : Int) (x8 : Int) (x10 : Int) (y0 : Int) (y1 : Int) (V : sj_VV) : Option (Int × sj_VV) :=
  e_lt (y1 + y0) fun v1 =>
  k62 a0 x1 x2 x3 x4 x5 x6 x7 x8 v1 x10 V
def g_X9_deep_119 (N : Nat) (k62 : Nat → Int → Int → Int → Int → Int → Int → Int → Int → Int → Int → sj_VV → Option (Int × sj_VV)) (a0 : Nat) (x1 : Int) (x2 : Int) (x3 : Int) (x4 : Int) (x5 : Int) (x6 : Int) (x7 : Int) (x8 : Int) (x9 : Int) (y0 : Int) (V : sj_VV) : Option (Int × sj_VV) :=
  e_ieq y0 0 (
    g_X9_deep_133 N k62 a0 x1 x2 x3 x4 x5 x6 x7 x8 y0 0 x9 V) (
    g_X9_deep_133 N k62 a0 x1 x2 x3 x4 x5 x6 x7 x8 y0 1 x9 V)
def g_X9_deep_114 (N : Nat) (k62 : Nat → Int → Int → Int → Int → Int → Int → Int → Int → Int → Int → sj_VV → Option (Int × sj_VV)) (a0 : Nat) (x1 : Int) (x2 : Int) (x3 : Int) (x4 : Int) (x5 : Int) (x6 : Int) (x7 : Int) (x8 : Int) (x9 : Int) (V : sj_VV) : Option (Int × sj_VV) :=
  g_X9_deep_119 N k62 a0 x1 x2 x3 x4 x5 x6 x7 x8 x9 1 V
def g_X9_deep_139 (N : Nat) (a0 : Nat) (x1 : Int) (x7 : Int) (x9 : Int) (V : sj_VV) : Option (Int × sj_VV) :=
  e_ix 390 (3 + x1) fun _ =>
  e_lt (sj_up V (a0 + 1) (3 + x1).toNat x7) fun V1 =>
  some (x9 - 1, V1)
def g_X9_deep_62_b (N : Nat) (k62 : Nat → Int → Int → Int → Int → Int → Int → Int → Int → Int → Int → sj_VV → Option (Int × sj_VV)) (a0 : Nat) (x1 : Int) (x2 : Int) (x3 : Int) (x4 : Int) (x5 : Int) (x6 : Int) (x7 : Int) (x8 : Int) (x9 : Int) (x10 : Int) (V : sj_VV) : Option (Int × sj_VV) :=
  e_ieq x10 0 (
    g_X9_deep_139 N a0 x1 x7 x9 V) (
    e_ilt x8 x9 (
      g_X9_deep_139 N a0 x1 x7 x9 V) (
      e_ix 390 (3 + x1) fun _ =>
      e_lt (sj_up V (a0 + 1) (3 + x1).toNat (x7 - x9)) fun V1 =>
      e_cs (g_X9_searches N a0 x3 x4 x5 8 x6 V1) fun v3 V2 =>
      e_ieq v3 ((-1)) (
        g_X9_deep_114 N k62 a0 x1 x2 x3 x4 x5 x6 x7 x8 x9 V2) (
        e_ilt v3 x2 (
          g_X9_deep_119 N k62 a0 x1 x2 x3 x4 x5 x6 x7 x8 x9 0 V2) (
          g_X9_deep_114 N k62 a0 x1 x2 x3 x4 x5 x6 x7 x8 x9 V2))))
def g_X9_deep_62 (N : Nat) : Nat → Nat → Int → Int → Int → Int → Int → Int → Int → Int → Int → Int → sj_VV → Option (Int × sj_VV)
  | 0 => fun _ _ _ _ _ _ _ _ _ _ _ _ => none
  | n + 1 => fun a0 x1 x2 x3 x4 x5 x6 x7 x8 x9 x10 V => g_X9_deep_62_b N (g_X9_deep_62 N n) a0 x1 x2 x3 x4 x5 x6 x7 x8 x9 x10 V
def g_X9_deep (N : Nat) (a0 : Nat) (x1 : Int) (x2 : Int) (x3 : Int) (x4 : Int) (x5 : Int) (x6 : Int) (V : sj_VV) : Option (Int × sj_VV) :=
  e_cs (g_X9_isColumn N a0 x1 V) fun v2 V1 =>
  e_ieq v2 0 (
    some ((-1), V1)) (
    e_cs (g_X9_isCircle N x3 x4 x5 V1) fun v4 V3 =>
    e_ieq v4 0 (
      some ((-1), V3)) (
      e_cs (g_X9_isK N x2 V3) fun v6 V5 =>
      e_ieq v6 0 (
        some ((-1), V5)) (
        e_ix 390 (3 + x1) fun _ =>
        e_lt (V5 (a0 + 1) (3 + x1).toNat) fun v7 =>
        e_ix 390 (44 + x1) fun _ =>
        e_cs (g_X9_least N 5 (v7 - (V5 (a0 + 1) (44 + x1).toNat)) V5) fun v9 V8 =>
        g_X9_deep_62 N N a0 x1 x2 x3 x4 x5 x6 v7 v9 0 1 V8)))
noncomputable def f_X9_deep (N : Nat) (a0 : Nat) (x1 : Int) (x2 : Int) (x3 : Int) (x4 : Int) (x5 : Int) (x6 : Int) (s : sj_Mem) : Option (Int × sj_Mem) := e_ok (OK9 s.1 a0) ((g_X9_deep N a0 x1 x2 x3 x4 x5 x6 s.2).map (fun q => (q.1, (s.1, q.2))))
def g_X9_hasFast_5_b (N : Nat) (k5 : Nat → Int → Int → Int → sj_VV → Option (Int × sj_VV)) (a0 : Nat) (x1 : Int) (x2 : Int) (x3 : Int) (V : sj_VV) : Option (Int × sj_VV) :=
  e_ilt x1 x3 (
    e_zs 0 V) (
    e_cs (g_X9_laysAt N a0 x3 V) fun _u V1 =>
    e_cs (g_X9_rubsOf N a0 x2 V1) fun v3 V2 =>
    e_leq v3 ((-1)) (
      e_zs 1 V2) (
      e_lt (x3 + 1) fun v4 =>
      k5 a0 x1 x2 v4 V2))
def g_X9_hasFast_5 (N : Nat) : Nat → Nat → Int → Int → Int → sj_VV → Option (Int × sj_VV)
  | 0 => fun _ _ _ _ _ => none
  | n + 1 => fun a0 x1 x2 x3 V => g_X9_hasFast_5_b N (g_X9_hasFast_5 N n) a0 x1 x2 x3 V
def g_X9_hasFast (N : Nat) (a0 : Nat) (x1 : Int) (x2 : Int) (V : sj_VV) : Option (Int × sj_VV) :=
  e_lt (V a0 13) fun v1 =>
  g_X9_hasFast_5 N N a0 x1 x2 v1 V
noncomputable def f_X9_hasFast (N : Nat) (a0 : Nat) (x1 : Int) (x2 : Int) (s : sj_Mem) : Option (Int × sj_Mem) := e_ok (OK9 s.1 a0) ((g_X9_hasFast N a0 x1 x2 s.2).map (fun q => (q.1, (s.1, q.2))))
def g_X9_downwards (N : Nat) (x0 : Int) (x2 : Int) (V : sj_VV) : Option (Int × sj_VV) :=
  e_llt x0 0 (
    e_dJ ((x2 - 1) - x0) x2 fun v1 =>
    some (-v1, V)) (
    e_dJ x0 x2 fun v2 =>
    some (v2, V))
noncomputable def f_X9_downwards (N : Nat) (x0 : Int) (x2 : Int) (s : sj_Mem) : Option (Int × sj_Mem) := e_ok (True) ((g_X9_downwards N x0 x2 s.2).map (fun q => (q.1, (s.1, q.2))))
def g_X9_thrustOf_8_b (N : Nat) (k8 : Nat → Int → Int → Int → Int → sj_VV → Option (Int × sj_VV)) (a0 : Nat) (x1 : Int) (x2 : Int) (x3 : Int) (x5 : Int) (V : sj_VV) : Option (Int × sj_VV) :=
  e_ilt x1 x5 (
    some (x3, V)) (
    e_cs (g_X9_laysAt N a0 x5 V) fun _u V1 =>
    e_wid x2 fun v2 =>
    e_cs (g_X9_downwards N (v2 * (V1 a0 12)) 1000 V1) fun v4 V3 =>
    e_cs (g_X9_rubsOf N a0 x2 V3) fun v6 V5 =>
    e_lt (x3 + (v4 - v6)) fun v7 =>
    e_lt (x5 + 1) fun v8 =>
    k8 a0 x1 x2 v7 v8 V5)
def g_X9_thrustOf_8 (N : Nat) : Nat → Nat → Int → Int → Int → Int → sj_VV → Option (Int × sj_VV)
  | 0 => fun _ _ _ _ _ _ => none
  | n + 1 => fun a0 x1 x2 x3 x5 V => g_X9_thrustOf_8_b N (g_X9_thrustOf_8 N n) a0 x1 x2 x3 x5 V
def g_X9_thrustOf (N : Nat) (a0 : Nat) (x1 : Int) (x2 : Int) (V : sj_VV) : Option (Int × sj_VV) :=
  e_lt (V a0 13) fun v1 =>
  g_X9_thrustOf_8 N N a0 x1 x2 0 v1 V
noncomputable def f_X9_thrustOf (N : Nat) (a0 : Nat) (x1 : Int) (x2 : Int) (s : sj_Mem) : Option (Int × sj_Mem) := e_ok (OK9 s.1 a0) ((g_X9_thrustOf N a0 x1 x2 s.2).map (fun q => (q.1, (s.1, q.2))))
def g_X9_crest_68 (N : Nat) (k42 : Nat → Int → Int → Int → sj_VV → Option (Int × sj_VV)) (a0 : Nat) (x1 : Int) (x2 : Int) (x3 : Int) (V : sj_VV) : Option (Int × sj_VV) :=
  e_lt (x3 + 1) fun v1 =>
  k42 a0 x1 x2 v1 V
def g_X9_crest_42_b (N : Nat) (k42 : Nat → Int → Int → Int → sj_VV → Option (Int × sj_VV)) (a0 : Nat) (x1 : Int) (x2 : Int) (x3 : Int) (V : sj_VV) : Option (Int × sj_VV) :=
  e_ile (V a0 14) x3 (
    some (x2 - (V a0 13), V)) (
    e_cs (g_X9_thrustOf N a0 x3 x1 V) fun v2 V1 =>
    e_cs (g_X9_thrustOf N a0 x2 x1 V1) fun v4 V3 =>
    e_lle v2 v4 (
      g_X9_crest_68 N k42 a0 x1 x2 x3 V3) (
      g_X9_crest_68 N k42 a0 x1 x3 x3 V3))
def g_X9_crest_42 (N : Nat) : Nat → Nat → Int → Int → Int → sj_VV → Option (Int × sj_VV)
  | 0 => fun _ _ _ _ _ => none
  | n + 1 => fun a0 x1 x2 x3 V => g_X9_crest_42_b N (g_X9_crest_42 N n) a0 x1 x2 x3 V
def g_X9_crest (N : Nat) (a0 : Nat) (x1 : Int) (V : sj_VV) : Option (Int × sj_VV) :=
  e_cs (g_X9_isK N x1 V) fun v2 V1 =>
  e_ieq v2 0 (
    some ((-1), V1)) (
    e_cs (g_X9_takesSlip N a0 V1) fun v4 V3 =>
    e_ieq v4 0 (
      some ((-1), V3)) (
      e_cs (g_X9_hasFast N a0 ((V3 a0 14) - 1) x1 V3) fun v6 V5 =>
      e_ieq v6 0 (
        e_lt (V5 a0 13) fun v7 =>
        e_lt ((V5 a0 13) + 1) fun v8 =>
        g_X9_crest_42 N N a0 x1 v7 v8 V5) (
        some ((-1), V5))))
noncomputable def f_X9_crest (N : Nat) (a0 : Nat) (x1 : Int) (s : sj_Mem) : Option (Int × sj_Mem) := e_ok (OK9 s.1 a0) ((g_X9_crest N a0 x1 s.2).map (fun q => (q.1, (s.1, q.2))))
def g_X9_isSlice (N : Nat) (a0 : Nat) (x1 : Int) (V : sj_VV) : Option (Int × sj_VV) :=
  e_cs (g_X9_takesSlip N a0 V) fun v2 V1 =>
  e_ieq v2 0 (
    e_zs 0 V1) (
    e_wid x1 fun v3 =>
    e_wid (((V1 a0 14) - (V1 a0 13)) - 1) fun v4 =>
    e_cs (g_X9_isIn N v3 0 v4 V1) fun v6 V5 =>
    e_ieq v6 0 (
      e_zs 0 V5) (
      e_zs 1 V5))
noncomputable def f_X9_isSlice (N : Nat) (a0 : Nat) (x1 : Int) (s : sj_Mem) : Option (Int × sj_Mem) := e_ok (OK9 s.1 a0) ((g_X9_isSlice N a0 x1 s.2).map (fun q => (q.1, (s.1, q.2))))
def g_X9_thrust (N : Nat) (a0 : Nat) (x1 : Int) (x2 : Int) (V : sj_VV) : Option (Int × sj_VV) :=
  e_cs (g_X9_isSlice N a0 x1 V) fun v2 V1 =>
  e_ieq v2 0 (
    some ((-10000000000000000), V1)) (
    e_cs (g_X9_isK N x2 V1) fun v4 V3 =>
    e_ieq v4 0 (
      some ((-10000000000000000), V3)) (
      e_cs (g_X9_hasFast N a0 ((V3 a0 13) + x1) x2 V3) fun v6 V5 =>
      e_ieq v6 0 (
        e_cs (g_X9_thrustOf N a0 ((V5 a0 13) + x1) x2 V5) fun v8 V7 =>
        some (v8, V7)) (
        some ((-10000000000000000), V5))))
noncomputable def f_X9_thrust (N : Nat) (a0 : Nat) (x1 : Int) (x2 : Int) (s : sj_Mem) : Option (Int × sj_Mem) := e_ok (OK9 s.1 a0) ((g_X9_thrust N a0 x1 x2 s.2).map (fun q => (q.1, (s.1, q.2))))
def g_X9_slicesOf_52 (N : Nat) (k7 : Nat → Int → Int → Int → sj_VV → Option (Int × sj_VV)) (a0 : Nat) (x1 : Int) (x3 : Int) (y0 : Int) (y1 : Int) (V : sj_VV) : Option (Int × sj_VV) :=
  e_lt (y1 + y0) fun v1 =>
  e_lt (x3 + 1) fun v2 =>
  k7 a0 x1 v1 v2 V
def g_X9_slicesOf_47 (N : Nat) (k7 : Nat → Int → Int → Int → sj_VV → Option (Int × sj_VV)) (a0 : Nat) (x1 : Int) (x3 : Int) (y0 : Int) (V : sj_VV) : Option (Int × sj_VV) :=
  g_X9_slicesOf_52 N k7 a0 x1 x3 1 y0 V
def g_X9_slicesOf_51 (N : Nat) (k7 : Nat → Int → Int → Int → sj_VV → Option (Int × sj_VV)) (a0 : Nat) (x1 : Int) (x3 : Int) (y0 : Int) (V : sj_VV) : Option (Int × sj_VV) :=
  g_X9_slicesOf_52 N k7 a0 x1 x3 0 y0 V
def g_X9_slicesOf_7_b (N : Nat) (k7 : Nat → Int → Int → Int → sj_VV → Option (Int × sj_VV)) (a0 : Nat) (x1 : Int) (x2 : Int) (x3 : Int) (V : sj_VV) : Option (Int × sj_VV) :=
  e_ile (V a0 14) x3 (
    some (x2, V)) (
    e_cs (g_X9_laysAt N a0 x3 V) fun _u V1 =>
    e_ieq x1 0 (
      e_ile 0 (V1 a0 6) (
        g_X9_slicesOf_51 N k7 a0 x1 x3 x2 V1) (
        g_X9_slicesOf_47 N k7 a0 x1 x3 x2 V1)) (
      e_lle (V1 a0 9) (V1 a0 8) (
        g_X9_slicesOf_51 N k7 a0 x1 x3 x2 V1) (
        g_X9_slicesOf_47 N k7 a0 x1 x3 x2 V1)))
def g_X9_slicesOf_7 (N : Nat) : Nat → Nat → Int → Int → Int → sj_VV → Option (Int × sj_VV)
  | 0 => fun _ _ _ _ _ => none
  | n + 1 => fun a0 x1 x2 x3 V => g_X9_slicesOf_7_b N (g_X9_slicesOf_7 N n) a0 x1 x2 x3 V
def g_X9_slicesOf (N : Nat) (a0 : Nat) (x1 : Int) (V : sj_VV) : Option (Int × sj_VV) :=
  e_lt (V a0 13) fun v1 =>
  g_X9_slicesOf_7 N N a0 x1 0 v1 V
noncomputable def f_X9_slicesOf (N : Nat) (a0 : Nat) (x1 : Int) (s : sj_Mem) : Option (Int × sj_Mem) := e_ok (OK9 s.1 a0) ((g_X9_slicesOf N a0 x1 s.2).map (fun q => (q.1, (s.1, q.2))))
def g_X9_leastBase_15_b (N : Nat) (k15 : Nat → Int → Int → sj_VV → Option (Int × sj_VV)) (a0 : Nat) (x1 : Int) (x2 : Int) (V : sj_VV) : Option (Int × sj_VV) :=
  e_ilt (V a0 14) x2 (
    some (x1, V)) (
    e_ix 41 x2 fun _ =>
    e_cs (g_X9_least N x1 (V (a0 + 5) x2.toNat) V) fun v2 V1 =>
    e_lt (x2 + 1) fun v3 =>
    k15 a0 v2 v3 V1)
def g_X9_leastBase_15 (N : Nat) : Nat → Nat → Int → Int → sj_VV → Option (Int × sj_VV)
  | 0 => fun _ _ _ _ => none
  | n + 1 => fun a0 x1 x2 V => g_X9_leastBase_15_b N (g_X9_leastBase_15 N n) a0 x1 x2 V
def g_X9_leastBase (N : Nat) (a0 : Nat) (V : sj_VV) : Option (Int × sj_VV) :=
  e_ix 41 (V a0 13) fun _ =>
  e_lt (V (a0 + 5) (V a0 13).toNat) fun v1 =>
  e_lt (V a0 13) fun v2 =>
  g_X9_leastBase_15 N N a0 v1 v2 V
noncomputable def f_X9_leastBase (N : Nat) (a0 : Nat) (s : sj_Mem) : Option (Int × sj_Mem) := e_ok (OK9 s.1 a0) ((g_X9_leastBase N a0 s.2).map (fun q => (q.1, (s.1, q.2))))
def g_X9_deepest_53 (N : Nat) (k10 : Nat → Int → Int → sj_VV → Option (Int × sj_VV)) (a0 : Nat) (x1 : Int) (x2 : Int) (V : sj_VV) : Option (Int × sj_VV) :=
  e_lt (x2 + 1) fun v1 =>
  k10 a0 x1 v1 V
def g_X9_deepest_10_b (N : Nat) (k10 : Nat → Int → Int → sj_VV → Option (Int × sj_VV)) (a0 : Nat) (x1 : Int) (x2 : Int) (V : sj_VV) : Option (Int × sj_VV) :=
  e_ilt (V a0 14) x2 (
    some (x1, V)) (
    e_ix 390 (3 + x2) fun _ =>
    e_ix 41 x2 fun _ =>
    e_ix 390 (3 + x1) fun _ =>
    e_ix 41 x1 fun _ =>
    e_ile ((V (a0 + 1) (3 + x2).toNat) - (V (a0 + 5) x2.toNat)) ((V (a0 + 1) (3 + x1).toNat) - (V (a0 + 5) x1.toNat)) (
      g_X9_deepest_53 N k10 a0 x1 x2 V) (
      g_X9_deepest_53 N k10 a0 x2 x2 V))
def g_X9_deepest_10 (N : Nat) : Nat → Nat → Int → Int → sj_VV → Option (Int × sj_VV)
  | 0 => fun _ _ _ _ => none
  | n + 1 => fun a0 x1 x2 V => g_X9_deepest_10_b N (g_X9_deepest_10 N n) a0 x1 x2 V
def g_X9_deepest (N : Nat) (a0 : Nat) (V : sj_VV) : Option (Int × sj_VV) :=
  e_lt (V a0 13) fun v1 =>
  e_lt (V a0 13) fun v2 =>
  g_X9_deepest_10 N N a0 v1 v2 V
noncomputable def f_X9_deepest (N : Nat) (a0 : Nat) (s : sj_Mem) : Option (Int × sj_Mem) := e_ok (OK9 s.1 a0) ((g_X9_deepest N a0 s.2).map (fun q => (q.1, (s.1, q.2))))
def g_X9_bodyOf_7_b (N : Nat) (k7 : Nat → Int → Int → sj_VV → Option (Int × sj_VV)) (a0 : Nat) (x1 : Int) (x2 : Int) (V : sj_VV) : Option (Int × sj_VV) :=
  e_ile (V a0 14) x2 (
    e_ix 390 1 fun _ =>
    some ((V (a0 + 1) (1 : Int).toNat) * x1, V)) (
    e_ix 390 (3 + x2) fun _ =>
    e_ix 41 x2 fun _ =>
    e_ix 390 ((3 + x2) + 1) fun _ =>
    e_ix 41 (x2 + 1) fun _ =>
    e_lt (x1 + ((((V (a0 + 1) (3 + x2).toNat) - (V (a0 + 5) x2.toNat)) + (V (a0 + 1) ((3 + x2) + 1).toNat)) - (V (a0 + 5) (x2 + 1).toNat))) fun v1 =>
    e_lt (x2 + 1) fun v2 =>
    k7 a0 v1 v2 V)
def g_X9_bodyOf_7 (N : Nat) : Nat → Nat → Int → Int → sj_VV → Option (Int × sj_VV)
  | 0 => fun _ _ _ _ => none
  | n + 1 => fun a0 x1 x2 V => g_X9_bodyOf_7_b N (g_X9_bodyOf_7 N n) a0 x1 x2 V
def g_X9_bodyOf (N : Nat) (a0 : Nat) (V : sj_VV) : Option (Int × sj_VV) :=
  e_lt (V a0 13) fun v1 =>
  g_X9_bodyOf_7 N N a0 0 v1 V
noncomputable def f_X9_bodyOf (N : Nat) (a0 : Nat) (s : sj_Mem) : Option (Int × sj_Mem) := e_ok (OK9 s.1 a0) ((g_X9_bodyOf N a0 s.2).map (fun q => (q.1, (s.1, q.2))))
def g_X9_shape (N : Nat) (a0 : Nat) (x1 : Int) (V : sj_VV) : Option (Int × sj_VV) :=
  e_cs (g_X9_takesSlip N a0 V) fun v2 V1 =>
  e_ieq v2 0 (
    some ((-1), V1)) (
    e_sw x1 (
    if x1 = 0 then (
      e_cs (g_X9_bodyOf N a0 V1) fun v4 V3 =>
      some (v4, V3)) else (
    if x1 = 1 then (
      e_cs (g_X9_deepest N a0 V1) fun v6 V5 =>
      e_ix 390 (3 + v6) fun _ =>
      e_cs (g_X9_deepest N a0 V5) fun v8 V7 =>
      e_ix 41 v8 fun _ =>
      some ((V5 (a0 + 1) (3 + v6).toNat) - (V7 (a0 + 5) v8.toNat), V7)) else (
    if x1 = 2 then (
      e_cs (g_X9_deepest N a0 V1) fun v10 V9 =>
      some (v10, V9)) else (
    if x1 = 3 then (
      e_cs (g_X9_leastBase N a0 V1) fun v12 V11 =>
      some (v12, V11)) else (
    if x1 = 4 then (
      e_cs (g_X9_slicesOf N a0 0 V1) fun v14 V13 =>
      some (v14, V13)) else (
    if x1 = 5 then (
      e_cs (g_X9_slicesOf N a0 1 V1) fun v16 V15 =>
      some (v16, V15)) else (
      some ((-1), V1)))))))))
noncomputable def f_X9_shape (N : Nat) (a0 : Nat) (x1 : Int) (s : sj_Mem) : Option (Int × sj_Mem) := e_ok (OK9 s.1 a0) ((g_X9_shape N a0 x1 s.2).map (fun q => (q.1, (s.1, q.2))))
def g_X9_berm_66_b (N : Nat) (k44 : Nat → Int → Int → Int → Int → sj_VV → Option (Int × sj_VV)) (k66 : Nat → Int → Int → Int → Int → Int → sj_VV → Option (Int × sj_VV)) (a0 : Nat) (x1 : Int) (x2 : Int) (x3 : Int) (x4 : Int) (x5 : Int) (V : sj_VV) : Option (Int × sj_VV) :=
  e_ilt x2 x5 (
    k44 a0 x1 x2 x3 x4 V) (
    e_ix 390 (126 + x5) fun _ =>
    e_ix 390 (126 + x5) fun _ =>
    e_lt (sj_up V (a0 + 1) (126 + x5).toNat ((V (a0 + 2) (126 + x5).toNat) + x4)) fun V1 =>
    e_lt (x5 + 1) fun v2 =>
    k66 a0 x1 x2 x3 x4 v2 V1)
def g_X9_berm_66 (N : Nat) (k44 : Nat → Int → Int → Int → Int → sj_VV → Option (Int × sj_VV)) : Nat → Nat → Int → Int → Int → Int → Int → sj_VV → Option (Int × sj_VV)
  | 0 => fun _ _ _ _ _ _ _ => none
  | n + 1 => fun a0 x1 x2 x3 x4 x5 V => g_X9_berm_66_b N k44 (g_X9_berm_66 N k44 n) a0 x1 x2 x3 x4 x5 V
def g_X9_berm_104 (N : Nat) (a0 : Nat) (x4 : Int) (V : sj_VV) : Option (Int × sj_VV) :=
  e_cs (g_X9_comesBack N a0 V) fun _u V1 =>
  e_ile x4 500 (
    some (x4, V1)) (
    some ((-1), V1))
def g_X9_berm_44_b (N : Nat) (k44 : Nat → Int → Int → Int → Int → sj_VV → Option (Int × sj_VV)) (a0 : Nat) (x1 : Int) (x2 : Int) (x3 : Int) (x4 : Int) (V : sj_VV) : Option (Int × sj_VV) :=
  e_ilt 500 x4 (
    g_X9_berm_104 N a0 x4 V) (
    e_cs (g_X9_isStanding N a0 x3 V) fun v2 V1 =>
    e_ieq v2 0 (
      e_lt (x4 + 1) fun v3 =>
      g_X9_berm_66 N k44 N a0 x1 x2 x3 v3 x1 V1) (
      g_X9_berm_104 N a0 x4 V1))
def g_X9_berm_44 (N : Nat) : Nat → Nat → Int → Int → Int → Int → sj_VV → Option (Int × sj_VV)
  | 0 => fun _ _ _ _ _ _ => none
  | n + 1 => fun a0 x1 x2 x3 x4 V => g_X9_berm_44_b N (g_X9_berm_44 N n) a0 x1 x2 x3 x4 V
def g_X9_berm (N : Nat) (a0 : Nat) (x1 : Int) (x2 : Int) (x3 : Int) (V : sj_VV) : Option (Int × sj_VV) :=
  e_cs (g_X9_isColumn N a0 x1 V) fun v2 V1 =>
  e_ieq v2 0 (
    some ((-1), V1)) (
    e_cs (g_X9_isColumn N a0 x2 V1) fun v4 V3 =>
    e_ieq v4 0 (
      some ((-1), V3)) (
      e_ilt x2 x1 (
        some ((-1), V3)) (
        e_cs (g_X9_isK N x3 V3) fun v6 V5 =>
        e_ieq v6 0 (
          some ((-1), V5)) (
          e_cs (g_X9_takesSlip N a0 V5) fun v8 V7 =>
          e_ieq v8 0 (
            some ((-1), V7)) (
            e_cs (g_X9_laysAside N a0 V7) fun _u V9 =>
            g_X9_berm_44 N N a0 x1 x2 x3 0 V9)))))
noncomputable def f_X9_berm (N : Nat) (a0 : Nat) (x1 : Int) (x2 : Int) (x3 : Int) (s : sj_Mem) : Option (Int × sj_Mem) := e_ok (OK9 s.1 a0) ((g_X9_berm N a0 x1 x2 x3 s.2).map (fun q => (q.1, (s.1, q.2))))
def g_X9_remembers_54_b (N : Nat) (k54 : Nat → Nat → Nat → Int → sj_VV → Option (Unit × sj_VV)) (a0 : Nat) (x1 : Nat) (n1 : Nat) (x2 : Int) (V : sj_VV) : Option (Unit × sj_VV) :=
  e_ile 364 x2 (
    e_lt (sj_up V a0 4 ((V a0 4) + 1)) fun V1 =>
    some ((), V1)) (
    e_ix n1 x2 fun _ =>
    e_ix 2912 ((364 * (V a0 4)) + x2) fun _ =>
    e_lt (sj_up V (a0 + 4) ((364 * (V a0 4)) + x2).toNat (V x1 x2.toNat)) fun V2 =>
    e_lt (x2 + 1) fun v3 =>
    k54 a0 x1 n1 v3 V2)
def g_X9_remembers_54 (N : Nat) : Nat → Nat → Nat → Nat → Int → sj_VV → Option (Unit × sj_VV)
  | 0 => fun _ _ _ _ _ => none
  | n + 1 => fun a0 x1 n1 x2 V => g_X9_remembers_54_b N (g_X9_remembers_54 N n) a0 x1 n1 x2 V
def g_X9_remembers_52 (N : Nat) (a0 : Nat) (x1 : Nat) (n1 : Nat) (V : sj_VV) : Option (Unit × sj_VV) :=
  g_X9_remembers_54 N N a0 x1 n1 0 V
def g_X9_remembers_13_b (N : Nat) (k13 : Nat → Nat → Nat → Int → sj_VV → Option (Unit × sj_VV)) (a0 : Nat) (x1 : Nat) (n1 : Nat) (x2 : Int) (V : sj_VV) : Option (Unit × sj_VV) :=
  e_ile 2912 x2 (
    e_lt (sj_up V a0 4 ((V a0 4) - 1)) fun V1 =>
    g_X9_remembers_52 N a0 x1 n1 V1) (
    e_ix 2912 x2 fun _ =>
    e_ix 2912 (x2 - 364) fun _ =>
    e_lt (sj_up V (a0 + 4) (x2 - 364).toNat (V (a0 + 4) x2.toNat)) fun V2 =>
    e_lt (x2 + 1) fun v3 =>
    k13 a0 x1 n1 v3 V2)
def g_X9_remembers_13 (N : Nat) : Nat → Nat → Nat → Nat → Int → sj_VV → Option (Unit × sj_VV)
  | 0 => fun _ _ _ _ _ => none
  | n + 1 => fun a0 x1 n1 x2 V => g_X9_remembers_13_b N (g_X9_remembers_13 N n) a0 x1 n1 x2 V
def g_X9_remembers (N : Nat) (a0 : Nat) (x1 : Nat) (n1 : Nat) (V : sj_VV) : Option (Unit × sj_VV) :=
  e_ieq (V a0 4) 8 (
    g_X9_remembers_13 N N a0 x1 n1 364 V) (
    g_X9_remembers_52 N a0 x1 n1 V)
def g_X9_turnsRound_9_b (N : Nat) (k9 : Nat → Int → Int → Int → sj_VV → Option (Unit × sj_VV)) (a0 : Nat) (x1 : Int) (x2 : Int) (x3 : Int) (V : sj_VV) : Option (Unit × sj_VV) :=
  e_ile x2 (2 * x3) (
    some ((), V)) (
    e_ix 390 (x1 + x3) fun _ =>
    e_lt (V (a0 + 1) (x1 + x3).toNat) fun v1 =>
    e_ix 390 ((x1 + x2) - x3) fun _ =>
    e_ix 390 (x1 + x3) fun _ =>
    e_lt (sj_up V (a0 + 1) (x1 + x3).toNat (V (a0 + 1) ((x1 + x2) - x3).toNat)) fun V2 =>
    e_ix 390 ((x1 + x2) - x3) fun _ =>
    e_lt (sj_up V2 (a0 + 1) ((x1 + x2) - x3).toNat v1) fun V3 =>
    e_lt (x3 + 1) fun v4 =>
    k9 a0 x1 x2 v4 V3)
def g_X9_turnsRound_9 (N : Nat) : Nat → Nat → Int → Int → Int → sj_VV → Option (Unit × sj_VV)
  | 0 => fun _ _ _ _ _ => none
  | n + 1 => fun a0 x1 x2 x3 V => g_X9_turnsRound_9_b N (g_X9_turnsRound_9 N n) a0 x1 x2 x3 V
def g_X9_turnsRound (N : Nat) (a0 : Nat) (x1 : Int) (V : sj_VV) : Option (Unit × sj_VV) :=
  e_ix 390 0 fun _ =>
  e_lt (V (a0 + 1) (0 : Int).toNat) fun v1 =>
  g_X9_turnsRound_9 N N a0 x1 v1 0 V
noncomputable def f_X9_turnsRound (N : Nat) (a0 : Nat) (x1 : Int) (s : sj_Mem) : Option (Unit × sj_Mem) := e_ok (OK9 s.1 a0) ((g_X9_turnsRound N a0 x1 s.2).map (fun q => (q.1, (s.1, q.2))))
def g_X9_mirror_112 (N : Nat) (k58 : Nat → Int → sj_VV → Option (Int × sj_VV)) (a0 : Nat) (x1 : Int) (V : sj_VV) : Option (Int × sj_VV) :=
  e_lt (x1 + 1) fun v1 =>
  k58 a0 v1 V
def g_X9_mirror_58_b (N : Nat) (k58 : Nat → Int → sj_VV → Option (Int × sj_VV)) (a0 : Nat) (x1 : Int) (V : sj_VV) : Option (Int × sj_VV) :=
  e_ile 6 x1 (
    e_cs (g_X9_hasSlip N a0 V) fun v2 V1 =>
    e_ieq v2 0 (
      e_zs 0 V1) (
      e_cs (g_X9_turnsRound N a0 323 V1) fun _u V3 =>
      e_ix 390 0 fun _ =>
      e_ix 390 321 fun _ =>
      e_lt ((V3 (a0 + 1) (0 : Int).toNat) - (V3 (a0 + 1) (321 : Int).toNat)) fun v4 =>
      e_ix 390 0 fun _ =>
      e_ix 390 320 fun _ =>
      e_ix 390 321 fun _ =>
      e_lt (sj_up V3 (a0 + 1) (321 : Int).toNat ((V3 (a0 + 1) (0 : Int).toNat) - (V3 (a0 + 1) (320 : Int).toNat))) fun V5 =>
      e_ix 390 320 fun _ =>
      e_lt (sj_up V5 (a0 + 1) (320 : Int).toNat v4) fun V6 =>
      e_ix 390 322 fun _ =>
      e_ix 390 322 fun _ =>
      e_lt (sj_up V6 (a0 + 1) (322 : Int).toNat (1 - (V6 (a0 + 1) (322 : Int).toNat))) fun V7 =>
      e_zs 1 V7)) (
    e_ix 390 ((302 + (3 * x1)) + 2) fun _ =>
    e_ile (V (a0 + 1) ((302 + (3 * x1)) + 2).toNat) 0 (
      g_X9_mirror_112 N k58 a0 x1 V) (
      e_ix 390 0 fun _ =>
      e_ix 390 (302 + (3 * x1)) fun _ =>
      e_ix 390 (302 + (3 * x1)) fun _ =>
      e_lt (sj_up V (a0 + 1) (302 + (3 * x1)).toNat ((V (a0 + 1) (0 : Int).toNat) - (V (a0 + 1) (302 + (3 * x1)).toNat))) fun V8 =>
      g_X9_mirror_112 N k58 a0 x1 V8))
def g_X9_mirror_58 (N : Nat) : Nat → Nat → Int → sj_VV → Option (Int × sj_VV)
  | 0 => fun _ _ _ => none
  | n + 1 => fun a0 x1 V => g_X9_mirror_58_b N (g_X9_mirror_58 N n) a0 x1 V
def g_X9_mirror_33_b (N : Nat) (k33 : Nat → Int → sj_VV → Option (Int × sj_VV)) (a0 : Nat) (x1 : Int) (V : sj_VV) : Option (Int × sj_VV) :=
  e_ile 3 x1 (
    g_X9_mirror_58 N N a0 0 V) (
    e_cs (g_X9_turnsRound N a0 (167 + (41 * x1)) V) fun _u V1 =>
    e_lt (x1 + 1) fun v2 =>
    k33 a0 v2 V1)
def g_X9_mirror_33 (N : Nat) : Nat → Nat → Int → sj_VV → Option (Int × sj_VV)
  | 0 => fun _ _ _ => none
  | n + 1 => fun a0 x1 V => g_X9_mirror_33_b N (g_X9_mirror_33 N n) a0 x1 V
def g_X9_mirror (N : Nat) (a0 : Nat) (V : sj_VV) : Option (Int × sj_VV) :=
  e_cs (g_X9_remembers N a0 (a0 + 1) 390 V) fun _u V1 =>
  e_cs (g_X9_turnsRound N a0 3 V1) fun _u V2 =>
  e_cs (g_X9_turnsRound N a0 44 V2) fun _u V3 =>
  e_cs (g_X9_turnsRound N a0 85 V3) fun _u V4 =>
  e_cs (g_X9_turnsRound N a0 126 V4) fun _u V5 =>
  g_X9_mirror_33 N N a0 0 V5
noncomputable def f_X9_mirror (N : Nat) (a0 : Nat) (s : sj_Mem) : Option (Int × sj_Mem) := e_ok (OK9 s.1 a0) ((g_X9_mirror N a0 s.2).map (fun q => (q.1, (s.1, q.2))))
def g_X9_canDig (N : Nat) (a0 : Nat) (x1 : Int) (x2 : Int) (V : sj_VV) : Option (Int × sj_VV) :=
  e_cs (g_X9_isColumn N a0 x1 V) fun v2 V1 =>
  e_ieq v2 0 (
    e_zs 0 V1) (
    e_ieq x2 0 (
      e_zs 0 V1) (
      e_ix 390 (3 + x1) fun _ =>
      e_wid (V1 (a0 + 1) (3 + x1).toNat) fun v3 =>
      e_wid x2 fun v4 =>
      e_ix 390 (44 + x1) fun _ =>
      e_wid (V1 (a0 + 1) (44 + x1).toNat) fun v5 =>
      e_cs (g_X9_isIn N (v3 - v4) v5 100 V1) fun v7 V6 =>
      e_ieq v7 0 (
        e_zs 0 V6) (
        e_zs 1 V6)))
noncomputable def f_X9_canDig (N : Nat) (a0 : Nat) (x1 : Int) (x2 : Int) (s : sj_Mem) : Option (Int × sj_Mem) := e_ok (OK9 s.1 a0) ((g_X9_canDig N a0 x1 x2 s.2).map (fun q => (q.1, (s.1, q.2))))
def g_X9_dug (N : Nat) (a0 : Nat) (x1 : Int) (x2 : Int) (x3 : Int) (x4 : Int) (x5 : Int) (x6 : Int) (V : sj_VV) : Option (Int × sj_VV) :=
  e_cs (g_X9_canDig N a0 x1 x2 V) fun v2 V1 =>
  e_ieq v2 0 (
    some ((-1), V1)) (
    e_cs (g_X9_isCircle N x3 x4 x5 V1) fun v4 V3 =>
    e_ieq v4 0 (
      some ((-1), V3)) (
      e_ix 390 (3 + x1) fun _ =>
      e_ix 390 (3 + x1) fun _ =>
      e_lt (sj_up V3 (a0 + 1) (3 + x1).toNat ((V3 (a0 + 1) (3 + x1).toNat) - x2)) fun V5 =>
      e_cs (g_X9_searches N a0 x3 x4 x5 8 x6 V5) fun v7 V6 =>
      e_ix 390 (3 + x1) fun _ =>
      e_ix 390 (3 + x1) fun _ =>
      e_lt (sj_up V6 (a0 + 1) (3 + x1).toNat ((V6 (a0 + 1) (3 + x1).toNat) + x2)) fun V8 =>
      some (v7, V8)))
noncomputable def f_X9_dug (N : Nat) (a0 : Nat) (x1 : Int) (x2 : Int) (x3 : Int) (x4 : Int) (x5 : Int) (x6 : Int) (s : sj_Mem) : Option (Int × sj_Mem) := e_ok (OK9 s.1 a0) ((g_X9_dug N a0 x1 x2 x3 x4 x5 x6 s.2).map (fun q => (q.1, (s.1, q.2))))
def g_X9_adds_35 (N : Nat) (V : sj_VV) : Option (Int × sj_VV) :=
  some (4000000000000000000, V)
def g_X9_adds (N : Nat) (a0 : Nat) (x1 : Int) (x2 : Int) (x3 : Int) (x4 : Int) (x5 : Int) (V : sj_VV) : Option (Int × sj_VV) :=
  e_cs (g_X9_laysSlice N a0 x1 x2 x3 x4 V) fun _u V1 =>
  e_cs (g_X9_rubsOf N a0 x5 V1) fun v3 V2 =>
  e_leq v3 ((-1)) (
    g_X9_adds_35 N V2) (
    e_lle v3 10000000000000 (
      e_wid x5 fun v4 =>
      some ((1000 * v3) - (v4 * (V2 a0 12)), V2)) (
      g_X9_adds_35 N V2))
noncomputable def f_X9_adds (N : Nat) (a0 : Nat) (x1 : Int) (x2 : Int) (x3 : Int) (x4 : Int) (x5 : Int) (s : sj_Mem) : Option (Int × sj_Mem) := e_ok (OK9 s.1 a0) ((g_X9_adds N a0 x1 x2 x3 x4 x5 s.2).map (fun q => (q.1, (s.1, q.2))))
def g_X9_comes_123 (N : Nat) (k17 : Nat → Int → Int → Int → Int → Int → Int → Int → sj_VV → Option (Unit × sj_VV)) (a0 : Nat) (x1 : Int) (x2 : Int) (x3 : Int) (x4 : Int) (x5 : Int) (x6 : Int) (x7 : Int) (V : sj_VV) : Option (Unit × sj_VV) :=
  e_lt (x7 + 1) fun v1 =>
  k17 a0 x1 x2 x3 x4 x5 x6 v1 V
def g_X9_comes_17_b (N : Nat) (k17 : Nat → Int → Int → Int → Int → Int → Int → Int → sj_VV → Option (Unit × sj_VV)) (a0 : Nat) (x1 : Int) (x2 : Int) (x3 : Int) (x4 : Int) (x5 : Int) (x6 : Int) (x7 : Int) (V : sj_VV) : Option (Unit × sj_VV) :=
  e_cs (g_X9_least N 100 (x2 + x3) V) fun v2 V1 =>
  e_ilt v2 x7 (
    some ((), V1)) (
    e_ix 4141 ((101 * (x1 - 1)) + x7) fun _ =>
    e_lt (V1 (a0 + 6) ((101 * (x1 - 1)) + x7).toNat) fun v3 =>
    e_leq v3 4000000000000000000 (
      g_X9_comes_123 N k17 a0 x1 x2 x3 x4 x5 x6 x7 V1) (
      e_cs (g_X9_adds N a0 (x1 - 1) x7 x2 x4 x5 V1) fun v5 V4 =>
      e_leq v5 4000000000000000000 (
        g_X9_comes_123 N k17 a0 x1 x2 x3 x4 x5 x6 x7 V4) (
        e_ix 4141 x6 fun _ =>
        e_llt (v3 + v5) (V4 (a0 + 6) x6.toNat) (
          e_ix 4141 x6 fun _ =>
          e_lt (sj_up V4 (a0 + 6) x6.toNat (v3 + v5)) fun V6 =>
          e_ix 4141 x6 fun _ =>
          e_lt (sj_up V6 (a0 + 7) x6.toNat x7) fun V7 =>
          g_X9_comes_123 N k17 a0 x1 x2 x3 x4 x5 x6 x7 V7) (
          g_X9_comes_123 N k17 a0 x1 x2 x3 x4 x5 x6 x7 V4))))
def g_X9_comes_17 (N : Nat) : Nat → Nat → Int → Int → Int → Int → Int → Int → Int → sj_VV → Option (Unit × sj_VV)
  | 0 => fun _ _ _ _ _ _ _ _ _ => none
  | n + 1 => fun a0 x1 x2 x3 x4 x5 x6 x7 V => g_X9_comes_17_b N (g_X9_comes_17 N n) a0 x1 x2 x3 x4 x5 x6 x7 V
def g_X9_comes (N : Nat) (a0 : Nat) (x1 : Int) (x2 : Int) (x3 : Int) (x4 : Int) (x5 : Int) (V : sj_VV) : Option (Unit × sj_VV) :=
  e_lt ((101 * x1) + x2) fun v1 =>
  e_cs (g_X9_most N 0 (x2 - x3) V) fun v3 V2 =>
  g_X9_comes_17 N N a0 x1 x2 x3 x4 x5 v1 v3 V2
noncomputable def f_X9_comes (N : Nat) (a0 : Nat) (x1 : Int) (x2 : Int) (x3 : Int) (x4 : Int) (x5 : Int) (s : sj_Mem) : Option (Unit × sj_Mem) := e_ok (OK9 s.1 a0) ((g_X9_comes N a0 x1 x2 x3 x4 x5 s.2).map (fun q => (q.1, (s.1, q.2))))
def g_X9_goes_110 (N : Nat) (k8 : Nat → Int → Int → Int → Int → Int → Int → Int → sj_VV → Option (Int × sj_VV)) (k22 : Nat → Int → Int → Int → Int → Int → Int → Int → Int → sj_VV → Option (Int × sj_VV)) (a0 : Nat) (x1 : Int) (x2 : Int) (x3 : Int) (x4 : Int) (x5 : Int) (x6 : Int) (x8 : Int) (x9 : Int) (V : sj_VV) : Option (Int × sj_VV) :=
  e_lt (x9 + 1) fun v1 =>
  k22 a0 x1 x2 x3 x4 x5 x6 x8 v1 V
def g_X9_goes_97 (N : Nat) (k8 : Nat → Int → Int → Int → Int → Int → Int → Int → sj_VV → Option (Int × sj_VV)) (k22 : Nat → Int → Int → Int → Int → Int → Int → Int → Int → sj_VV → Option (Int × sj_VV)) (a0 : Nat) (x1 : Int) (x2 : Int) (x3 : Int) (x4 : Int) (x5 : Int) (x6 : Int) (x8 : Int) (x9 : Int) (V : sj_VV) : Option (Int × sj_VV) :=
  e_cs (g_X9_comes N a0 x8 x9 x3 x4 x5 V) fun _u V1 =>
  g_X9_goes_110 N k8 k22 a0 x1 x2 x3 x4 x5 x6 x8 x9 V1
def g_X9_goes_192 (N : Nat) (k8 : Nat → Int → Int → Int → Int → Int → Int → Int → sj_VV → Option (Int × sj_VV)) (a0 : Nat) (x1 : Int) (x2 : Int) (x3 : Int) (x4 : Int) (x5 : Int) (x6 : Int) (x8 : Int) (y0 : Int) (y1 : Int) (y2 : Nat) (m2 : Nat) (V : sj_VV) : Option (Int × sj_VV) :=
  e_ix m2 y1 fun _ =>
  e_lt (sj_up V y2 y1.toNat y0) fun V1 =>
  e_lt (x8 + 1) fun v2 =>
  k8 a0 x1 x2 x3 x4 x5 x6 v2 V1
def g_X9_goes_185 (N : Nat) (k8 : Nat → Int → Int → Int → Int → Int → Int → Int → sj_VV → Option (Int × sj_VV)) (a0 : Nat) (x1 : Int) (x2 : Int) (x3 : Int) (x4 : Int) (x5 : Int) (x6 : Int) (x8 : Int) (y0 : Int) (y1 : Nat) (m1 : Nat) (V : sj_VV) : Option (Int × sj_VV) :=
  g_X9_goes_192 N k8 a0 x1 x2 x3 x4 x5 x6 x8 0 y0 y1 m1 V
def g_X9_goes_155 (N : Nat) (k8 : Nat → Int → Int → Int → Int → Int → Int → Int → sj_VV → Option (Int × sj_VV)) (a0 : Nat) (x1 : Int) (x2 : Int) (x3 : Int) (x4 : Int) (x5 : Int) (x6 : Int) (x8 : Int) (x9 : Int) (V : sj_VV) : Option (Int × sj_VV) :=
  e_ix 4141 x9 fun _ =>
  e_ix 41 x8 fun _ =>
  e_lt (sj_up V (a0 + 8) x8.toNat (V (a0 + 6) x9.toNat)) fun V1 =>
  e_ieq x8 x1 (
    g_X9_goes_185 N k8 a0 x1 x2 x3 x4 x5 x6 x8 x9 (a0 + 6) 4141 V1) (
    e_ieq x2 0 (
      g_X9_goes_192 N k8 a0 x1 x2 x3 x4 x5 x6 x8 4000000000000000000 x9 (a0 + 6) 4141 V1) (
      g_X9_goes_185 N k8 a0 x1 x2 x3 x4 x5 x6 x8 x9 (a0 + 6) 4141 V1))
def g_X9_goes_22_b (N : Nat) (k8 : Nat → Int → Int → Int → Int → Int → Int → Int → sj_VV → Option (Int × sj_VV)) (k22 : Nat → Int → Int → Int → Int → Int → Int → Int → Int → sj_VV → Option (Int × sj_VV)) (a0 : Nat) (x1 : Int) (x2 : Int) (x3 : Int) (x4 : Int) (x5 : Int) (x6 : Int) (x8 : Int) (x9 : Int) (V : sj_VV) : Option (Int × sj_VV) :=
  e_ile 101 x9 (
    e_ix 390 (3 + x8) fun _ =>
    e_lt ((101 * x8) + (V (a0 + 1) (3 + x8).toNat)) fun v1 =>
    e_ix 4141 v1 fun _ =>
    e_lle x6 (V (a0 + 6) v1.toNat) (
      g_X9_goes_155 N k8 a0 x1 x2 x3 x4 x5 x6 x8 v1 V) (
      e_ix 4141 v1 fun _ =>
      e_lt (V (a0 + 6) v1.toNat) fun v2 =>
      g_X9_goes_155 N k8 a0 x1 x2 x3 x4 x5 v2 x8 v1 V)) (
    e_ix 4141 ((101 * x8) + x9) fun _ =>
    e_lt (sj_up V (a0 + 6) ((101 * x8) + x9).toNat 4000000000000000000) fun V3 =>
    e_ieq x8 x1 (
      g_X9_goes_110 N k8 k22 a0 x1 x2 x3 x4 x5 x6 x8 x9 V3) (
      e_ix 390 (3 + x8) fun _ =>
      e_ilt (V3 (a0 + 1) (3 + x8).toNat) x9 (
        g_X9_goes_110 N k8 k22 a0 x1 x2 x3 x4 x5 x6 x8 x9 V3) (
        e_ix 390 (3 + x8) fun _ =>
        e_ile (V3 (a0 + 1) (3 + x8).toNat) x9 (
          g_X9_goes_97 N k8 k22 a0 x1 x2 x3 x4 x5 x6 x8 x9 V3) (
          e_ix 390 (44 + x8) fun _ =>
          e_ile (V3 (a0 + 1) (44 + x8).toNat) x9 (
            g_X9_goes_97 N k8 k22 a0 x1 x2 x3 x4 x5 x6 x8 x9 V3) (
            g_X9_goes_110 N k8 k22 a0 x1 x2 x3 x4 x5 x6 x8 x9 V3)))))
def g_X9_goes_22 (N : Nat) (k8 : Nat → Int → Int → Int → Int → Int → Int → Int → sj_VV → Option (Int × sj_VV)) : Nat → Nat → Int → Int → Int → Int → Int → Int → Int → Int → sj_VV → Option (Int × sj_VV)
  | 0 => fun _ _ _ _ _ _ _ _ _ _ => none
  | n + 1 => fun a0 x1 x2 x3 x4 x5 x6 x8 x9 V => g_X9_goes_22_b N k8 (g_X9_goes_22 N k8 n) a0 x1 x2 x3 x4 x5 x6 x8 x9 V
def g_X9_goes_8_b (N : Nat) (k8 : Nat → Int → Int → Int → Int → Int → Int → Int → sj_VV → Option (Int × sj_VV)) (a0 : Nat) (x1 : Int) (x2 : Int) (x3 : Int) (x4 : Int) (x5 : Int) (x6 : Int) (x8 : Int) (V : sj_VV) : Option (Int × sj_VV) :=
  e_ix 390 0 fun _ =>
  e_ilt (V (a0 + 1) (0 : Int).toNat) x8 (
    some (x6, V)) (
    g_X9_goes_22 N k8 N a0 x1 x2 x3 x4 x5 x6 x8 0 V)
def g_X9_goes_8 (N : Nat) : Nat → Nat → Int → Int → Int → Int → Int → Int → Int → sj_VV → Option (Int × sj_VV)
  | 0 => fun _ _ _ _ _ _ _ _ _ => none
  | n + 1 => fun a0 x1 x2 x3 x4 x5 x6 x8 V => g_X9_goes_8_b N (g_X9_goes_8 N n) a0 x1 x2 x3 x4 x5 x6 x8 V
def g_X9_goes (N : Nat) (a0 : Nat) (x1 : Int) (x2 : Int) (x3 : Int) (x4 : Int) (x5 : Int) (V : sj_VV) : Option (Int × sj_VV) :=
  g_X9_goes_8 N N a0 x1 x2 x3 x4 x5 4000000000000000000 x1 V
noncomputable def f_X9_goes (N : Nat) (a0 : Nat) (x1 : Int) (x2 : Int) (x3 : Int) (x4 : Int) (x5 : Int) (s : sj_Mem) : Option (Int × sj_Mem) := e_ok (OK9 s.1 a0) ((g_X9_goes N a0 x1 x2 x3 x4 x5 s.2).map (fun q => (q.1, (s.1, q.2))))
def g_X9_tableK_48 (N : Nat) (k7 : Nat → Int → Int → Int → Int → sj_VV → Option (Int × sj_VV)) (a0 : Nat) (x1 : Int) (x2 : Int) (x3 : Int) (x4 : Int) (V : sj_VV) : Option (Int × sj_VV) :=
  k7 a0 x1 x2 x3 x4 V
def g_X9_tableK_7_b (N : Nat) (k7 : Nat → Int → Int → Int → Int → sj_VV → Option (Int × sj_VV)) (a0 : Nat) (x1 : Int) (x2 : Int) (x3 : Int) (x4 : Int) (V : sj_VV) : Option (Int × sj_VV) :=
  e_ile (x4 - x3) 1 (
    some (x3, V)) (
    e_dI (x3 + x4) 2 fun v1 =>
    e_cs (g_X9_goes N a0 0 1 x1 x2 v1 V) fun v3 V2 =>
    e_llt v3 0 (
      g_X9_tableK_48 N k7 a0 x1 x2 x3 v1 V2) (
      g_X9_tableK_48 N k7 a0 x1 x2 v1 x4 V2))
def g_X9_tableK_7 (N : Nat) : Nat → Nat → Int → Int → Int → Int → sj_VV → Option (Int × sj_VV)
  | 0 => fun _ _ _ _ _ _ => none
  | n + 1 => fun a0 x1 x2 x3 x4 V => g_X9_tableK_7_b N (g_X9_tableK_7 N n) a0 x1 x2 x3 x4 V
def g_X9_tableK (N : Nat) (a0 : Nat) (x1 : Int) (x2 : Int) (V : sj_VV) : Option (Int × sj_VV) :=
  g_X9_tableK_7 N N a0 x1 x2 0 20001 V
noncomputable def f_X9_tableK (N : Nat) (a0 : Nat) (x1 : Int) (x2 : Int) (s : sj_Mem) : Option (Int × sj_Mem) := e_ok (OK9 s.1 a0) ((g_X9_tableK N a0 x1 x2 s.2).map (fun q => (q.1, (s.1, q.2))))
def g_X9_findsWorst_119_b (N : Nat) (k119 : Nat → Int → Int → sj_VV → Option (Int × sj_VV)) (a0 : Nat) (x6 : Int) (x8 : Int) (V : sj_VV) : Option (Int × sj_VV) :=
  e_ile x8 x6 (
    e_zs 1 V) (
    e_ix 41 x8 fun _ =>
    e_ix 4141 ((101 * x8) + (V (a0 + 5) x8.toNat)) fun _ =>
    e_ix 41 (x8 - 1) fun _ =>
    e_lt (sj_up V (a0 + 5) (x8 - 1).toNat (V (a0 + 7) ((101 * x8) + (V (a0 + 5) x8.toNat)).toNat)) fun V1 =>
    e_lt (x8 + (-1)) fun v2 =>
    k119 a0 x6 v2 V1)
def g_X9_findsWorst_119 (N : Nat) : Nat → Nat → Int → Int → sj_VV → Option (Int × sj_VV)
  | 0 => fun _ _ _ _ => none
  | n + 1 => fun a0 x6 x8 V => g_X9_findsWorst_119_b N (g_X9_findsWorst_119 N n) a0 x6 x8 V
def g_X9_findsWorst_63_b (N : Nat) (k63 : Nat → Int → Int → Int → Int → sj_VV → Option (Int × sj_VV)) (a0 : Nat) (x2 : Int) (x4 : Int) (x6 : Int) (x7 : Int) (V : sj_VV) : Option (Int × sj_VV) :=
  e_ix 41 x7 fun _ =>
  e_leq (V (a0 + 8) x7.toNat) x4 (
    e_lt (sj_up V a0 13 x6) fun V1 =>
    e_lt (sj_up V1 a0 14 x7) fun V2 =>
    e_zz x2 fun _ =>
    e_lt (sj_up V2 a0 15 x2) fun V3 =>
    e_ix 390 (3 + x7) fun _ =>
    e_ix 41 x7 fun _ =>
    e_lt (sj_up V3 (a0 + 5) x7.toNat (V3 (a0 + 1) (3 + x7).toNat)) fun V4 =>
    g_X9_findsWorst_119 N N a0 x6 x7 V4) (
    e_lt (x7 + 1) fun v5 =>
    k63 a0 x2 x4 x6 v5 V)
def g_X9_findsWorst_63 (N : Nat) : Nat → Nat → Int → Int → Int → Int → sj_VV → Option (Int × sj_VV)
  | 0 => fun _ _ _ _ _ _ => none
  | n + 1 => fun a0 x2 x4 x6 x7 V => g_X9_findsWorst_63_b N (g_X9_findsWorst_63 N n) a0 x2 x4 x6 x7 V
def g_X9_findsWorst_25_b (N : Nat) (k25 : Nat → Int → Int → Int → Int → Int → sj_VV → Option (Int × sj_VV)) (a0 : Nat) (x1 : Int) (x2 : Int) (x3 : Int) (x4 : Int) (x6 : Int) (V : sj_VV) : Option (Int × sj_VV) :=
  e_ix 390 0 fun _ =>
  e_ile (V (a0 + 1) (0 : Int).toNat) x6 (
    e_zs 0 V) (
    e_cs (g_X9_goes N a0 x6 0 x1 x2 (x3 + 1) V) fun v2 V1 =>
    e_leq v2 x4 (
      e_lt (x6 + 1) fun v3 =>
      g_X9_findsWorst_63 N N a0 x2 x4 x6 v3 V1) (
      e_lt (x6 + 1) fun v4 =>
      k25 a0 x1 x2 x3 x4 v4 V1))
def g_X9_findsWorst_25 (N : Nat) : Nat → Nat → Int → Int → Int → Int → Int → sj_VV → Option (Int × sj_VV)
  | 0 => fun _ _ _ _ _ _ _ => none
  | n + 1 => fun a0 x1 x2 x3 x4 x6 V => g_X9_findsWorst_25_b N (g_X9_findsWorst_25 N n) a0 x1 x2 x3 x4 x6 V
def g_X9_findsWorst (N : Nat) (a0 : Nat) (x1 : Int) (x2 : Int) (x3 : Int) (V : sj_VV) : Option (Int × sj_VV) :=
  e_ieq x3 20000 (
    e_zs 0 V) (
    e_cs (g_X9_goes N a0 0 1 x1 x2 (x3 + 1) V) fun v2 V1 =>
    g_X9_findsWorst_25 N N a0 x1 x2 x3 v2 0 V1)
noncomputable def f_X9_findsWorst (N : Nat) (a0 : Nat) (x1 : Int) (x2 : Int) (x3 : Int) (s : sj_Mem) : Option (Int × sj_Mem) := e_ok (OK9 s.1 a0) ((g_X9_findsWorst N a0 x1 x2 x3 s.2).map (fun q => (q.1, (s.1, q.2))))
def g_X9_tables_40 (N : Nat) (a0 : Nat) (x1 : Int) (x2 : Int) (x3 : Int) (V : sj_VV) : Option (Int × sj_VV) :=
  e_cs (g_X9_tableK N a0 x1 x2 V) fun v2 V1 =>
  e_ieq x3 0 (
    some (v2, V1)) (
    e_cs (g_X9_findsWorst N a0 x1 x2 v2 V1) fun v4 V3 =>
    e_ieq v4 0 (
      some ((-1), V3)) (
      e_ieq x3 1 (
        some (V3 a0 13, V3)) (
        e_ieq x3 2 (
          some (V3 a0 14, V3)) (
          e_wid (x3 - 10) fun v5 =>
          e_wid (V3 a0 13) fun v6 =>
          e_wid (V3 a0 14) fun v7 =>
          e_cs (g_X9_isIn N v5 v6 v7 V3) fun v9 V8 =>
          e_ieq v9 0 (
            some ((-1), V8)) (
            e_ix 41 (x3 - 10) fun _ =>
            some (V8 (a0 + 5) (x3 - 10).toNat, V8))))))
def g_X9_tables (N : Nat) (a0 : Nat) (x1 : Int) (x2 : Int) (x3 : Int) (V : sj_VV) : Option (Int × sj_VV) :=
  e_wid x1 fun v1 =>
  e_cs (g_X9_isIn N v1 1 12 V) fun v3 V2 =>
  e_ieq v3 0 (
    some ((-1), V2)) (
    e_wid x3 fun v4 =>
    e_cs (g_X9_isIn N v4 0 2 V2) fun v6 V5 =>
    e_ieq v6 0 (
      e_wid x3 fun v7 =>
      e_cs (g_X9_isIn N v7 10 50 V5) fun v9 V8 =>
      e_ieq v9 0 (
        some ((-1), V8)) (
        g_X9_tables_40 N a0 x1 x2 x3 V8)) (
      g_X9_tables_40 N a0 x1 x2 x3 V5))
noncomputable def f_X9_tables (N : Nat) (a0 : Nat) (x1 : Int) (x2 : Int) (x3 : Int) (s : sj_Mem) : Option (Int × sj_Mem) := e_ok (OK9 s.1 a0) ((g_X9_tables N a0 x1 x2 x3 s.2).map (fun q => (q.1, (s.1, q.2))))
def g_X9_boxes (N : Nat) (a0 : Nat) (x1 : Int) (x2 : Int) (x3 : Int) (x4 : Int) (x5 : Int) (x6 : Int) (V : sj_VV) : Option (Int × sj_VV) :=
  e_cs (g_X9_isCircle N x1 x2 x3 V) fun v2 V1 =>
  e_ieq v2 0 (
    some ((-100), V1)) (
    e_wid x4 fun v3 =>
    e_cs (g_X9_isIn N v3 1 64 V1) fun v5 V4 =>
    e_ieq v5 0 (
      some ((-100), V4)) (
      e_wid x6 fun v6 =>
      e_cs (g_X9_isIn N v6 0 4 V4) fun v8 V7 =>
      e_ieq v8 0 (
        some ((-100), V7)) (
        e_cs (g_X9_searches N a0 x1 x2 x3 x4 x5 V7) fun v10 V9 =>
        e_ieq v10 ((-1)) (
          some ((-100), V9)) (
          e_ieq x6 0 (
            some (V9 a0 20, V9)) (
            e_ieq x6 1 (
              some (V9 a0 17, V9)) (
              e_ieq x6 2 (
                some (V9 a0 18, V9)) (
                e_ieq x6 3 (
                  some (V9 a0 19, V9)) (
                  some (V9 a0 21, V9)))))))))
noncomputable def f_X9_boxes (N : Nat) (a0 : Nat) (x1 : Int) (x2 : Int) (x3 : Int) (x4 : Int) (x5 : Int) (x6 : Int) (s : sj_Mem) : Option (Int × sj_Mem) := e_ok (OK9 s.1 a0) ((g_X9_boxes N a0 x1 x2 x3 x4 x5 x6 s.2).map (fun q => (q.1, (s.1, q.2))))
def g_X9_tried (N : Nat) (a0 : Nat) (x1 : Int) (x2 : Int) (x3 : Int) (x4 : Int) (V : sj_VV) : Option (Int × sj_VV) :=
  e_cs (g_X9_factorBy N a0 x1 x2 x3 x4 V) fun v2 V1 =>
  some (v2, V1)
noncomputable def f_X9_tried (N : Nat) (a0 : Nat) (x1 : Int) (x2 : Int) (x3 : Int) (x4 : Int) (s : sj_Mem) : Option (Int × sj_Mem) := e_ok (OK9 s.1 a0) ((g_X9_tried N a0 x1 x2 x3 x4 s.2).map (fun q => (q.1, (s.1, q.2))))
def g_X9_pull_91 (N : Nat) (k45 : Nat → Int → Int → Int → sj_VV → Option (Int × sj_VV)) (a0 : Nat) (x1 : Int) (x2 : Int) (x3 : Int) (V : sj_VV) : Option (Int × sj_VV) :=
  k45 a0 x1 x2 x3 V
def g_X9_pull_45_b (N : Nat) (k45 : Nat → Int → Int → Int → sj_VV → Option (Int × sj_VV)) (a0 : Nat) (x1 : Int) (x2 : Int) (x3 : Int) (V : sj_VV) : Option (Int × sj_VV) :=
  e_ile (x3 - x2) 1 (
    some (x3, V)) (
    e_dI (x2 + x3) 2 fun v1 =>
    e_ix 390 1 fun _ =>
    e_wid (V (a0 + 1) (1 : Int).toNat) fun v2 =>
    e_wid v1 fun v3 =>
    e_cs (g_X9_standsWith N a0 x1 ((2000 * v2) * v3) V) fun v5 V4 =>
    e_ieq v5 0 (
      g_X9_pull_91 N k45 a0 x1 v1 x3 V4) (
      g_X9_pull_91 N k45 a0 x1 x2 v1 V4))
def g_X9_pull_45 (N : Nat) : Nat → Nat → Int → Int → Int → sj_VV → Option (Int × sj_VV)
  | 0 => fun _ _ _ _ _ => none
  | n + 1 => fun a0 x1 x2 x3 V => g_X9_pull_45_b N (g_X9_pull_45 N n) a0 x1 x2 x3 V
def g_X9_pull (N : Nat) (a0 : Nat) (x1 : Int) (V : sj_VV) : Option (Int × sj_VV) :=
  e_cs (g_X9_isK N x1 V) fun v2 V1 =>
  e_ieq v2 0 (
    some ((-1), V1)) (
    e_cs (g_X9_takesSlip N a0 V1) fun v4 V3 =>
    e_ieq v4 0 (
      some ((-1), V3)) (
      e_ix 390 1 fun _ =>
      e_wid (V3 (a0 + 1) (1 : Int).toNat) fun v5 =>
      e_cs (g_X9_standsWith N a0 x1 ((2000 * v5) * 20000) V3) fun v7 V6 =>
      e_ieq v7 0 (
        some ((-1), V6)) (
        g_X9_pull_45 N N a0 x1 ((-1)) 20000 V6)))
noncomputable def f_X9_pull (N : Nat) (a0 : Nat) (x1 : Int) (s : sj_Mem) : Option (Int × sj_Mem) := e_ok (OK9 s.1 a0) ((g_X9_pull N a0 x1 s.2).map (fun q => (q.1, (s.1, q.2))))
def g_X9_needs_42_b (N : Nat) (k22 : Nat → Int → Int → sj_VV → Option (Int × sj_VV)) (k42 : Nat → Int → Int → Int → sj_VV → Option (Int × sj_VV)) (a0 : Nat) (x1 : Int) (x2 : Int) (x3 : Int) (V : sj_VV) : Option (Int × sj_VV) :=
  e_ile 4 x3 (
    k22 a0 x1 x2 V) (
    e_ix 390 ((290 + (3 * x3)) + 1) fun _ =>
    e_ix 390 ((290 + (3 * x3)) + 1) fun _ =>
    e_lt (sj_up V (a0 + 1) ((290 + (3 * x3)) + 1).toNat ((V (a0 + 2) ((290 + (3 * x3)) + 1).toNat) + x2)) fun V1 =>
    e_lt (x3 + 1) fun v2 =>
    k42 a0 x1 x2 v2 V1)
def g_X9_needs_42 (N : Nat) (k22 : Nat → Int → Int → sj_VV → Option (Int × sj_VV)) : Nat → Nat → Int → Int → Int → sj_VV → Option (Int × sj_VV)
  | 0 => fun _ _ _ _ _ => none
  | n + 1 => fun a0 x1 x2 x3 V => g_X9_needs_42_b N k22 (g_X9_needs_42 N k22 n) a0 x1 x2 x3 V
def g_X9_needs_86 (N : Nat) (a0 : Nat) (x2 : Int) (V : sj_VV) : Option (Int × sj_VV) :=
  e_cs (g_X9_comesBack N a0 V) fun _u V1 =>
  e_ile x2 500 (
    some (x2, V1)) (
    some ((-1), V1))
def g_X9_needs_22_b (N : Nat) (k22 : Nat → Int → Int → sj_VV → Option (Int × sj_VV)) (a0 : Nat) (x1 : Int) (x2 : Int) (V : sj_VV) : Option (Int × sj_VV) :=
  e_ilt 500 x2 (
    g_X9_needs_86 N a0 x2 V) (
    e_cs (g_X9_isStanding N a0 x1 V) fun v2 V1 =>
    e_ieq v2 0 (
      e_lt (x2 + 1) fun v3 =>
      g_X9_needs_42 N k22 N a0 x1 v3 0 V1) (
      g_X9_needs_86 N a0 x2 V1))
def g_X9_needs_22 (N : Nat) : Nat → Nat → Int → Int → sj_VV → Option (Int × sj_VV)
  | 0 => fun _ _ _ _ => none
  | n + 1 => fun a0 x1 x2 V => g_X9_needs_22_b N (g_X9_needs_22 N n) a0 x1 x2 V
def g_X9_needs (N : Nat) (a0 : Nat) (x1 : Int) (V : sj_VV) : Option (Int × sj_VV) :=
  e_cs (g_X9_isK N x1 V) fun v2 V1 =>
  e_ieq v2 0 (
    some ((-1), V1)) (
    e_cs (g_X9_takesSlip N a0 V1) fun v4 V3 =>
    e_ieq v4 0 (
      some ((-1), V3)) (
      e_cs (g_X9_laysAside N a0 V3) fun _u V5 =>
      g_X9_needs_22 N N a0 x1 0 V5))
noncomputable def f_X9_needs (N : Nat) (a0 : Nat) (x1 : Int) (s : sj_Mem) : Option (Int × sj_Mem) := e_ok (OK9 s.1 a0) ((g_X9_needs N a0 x1 s.2).map (fun q => (q.1, (s.1, q.2))))
def g_X9_bears_41_b (N : Nat) (k22 : Nat → Int → Int → sj_VV → Option (Int × sj_VV)) (k41 : Nat → Int → Int → Int → sj_VV → Option (Int × sj_VV)) (a0 : Nat) (x1 : Int) (x2 : Int) (x3 : Int) (V : sj_VV) : Option (Int × sj_VV) :=
  e_ile 41 x3 (
    k22 a0 x1 x2 V) (
    e_ix 390 (85 + x3) fun _ =>
    e_cs (g_X9_least N 100 ((V (a0 + 2) (85 + x3).toNat) + x2) V) fun v2 V1 =>
    e_ix 390 (85 + x3) fun _ =>
    e_lt (sj_up V1 (a0 + 1) (85 + x3).toNat v2) fun V3 =>
    e_lt (x3 + 1) fun v4 =>
    k41 a0 x1 x2 v4 V3)
def g_X9_bears_41 (N : Nat) (k22 : Nat → Int → Int → sj_VV → Option (Int × sj_VV)) : Nat → Nat → Int → Int → Int → sj_VV → Option (Int × sj_VV)
  | 0 => fun _ _ _ _ _ => none
  | n + 1 => fun a0 x1 x2 x3 V => g_X9_bears_41_b N k22 (g_X9_bears_41 N k22 n) a0 x1 x2 x3 V
def g_X9_bears_81 (N : Nat) (a0 : Nat) (x2 : Int) (V : sj_VV) : Option (Int × sj_VV) :=
  e_cs (g_X9_comesBack N a0 V) fun _u V1 =>
  some (x2 - 1, V1)
def g_X9_bears_22_b (N : Nat) (k22 : Nat → Int → Int → sj_VV → Option (Int × sj_VV)) (a0 : Nat) (x1 : Int) (x2 : Int) (V : sj_VV) : Option (Int × sj_VV) :=
  e_ilt 100 x2 (
    g_X9_bears_81 N a0 x2 V) (
    e_cs (g_X9_isStanding N a0 x1 V) fun v2 V1 =>
    e_ieq v2 0 (
      g_X9_bears_81 N a0 x2 V1) (
      e_lt (x2 + 1) fun v3 =>
      g_X9_bears_41 N k22 N a0 x1 v3 0 V1))
def g_X9_bears_22 (N : Nat) : Nat → Nat → Int → Int → sj_VV → Option (Int × sj_VV)
  | 0 => fun _ _ _ _ => none
  | n + 1 => fun a0 x1 x2 V => g_X9_bears_22_b N (g_X9_bears_22 N n) a0 x1 x2 V
def g_X9_bears (N : Nat) (a0 : Nat) (x1 : Int) (V : sj_VV) : Option (Int × sj_VV) :=
  e_cs (g_X9_isK N x1 V) fun v2 V1 =>
  e_ieq v2 0 (
    some ((-1), V1)) (
    e_cs (g_X9_takesSlip N a0 V1) fun v4 V3 =>
    e_ieq v4 0 (
      some ((-1), V3)) (
      e_cs (g_X9_laysAside N a0 V3) fun _u V5 =>
      g_X9_bears_22 N N a0 x1 0 V5))
noncomputable def f_X9_bears (N : Nat) (a0 : Nat) (x1 : Int) (s : sj_Mem) : Option (Int × sj_Mem) := e_ok (OK9 s.1 a0) ((g_X9_bears N a0 x1 s.2).map (fun q => (q.1, (s.1, q.2))))
def g_X9_dry_15_b (N : Nat) (k15 : Nat → Int → sj_VV → Option (Int × sj_VV)) (a0 : Nat) (x1 : Int) (V : sj_VV) : Option (Int × sj_VV) :=
  e_ile 41 x1 (
    e_cs (g_X9_factorOf N a0 V) fun v2 V1 =>
    e_cs (g_X9_comesBack N a0 V1) fun _u V3 =>
    some (v2, V3)) (
    e_ix 390 (85 + x1) fun _ =>
    e_lt (sj_up V (a0 + 1) (85 + x1).toNat 0) fun V4 =>
    e_lt (x1 + 1) fun v5 =>
    k15 a0 v5 V4)
def g_X9_dry_15 (N : Nat) : Nat → Nat → Int → sj_VV → Option (Int × sj_VV)
  | 0 => fun _ _ _ => none
  | n + 1 => fun a0 x1 V => g_X9_dry_15_b N (g_X9_dry_15 N n) a0 x1 V
def g_X9_dry (N : Nat) (a0 : Nat) (V : sj_VV) : Option (Int × sj_VV) :=
  e_cs (g_X9_takesSlip N a0 V) fun v2 V1 =>
  e_ieq v2 0 (
    some ((-1), V1)) (
    e_cs (g_X9_laysAside N a0 V1) fun _u V3 =>
    g_X9_dry_15 N N a0 0 V3)
noncomputable def f_X9_dry (N : Nat) (a0 : Nat) (s : sj_Mem) : Option (Int × sj_Mem) := e_ok (OK9 s.1 a0) ((g_X9_dry N a0 s.2).map (fun q => (q.1, (s.1, q.2))))
def g_X9_sum_96 (N : Nat) (k41 : Nat → Int → Int → Int → sj_VV → Option (Int × sj_VV)) (a0 : Nat) (x1 : Int) (x4 : Int) (y0 : Int) (y1 : Int) (V : sj_VV) : Option (Int × sj_VV) :=
  e_lt (y1 + y0) fun v1 =>
  e_lt (x4 + 1) fun v2 =>
  k41 a0 x1 v1 v2 V
def g_X9_sum_41_b (N : Nat) (k41 : Nat → Int → Int → Int → sj_VV → Option (Int × sj_VV)) (a0 : Nat) (x1 : Int) (x2 : Int) (x4 : Int) (V : sj_VV) : Option (Int × sj_VV) :=
  e_ile (V a0 14) x4 (
    some (x2, V)) (
    e_cs (g_X9_laysAt N a0 x4 V) fun _u V1 =>
    e_ieq x1 0 (
      g_X9_sum_96 N k41 a0 x1 x4 (V1 a0 12) x2 V1) (
      e_ieq x1 2 (
        g_X9_sum_96 N k41 a0 x1 x4 (V1 a0 8) x2 V1) (
        e_ieq x1 3 (
          g_X9_sum_96 N k41 a0 x1 x4 (V1 a0 9) x2 V1) (
          g_X9_sum_96 N k41 a0 x1 x4 (V1 a0 11) x2 V1))))
def g_X9_sum_41 (N : Nat) : Nat → Nat → Int → Int → Int → sj_VV → Option (Int × sj_VV)
  | 0 => fun _ _ _ _ _ => none
  | n + 1 => fun a0 x1 x2 x4 V => g_X9_sum_41_b N (g_X9_sum_41 N n) a0 x1 x2 x4 V
def g_X9_sum (N : Nat) (a0 : Nat) (x1 : Int) (V : sj_VV) : Option (Int × sj_VV) :=
  e_cs (g_X9_takesSlip N a0 V) fun v2 V1 =>
  e_ieq v2 0 (
    some ((-10000000000000), V1)) (
    e_wid x1 fun v3 =>
    e_cs (g_X9_isIn N v3 0 4 V1) fun v5 V4 =>
    e_ieq v5 0 (
      some ((-10000000000000), V4)) (
      e_ieq x1 1 (
        e_cs (g_X9_pulls N a0 V4) fun v8 V7 =>
        some (v8, V7)) (
        e_lt (V4 a0 13) fun v6 =>
        g_X9_sum_41 N N a0 x1 0 v6 V4)))
noncomputable def f_X9_sum (N : Nat) (a0 : Nat) (x1 : Int) (s : sj_Mem) : Option (Int × sj_Mem) := e_ok (OK9 s.1 a0) ((g_X9_sum N a0 x1 s.2).map (fun q => (q.1, (s.1, q.2))))
def g_X9_stands (N : Nat) (a0 : Nat) (x1 : Int) (V : sj_VV) : Option (Int × sj_VV) :=
  e_cs (g_X9_isK N x1 V) fun v2 V1 =>
  e_ieq v2 0 (
    some ((-1), V1)) (
    e_cs (g_X9_takesSlip N a0 V1) fun v4 V3 =>
    e_ieq v4 0 (
      some ((-1), V3)) (
      e_cs (g_X9_isStanding N a0 x1 V3) fun v6 V5 =>
      e_ieq v6 0 (
        some (0, V5)) (
        some (1, V5))))
noncomputable def f_X9_stands (N : Nat) (a0 : Nat) (x1 : Int) (s : sj_Mem) : Option (Int × sj_Mem) := e_ok (OK9 s.1 a0) ((g_X9_stands N a0 x1 s.2).map (fun q => (q.1, (s.1, q.2))))
def g_X9_rubs (N : Nat) (a0 : Nat) (x1 : Int) (x2 : Int) (V : sj_VV) : Option (Int × sj_VV) :=
  e_cs (g_X9_isSlice N a0 x1 V) fun v2 V1 =>
  e_ieq v2 0 (
    some ((-10), V1)) (
    e_cs (g_X9_isK N x2 V1) fun v4 V3 =>
    e_ieq v4 0 (
      some ((-10), V3)) (
      e_cs (g_X9_laysAt N a0 ((V3 a0 13) + x1) V3) fun _u V5 =>
      e_cs (g_X9_rubsOf N a0 x2 V5) fun v7 V6 =>
      some (v7, V6)))
noncomputable def f_X9_rubs (N : Nat) (a0 : Nat) (x1 : Int) (x2 : Int) (s : sj_Mem) : Option (Int × sj_Mem) := e_ok (OK9 s.1 a0) ((g_X9_rubs N a0 x1 x2 s.2).map (fun q => (q.1, (s.1, q.2))))
def g_X9_slice (N : Nat) (a0 : Nat) (x1 : Int) (x2 : Int) (V : sj_VV) : Option (Int × sj_VV) :=
  e_cs (g_X9_isSlice N a0 x1 V) fun v2 V1 =>
  e_ieq v2 0 (
    some ((-10000000000000), V1)) (
    e_cs (g_X9_laysAt N a0 ((V1 a0 13) + x1) V1) fun _u V3 =>
    e_sw x2 (
    if x2 = 0 then (
      e_wid ((V3 a0 13) + x1) fun v4 =>
      some (v4, V3)) else (
    if x2 = 1 then (
      e_wid (V3 a0 6) fun v5 =>
      some (v5, V3)) else (
    if x2 = 2 then (
      some (V3 a0 8, V3)) else (
    if x2 = 3 then (
      some (V3 a0 9, V3)) else (
    if x2 = 4 then (
      some (V3 a0 10, V3)) else (
    if x2 = 5 then (
      e_wid (V3 a0 7) fun v6 =>
      some (v6, V3)) else (
    if x2 = 6 then (
      some (V3 a0 11, V3)) else (
    if x2 = 7 then (
      some (V3 a0 12, V3)) else (
      some ((-10000000000000), V3)))))))))))
noncomputable def f_X9_slice (N : Nat) (a0 : Nat) (x1 : Int) (x2 : Int) (s : sj_Mem) : Option (Int × sj_Mem) := e_ok (OK9 s.1 a0) ((g_X9_slice N a0 x1 x2 s.2).map (fun q => (q.1, (s.1, q.2))))
def g_X9_anchored (N : Nat) (a0 : Nat) (x1 : Int) (x2 : Int) (V : sj_VV) : Option (Int × sj_VV) :=
  e_cs (g_X9_isAnchor N a0 x1 V) fun v2 V1 =>
  e_ieq v2 0 (
    some ((-1), V1)) (
    e_wid x2 fun v3 =>
    e_cs (g_X9_isIn N v3 0 3 V1) fun v5 V4 =>
    e_ieq v5 0 (
      some ((-1), V4)) (
      e_ile 3 x2 (
        e_cs (g_X9_takesSlip N a0 V4) fun v7 V6 =>
        e_ieq v7 0 (
          some (0, V6)) (
          e_cs (g_X9_isCounting N a0 x1 V6) fun v9 V8 =>
          e_ieq v9 0 (
            some (0, V8)) (
            some (1, V8)))) (
        e_ix 390 ((302 + (3 * x1)) + x2) fun _ =>
        some (V4 (a0 + 1) ((302 + (3 * x1)) + x2).toNat, V4))))
noncomputable def f_X9_anchored (N : Nat) (a0 : Nat) (x1 : Int) (x2 : Int) (s : sj_Mem) : Option (Int × sj_Mem) := e_ok (OK9 s.1 a0) ((g_X9_anchored N a0 x1 x2 s.2).map (fun q => (q.1, (s.1, q.2))))
def g_X9_layer (N : Nat) (a0 : Nat) (x1 : Int) (x2 : Int) (V : sj_VV) : Option (Int × sj_VV) :=
  e_wid x1 fun v1 =>
  e_cs (g_X9_isIn N v1 0 3 V) fun v3 V2 =>
  e_ieq v3 0 (
    some ((-1), V2)) (
    e_wid x2 fun v4 =>
    e_cs (g_X9_isIn N v4 0 2 V2) fun v6 V5 =>
    e_ieq v6 0 (
      some ((-1), V5)) (
      e_ix 390 ((290 + (3 * x1)) + x2) fun _ =>
      some (V5 (a0 + 1) ((290 + (3 * x1)) + x2).toNat, V5)))
noncomputable def f_X9_layer (N : Nat) (a0 : Nat) (x1 : Int) (x2 : Int) (s : sj_Mem) : Option (Int × sj_Mem) := e_ok (OK9 s.1 a0) ((g_X9_layer N a0 x1 x2 s.2).map (fun q => (q.1, (s.1, q.2))))
def g_X9_column (N : Nat) (a0 : Nat) (x1 : Int) (x2 : Int) (V : sj_VV) : Option (Int × sj_VV) :=
  e_cs (g_X9_isColumn N a0 x1 V) fun v2 V1 =>
  e_ieq v2 0 (
    some ((-10), V1)) (
    e_sw x2 (
    if x2 = 0 then (
      e_ix 390 (3 + x1) fun _ =>
      some (V1 (a0 + 1) (3 + x1).toNat, V1)) else (
    if x2 = 1 then (
      e_ix 390 (44 + x1) fun _ =>
      some (V1 (a0 + 1) (44 + x1).toNat, V1)) else (
    if x2 = 2 then (
      e_cs (g_X9_water N a0 x1 V1) fun v4 V3 =>
      some (v4, V3)) else (
    if x2 = 3 then (
      e_ix 390 (126 + x1) fun _ =>
      some (V1 (a0 + 1) (126 + x1).toNat, V1)) else (
    if x2 = 4 then (
      e_cs (g_X9_top N a0 (x2 - 4) x1 V1) fun v6 V5 =>
      some (v6, V5)) else (
    if x2 = 5 then (
      e_cs (g_X9_top N a0 (x2 - 4) x1 V1) fun v8 V7 =>
      some (v8, V7)) else (
    if x2 = 6 then (
      e_cs (g_X9_top N a0 (x2 - 4) x1 V1) fun v10 V9 =>
      some (v10, V9)) else (
    if x2 = 7 then (
      e_cs (g_X9_top N a0 (x2 - 4) x1 V1) fun v12 V11 =>
      some (v12, V11)) else (
    if x2 = 8 then (
      e_cs (g_X9_hasSlip N a0 V1) fun v14 V13 =>
      e_ieq v14 0 (
        some ((-1), V13)) (
        e_wid x1 fun v15 =>
        e_ix 390 320 fun _ =>
        e_wid (V13 (a0 + 1) (320 : Int).toNat) fun v16 =>
        e_ix 390 321 fun _ =>
        e_wid (V13 (a0 + 1) (321 : Int).toNat) fun v17 =>
        e_cs (g_X9_isIn N v15 v16 v17 V13) fun v19 V18 =>
        e_ieq v19 0 (
          some ((-1), V18)) (
          e_ix 390 (323 + x1) fun _ =>
          some (V18 (a0 + 1) (323 + x1).toNat, V18)))) else (
      some ((-10), V1))))))))))))
noncomputable def f_X9_column (N : Nat) (a0 : Nat) (x1 : Int) (x2 : Int) (s : sj_Mem) : Option (Int × sj_Mem) := e_ok (OK9 s.1 a0) ((g_X9_column N a0 x1 x2 s.2).map (fun q => (q.1, (s.1, q.2))))
def g_X9_undo_21_b (N : Nat) (k21 : Nat → Int → sj_VV → Option (Int × sj_VV)) (a0 : Nat) (x1 : Int) (V : sj_VV) : Option (Int × sj_VV) :=
  e_ile 364 x1 (
    some (V a0 4, V)) (
    e_ix 2912 ((364 * (V a0 4)) + x1) fun _ =>
    e_ix 390 x1 fun _ =>
    e_lt (sj_up V (a0 + 1) x1.toNat (V (a0 + 4) ((364 * (V a0 4)) + x1).toNat)) fun V1 =>
    e_lt (x1 + 1) fun v2 =>
    k21 a0 v2 V1)
def g_X9_undo_21 (N : Nat) : Nat → Nat → Int → sj_VV → Option (Int × sj_VV)
  | 0 => fun _ _ _ => none
  | n + 1 => fun a0 x1 V => g_X9_undo_21_b N (g_X9_undo_21 N n) a0 x1 V
def g_X9_undo (N : Nat) (a0 : Nat) (V : sj_VV) : Option (Int × sj_VV) :=
  e_ieq (V a0 4) 0 (
    some ((-1), V)) (
    e_lt (sj_up V a0 4 ((V a0 4) - 1)) fun V1 =>
    g_X9_undo_21 N N a0 0 V1)
noncomputable def f_X9_undo (N : Nat) (a0 : Nat) (s : sj_Mem) : Option (Int × sj_Mem) := e_ok (OK9 s.1 a0) ((g_X9_undo N a0 s.2).map (fun q => (q.1, (s.1, q.2))))
def g_X9_keepsSlip_46_b (N : Nat) (k46 : Nat → Int → sj_VV → Option (Int × sj_VV)) (a0 : Nat) (x1 : Int) (V : sj_VV) : Option (Int × sj_VV) :=
  e_ile 41 x1 (
    some ((V a0 14) - (V a0 13), V)) (
    e_ix 41 x1 fun _ =>
    e_ix 390 (323 + x1) fun _ =>
    e_lt (sj_up V (a0 + 1) (323 + x1).toNat (V (a0 + 5) x1.toNat)) fun V1 =>
    e_lt (x1 + 1) fun v2 =>
    k46 a0 v2 V1)
def g_X9_keepsSlip_46 (N : Nat) : Nat → Nat → Int → sj_VV → Option (Int × sj_VV)
  | 0 => fun _ _ _ => none
  | n + 1 => fun a0 x1 V => g_X9_keepsSlip_46_b N (g_X9_keepsSlip_46 N n) a0 x1 V
def g_X9_keepsSlip_43 (N : Nat) (a0 : Nat) (y0 : Int) (y1 : Int) (y2 : Nat) (m2 : Nat) (V : sj_VV) : Option (Int × sj_VV) :=
  e_ix m2 y1 fun _ =>
  e_lt (sj_up V y2 y1.toNat y0) fun V1 =>
  g_X9_keepsSlip_46 N N a0 0 V1
def g_X9_keepsSlip (N : Nat) (a0 : Nat) (V : sj_VV) : Option (Int × sj_VV) :=
  e_ix 390 320 fun _ =>
  e_lt (sj_up V (a0 + 1) (320 : Int).toNat (V a0 13)) fun V1 =>
  e_ix 390 321 fun _ =>
  e_lt (sj_up V1 (a0 + 1) (321 : Int).toNat (V1 a0 14)) fun V2 =>
  e_ieq (V2 a0 15) 0 (
    g_X9_keepsSlip_43 N a0 0 322 (a0 + 1) 390 V2) (
    g_X9_keepsSlip_43 N a0 1 322 (a0 + 1) 390 V2)
noncomputable def f_X9_keepsSlip (N : Nat) (a0 : Nat) (s : sj_Mem) : Option (Int × sj_Mem) := e_ok (OK9 s.1 a0) ((g_X9_keepsSlip N a0 s.2).map (fun q => (q.1, (s.1, q.2))))
def g_X9_worst (N : Nat) (a0 : Nat) (x1 : Int) (x2 : Int) (V : sj_VV) : Option (Int × sj_VV) :=
  e_wid x1 fun v1 =>
  e_cs (g_X9_isIn N v1 1 12 V) fun v3 V2 =>
  e_ieq v3 0 (
    some ((-1), V2)) (
    e_cs (g_X9_tableK N a0 x1 x2 V2) fun v5 V4 =>
    e_cs (g_X9_findsWorst N a0 x1 x2 v5 V4) fun v7 V6 =>
    e_ieq v7 0 (
      some ((-1), V6)) (
      e_cs (g_X9_keepsSlip N a0 V6) fun v9 V8 =>
      some (v9, V8)))
noncomputable def f_X9_worst (N : Nat) (a0 : Nat) (x1 : Int) (x2 : Int) (s : sj_Mem) : Option (Int × sj_Mem) := e_ok (OK9 s.1 a0) ((g_X9_worst N a0 x1 x2 s.2).map (fun q => (q.1, (s.1, q.2))))
def g_X9_pointsCan_102_b (N : Nat) (k67 : Nat → Int → Int → sj_VV → Option (Int × sj_VV)) (k102 : Nat → Int → Int → Int → Int → Int → sj_VV → Option (Int × sj_VV)) (a0 : Nat) (x1 : Int) (x2 : Int) (x3 : Int) (x4 : Int) (x5 : Int) (V : sj_VV) : Option (Int × sj_VV) :=
  e_ilt x4 x5 (
    e_lt (x2 + 1) fun v1 =>
    k67 a0 x1 v1 V) (
    e_ix 390 (377 + x2) fun _ =>
    e_ix 390 ((377 + x2) + 1) fun _ =>
    e_ix 390 (377 + x2) fun _ =>
    e_wid ((V (a0 + 1) ((377 + x2) + 1).toNat) - (V (a0 + 1) (377 + x2).toNat)) fun v2 =>
    e_wid (x5 - x3) fun v3 =>
    e_wid (x4 - x3) fun v4 =>
    e_cs (g_X9_downwards N (v2 * v3) v4 V) fun v6 V5 =>
    e_ix 41 x5 fun _ =>
    e_lt (sj_up V5 (a0 + 5) x5.toNat ((V (a0 + 1) (377 + x2).toNat) + v6)) fun V7 =>
    e_lt (x5 + 1) fun v8 =>
    k102 a0 x1 x2 x3 x4 v8 V7)
def g_X9_pointsCan_102 (N : Nat) (k67 : Nat → Int → Int → sj_VV → Option (Int × sj_VV)) : Nat → Nat → Int → Int → Int → Int → Int → sj_VV → Option (Int × sj_VV)
  | 0 => fun _ _ _ _ _ _ _ => none
  | n + 1 => fun a0 x1 x2 x3 x4 x5 V => g_X9_pointsCan_102_b N k67 (g_X9_pointsCan_102 N k67 n) a0 x1 x2 x3 x4 x5 V
def g_X9_pointsCan_225_b (N : Nat) (k225 : Nat → Int → sj_VV → Option (Int × sj_VV)) (a0 : Nat) (x2 : Int) (V : sj_VV) : Option (Int × sj_VV) :=
  e_ile (V a0 14) x2 (
    e_zs 1 V) (
    e_ix 41 x2 fun _ =>
    e_ix 390 (3 + x2) fun _ =>
    e_ile (V (a0 + 1) (3 + x2).toNat) (V (a0 + 5) x2.toNat) (
      e_zs 0 V) (
      e_ix 41 x2 fun _ =>
      e_ix 390 (44 + x2) fun _ =>
      e_ile (V (a0 + 1) (44 + x2).toNat) (V (a0 + 5) x2.toNat) (
        e_lt (x2 + 1) fun v1 =>
        k225 a0 v1 V) (
        e_zs 0 V)))
def g_X9_pointsCan_225 (N : Nat) : Nat → Nat → Int → sj_VV → Option (Int × sj_VV)
  | 0 => fun _ _ _ => none
  | n + 1 => fun a0 x2 V => g_X9_pointsCan_225_b N (g_X9_pointsCan_225 N n) a0 x2 V
def g_X9_pointsCan_67_b (N : Nat) (k67 : Nat → Int → Int → sj_VV → Option (Int × sj_VV)) (a0 : Nat) (x1 : Int) (x2 : Int) (V : sj_VV) : Option (Int × sj_VV) :=
  e_ile x1 (x2 + 1) (
    e_ix 390 (3 + (V a0 13)) fun _ =>
    e_ix 41 (V a0 13) fun _ =>
    e_lt (sj_up V (a0 + 5) (V a0 13).toNat (V (a0 + 1) (3 + (V a0 13)).toNat)) fun V1 =>
    e_ix 390 (3 + (V1 a0 14)) fun _ =>
    e_ix 41 (V1 a0 14) fun _ =>
    e_lt (sj_up V1 (a0 + 5) (V1 a0 14).toNat (V1 (a0 + 1) (3 + (V1 a0 14)).toNat)) fun V2 =>
    e_lt ((V2 a0 13) + 1) fun v3 =>
    g_X9_pointsCan_225 N N a0 v3 V2) (
    e_ix 390 (365 + x2) fun _ =>
    e_lt (V (a0 + 1) (365 + x2).toNat) fun v4 =>
    e_ix 390 ((365 + x2) + 1) fun _ =>
    e_lt (V (a0 + 1) ((365 + x2) + 1).toNat) fun v5 =>
    g_X9_pointsCan_102 N k67 N a0 x1 x2 v4 v5 v4 V)
def g_X9_pointsCan_67 (N : Nat) : Nat → Nat → Int → Int → sj_VV → Option (Int × sj_VV)
  | 0 => fun _ _ _ _ => none
  | n + 1 => fun a0 x1 x2 V => g_X9_pointsCan_67_b N (g_X9_pointsCan_67 N n) a0 x1 x2 V
def g_X9_pointsCan (N : Nat) (a0 : Nat) (V : sj_VV) : Option (Int × sj_VV) :=
  e_ix 390 364 fun _ =>
  e_lt (V (a0 + 1) (364 : Int).toNat) fun v1 =>
  e_ilt v1 2 (
    e_zs 0 V) (
    e_ix 390 ((365 + v1) - 1) fun _ =>
    e_ix 390 0 fun _ =>
    e_ile (V (a0 + 1) ((365 + v1) - 1).toNat) (V (a0 + 1) (0 : Int).toNat) (
      e_ix 390 365 fun _ =>
      e_lt (sj_up V a0 13 (V (a0 + 1) (365 : Int).toNat)) fun V2 =>
      e_ix 390 ((365 + v1) - 1) fun _ =>
      e_lt (sj_up V2 a0 14 (V2 (a0 + 1) ((365 + v1) - 1).toNat)) fun V3 =>
      g_X9_pointsCan_67 N N a0 v1 0 V3) (
      e_zs 0 V))
noncomputable def f_X9_pointsCan (N : Nat) (a0 : Nat) (s : sj_Mem) : Option (Int × sj_Mem) := e_ok (OK9 s.1 a0) ((g_X9_pointsCan N a0 s.2).map (fun q => (q.1, (s.1, q.2))))
def g_X9_points (N : Nat) (a0 : Nat) (x1 : Int) (V : sj_VV) : Option (Int × sj_VV) :=
  e_cs (g_X9_pointsCan N a0 V) fun v2 V1 =>
  e_ieq v2 0 (
    some ((-1), V1)) (
    e_zz x1 fun _ =>
    e_lt (sj_up V1 a0 15 x1) fun V3 =>
    e_cs (g_X9_keepsSlip N a0 V3) fun v5 V4 =>
    some (v5, V4))
noncomputable def f_X9_points (N : Nat) (a0 : Nat) (x1 : Int) (s : sj_Mem) : Option (Int × sj_Mem) := e_ok (OK9 s.1 a0) ((g_X9_points N a0 x1 s.2).map (fun q => (q.1, (s.1, q.2))))
def g_X9_point_73 (N : Nat) (a0 : Nat) (x1 : Int) (x2 : Int) (x3 : Int) (V : sj_VV) : Option (Int × sj_VV) :=
  e_ix 390 (365 + x3) fun _ =>
  e_lt (sj_up V (a0 + 1) (365 + x3).toNat x1) fun V1 =>
  e_ix 390 (377 + x3) fun _ =>
  e_lt (sj_up V1 (a0 + 1) (377 + x3).toNat x2) fun V2 =>
  e_ix 390 364 fun _ =>
  e_ix 390 364 fun _ =>
  e_lt (sj_up V2 (a0 + 1) (364 : Int).toNat ((V2 (a0 + 1) (364 : Int).toNat) + 1)) fun V3 =>
  e_ix 390 364 fun _ =>
  some (V3 (a0 + 1) (364 : Int).toNat, V3)
def g_X9_point (N : Nat) (a0 : Nat) (x1 : Int) (x2 : Int) (V : sj_VV) : Option (Int × sj_VV) :=
  e_ieq x1 ((-1)) (
    e_ix 390 364 fun _ =>
    e_lt (sj_up V (a0 + 1) (364 : Int).toNat 0) fun V7 =>
    some (0, V7)) (
    e_ix 390 364 fun _ =>
    e_lt (V (a0 + 1) (364 : Int).toNat) fun v1 =>
    e_cs (g_X9_isColumn N a0 x1 V) fun v3 V2 =>
    e_ieq v3 0 (
      some ((-1), V2)) (
      e_wid x2 fun v4 =>
      e_cs (g_X9_isIn N v4 0 100 V2) fun v6 V5 =>
      e_ieq v6 0 (
        some ((-1), V5)) (
        e_ieq v1 12 (
          some ((-1), V5)) (
          e_ile v1 0 (
            g_X9_point_73 N a0 x1 x2 v1 V5) (
            e_ix 390 ((365 + v1) - 1) fun _ =>
            e_ilt (V5 (a0 + 1) ((365 + v1) - 1).toNat) x1 (
              g_X9_point_73 N a0 x1 x2 v1 V5) (
              some ((-1), V5)))))))
noncomputable def f_X9_point (N : Nat) (a0 : Nat) (x1 : Int) (x2 : Int) (s : sj_Mem) : Option (Int × sj_Mem) := e_ok (OK9 s.1 a0) ((g_X9_point N a0 x1 x2 s.2).map (fun q => (q.1, (s.1, q.2))))
def g_X9_circle (N : Nat) (a0 : Nat) (x1 : Int) (x2 : Int) (x3 : Int) (x4 : Int) (V : sj_VV) : Option (Int × sj_VV) :=
  e_cs (g_X9_isCircle N x1 x2 x3 V) fun v2 V1 =>
  e_ieq v2 0 (
    some ((-1), V1)) (
    e_cs (g_X9_cuts N a0 x1 x2 x3 x4 V1) fun v4 V3 =>
    e_ieq v4 0 (
      some ((-1), V3)) (
      e_cs (g_X9_keepsSlip N a0 V3) fun v6 V5 =>
      some (v6, V5)))
noncomputable def f_X9_circle (N : Nat) (a0 : Nat) (x1 : Int) (x2 : Int) (x3 : Int) (x4 : Int) (s : sj_Mem) : Option (Int × sj_Mem) := e_ok (OK9 s.1 a0) ((g_X9_circle N a0 x1 x2 x3 x4 s.2).map (fun q => (q.1, (s.1, q.2))))
def g_X9_fault (N : Nat) (a0 : Nat) (x1 : Int) (V : sj_VV) : Option (Int × sj_VV) :=
  e_ieq x1 0 (
    some (V a0 30, V)) (
    e_ieq x1 1 (
      some (V a0 31, V)) (
      some ((-1), V)))
noncomputable def f_X9_fault (N : Nat) (a0 : Nat) (x1 : Int) (s : sj_Mem) : Option (Int × sj_Mem) := e_ok (OK9 s.1 a0) ((g_X9_fault N a0 x1 s.2).map (fun q => (q.1, (s.1, q.2))))
def g_X9_blanks_0_b (N : Nat) (k0 : Nat → sj_VV → Option (Unit × sj_VV)) (a0 : Nat) (V : sj_VV) : Option (Unit × sj_VV) :=
  e_ile (V a0 28) (V a0 29) (
    some ((), V)) (
    e_ix 600 (V a0 29) fun _ =>
    e_ieq (V (a0 + 10) (V a0 29).toNat) 32 (
      e_lt (sj_up V a0 29 ((V a0 29) + 1)) fun V1 =>
      k0 a0 V1) (
      some ((), V)))
def g_X9_blanks_0 (N : Nat) : Nat → Nat → sj_VV → Option (Unit × sj_VV)
  | 0 => fun _ _ => none
  | n + 1 => fun a0 V => g_X9_blanks_0_b N (g_X9_blanks_0 N n) a0 V
def g_X9_blanks (N : Nat) (a0 : Nat) (V : sj_VV) : Option (Unit × sj_VV) := g_X9_blanks_0 N N a0 V
noncomputable def f_X9_blanks (N : Nat) (a0 : Nat) (s : sj_Mem) : Option (Unit × sj_Mem) := e_ok (OK9 s.1 a0) ((g_X9_blanks N a0 s.2).map (fun q => (q.1, (s.1, q.2))))
def g_X9_wordEnd_5_b (N : Nat) (k5 : Nat → Int → sj_VV → Option (Int × sj_VV)) (a0 : Nat) (x1 : Int) (V : sj_VV) : Option (Int × sj_VV) :=
  e_ile (V a0 28) x1 (
    some (x1, V)) (
    e_ix 600 x1 fun _ =>
    e_wid (V (a0 + 10) x1.toNat) fun v1 =>
    e_cs (g_X9_isIn N v1 97 122 V) fun v3 V2 =>
    e_ieq v3 0 (
      some (x1, V2)) (
      e_lt (x1 + 1) fun v4 =>
      k5 a0 v4 V2))
def g_X9_wordEnd_5 (N : Nat) : Nat → Nat → Int → sj_VV → Option (Int × sj_VV)
  | 0 => fun _ _ _ => none
  | n + 1 => fun a0 x1 V => g_X9_wordEnd_5_b N (g_X9_wordEnd_5 N n) a0 x1 V
def g_X9_wordEnd (N : Nat) (a0 : Nat) (V : sj_VV) : Option (Int × sj_VV) :=
  e_lt (V a0 29) fun v1 =>
  g_X9_wordEnd_5 N N a0 v1 V
noncomputable def f_X9_wordEnd (N : Nat) (a0 : Nat) (s : sj_Mem) : Option (Int × sj_Mem) := e_ok (OK9 s.1 a0) ((g_X9_wordEnd N a0 s.2).map (fun q => (q.1, (s.1, q.2))))
def g_X9_spells_148 (N : Nat) (V : sj_VV) : Option (Int × sj_VV) :=
  e_zs 1 V
def g_X9_spells_125 (N : Nat) (a0 : Nat) (x1 : Int) (x8 : Int) (V : sj_VV) : Option (Int × sj_VV) :=
  e_ilt x1 7 (
    g_X9_spells_148 N V) (
    e_ix 600 ((V a0 29) + 6) fun _ =>
    e_ieq (V (a0 + 10) ((V a0 29) + 6).toNat) x8 (
      g_X9_spells_148 N V) (
      e_zs 0 V))
def g_X9_spells_103 (N : Nat) (a0 : Nat) (x1 : Int) (x7 : Int) (x8 : Int) (V : sj_VV) : Option (Int × sj_VV) :=
  e_ilt x1 6 (
    g_X9_spells_125 N a0 x1 x8 V) (
    e_ix 600 ((V a0 29) + 5) fun _ =>
    e_ieq (V (a0 + 10) ((V a0 29) + 5).toNat) x7 (
      g_X9_spells_125 N a0 x1 x8 V) (
      e_zs 0 V))
def g_X9_spells_80 (N : Nat) (a0 : Nat) (x1 : Int) (x6 : Int) (x7 : Int) (x8 : Int) (V : sj_VV) : Option (Int × sj_VV) :=
  e_ile x1 4 (
    g_X9_spells_103 N a0 x1 x7 x8 V) (
    e_ix 600 ((V a0 29) + 4) fun _ =>
    e_ieq (V (a0 + 10) ((V a0 29) + 4).toNat) x6 (
      g_X9_spells_103 N a0 x1 x7 x8 V) (
      e_zs 0 V))
def g_X9_spells (N : Nat) (a0 : Nat) (x1 : Int) (x2 : Int) (x3 : Int) (x4 : Int) (x5 : Int) (x6 : Int) (x7 : Int) (x8 : Int) (V : sj_VV) : Option (Int × sj_VV) :=
  e_cs (g_X9_wordEnd N a0 V) fun v2 V1 =>
  e_ieq v2 ((V1 a0 29) + x1) (
    e_ix 600 (V1 a0 29) fun _ =>
    e_ieq (V1 (a0 + 10) (V1 a0 29).toNat) x2 (
      e_ix 600 ((V1 a0 29) + 1) fun _ =>
      e_ieq (V1 (a0 + 10) ((V1 a0 29) + 1).toNat) x3 (
        e_ix 600 ((V1 a0 29) + 2) fun _ =>
        e_ieq (V1 (a0 + 10) ((V1 a0 29) + 2).toNat) x4 (
          e_ile x1 3 (
            g_X9_spells_80 N a0 x1 x6 x7 x8 V1) (
            e_ix 600 ((V1 a0 29) + 3) fun _ =>
            e_ieq (V1 (a0 + 10) ((V1 a0 29) + 3).toNat) x5 (
              g_X9_spells_80 N a0 x1 x6 x7 x8 V1) (
              e_zs 0 V1))) (
          e_zs 0 V1)) (
        e_zs 0 V1)) (
      e_zs 0 V1)) (
    e_zs 0 V1)
noncomputable def f_X9_spells (N : Nat) (a0 : Nat) (x1 : Int) (x2 : Int) (x3 : Int) (x4 : Int) (x5 : Int) (x6 : Int) (x7 : Int) (x8 : Int) (s : sj_Mem) : Option (Int × sj_Mem) := e_ok (OK9 s.1 a0) ((g_X9_spells N a0 x1 x2 x3 x4 x5 x6 x7 x8 s.2).map (fun q => (q.1, (s.1, q.2))))
def g_X9_wrong (N : Nat) (a0 : Nat) (x1 : Int) (x2 : Int) (V : sj_VV) : Option (Unit × sj_VV) :=
  e_ieq (V a0 32) 0 (
    e_zz 1 fun _ =>
    e_lt (sj_up V a0 32 1) fun V1 =>
    e_lt (sj_up V1 a0 30 x1) fun V2 =>
    e_lt (sj_up V2 a0 31 x2) fun V3 =>
    some ((), V3)) (
    some ((), V))
noncomputable def f_X9_wrong (N : Nat) (a0 : Nat) (x1 : Int) (x2 : Int) (s : sj_Mem) : Option (Unit × sj_Mem) := e_ok (OK9 s.1 a0) ((g_X9_wrong N a0 x1 x2 s.2).map (fun q => (q.1, (s.1, q.2))))
def g_X9_isDigitNext (N : Nat) (a0 : Nat) (V : sj_VV) : Option (Int × sj_VV) :=
  e_cs (g_X9_blanks N a0 V) fun _u V1 =>
  e_ile (V1 a0 28) (V1 a0 29) (
    e_zs 0 V1) (
    e_ix 600 (V1 a0 29) fun _ =>
    e_wid (V1 (a0 + 10) (V1 a0 29).toNat) fun v2 =>
    e_cs (g_X9_isIn N v2 48 57 V1) fun v4 V3 =>
    e_ieq v4 0 (
      e_zs 0 V3) (
      e_zs 1 V3))
noncomputable def f_X9_isDigitNext (N : Nat) (a0 : Nat) (s : sj_Mem) : Option (Int × sj_Mem) := e_ok (OK9 s.1 a0) ((g_X9_isDigitNext N a0 s.2).map (fun q => (q.1, (s.1, q.2))))
def g_X9_number_102 (N : Nat) (k38 : Nat → Int → Int → Int → sj_VV → Option (Int × sj_VV)) (a0 : Nat) (x1 : Int) (x2 : Int) (y0 : Int) (V : sj_VV) : Option (Int × sj_VV) :=
  e_lt (sj_up V a0 29 ((V a0 29) + 1)) fun V1 =>
  k38 a0 x1 x2 y0 V1
def g_X9_number_139 (N : Nat) (a0 : Nat) (x1 : Int) (x4 : Int) (V : sj_VV) : Option (Int × sj_VV) :=
  e_ieq (V a0 32) 0 (
    some (x4, V)) (
    some (x1, V))
def g_X9_number_117 (N : Nat) (a0 : Nat) (x1 : Int) (x2 : Int) (x4 : Int) (V : sj_VV) : Option (Int × sj_VV) :=
  e_wid x4 fun v1 =>
  e_wid x1 fun v2 =>
  e_wid x2 fun v3 =>
  e_cs (g_X9_isIn N v1 v2 v3 V) fun v5 V4 =>
  e_ieq v5 0 (
    e_cs (g_X9_wrong N a0 2 (V4 a0 33) V4) fun _u V6 =>
    g_X9_number_139 N a0 x1 x4 V6) (
    g_X9_number_139 N a0 x1 x4 V4)
def g_X9_number_38_b (N : Nat) (k38 : Nat → Int → Int → Int → sj_VV → Option (Int × sj_VV)) (a0 : Nat) (x1 : Int) (x2 : Int) (x4 : Int) (V : sj_VV) : Option (Int × sj_VV) :=
  e_ile (V a0 28) (V a0 29) (
    g_X9_number_117 N a0 x1 x2 x4 V) (
    e_ix 600 (V a0 29) fun _ =>
    e_wid (V (a0 + 10) (V a0 29).toNat) fun v1 =>
    e_cs (g_X9_isIn N v1 48 57 V) fun v3 V2 =>
    e_ieq v3 0 (
      g_X9_number_117 N a0 x1 x2 x4 V2) (
      e_ile x4 1000000 (
        e_ix 600 (V2 a0 29) fun _ =>
        g_X9_number_102 N k38 a0 x1 x2 (((10 * x4) + (V2 (a0 + 10) (V2 a0 29).toNat)) - 48) V2) (
        g_X9_number_102 N k38 a0 x1 x2 x4 V2)))
def g_X9_number_38 (N : Nat) : Nat → Nat → Int → Int → Int → sj_VV → Option (Int × sj_VV)
  | 0 => fun _ _ _ _ _ => none
  | n + 1 => fun a0 x1 x2 x4 V => g_X9_number_38_b N (g_X9_number_38 N n) a0 x1 x2 x4 V
def g_X9_number_35 (N : Nat) (a0 : Nat) (x1 : Int) (x2 : Int) (V : sj_VV) : Option (Int × sj_VV) :=
  g_X9_number_38 N N a0 x1 x2 0 V
def g_X9_number (N : Nat) (a0 : Nat) (x1 : Int) (x2 : Int) (V : sj_VV) : Option (Int × sj_VV) :=
  e_ieq (V a0 32) 0 (
    e_cs (g_X9_isDigitNext N a0 V) fun v2 V1 =>
    e_lt (sj_up V1 a0 33 (V1 a0 29)) fun V3 =>
    e_ieq v2 0 (
      e_cs (g_X9_wrong N a0 1 (V3 a0 29) V3) fun _u V4 =>
      g_X9_number_35 N a0 x1 x2 V4) (
      g_X9_number_35 N a0 x1 x2 V3)) (
    some (x1, V))
noncomputable def f_X9_number (N : Nat) (a0 : Nat) (x1 : Int) (x2 : Int) (s : sj_Mem) : Option (Int × sj_Mem) := e_ok (OK9 s.1 a0) ((g_X9_number N a0 x1 x2 s.2).map (fun q => (q.1, (s.1, q.2))))
def g_X9_isNext (N : Nat) (a0 : Nat) (x1 : Int) (V : sj_VV) : Option (Int × sj_VV) :=
  e_cs (g_X9_blanks N a0 V) fun _u V1 =>
  e_ile (V1 a0 28) (V1 a0 29) (
    e_zs 0 V1) (
    e_ix 600 (V1 a0 29) fun _ =>
    e_ieq (V1 (a0 + 10) (V1 a0 29).toNat) x1 (
      e_zs 1 V1) (
      e_zs 0 V1))
noncomputable def f_X9_isNext (N : Nat) (a0 : Nat) (x1 : Int) (s : sj_Mem) : Option (Int × sj_Mem) := e_ok (OK9 s.1 a0) ((g_X9_isNext N a0 x1 s.2).map (fun q => (q.1, (s.1, q.2))))
def g_X9_must (N : Nat) (a0 : Nat) (x1 : Int) (V : sj_VV) : Option (Unit × sj_VV) :=
  e_cs (g_X9_isNext N a0 x1 V) fun v2 V1 =>
  e_ieq v2 0 (
    e_cs (g_X9_wrong N a0 1 (V1 a0 29) V1) fun _u V3 =>
    some ((), V3)) (
    e_lt (sj_up V1 a0 29 ((V1 a0 29) + 1)) fun V4 =>
    some ((), V4))
noncomputable def f_X9_must (N : Nat) (a0 : Nat) (x1 : Int) (s : sj_Mem) : Option (Unit × sj_Mem) := e_ok (OK9 s.1 a0) ((g_X9_must N a0 x1 s.2).map (fun q => (q.1, (s.1, q.2))))
def g_X9_word (N : Nat) (a0 : Nat) (V : sj_VV) : Option (Int × sj_VV) :=
  e_cs (g_X9_spells N a0 6 103 114 111 117 110 100 0 V) fun v2 V1 =>
  e_ieq v2 0 (
    e_cs (g_X9_spells N a0 4 114 111 99 107 0 0 0 V1) fun v4 V3 =>
    e_ieq v4 0 (
      e_cs (g_X9_spells N a0 5 119 97 116 101 114 0 0 V3) fun v6 V5 =>
      e_ieq v6 0 (
        e_cs (g_X9_spells N a0 4 108 111 97 100 0 0 0 V5) fun v8 V7 =>
        e_ieq v8 0 (
          e_cs (g_X9_spells N a0 5 113 117 97 107 101 0 0 V7) fun v10 V9 =>
          e_ieq v10 0 (
            e_cs (g_X9_spells N a0 3 116 111 112 0 0 0 0 V9) fun v12 V11 =>
            e_ieq v12 0 (
              e_cs (g_X9_spells N a0 4 115 111 105 108 0 0 0 V11) fun v14 V13 =>
              e_ieq v14 0 (
                e_cs (g_X9_spells N a0 6 97 110 99 104 111 114 0 V13) fun v16 V15 =>
                e_ieq v16 0 (
                  some ((-1), V15)) (
                  some (7, V15))) (
                some (6, V13))) (
              some (5, V11))) (
            some (4, V9))) (
          some (3, V7))) (
        some (2, V5))) (
      some (1, V3))) (
    some (0, V1))
noncomputable def f_X9_word (N : Nat) (a0 : Nat) (s : sj_Mem) : Option (Int × sj_Mem) := e_ok (OK9 s.1 a0) ((g_X9_word N a0 s.2).map (fun q => (q.1, (s.1, q.2))))
def g_X9_tells_23 (N : Nat) (a0 : Nat) (x1 : Int) (V : sj_VV) : Option (Unit × sj_VV) :=
  e_ix 20 x1 fun _ =>
  e_zz 1 fun _ =>
  e_lt (sj_up V (a0 + 11) x1.toNat 1) fun V1 =>
  some ((), V1)
def g_X9_tells (N : Nat) (a0 : Nat) (x1 : Int) (x2 : Int) (V : sj_VV) : Option (Unit × sj_VV) :=
  e_ieq (V a0 32) 0 (
    e_ix 20 x1 fun _ =>
    e_ieq (V (a0 + 11) x1.toNat) 0 (
      g_X9_tells_23 N a0 x1 V) (
      e_cs (g_X9_wrong N a0 3 x2 V) fun _u V1 =>
      g_X9_tells_23 N a0 x1 V1)) (
    some ((), V))
noncomputable def f_X9_tells (N : Nat) (a0 : Nat) (x1 : Int) (x2 : Int) (s : sj_Mem) : Option (Unit × sj_Mem) := e_ok (OK9 s.1 a0) ((g_X9_tells N a0 x1 x2 s.2).map (fun q => (q.1, (s.1, q.2))))
def g_X9_anchorLine (N : Nat) (a0 : Nat) (V : sj_VV) : Option (Unit × sj_VV) :=
  e_cs (g_X9_number N a0 0 5 V) fun v2 V1 =>
  e_cs (g_X9_tells N a0 (12 + v2) (V1 a0 33) V1) fun _u V3 =>
  e_ix 390 0 fun _ =>
  e_cs (g_X9_number N a0 0 (V3 (a0 + 1) (0 : Int).toNat) V3) fun v5 V4 =>
  e_ix 390 (302 + (3 * v2)) fun _ =>
  e_lt (sj_up V4 (a0 + 1) (302 + (3 * v2)).toNat v5) fun V6 =>
  e_cs (g_X9_number N a0 0 100 V6) fun v8 V7 =>
  e_ix 390 ((302 + (3 * v2)) + 1) fun _ =>
  e_lt (sj_up V7 (a0 + 1) ((302 + (3 * v2)) + 1).toNat v8) fun V9 =>
  e_cs (g_X9_number N a0 1 500 V9) fun v11 V10 =>
  e_ix 390 ((302 + (3 * v2)) + 2) fun _ =>
  e_lt (sj_up V10 (a0 + 1) ((302 + (3 * v2)) + 2).toNat v11) fun V12 =>
  some ((), V12)
noncomputable def f_X9_anchorLine (N : Nat) (a0 : Nat) (s : sj_Mem) : Option (Unit × sj_Mem) := e_ok (OK9 s.1 a0) ((g_X9_anchorLine N a0 s.2).map (fun q => (q.1, (s.1, q.2))))
def g_X9_soilLine (N : Nat) (a0 : Nat) (V : sj_VV) : Option (Unit × sj_VV) :=
  e_cs (g_X9_number N a0 0 3 V) fun v2 V1 =>
  e_cs (g_X9_tells N a0 (8 + v2) (V1 a0 33) V1) fun _u V3 =>
  e_cs (g_X9_number N a0 1 30 V3) fun v5 V4 =>
  e_ix 390 (290 + (3 * v2)) fun _ =>
  e_lt (sj_up V4 (a0 + 1) (290 + (3 * v2)).toNat v5) fun V6 =>
  e_cs (g_X9_number N a0 0 200 V6) fun v8 V7 =>
  e_ix 390 ((290 + (3 * v2)) + 1) fun _ =>
  e_lt (sj_up V7 (a0 + 1) ((290 + (3 * v2)) + 1).toNat v8) fun V9 =>
  e_cs (g_X9_number N a0 0 1500 V9) fun v11 V10 =>
  e_ix 390 ((290 + (3 * v2)) + 2) fun _ =>
  e_lt (sj_up V10 (a0 + 1) ((290 + (3 * v2)) + 2).toNat v11) fun V12 =>
  some ((), V12)
noncomputable def f_X9_soilLine (N : Nat) (a0 : Nat) (s : sj_Mem) : Option (Unit × sj_Mem) := e_ok (OK9 s.1 a0) ((g_X9_soilLine N a0 s.2).map (fun q => (q.1, (s.1, q.2))))
def g_X9_runs_105_b (N : Nat) (k2 : Nat → Int → Int → Int → sj_VV → Option (Unit × sj_VV)) (k105 : Nat → Int → Int → Int → Int → Int → Int → sj_VV → Option (Unit × sj_VV)) (a0 : Nat) (x1 : Int) (x2 : Int) (x3 : Int) (x4 : Int) (x5 : Int) (x6 : Int) (V : sj_VV) : Option (Unit × sj_VV) :=
  e_ile x5 x6 (
    e_lt (x3 + x5) fun v1 =>
    k2 a0 x1 x2 v1 V) (
    e_ix 390 ((x1 + x3) + x6) fun _ =>
    e_lt (sj_up V (a0 + 1) ((x1 + x3) + x6).toNat x4) fun V2 =>
    e_lt (x6 + 1) fun v3 =>
    k105 a0 x1 x2 x3 x4 x5 v3 V2)
def g_X9_runs_105 (N : Nat) (k2 : Nat → Int → Int → Int → sj_VV → Option (Unit × sj_VV)) : Nat → Nat → Int → Int → Int → Int → Int → Int → sj_VV → Option (Unit × sj_VV)
  | 0 => fun _ _ _ _ _ _ _ _ => none
  | n + 1 => fun a0 x1 x2 x3 x4 x5 x6 V => g_X9_runs_105_b N k2 (g_X9_runs_105 N k2 n) a0 x1 x2 x3 x4 x5 x6 V
def g_X9_runs_94 (N : Nat) (k2 : Nat → Int → Int → Int → sj_VV → Option (Unit × sj_VV)) (a0 : Nat) (x1 : Int) (x2 : Int) (x3 : Int) (x4 : Int) (x5 : Int) (V : sj_VV) : Option (Unit × sj_VV) :=
  e_ieq (V a0 32) 0 (
    g_X9_runs_105 N k2 N a0 x1 x2 x3 x4 x5 0 V) (
    some ((), V))
def g_X9_runs_20 (N : Nat) (k2 : Nat → Int → Int → Int → sj_VV → Option (Unit × sj_VV)) (a0 : Nat) (x1 : Int) (x2 : Int) (x3 : Int) (V : sj_VV) : Option (Unit × sj_VV) :=
  e_ix 390 0 fun _ =>
  e_ile x3 (V (a0 + 1) (0 : Int).toNat) (
    e_cs (g_X9_number N a0 0 x2 V) fun v2 V1 =>
    e_ieq (V1 a0 32) 0 (
      e_cs (g_X9_isNext N a0 42 V1) fun v4 V3 =>
      e_ieq v4 0 (
        g_X9_runs_94 N k2 a0 x1 x2 x3 v2 1 V3) (
        e_lt (sj_up V3 a0 29 ((V3 a0 29) + 1)) fun V5 =>
        e_ix 390 0 fun _ =>
        e_cs (g_X9_number N a0 1 (((V5 (a0 + 1) (0 : Int).toNat) + 1) - x3) V5) fun v7 V6 =>
        g_X9_runs_94 N k2 a0 x1 x2 x3 v2 v7 V6)) (
      g_X9_runs_94 N k2 a0 x1 x2 x3 v2 1 V1)) (
    e_cs (g_X9_wrong N a0 1 (V a0 29) V) fun _u V8 =>
    some ((), V8))
def g_X9_runs_171 (N : Nat) (a0 : Nat) (y0 : Int) (y1 : Nat) (V : sj_VV) : Option (Unit × sj_VV) :=
  e_cs (g_X9_wrong N y1 y0 (V a0 29) V) fun _u V1 =>
  some ((), V1)
def g_X9_runs_139 (N : Nat) (a0 : Nat) (x3 : Int) (V : sj_VV) : Option (Unit × sj_VV) :=
  e_ieq (V a0 32) 0 (
    e_ix 390 0 fun _ =>
    e_ilt (V (a0 + 1) (0 : Int).toNat) x3 (
      some ((), V)) (
      e_cs (g_X9_isNext N a0 59 V) fun v2 V1 =>
      e_ieq v2 0 (
        g_X9_runs_171 N a0 1 a0 V1) (
        g_X9_runs_171 N a0 2 a0 V1))) (
    some ((), V))
def g_X9_runs_2_b (N : Nat) (k2 : Nat → Int → Int → Int → sj_VV → Option (Unit × sj_VV)) (a0 : Nat) (x1 : Int) (x2 : Int) (x3 : Int) (V : sj_VV) : Option (Unit × sj_VV) :=
  e_ieq (V a0 32) 0 (
    e_ieq x3 0 (
      g_X9_runs_20 N k2 a0 x1 x2 x3 V) (
      e_cs (g_X9_isDigitNext N a0 V) fun v2 V1 =>
      e_ieq v2 0 (
        g_X9_runs_139 N a0 x3 V1) (
        g_X9_runs_20 N k2 a0 x1 x2 x3 V1))) (
    g_X9_runs_139 N a0 x3 V)
def g_X9_runs_2 (N : Nat) : Nat → Nat → Int → Int → Int → sj_VV → Option (Unit × sj_VV)
  | 0 => fun _ _ _ _ _ => none
  | n + 1 => fun a0 x1 x2 x3 V => g_X9_runs_2_b N (g_X9_runs_2 N n) a0 x1 x2 x3 V
def g_X9_runs (N : Nat) (a0 : Nat) (x1 : Int) (x2 : Int) (V : sj_VV) : Option (Unit × sj_VV) :=
  g_X9_runs_2 N N a0 x1 x2 0 V
noncomputable def f_X9_runs (N : Nat) (a0 : Nat) (x1 : Int) (x2 : Int) (s : sj_Mem) : Option (Unit × sj_Mem) := e_ok (OK9 s.1 a0) ((g_X9_runs N a0 x1 x2 s.2).map (fun q => (q.1, (s.1, q.2))))
def g_X9_line_216 (N : Nat) (a0 : Nat) (V : sj_VV) : Option (Unit × sj_VV) :=
  e_cs (g_X9_must N a0 59 V) fun _u V1 =>
  some ((), V1)
def g_X9_line_39 (N : Nat) (a0 : Nat) (x2 : Int) (V : sj_VV) : Option (Unit × sj_VV) :=
  e_cs (g_X9_wordEnd N a0 V) fun v2 V1 =>
  e_lt (sj_up V1 a0 29 v2) fun V3 =>
  e_ieq (V3 a0 32) 0 (
    e_sw x2 (
    if x2 = 0 then (
      e_cs (g_X9_runs N a0 3 100 V3) fun _u V4 =>
      g_X9_line_216 N a0 V4) else (
    if x2 = 1 then (
      e_cs (g_X9_runs N a0 44 100 V3) fun _u V5 =>
      g_X9_line_216 N a0 V5) else (
    if x2 = 2 then (
      e_cs (g_X9_runs N a0 85 100 V3) fun _u V6 =>
      g_X9_line_216 N a0 V6) else (
    if x2 = 3 then (
      e_cs (g_X9_runs N a0 126 500 V3) fun _u V7 =>
      g_X9_line_216 N a0 V7) else (
    if x2 = 4 then (
      e_cs (g_X9_number N a0 0 500 V3) fun v9 V8 =>
      e_ix 390 2 fun _ =>
      e_lt (sj_up V8 (a0 + 1) (2 : Int).toNat v9) fun V10 =>
      g_X9_line_216 N a0 V10) else (
    if x2 = 5 then (
      e_cs (g_X9_number N a0 1 3 V3) fun v12 V11 =>
      e_cs (g_X9_tells N a0 (4 + v12) (V11 a0 33) V11) fun _u V13 =>
      e_ieq (V13 a0 32) 0 (
        e_cs (g_X9_runs N a0 (167 + (41 * (v12 - 1))) 100 V13) fun _u V14 =>
        g_X9_line_216 N a0 V14) (
        g_X9_line_216 N a0 V13)) else (
    if x2 = 6 then (
      e_cs (g_X9_soilLine N a0 V3) fun _u V15 =>
      g_X9_line_216 N a0 V15) else (
      e_cs (g_X9_anchorLine N a0 V3) fun _u V16 =>
      g_X9_line_216 N a0 V16))))))))) (
    some ((), V3))
def g_X9_line_21 (N : Nat) (a0 : Nat) (x1 : Int) (x2 : Int) (V : sj_VV) : Option (Unit × sj_VV) :=
  e_wid x2 fun v1 =>
  e_cs (g_X9_isIn N v1 0 4 V) fun v3 V2 =>
  e_ieq v3 0 (
    g_X9_line_39 N a0 x2 V2) (
    e_cs (g_X9_tells N a0 x2 x1 V2) fun _u V4 =>
    g_X9_line_39 N a0 x2 V4)
def g_X9_line (N : Nat) (a0 : Nat) (V : sj_VV) : Option (Unit × sj_VV) :=
  e_lt (V a0 29) fun v1 =>
  e_cs (g_X9_word N a0 V) fun v3 V2 =>
  e_ieq v3 ((-1)) (
    e_cs (g_X9_wrong N a0 1 v1 V2) fun _u V4 =>
    g_X9_line_21 N a0 v1 v3 V4) (
    g_X9_line_21 N a0 v1 v3 V2)
noncomputable def f_X9_line (N : Nat) (a0 : Nat) (s : sj_Mem) : Option (Unit × sj_Mem) := e_ok (OK9 s.1 a0) ((g_X9_line N a0 s.2).map (fun q => (q.1, (s.1, q.2))))
def g_X9_reads_177 (N : Nat) (k128 : Nat → Int → Int → sj_VV → Option (Int × sj_VV)) (a0 : Nat) (x3 : Int) (x4 : Int) (V : sj_VV) : Option (Int × sj_VV) :=
  e_lt (x4 + 1) fun v1 =>
  k128 a0 x3 v1 V
def g_X9_reads_128_b (N : Nat) (k128 : Nat → Int → Int → sj_VV → Option (Int × sj_VV)) (a0 : Nat) (x3 : Int) (x4 : Int) (V : sj_VV) : Option (Int × sj_VV) :=
  e_ix 390 0 fun _ =>
  e_ilt (V (a0 + 1) (0 : Int).toNat) x4 (
    some (x3, V)) (
    e_ieq (V a0 32) 0 (
      e_ix 390 (44 + x4) fun _ =>
      e_ix 390 (3 + x4) fun _ =>
      e_ile (V (a0 + 1) (44 + x4).toNat) (V (a0 + 1) (3 + x4).toNat) (
        g_X9_reads_177 N k128 a0 x3 x4 V) (
        e_cs (g_X9_wrong N a0 4 (V a0 28) V) fun _u V1 =>
        g_X9_reads_177 N k128 a0 x3 x4 V1)) (
      some (x3, V)))
def g_X9_reads_128 (N : Nat) : Nat → Nat → Int → Int → sj_VV → Option (Int × sj_VV)
  | 0 => fun _ _ _ _ => none
  | n + 1 => fun a0 x3 x4 V => g_X9_reads_128_b N (g_X9_reads_128 N n) a0 x3 x4 V
def g_X9_reads_125 (N : Nat) (a0 : Nat) (x3 : Int) (V : sj_VV) : Option (Int × sj_VV) :=
  g_X9_reads_128 N N a0 x3 0 V
def g_X9_reads_93_b (N : Nat) (k93 : Nat → Int → sj_VV → Option (Int × sj_VV)) (a0 : Nat) (x3 : Int) (V : sj_VV) : Option (Int × sj_VV) :=
  e_ile (V a0 28) (V a0 29) (
    g_X9_reads_125 N a0 x3 V) (
    e_ieq (V a0 32) 0 (
      e_cs (g_X9_line N a0 V) fun _u V1 =>
      e_lt (x3 + 1) fun v2 =>
      e_cs (g_X9_blanks N a0 V1) fun _u V3 =>
      k93 a0 v2 V3) (
      g_X9_reads_125 N a0 x3 V))
def g_X9_reads_93 (N : Nat) : Nat → Nat → Int → sj_VV → Option (Int × sj_VV)
  | 0 => fun _ _ _ => none
  | n + 1 => fun a0 x3 V => g_X9_reads_93_b N (g_X9_reads_93 N n) a0 x3 V
def g_X9_reads_50 (N : Nat) (a0 : Nat) (V : sj_VV) : Option (Int × sj_VV) :=
  e_cs (g_X9_number N a0 4 40 V) fun v2 V1 =>
  e_cs (g_X9_number N a0 1 10 V1) fun v4 V3 =>
  e_cs (g_X9_must N a0 59 V3) fun _u V5 =>
  e_ieq (V5 a0 32) 0 (
    e_cs (g_X9_begins N a0 v2 v4 V5) fun _u V6 =>
    e_cs (g_X9_blanks N a0 V6) fun _u V7 =>
    g_X9_reads_93 N N a0 1 V7) (
    some (0, V5))
def g_X9_reads (N : Nat) (a0 : Nat) (V : sj_VV) : Option (Int × sj_VV) :=
  e_cs (g_X9_blanks N a0 V) fun _u V1 =>
  e_cs (g_X9_spells N a0 7 99 111 108 117 109 110 115 V1) fun v3 V2 =>
  e_ieq v3 0 (
    e_cs (g_X9_wrong N a0 1 (V2 a0 29) V2) fun _u V4 =>
    g_X9_reads_50 N a0 V4) (
    e_lt (sj_up V2 a0 29 ((V2 a0 29) + 7)) fun V5 =>
    g_X9_reads_50 N a0 V5)
noncomputable def f_X9_reads (N : Nat) (a0 : Nat) (s : sj_Mem) : Option (Int × sj_Mem) := e_ok (OK9 s.1 a0) ((g_X9_reads N a0 s.2).map (fun q => (q.1, (s.1, q.2))))
def g_X9_text_6_b (N : Nat) (k6 : Nat → Int → sj_VV → Option (Int × sj_VV)) (a0 : Nat) (x1 : Int) (V : sj_VV) : Option (Int × sj_VV) :=
  e_ile 20 x1 (
    e_zz 0 fun _ =>
    e_lt (sj_up V a0 32 0) fun V1 =>
    e_lt (sj_up V1 a0 30 0) fun V2 =>
    e_lt (sj_up V2 a0 31 ((-1))) fun V3 =>
    e_lt (sj_up V3 a0 29 0) fun V4 =>
    e_cs (g_X9_reads N a0 V4) fun v6 V5 =>
    e_lt (sj_up V5 a0 28 0) fun V7 =>
    e_ieq (V7 a0 32) 0 (
      e_cs (g_X9_remembers N a0 (a0 + 2) 390 V7) fun _u V8 =>
      some (v6, V8)) (
      e_cs (g_X9_comesBack N a0 V7) fun _u V9 =>
      some ((-1), V9))) (
    e_ix 20 x1 fun _ =>
    e_zz 0 fun _ =>
    e_lt (sj_up V (a0 + 11) x1.toNat 0) fun V10 =>
    e_lt (x1 + 1) fun v11 =>
    k6 a0 v11 V10)
def g_X9_text_6 (N : Nat) : Nat → Nat → Int → sj_VV → Option (Int × sj_VV)
  | 0 => fun _ _ _ => none
  | n + 1 => fun a0 x1 V => g_X9_text_6_b N (g_X9_text_6 N n) a0 x1 V
def g_X9_text (N : Nat) (a0 : Nat) (V : sj_VV) : Option (Int × sj_VV) :=
  e_cs (g_X9_laysAside N a0 V) fun _u V1 =>
  g_X9_text_6 N N a0 0 V1
noncomputable def f_X9_text (N : Nat) (a0 : Nat) (s : sj_Mem) : Option (Int × sj_Mem) := e_ok (OK9 s.1 a0) ((g_X9_text N a0 s.2).map (fun q => (q.1, (s.1, q.2))))
def g_X9_end (N : Nat) (a0 : Nat) (x1 : Int) (V : sj_VV) : Option (Int × sj_VV) :=
  e_wid x1 fun v1 =>
  e_wid (V a0 28) fun v2 =>
  e_cs (g_X9_isIn N v1 0 v2 V) fun v4 V3 =>
  e_ieq v4 0 (
    e_zs 0 V3) (
    e_lt (sj_up V3 a0 28 x1) fun V5 =>
    e_zs 1 V5)
noncomputable def f_X9_end (N : Nat) (a0 : Nat) (x1 : Int) (s : sj_Mem) : Option (Int × sj_Mem) := e_ok (OK9 s.1 a0) ((g_X9_end N a0 x1 s.2).map (fun q => (q.1, (s.1, q.2))))
def g_X9_comesWord_3_b (N : Nat) (k3 : Nat → Int → Int → sj_VV → Option (Unit × sj_VV)) (a0 : Nat) (x1 : Int) (x2 : Int) (V : sj_VV) : Option (Unit × sj_VV) :=
  e_ilt x2 0 (
    some ((), V)) (
    e_ush x1 x2 fun v1 =>
    e_ix 600 (V a0 28) fun _ =>
    e_bb (Int.bmod v1 256) fun _ =>
    e_lt (sj_up V (a0 + 10) (V a0 28).toNat (Int.bmod v1 256)) fun V2 =>
    e_lt (sj_up V2 a0 28 ((V2 a0 28) + 1)) fun V3 =>
    e_lt (x2 + (-8)) fun v4 =>
    k3 a0 x1 v4 V3)
def g_X9_comesWord_3 (N : Nat) : Nat → Nat → Int → Int → sj_VV → Option (Unit × sj_VV)
  | 0 => fun _ _ _ _ => none
  | n + 1 => fun a0 x1 x2 V => g_X9_comesWord_3_b N (g_X9_comesWord_3 N n) a0 x1 x2 V
def g_X9_comesWord (N : Nat) (a0 : Nat) (x1 : Int) (V : sj_VV) : Option (Unit × sj_VV) :=
  g_X9_comesWord_3 N N a0 x1 24 V
noncomputable def f_X9_comesWord (N : Nat) (a0 : Nat) (x1 : Int) (s : sj_Mem) : Option (Unit × sj_Mem) := e_ok (OK9 s.1 a0) ((g_X9_comesWord N a0 x1 s.2).map (fun q => (q.1, (s.1, q.2))))
def g_X9_feed (N : Nat) (a0 : Nat) (x1 : Int) (x2 : Int) (x3 : Int) (x4 : Int) (x5 : Int) (V : sj_VV) : Option (Int × sj_VV) :=
  e_ile ((V a0 28) + 20) 600 (
    e_cs (g_X9_comesWord N a0 x1 V) fun _u V1 =>
    e_cs (g_X9_comesWord N a0 x2 V1) fun _u V2 =>
    e_cs (g_X9_comesWord N a0 x3 V2) fun _u V3 =>
    e_cs (g_X9_comesWord N a0 x4 V3) fun _u V4 =>
    e_cs (g_X9_comesWord N a0 x5 V4) fun _u V5 =>
    some (V5 a0 28, V5)) (
    some ((-1), V))
noncomputable def f_X9_feed (N : Nat) (a0 : Nat) (x1 : Int) (x2 : Int) (x3 : Int) (x4 : Int) (x5 : Int) (s : sj_Mem) : Option (Int × sj_Mem) := e_ok (OK9 s.1 a0) ((g_X9_feed N a0 x1 x2 x3 x4 x5 s.2).map (fun q => (q.1, (s.1, q.2))))
def g_X9_anchor (N : Nat) (a0 : Nat) (x1 : Int) (x2 : Int) (x3 : Int) (x4 : Int) (V : sj_VV) : Option (Int × sj_VV) :=
  e_wid x1 fun v1 =>
  e_cs (g_X9_isIn N v1 0 5 V) fun v3 V2 =>
  e_ieq v3 0 (
    e_zs 0 V2) (
    e_cs (g_X9_isColumn N a0 x2 V2) fun v5 V4 =>
    e_ieq v5 0 (
      e_zs 0 V4) (
      e_wid x3 fun v6 =>
      e_cs (g_X9_isIn N v6 0 100 V4) fun v8 V7 =>
      e_ieq v8 0 (
        e_zs 0 V7) (
        e_wid x4 fun v9 =>
        e_cs (g_X9_isIn N v9 0 500 V7) fun v11 V10 =>
        e_ieq v11 0 (
          e_zs 0 V10) (
          e_ix 390 (302 + (3 * x1)) fun _ =>
          e_lt (sj_up V10 (a0 + 1) (302 + (3 * x1)).toNat x2) fun V12 =>
          e_ix 390 ((302 + (3 * x1)) + 1) fun _ =>
          e_lt (sj_up V12 (a0 + 1) ((302 + (3 * x1)) + 1).toNat x3) fun V13 =>
          e_ix 390 ((302 + (3 * x1)) + 2) fun _ =>
          e_lt (sj_up V13 (a0 + 1) ((302 + (3 * x1)) + 2).toNat x4) fun V14 =>
          e_zs 1 V14))))
noncomputable def f_X9_anchor (N : Nat) (a0 : Nat) (x1 : Int) (x2 : Int) (x3 : Int) (x4 : Int) (s : sj_Mem) : Option (Int × sj_Mem) := e_ok (OK9 s.1 a0) ((g_X9_anchor N a0 x1 x2 x3 x4 s.2).map (fun q => (q.1, (s.1, q.2))))
def g_X9_quake (N : Nat) (a0 : Nat) (x1 : Int) (V : sj_VV) : Option (Int × sj_VV) :=
  e_wid x1 fun v1 =>
  e_cs (g_X9_isIn N v1 0 500 V) fun v3 V2 =>
  e_ieq v3 0 (
    e_zs 0 V2) (
    e_ix 390 2 fun _ =>
    e_lt (sj_up V2 (a0 + 1) (2 : Int).toNat x1) fun V4 =>
    e_zs 1 V4)
noncomputable def f_X9_quake (N : Nat) (a0 : Nat) (x1 : Int) (s : sj_Mem) : Option (Int × sj_Mem) := e_ok (OK9 s.1 a0) ((g_X9_quake N a0 x1 s.2).map (fun q => (q.1, (s.1, q.2))))
def g_X9_soil (N : Nat) (a0 : Nat) (x1 : Int) (x2 : Int) (x3 : Int) (x4 : Int) (V : sj_VV) : Option (Int × sj_VV) :=
  e_wid x1 fun v1 =>
  e_cs (g_X9_isIn N v1 0 3 V) fun v3 V2 =>
  e_ieq v3 0 (
    e_zs 0 V2) (
    e_wid x2 fun v4 =>
    e_cs (g_X9_isIn N v4 1 30 V2) fun v6 V5 =>
    e_ieq v6 0 (
      e_zs 0 V5) (
      e_wid x3 fun v7 =>
      e_cs (g_X9_isIn N v7 0 200 V5) fun v9 V8 =>
      e_ieq v9 0 (
        e_zs 0 V8) (
        e_wid x4 fun v10 =>
        e_cs (g_X9_isIn N v10 0 1500 V8) fun v12 V11 =>
        e_ieq v12 0 (
          e_zs 0 V11) (
          e_ix 390 (290 + (3 * x1)) fun _ =>
          e_lt (sj_up V11 (a0 + 1) (290 + (3 * x1)).toNat x2) fun V13 =>
          e_ix 390 ((290 + (3 * x1)) + 1) fun _ =>
          e_lt (sj_up V13 (a0 + 1) ((290 + (3 * x1)) + 1).toNat x3) fun V14 =>
          e_ix 390 ((290 + (3 * x1)) + 2) fun _ =>
          e_lt (sj_up V14 (a0 + 1) ((290 + (3 * x1)) + 2).toNat x4) fun V15 =>
          e_zs 1 V15))))
noncomputable def f_X9_soil (N : Nat) (a0 : Nat) (x1 : Int) (x2 : Int) (x3 : Int) (x4 : Int) (s : sj_Mem) : Option (Int × sj_Mem) := e_ok (OK9 s.1 a0) ((g_X9_soil N a0 x1 x2 x3 x4 s.2).map (fun q => (q.1, (s.1, q.2))))
def g_X9_dig (N : Nat) (a0 : Nat) (x1 : Int) (x2 : Int) (V : sj_VV) : Option (Int × sj_VV) :=
  e_cs (g_X9_canDig N a0 x1 x2 V) fun v2 V1 =>
  e_ieq v2 0 (
    some ((-1), V1)) (
    e_cs (g_X9_remembers N a0 (a0 + 1) 390 V1) fun _u V3 =>
    e_ix 390 (3 + x1) fun _ =>
    e_ix 390 (3 + x1) fun _ =>
    e_lt (sj_up V3 (a0 + 1) (3 + x1).toNat ((V3 (a0 + 1) (3 + x1).toNat) - x2)) fun V4 =>
    e_ix 390 320 fun _ =>
    e_lt (sj_up V4 (a0 + 1) (320 : Int).toNat ((-1))) fun V5 =>
    e_ix 390 (3 + x1) fun _ =>
    some (V5 (a0 + 1) (3 + x1).toNat, V5))
noncomputable def f_X9_dig (N : Nat) (a0 : Nat) (x1 : Int) (x2 : Int) (s : sj_Mem) : Option (Int × sj_Mem) := e_ok (OK9 s.1 a0) ((g_X9_dig N a0 x1 x2 s.2).map (fun q => (q.1, (s.1, q.2))))
def g_X9_tell_110 (N : Nat) (x1 : Int) (x3 : Int) (y0 : Int) (y1 : Nat) (m1 : Nat) (V : sj_VV) : Option (Int × sj_VV) :=
  e_ix m1 (y0 + x1) fun _ =>
  e_lt (sj_up V y1 (y0 + x1).toNat x3) fun V1 =>
  e_zs 1 V1
def g_X9_tell_55 (N : Nat) (a0 : Nat) (x1 : Int) (x2 : Int) (x3 : Int) (y0 : Int) (y1 : Int) (y2 : Int) (V : sj_VV) : Option (Int × sj_VV) :=
  e_cs (g_X9_isIn N y2 y1 y0 V) fun v2 V1 =>
  e_ieq v2 0 (
    e_zs 0 V1) (
    e_ieq x2 0 (
      e_ix 390 (44 + x1) fun _ =>
      e_lt (sj_up V1 (a0 + 1) (44 + x1).toNat x3) fun V4 =>
      e_ix 390 320 fun _ =>
      e_lt (sj_up V4 (a0 + 1) (320 : Int).toNat ((-1))) fun V5 =>
      e_zs 1 V5) (
      e_ile 3 x2 (
        e_ix 390 ((167 + (41 * (x2 - 3))) + x1) fun _ =>
        e_lt (sj_up V1 (a0 + 1) ((167 + (41 * (x2 - 3))) + x1).toNat x3) fun V3 =>
        e_zs 1 V3) (
        e_ieq x2 1 (
          g_X9_tell_110 N x1 x3 85 (a0 + 1) 390 V1) (
          g_X9_tell_110 N x1 x3 126 (a0 + 1) 390 V1))))
def g_X9_tell (N : Nat) (a0 : Nat) (x1 : Int) (x2 : Int) (x3 : Int) (V : sj_VV) : Option (Int × sj_VV) :=
  e_cs (g_X9_isColumn N a0 x1 V) fun v2 V1 =>
  e_ieq v2 0 (
    e_zs 0 V1) (
    e_wid x2 fun v3 =>
    e_cs (g_X9_isIn N v3 0 5 V1) fun v5 V4 =>
    e_ieq v5 0 (
      e_zs 0 V4) (
      e_wid x3 fun v6 =>
      e_ieq x2 0 (
        e_ix 390 (3 + x1) fun _ =>
        e_wid (V4 (a0 + 1) (3 + x1).toNat) fun v7 =>
        g_X9_tell_55 N a0 x1 x2 x3 v7 0 v6 V4) (
        e_ieq x2 2 (
          g_X9_tell_55 N a0 x1 x2 x3 500 0 v6 V4) (
          g_X9_tell_55 N a0 x1 x2 x3 100 0 v6 V4))))
noncomputable def f_X9_tell (N : Nat) (a0 : Nat) (x1 : Int) (x2 : Int) (x3 : Int) (s : sj_Mem) : Option (Int × sj_Mem) := e_ok (OK9 s.1 a0) ((g_X9_tell N a0 x1 x2 x3 s.2).map (fun q => (q.1, (s.1, q.2))))
def g_X9_size (N : Nat) (a0 : Nat) (x1 : Int) (x2 : Int) (V : sj_VV) : Option (Int × sj_VV) :=
  e_wid x1 fun v1 =>
  e_cs (g_X9_isIn N v1 4 40 V) fun v3 V2 =>
  e_ieq v3 0 (
    e_zs 0 V2) (
    e_wid x2 fun v4 =>
    e_cs (g_X9_isIn N v4 1 10 V2) fun v6 V5 =>
    e_ieq v6 0 (
      e_zs 0 V5) (
      e_cs (g_X9_remembers N a0 (a0 + 1) 390 V5) fun _u V7 =>
      e_cs (g_X9_begins N a0 x1 x2 V7) fun _u V8 =>
      e_zs 1 V8))
noncomputable def f_X9_size (N : Nat) (a0 : Nat) (x1 : Int) (x2 : Int) (s : sj_Mem) : Option (Int × sj_Mem) := e_ok (OK9 s.1 a0) ((g_X9_size N a0 x1 x2 s.2).map (fun q => (q.1, (s.1, q.2))))
