/-! the class's constructor -/
section Subs2
variable {s s4 : sj_Mem} {a b k kd n nn l x N : Nat} {nv : Nat → Nat → Int} {β : Type}
theorem Sub.oka (S : Sub s s4 a k b nn l nv) (hx : x < b) (h : OKA s.1 kd x n) : OKA s4.1 kd x n := ⟨⟨by have h1 : s4.1.2.2.1 = b + nn := S.1; omega, by rw [(S.2.2.1 x hx).1]; exact h.1.2⟩, by rw [(S.2.2.1 x hx).1]; exact h.2.1, h.2.2⟩
theorem sub_arr (hz : sj_sz s = b) (ha : a < b) : Sub s (arr s kd n a k) a k b 1 n nv0 := by
  refine ⟨?_, rfl, fun x hx => ⟨?_, fun j hj => ?_, ?_⟩, ?_, fun i hi y => ?_⟩
  · show sj_sz s + 1 = _
    rw [hz]
  · show (if x = sj_sz s then (kd, n) else s.1.1 x) = _
    rw [if_neg (by omega)]
  · show (if x = a ∧ j = k then some (sj_sz s) else if x = sj_sz s then none else s.1.2.1 x j) = _
    rw [if_neg hj, if_neg (by omega)]
  · funext y
    show (if x = sj_sz s then 0 else s.2 x y) = _
    rw [if_neg (by omega)]
  · show (if a = a ∧ k = k then some (sj_sz s) else if a = sj_sz s then none else s.1.2.1 a k) = _
    rw [if_pos ⟨rfl, rfl⟩, hz]
  · show (if b + i = sj_sz s then 0 else s.2 (b + i) y) = 0
    rw [if_pos (by omega)]
theorem oka_arr (hz : sj_sz s = b) (hn : n ≤ 65536) : OKA (arr s kd n a k).1 kd b n := by
  have e : (arr s kd n a k).1.1 b = (kd, n) := by
    show (if b = sj_sz s then (kd, n) else s.1.1 b) = _
    rw [if_pos hz.symm]
  refine ⟨⟨?_, by rw [e]⟩, by rw [e], hn⟩
  show b < sj_sz s + 1
  omega
theorem q_uR {v : Nat} {j : Int} {K : sj_Mem → Option β} (h1 : 0 ≤ j ∧ j < sj_len s.1 104 a) (h2 : sj_is s.1 v 0) : e_uR a j v s K = K (sj_putR s a j.toNat (some v)) := if_pos ⟨h1, h2⟩
def L8 (s : sj_Mem) (i : Nat) : Prop := sj_sz s = 77 + 14 * i ∧ sj_is s.1 0 8 ∧ s.1.2.1 0 6 = some 51 ∧ OKA s.1 104 51 8 ∧ ∀ j, j < i → s.1.2.1 51 j = some (77 + 14 * j) ∧ OK0 s.1 (77 + 14 * j)
theorem init135 : ∀ (m i : Nat) (s : sj_Mem), i ≤ 8 → 8 - i < m → L8 s i → ∃ s', f_X8_init_135 N m 0 (i : Int) s = some ((), s') ∧ L8 s' 8 ∧ sj_sl s' = sj_sl s + 377 * (8 - i) ∧ Sm s.1 s'.1 0 51 ∧ Sm s.1 s'.1 52 77 ∧ ∀ x, x < 77 → s'.2 x = s.2 x
  | 0, _, _, _, h, _ => absurd h (by omega)
  | m + 1, i, s, h1, h2, hL => by
    unfold f_X8_init_135 f_X8_init_135_b
    by_cases hi : i = 8
    · subst hi
      rw [k_leT (by omega) ⟨by omega, by omega⟩ ⟨by omega, by omega⟩]
      exact ⟨s, rfl, hL, by omega, ⟨Nat.le_refl _, fun _ _ _ => ⟨rfl, rfl⟩⟩, ⟨Nat.le_refl _, fun _ _ _ => ⟨rfl, rfl⟩⟩, fun _ _ => rfl⟩
    · obtain ⟨z0, i0, r6, o6, oL⟩ := hL
      obtain ⟨n1, n2, n3⟩ := new_0 (cj := 0) (n := 15) z0
      obtain ⟨t1, q1, q2, q3⟩ := mk_0 (N := N) n1 n2 n3
      have S := sub_of (a := 51) (k := i) z0 (by omega) q2 (l2 := 377) rfl
      have o51 : OKA t1.1 104 51 8 := S.oka (by omega) o6
      have oN : OK0 (sj_putR t1 51 i (some (77 + 14 * i))).1 (77 + 14 * i) := q3.sm (putR_sm (n := 77 + 14 * i + 14) (by omega)) (by omega) (by omega)
      rw [k_leF (by omega) ⟨by omega, by omega⟩ ⟨by omega, by omega⟩, q_gR i0, r6, q_nO, z0, q1, q_cl, q_nn, q_uR ⟨by omega, by rw [o51.len]; omega⟩ q3.1, k_lt, Int.toNat_natCast, show (i : Int) + 1 = ((i + 1 : Nat) : Int) by omega]
      generalize sj_putR t1 51 i (some (77 + 14 * i)) = s4 at S oN ⊢
      have sm := S.sm z0 (lo := 52) (by omega)
      obtain ⟨s', p1, p2, p3, p4, p5, p6⟩ := init135 m (i + 1) s4 (by omega) (by omega) ⟨by rw [S.1]; omega, ⟨by have h1 : s4.1.2.2.1 = 77 + 14 * i + 14 := S.1; omega, by rw [(S.2.2.1 0 (by omega)).1]; exact i0.2⟩, by rw [(S.2.2.1 0 (by omega)).2.1 6 (by omega)]; exact r6, S.oka (by omega) o6, fun j hj => by
        by_cases e : j = i
        · rw [e]; exact ⟨S.2.2.2.1, oN⟩
        · exact ⟨by rw [(S.2.2.1 51 (by omega)).2.1 j (by omega)]; exact (oL j (by omega)).1, (oL j (by omega)).2.sm sm (by omega) (by omega)⟩⟩
      refine ⟨s', p1, p2, ?_, ?_, ?_, fun x hx => (p6 x hx).trans (S.2.2.1 x (by omega)).2.2⟩
      · rw [p3, S.2.1]; omega
      · have sm0 : Sm s.1 s4.1 0 51 := ⟨sm.1, fun x _ x2 => ⟨(S.2.2.1 x (by omega)).1, funext fun j => (S.2.2.1 x (by omega)).2.1 j (by omega)⟩⟩
        exact sm0.tr p4 (by omega) (by omega)
      · have sm2 : Sm s.1 s4.1 52 77 := ⟨sm.1, fun x x1 x2 => sm.2 x x1 (by omega)⟩
        exact sm2.tr p5 (Nat.le_refl _) (Nat.le_refl _)
end Subs2
/-- what the class's constructor makes -/
def N8 (s s' : sj_Mem) : Prop := (OK8 s'.1 0 ∧ s'.1.2.1 0 11 = none ∧ sj_sz s' = 189 ∧ sj_sl s' = sj_sl s + 5612) ∧ CG s'.2 1 (wBeg (fun _ => 0) 20 4) ∧ (s'.2 13 1 = -1 ∧ s'.2 13 2 = -1 ∧ s'.2 13 3 = 0) ∧ (∀ k, s'.2 0 k = 0) ∧ s'.2 27 3 = 0 ∧ (∀ i, i < 3 → ∀ k, s'.2 (43 + i) k = 0) ∧ (∀ k, s'.2 49 k = 0) ∧ ∀ k, s'.2 52 k = nv7 0 k
section Make8
variable {s s0 : sj_Mem} {N : Nat}
set_option maxHeartbeats 2000000 in
theorem mk_8 (z0 : sj_sz s0 = 1) (h2 : s0.1.1 0 = (8, 0)) (h3 : ∀ k, s0.2 0 k = 0) (h4 : s0.1.2.1 0 11 = none) (hN : 200 ≤ N) : ∃ s', f_X8_init N 0 s0 = some ((), s') ∧ N8 s0 s' := by
  unfold f_X8_init
  have i0 : sj_is s0.1 0 8 := ⟨by have h' : s0.1.2.2.1 = 1 := z0; omega, by rw [h2]⟩
  obtain ⟨n1, n2, n3⟩ := new_0 (cj := 0) (n := 15) z0
  obtain ⟨t1, q1, q2, q3⟩ := mk_0 (N := N) n1 n2 n3
  have S1 := sub_of (a := 0) (k := 0) z0 (by omega) q2 (l2 := 377) rfl
  have j1 := q2.is (by omega) (is_new (cj := 0) (n := 15) z0 i0)
  have o1 : OK0 (sj_putR t1 0 0 (some 1)).1 1 := q3.sm (putR_sm (n := 15) (by omega)) (by omega) (by omega)
  rw [q_nO, z0, q1, q_cl, q_pR j1]
  have i1 := S1.is (by omega) i0
  clear q1 q2 q3 n1 n2 n3 j1
  generalize sj_putR t1 0 0 (some 1) = s1 at S1 o1 i1 ⊢
  have z1 : sj_sz s1 = 15 := S1.1
  obtain ⟨n1, n2, n3⟩ := new_0 (cj := 0) (n := 15) z1
  obtain ⟨t2, q1, q2, q3⟩ := mk_0 (N := N) n1 n2 n3
  have S2 := sub_of (a := 0) (k := 1) z1 (by omega) q2 (l2 := 377) rfl
  have j2 := q2.is (by omega) (is_new (cj := 0) (n := 15) z1 i1)
  have o2 : OK0 (sj_putR t2 0 1 (some 15)).1 15 := q3.sm (putR_sm (n := 29) (by omega)) (by omega) (by omega)
  rw [q_nO, z1, q1, q_cl, q_pR j2]
  have i2 := S2.is (by omega) i1
  clear q1 q2 q3 n1 n2 n3 j2
  generalize sj_putR t2 0 1 (some 15) = s2 at S2 o2 i2 ⊢
  have z2 : sj_sz s2 = 29 := S2.1
  obtain ⟨n1, n2, n3⟩ := new_0 (cj := 0) (n := 15) z2
  obtain ⟨t3, q1, q2, q3⟩ := mk_0 (N := N) n1 n2 n3
  have S3 := sub_of (a := 0) (k := 2) z2 (by omega) q2 (l2 := 377) rfl
  have j3 := q2.is (by omega) (is_new (cj := 0) (n := 15) z2 i2)
  have o3 : OK0 (sj_putR t3 0 2 (some 29)).1 29 := q3.sm (putR_sm (n := 43) (by omega)) (by omega) (by omega)
  rw [q_nO, z2, q1, q_cl, q_pR j3]
  have i3 := S3.is (by omega) i2
  clear q1 q2 q3 n1 n2 n3 j3
  generalize sj_putR t3 0 2 (some 29) = s3 at S3 o3 i3 ⊢
  have z3 : sj_sz s3 = 43 := S3.1
  obtain ⟨n1, n2, n3⟩ := new_0 (cj := 1) (n := 4) z3
  obtain ⟨t4, q1, q2, q3⟩ := mk_1 (N := N) n1 n2 n3
  have S4 := sub_of (a := 0) (k := 3) z3 (by omega) q2 (l2 := 28) rfl
  have j4 := q2.is (by omega) (is_new (cj := 1) (n := 4) z3 i3)
  have o4 : OK1 (sj_putR t4 0 3 (some 43)).1 43 := q3.sm (putR_sm (n := 46) (by omega)) (by omega) (by omega)
  rw [q_nO, z3, q1, q_cl, q_pR j4]
  have i4 := S4.is (by omega) i3
  clear q1 q2 q3 n1 n2 n3 j4
  generalize sj_putR t4 0 3 (some 43) = s4 at S4 o4 i4 ⊢
  have z4 : sj_sz s4 = 46 := S4.1
  obtain ⟨n1, n2, n3⟩ := new_0 (cj := 1) (n := 4) z4
  obtain ⟨t5, q1, q2, q3⟩ := mk_1 (N := N) n1 n2 n3
  have S5 := sub_of (a := 0) (k := 4) z4 (by omega) q2 (l2 := 28) rfl
  have j5 := q2.is (by omega) (is_new (cj := 1) (n := 4) z4 i4)
  have o5 : OK1 (sj_putR t5 0 4 (some 46)).1 46 := q3.sm (putR_sm (n := 49) (by omega)) (by omega) (by omega)
  rw [q_nO, z4, q1, q_cl, q_pR j5]
  have i5 := S5.is (by omega) i4
  clear q1 q2 q3 n1 n2 n3 j5
  generalize sj_putR t5 0 4 (some 46) = s5 at S5 o5 i5 ⊢
  have z5 : sj_sz s5 = 49 := S5.1
  obtain ⟨n1, n2, n3⟩ := new_0 (cj := 2) (n := 2) z5
  obtain ⟨t6, q1, q2, q3⟩ := mk_2 (N := N) n1 n2 n3
  have S6 := sub_of (a := 0) (k := 5) z5 (by omega) q2 (l2 := 18) rfl
  have j6 := q2.is (by omega) (is_new (cj := 2) (n := 2) z5 i5)
  have o6 : OK2 (sj_putR t6 0 5 (some 49)).1 49 := q3.sm (putR_sm (n := 51) (by omega)) (by omega) (by omega)
  rw [q_nO, z5, q1, q_cl, q_pR j6]
  have i6 := S6.is (by omega) i5
  clear q1 q2 q3 n1 n2 n3 j6
  generalize sj_putR t6 0 5 (some 49) = s6 at S6 o6 i6 ⊢
  have z6 : sj_sz s6 = 51 := S6.1
  have S7 := sub_arr (kd := 104) (n := Int.toNat 8) (a := 0) (k := 6) z6 (by omega)
  have o7 : OKA (arr s6 104 (Int.toNat 8) 0 6).1 104 51 8 := oka_arr z6 (by omega)
  rw [q_arr (by omega) i6]
  have i7 := S7.is (by omega) i6
  generalize arr s6 104 (Int.toNat 8) 0 6 = s7 at S7 o7 i7 ⊢
  have z7 : sj_sz s7 = 52 := S7.1
  obtain ⟨n1, n2, n3⟩ := new_0 (cj := 7) (n := 8) z7
  obtain ⟨t8, q1, q2, q3⟩ := mk_7 (N := N) n1 n2 n3
  have S8 := sub_of (a := 0) (k := 7) z7 (by omega) q2 (l2 := 608) rfl
  have j8 := q2.is (by omega) (is_new (cj := 7) (n := 8) z7 i7)
  have o8 : OK7 (sj_putR t8 0 7 (some 52)).1 52 := q3.sm (putR_sm (n := 54) (by omega)) (by omega) (by omega)
  rw [q_nO, z7, q1, q_cl, q_pR j8]
  have i8 := S8.is (by omega) i7
  clear q1 q2 q3 n1 n2 n3 j8
  generalize sj_putR t8 0 7 (some 52) = s8 at S8 o8 i8 ⊢
  have z8 : sj_sz s8 = 54 := S8.1
  obtain ⟨n1, n2, n3⟩ := new_0 (cj := 4) (n := 11) z8
  obtain ⟨t9, q1, q2, q3⟩ := mk_4 (N := N) n1 n2 n3
  have S9 := sub_of (a := 0) (k := 8) z8 (by omega) q2 (l2 := 339) rfl
  have j9 := q2.is (by omega) (is_new (cj := 4) (n := 11) z8 i8)
  have o9 : OK4 (sj_putR t9 0 8 (some 54)).1 54 := q3.sm (putR_sm (n := 63) (by omega)) (by omega) (by omega)
  rw [q_nO, z8, q1, q_cl, q_pR j9]
  have i9 := S9.is (by omega) i8
  clear q1 q2 q3 n1 n2 n3 j9
  generalize sj_putR t9 0 8 (some 54) = s9 at S9 o9 i9 ⊢
  have z9 : sj_sz s9 = 63 := S9.1
  obtain ⟨n1, n2, n3⟩ := new_0 (cj := 3) (n := 7) z9
  obtain ⟨t10, q1, q2, q3⟩ := mk_3 (N := N) n1 n2 n3
  have q2 : Mk (sj_new s9 3 0 7) t10 63 12 384 (fun i k => t10.2 (63 + i) k) := ⟨q2.1, q2.2.1, q2.2.2, fun _ _ _ => rfl⟩
  have S10 := sub_of (a := 0) (k := 9) z9 (by omega) q2 (l2 := 391) rfl
  have j10 := q2.is (by omega) (is_new (cj := 3) (n := 7) z9 i9)
  have o10 : OK3 (sj_putR t10 0 9 (some 63)).1 63 := q3.sm (putR_sm (n := 75) (by omega)) (by omega) (by omega)
  rw [q_nO, z9, q1, q_cl, q_pR j10]
  have i10 := S10.is (by omega) i9
  clear q1 q2 q3 n1 n2 n3 j10
  generalize sj_putR t10 0 9 (some 63) = s10 at S10 o10 i10 ⊢
  have z10 : sj_sz s10 = 75 := S10.1
  obtain ⟨n1, n2, n3⟩ := new_0 (cj := 5) (n := 4) z10
  obtain ⟨t11, q1, q2, q3⟩ := mk_5 (N := N) n1 n2 n3
  have S11 := sub_of (a := 0) (k := 10) z10 (by omega) q2 (l2 := 45) rfl
  have j11 := q2.is (by omega) (is_new (cj := 5) (n := 4) z10 i10)
  have o11 : OK5 (sj_putR t11 0 10 (some 75)).1 75 := q3.sm (putR_sm (n := 77) (by omega)) (by omega) (by omega)
  rw [q_nO, z10, q1, q_cl, q_pR j11]
  have i11 := S11.is (by omega) i10
  clear q1 q2 q3 n1 n2 n3 j11
  generalize sj_putR t11 0 10 (some 75) = s11 at S11 o11 i11 ⊢
  have z11 : sj_sz s11 = 77 := S11.1
  have T10 := S11.sm z10 (lo := 1) (by omega)
  have T9 := (S10.sm z9 (lo := 1) (by omega)).tr T10 (by omega) (by omega)
  have T8 := (S9.sm z8 (lo := 1) (by omega)).tr T9 (by omega) (by omega)
  have T7 := (S8.sm z7 (lo := 1) (by omega)).tr T8 (by omega) (by omega)
  have T6 := (S7.sm z6 (lo := 1) (by omega)).tr T7 (by omega) (by omega)
  have T5 := (S6.sm z5 (lo := 1) (by omega)).tr T6 (by omega) (by omega)
  have T4 := (S5.sm z4 (lo := 1) (by omega)).tr T5 (by omega) (by omega)
  have T3 := (S4.sm z3 (lo := 1) (by omega)).tr T4 (by omega) (by omega)
  have T2 := (S3.sm z2 (lo := 1) (by omega)).tr T3 (by omega) (by omega)
  have T1 := (S2.sm z1 (lo := 1) (by omega)).tr T2 (by omega) (by omega)
  have U10 : ∀ x, x < 75 → s11.2 x = s10.2 x := fun x hx => (S11.2.2.1 x hx).2.2
  have U9 : ∀ x, x < 63 → s11.2 x = s9.2 x := fun x hx => (U10 x (by omega)).trans (S10.2.2.1 x hx).2.2
  have U8 : ∀ x, x < 54 → s11.2 x = s8.2 x := fun x hx => (U9 x (by omega)).trans (S9.2.2.1 x hx).2.2
  have U7 : ∀ x, x < 52 → s11.2 x = s7.2 x := fun x hx => (U8 x (by omega)).trans (S8.2.2.1 x hx).2.2
  have U6 : ∀ x, x < 51 → s11.2 x = s6.2 x := fun x hx => (U7 x (by omega)).trans (S7.2.2.1 x hx).2.2
  have U5 : ∀ x, x < 49 → s11.2 x = s5.2 x := fun x hx => (U6 x (by omega)).trans (S6.2.2.1 x hx).2.2
  have U4 : ∀ x, x < 46 → s11.2 x = s4.2 x := fun x hx => (U5 x (by omega)).trans (S5.2.2.1 x hx).2.2
  have U3 : ∀ x, x < 43 → s11.2 x = s3.2 x := fun x hx => (U4 x (by omega)).trans (S4.2.2.1 x hx).2.2
  have U2 : ∀ x, x < 29 → s11.2 x = s2.2 x := fun x hx => (U3 x (by omega)).trans (S3.2.2.1 x hx).2.2
  have U1 : ∀ x, x < 15 → s11.2 x = s1.2 x := fun x hx => (U2 x (by omega)).trans (S2.2.2.1 x hx).2.2
  have U0 : ∀ x, x < 1 → s11.2 x = s0.2 x := fun x hx => (U1 x (by omega)).trans (S1.2.2.1 x hx).2.2
  have r0 : s11.1.2.1 0 0 = some 1 := by rw [(S11.2.2.1 0 (by omega)).2.1 0 (by omega), (S10.2.2.1 0 (by omega)).2.1 0 (by omega), (S9.2.2.1 0 (by omega)).2.1 0 (by omega), (S8.2.2.1 0 (by omega)).2.1 0 (by omega), (S7.2.2.1 0 (by omega)).2.1 0 (by omega), (S6.2.2.1 0 (by omega)).2.1 0 (by omega), (S5.2.2.1 0 (by omega)).2.1 0 (by omega), (S4.2.2.1 0 (by omega)).2.1 0 (by omega), (S3.2.2.1 0 (by omega)).2.1 0 (by omega), (S2.2.2.1 0 (by omega)).2.1 0 (by omega)]; exact S1.2.2.2.1
  have r1 : s11.1.2.1 0 1 = some 15 := by rw [(S11.2.2.1 0 (by omega)).2.1 1 (by omega), (S10.2.2.1 0 (by omega)).2.1 1 (by omega), (S9.2.2.1 0 (by omega)).2.1 1 (by omega), (S8.2.2.1 0 (by omega)).2.1 1 (by omega), (S7.2.2.1 0 (by omega)).2.1 1 (by omega), (S6.2.2.1 0 (by omega)).2.1 1 (by omega), (S5.2.2.1 0 (by omega)).2.1 1 (by omega), (S4.2.2.1 0 (by omega)).2.1 1 (by omega), (S3.2.2.1 0 (by omega)).2.1 1 (by omega)]; exact S2.2.2.2.1
  have r2 : s11.1.2.1 0 2 = some 29 := by rw [(S11.2.2.1 0 (by omega)).2.1 2 (by omega), (S10.2.2.1 0 (by omega)).2.1 2 (by omega), (S9.2.2.1 0 (by omega)).2.1 2 (by omega), (S8.2.2.1 0 (by omega)).2.1 2 (by omega), (S7.2.2.1 0 (by omega)).2.1 2 (by omega), (S6.2.2.1 0 (by omega)).2.1 2 (by omega), (S5.2.2.1 0 (by omega)).2.1 2 (by omega), (S4.2.2.1 0 (by omega)).2.1 2 (by omega)]; exact S3.2.2.2.1
  have r3 : s11.1.2.1 0 3 = some 43 := by rw [(S11.2.2.1 0 (by omega)).2.1 3 (by omega), (S10.2.2.1 0 (by omega)).2.1 3 (by omega), (S9.2.2.1 0 (by omega)).2.1 3 (by omega), (S8.2.2.1 0 (by omega)).2.1 3 (by omega), (S7.2.2.1 0 (by omega)).2.1 3 (by omega), (S6.2.2.1 0 (by omega)).2.1 3 (by omega), (S5.2.2.1 0 (by omega)).2.1 3 (by omega)]; exact S4.2.2.2.1
  have r4 : s11.1.2.1 0 4 = some 46 := by rw [(S11.2.2.1 0 (by omega)).2.1 4 (by omega), (S10.2.2.1 0 (by omega)).2.1 4 (by omega), (S9.2.2.1 0 (by omega)).2.1 4 (by omega), (S8.2.2.1 0 (by omega)).2.1 4 (by omega), (S7.2.2.1 0 (by omega)).2.1 4 (by omega), (S6.2.2.1 0 (by omega)).2.1 4 (by omega)]; exact S5.2.2.2.1
  have r5 : s11.1.2.1 0 5 = some 49 := by rw [(S11.2.2.1 0 (by omega)).2.1 5 (by omega), (S10.2.2.1 0 (by omega)).2.1 5 (by omega), (S9.2.2.1 0 (by omega)).2.1 5 (by omega), (S8.2.2.1 0 (by omega)).2.1 5 (by omega), (S7.2.2.1 0 (by omega)).2.1 5 (by omega)]; exact S6.2.2.2.1
  have r6 : s11.1.2.1 0 6 = some 51 := by rw [(S11.2.2.1 0 (by omega)).2.1 6 (by omega), (S10.2.2.1 0 (by omega)).2.1 6 (by omega), (S9.2.2.1 0 (by omega)).2.1 6 (by omega), (S8.2.2.1 0 (by omega)).2.1 6 (by omega)]; exact S7.2.2.2.1
  have r7 : s11.1.2.1 0 7 = some 52 := by rw [(S11.2.2.1 0 (by omega)).2.1 7 (by omega), (S10.2.2.1 0 (by omega)).2.1 7 (by omega), (S9.2.2.1 0 (by omega)).2.1 7 (by omega)]; exact S8.2.2.2.1
  have r8 : s11.1.2.1 0 8 = some 54 := by rw [(S11.2.2.1 0 (by omega)).2.1 8 (by omega), (S10.2.2.1 0 (by omega)).2.1 8 (by omega)]; exact S9.2.2.2.1
  have r9 : s11.1.2.1 0 9 = some 63 := by rw [(S11.2.2.1 0 (by omega)).2.1 9 (by omega)]; exact S10.2.2.2.1
  have r10 : s11.1.2.1 0 10 = some 75 := S11.2.2.2.1
  have r11 : s11.1.2.1 0 11 = none := by rw [(S11.2.2.1 0 (by omega)).2.1 11 (by omega), (S10.2.2.1 0 (by omega)).2.1 11 (by omega), (S9.2.2.1 0 (by omega)).2.1 11 (by omega), (S8.2.2.1 0 (by omega)).2.1 11 (by omega), (S7.2.2.1 0 (by omega)).2.1 11 (by omega), (S6.2.2.1 0 (by omega)).2.1 11 (by omega), (S5.2.2.1 0 (by omega)).2.1 11 (by omega), (S4.2.2.1 0 (by omega)).2.1 11 (by omega), (S3.2.2.1 0 (by omega)).2.1 11 (by omega), (S2.2.2.1 0 (by omega)).2.1 11 (by omega), (S1.2.2.1 0 (by omega)).2.1 11 (by omega)]; exact h4
  have w1 : OK0 s11.1 1 := o1.sm T1 (by omega) (by omega)
  have w2 : OK0 s11.1 15 := o2.sm T2 (by omega) (by omega)
  have w3 : OK0 s11.1 29 := o3.sm T3 (by omega) (by omega)
  have w4 : OK1 s11.1 43 := o4.sm T4 (by omega) (by omega)
  have w5 : OK1 s11.1 46 := o5.sm T5 (by omega) (by omega)
  have w6 : OK2 s11.1 49 := o6.sm T6 (by omega) (by omega)
  have w7 : OKA s11.1 104 51 8 := o7.sm T7 (by omega) (by omega)
  have w8 : OK7 s11.1 52 := o8.sm T8 (by omega) (by omega)
  have w9 : OK4 s11.1 54 := o9.sm T9 (by omega) (by omega)
  have w10 : OK3 s11.1 63 := o10.sm T10 (by omega) (by omega)
  have w11 := o11
  obtain ⟨V', b1, b2, b3, b4, b5, b6⟩ := c_begin (N := N) (ga := 1) (n := 20) (d := 4) (V := s11.2) (fun _ => 0) hN
  have hb : f_X0_begin N 1 20 4 s11 = some ((), (s11.1, V')) := fx_begin (g := s11.1) (V := s11.2) w1 b1
  rw [q_gR i11, r0, q_nn, q_cv w1.1, hb, q_cl]
  obtain ⟨s', p1, ⟨p2, p3, p4, p5, p6⟩, p7, p8, p9, p10⟩ := init135 (N := N) N 0 (s11.1, V') (by omega) (by omega) ⟨z11, i11, r6, w7, fun j hj => absurd hj (by omega)⟩
  have F1 : Sm s11.1 s'.1 0 51 := p8
  have F2 : Sm s11.1 s'.1 52 77 := p9
  have R : s'.1.2.1 0 = s11.1.2.1 0 := (F1.2 0 (by omega) (by omega)).2
  have VV : ∀ x, x < 77 → ¬ (1 ≤ x ∧ x < 15) → s'.2 x = s11.2 x := fun x hx hx2 => (p10 x hx).trans (b2 x (by omega))
  refine ⟨s', p1, ⟨⟨p3, ?_⟩, ?_, by rw [p2], ?_⟩, ?_, ⟨?_, ?_, ?_⟩, fun k => ?_, ?_, fun i hi k => ?_, fun k => ?_, fun k => ?_⟩
  · rw [R]
    exact ⟨⟨r0, w1.sm F1 (by omega) (by omega)⟩, ⟨r1, w2.sm F1 (by omega) (by omega)⟩, ⟨r2, w3.sm F1 (by omega) (by omega)⟩, ⟨r3, w4.sm F1 (by omega) (by omega)⟩, ⟨r4, w5.sm F1 (by omega) (by omega)⟩, ⟨r5, w6.sm F1 (by omega) (by omega)⟩, ⟨r6, p5, p6⟩, ⟨r7, w8.sm F2 (by omega) (by omega)⟩, ⟨r8, w9.sm F2 (by omega) (by omega)⟩, ⟨r9, w10.sm F2 (by omega) (by omega)⟩, ⟨r10, w11.sm F2 (by omega) (by omega)⟩⟩
  · rw [R]; exact r11
  · have e : sj_sl (s11.1, V') = sj_sl s11 := rfl
    rw [p7, e, S11.2.1, S10.2.1, S9.2.1, S8.2.1, S7.2.1, S6.2.1, S5.2.1, S4.2.1, S3.2.1, S2.2.1, S1.2.1]
    show sj_sl s0 + 377 + 377 + 377 + 28 + 28 + 18 + 8 + 608 + 339 + 391 + 45 + 377 * 8 = _
    omega
  · exact b3.rows (fun k hk => p10 _ (by omega))
  · rw [p10 _ (by omega)]; exact b4
  · rw [p10 _ (by omega)]; exact b5
  · rw [p10 _ (by omega)]
    refine b6.trans ?_
    rw [U1 _ (by omega)]
    exact S1.2.2.2.2 12 (by omega) 3
  · rw [VV _ (by omega) (by omega), U0 _ (by omega)]; exact h3 k
  · rw [VV _ (by omega) (by omega), U2 _ (by omega)]
    exact S2.2.2.2.2 12 (by omega) 3
  · rw [VV _ (by omega) (by omega), U4 _ (by omega)]
    exact S4.2.2.2.2 i hi k
  · rw [VV _ (by omega) (by omega), U6 _ (by omega)]
    exact S6.2.2.2.2 0 (by omega) k
  · rw [VV _ (by omega) (by omega), U8 _ (by omega)]
    exact S8.2.2.2.2 0 (by omega) k
end Make8
