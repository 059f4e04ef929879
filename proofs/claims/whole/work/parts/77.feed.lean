/-! FEED -/
theorem and_255 (v : Int) : sj_and v 255 = v % 256 := by
  unfold sj_and
  have h1 : (Int32.ofInt v &&& Int32.ofInt 255).toInt = ((BitVec.ofInt 32 v) &&& 255#32).toInt := rfl
  have h2 : ((BitVec.ofInt 32 v) &&& 255#32).toNat = (BitVec.ofInt 32 v).toNat % 256 := by
    rw [BitVec.toNat_and]
    exact Nat.and_two_pow_sub_one_eq_mod _ 8
  have h3 : (BitVec.ofInt 32 v).toNat = (v % 4294967296).toNat := by rw [BitVec.toNat_ofInt]; rfl
  rw [h1, BitVec.toInt_eq_toNat_cond, h2, h3]
  split <;> omega
theorem k_ush {β : Type} {x y : Int} {K : Int → Option β} (h : 0 ≤ y ∧ y < 32) : e_ush x y K = K ((x % 4294967296) / 2 ^ y.toNat) := if_pos h
section Feed
variable {V V1 V2 : sj_VV} {a b t N : Nat} {x1 x2 x3 x4 x5 : Int}
def fdB (x : Int) (j : Nat) : Int := (x % 4294967296) / 2 ^ (24 - 8 * j)
theorem put_loop {L : Nat} (hL : L + 4 ≤ 600) : ∀ (m k : Nat) (V : sj_VV), k ≤ 4 → 4 - k < m → V t 1 = ((L + k : Nat) : Int) → (∀ j, j < k → V (t + 1) (L + j) = fdB x1 j % 256) → ∃ V', g_X7_put_3 N m t x1 (24 - 8 * (k : Int)) V = some ((), V') ∧ V' t 1 = ((L + 4 : Nat) : Int) ∧ (∀ j, j ≠ 1 → V' t j = V t j) ∧ (∀ z, z ≠ t → z ≠ t + 1 → V' z = V z) ∧ (∀ i, i < L → V' (t + 1) i = V (t + 1) i) ∧ ∀ j, j < 4 → V' (t + 1) (L + j) = fdB x1 j % 256
  | 0, _, _, _, h, _, _ => absurd h (by omega)
  | m + 1, k, V, h1, h2, h3, hb => by
    unfold g_X7_put_3 g_X7_put_3_b
    by_cases hk : k = 4
    · subst hk
      rw [k_ltT (by omega) ⟨by omega, by omega⟩ ⟨by omega, by omega⟩]
      exact ⟨V, rfl, h3, fun _ _ => rfl, fun _ _ _ => rfl, fun _ _ => rfl, hb⟩
    · rw [k_ltF (by omega) ⟨by omega, by omega⟩ ⟨by omega, by omega⟩, h3, k_leF (by omega) ⟨by omega, by omega⟩ ⟨by omega, by omega⟩]
      rw [k_ush (by omega), k_ix (by omega) (by omega), k_lt, k_lt, k_lt, tn0, show (24 - 8 * (k : Int)).toNat = 24 - 8 * k by omega, and_255, up_na _ _ _ _ (by omega), h3, show 24 - 8 * (k : Int) + (-8) = 24 - 8 * ((k + 1 : Nat) : Int) by omega]
      obtain ⟨V2, d2⟩ : ∃ V2, V2 = sj_up (sj_up V (t + 1) (L + k) (x1 % 4294967296 / 2 ^ (24 - 8 * k) % 256)) t 1 (((L + k : Nat) : Int) + 1) := ⟨_, rfl⟩
      rw [← d2]
      have q1 : V2 t 1 = ((L + (k + 1) : Nat) : Int) := by rw [d2, up_ss]; omega
      have q2 : ∀ j, j ≠ 1 → V2 t j = V t j := fun j hj => by rw [d2, up_nk _ _ _ hj, up_row _ _ _ (by omega)]
      have q3 : ∀ z, z ≠ t → z ≠ t + 1 → V2 z = V z := fun z z1 z2 => by rw [d2, up_row _ _ _ z1, up_row _ _ _ z2]
      have q4 : ∀ i, i ≠ L + k → V2 (t + 1) i = V (t + 1) i := fun i hi => by rw [d2, up_row _ _ _ (by omega), up_nk _ _ _ hi]
      have q5 : V2 (t + 1) (L + k) = fdB x1 k % 256 := by rw [d2, up_row _ _ _ (by omega), up_ss]; rfl
      obtain ⟨V3, r1, r2, r3, r4, r5, r6⟩ := put_loop hL m (k + 1) V2 (by omega) (by omega) q1 (fun j hj => by
        by_cases z : j = k
        · subst z; exact q5
        · rw [q4 _ (by omega)]; exact hb j (by omega))
      exact ⟨V3, r1, r2, fun j hj => (r3 j hj).trans (q2 j hj), fun z z1 z2 => (r4 z z1 z2).trans (q3 z z1 z2), fun i hi => (r5 i hi).trans (q4 i (by omega)), r6⟩
theorem word_loop {L : Nat} (hL : L + 4 ≤ 600) : ∀ (m k : Nat) (V : sj_VV), k ≤ 4 → 4 - k < m → V b 28 = ((L + k : Nat) : Int) → (∀ j, j < k → V (b + 10) (L + j) = Int.bmod (fdB x1 j) 256) → ∃ V', g_X9_comesWord_3 N m b x1 (24 - 8 * (k : Int)) V = some ((), V') ∧ V' b 28 = ((L + 4 : Nat) : Int) ∧ (∀ j, j ≠ 28 → V' b j = V b j) ∧ (∀ z, z ≠ b → z ≠ b + 10 → V' z = V z) ∧ (∀ i, i < L → V' (b + 10) i = V (b + 10) i) ∧ ∀ j, j < 4 → V' (b + 10) (L + j) = Int.bmod (fdB x1 j) 256
  | 0, _, _, _, h, _, _ => absurd h (by omega)
  | m + 1, k, V, h1, h2, h3, hb => by
    unfold g_X9_comesWord_3 g_X9_comesWord_3_b
    by_cases hk : k = 4
    · subst hk
      rw [k_ltT (by omega) ⟨by omega, by omega⟩ ⟨by omega, by omega⟩]
      exact ⟨V, rfl, h3, fun _ _ => rfl, fun _ _ _ => rfl, fun _ _ => rfl, hb⟩
    · rw [k_ltF (by omega) ⟨by omega, by omega⟩ ⟨by omega, by omega⟩]
      have g1 := Int.le_bmod (x := x1 % 4294967296 / 2 ^ (24 - 8 * k)) (m := 256) (by omega)
      have g2 := Int.bmod_lt (x := x1 % 4294967296 / 2 ^ (24 - 8 * k)) (m := 256) (by omega)
      rw [k_ush (by omega), show (24 - 8 * (k : Int)).toNat = 24 - 8 * k by omega, h3, k_ix (by omega) (by omega), k_bb (by omega) (by omega), k_lt, k_lt, k_lt, tn0, up_na _ _ _ _ (by omega), h3, show 24 - 8 * (k : Int) + (-8) = 24 - 8 * ((k + 1 : Nat) : Int) by omega]
      obtain ⟨V2, d2⟩ : ∃ V2, V2 = sj_up (sj_up V (b + 10) (L + k) (Int.bmod (x1 % 4294967296 / 2 ^ (24 - 8 * k)) 256)) b 28 (((L + k : Nat) : Int) + 1) := ⟨_, rfl⟩
      rw [← d2]
      have q1 : V2 b 28 = ((L + (k + 1) : Nat) : Int) := by rw [d2, up_ss]; omega
      have q2 : ∀ j, j ≠ 28 → V2 b j = V b j := fun j hj => by rw [d2, up_nk _ _ _ hj, up_row _ _ _ (by omega)]
      have q3 : ∀ z, z ≠ b → z ≠ b + 10 → V2 z = V z := fun z z1 z2 => by rw [d2, up_row _ _ _ z1, up_row _ _ _ z2]
      have q4 : ∀ i, i ≠ L + k → V2 (b + 10) i = V (b + 10) i := fun i hi => by rw [d2, up_row _ _ _ (by omega), up_nk _ _ _ hi]
      have q5 : V2 (b + 10) (L + k) = Int.bmod (fdB x1 k) 256 := by rw [d2, up_row _ _ _ (by omega), up_ss]; rfl
      obtain ⟨V3, r1, r2, r3, r4, r5, r6⟩ := word_loop hL m (k + 1) V2 (by omega) (by omega) q1 (fun j hj => by
        by_cases z : j = k
        · subst z; exact q5
        · rw [q4 _ (by omega)]; exact hb j (by omega))
      exact ⟨V3, r1, r2, fun j hj => (r3 j hj).trans (q2 j hj), fun z z1 z2 => (r4 z z1 z2).trans (q3 z z1 z2), fun i hi => (r5 i hi).trans (q4 i (by omega)), r6⟩
/-- the class's tape in one state against the reference's in another -/
def TP (V1 V2 : sj_VV) (t b : Nat) : Prop := V1 t 1 = V2 b 28 ∧ 0 ≤ V2 b 28 ∧ ∀ i : Nat, (i : Int) < V2 b 28 → (0 ≤ V1 (t + 1) i ∧ V1 (t + 1) i ≤ 255) ∧ V2 (b + 10) i = Int.bmod (V1 (t + 1) i) 256
theorem TP.word (h : TP V1 V2 t b) (hL : V2 b 28 + 4 ≤ 600) (hN : 10 ≤ N) : ∃ V1' V2', g_X7_put N t x1 V1 = some ((), V1') ∧ g_X9_comesWord N b x1 V2 = some ((), V2') ∧ TP V1' V2' t b ∧ V2' b 28 = V2 b 28 + 4 ∧ ((∀ j, j ≠ 1 → V1' t j = V1 t j) ∧ (∀ z, z ≠ t → z ≠ t + 1 → V1' z = V1 z)) ∧ (∀ j, j ≠ 28 → V2' b j = V2 b j) ∧ ∀ z, z ≠ b → z ≠ b + 10 → V2' z = V2 z := by
  obtain ⟨h1, h2, h3⟩ := h
  obtain ⟨L, hL2⟩ : ∃ L : Nat, V2 b 28 = L := ⟨(V2 b 28).toNat, by omega⟩
  obtain ⟨V1', r1, r2, r3, r4, r5, r6⟩ := put_loop (N := N) (t := t) (x1 := x1) (L := L) (by omega) N 0 V1 (by omega) (by omega) (by rw [h1, hL2]; rfl) (fun j hj => by omega)
  obtain ⟨V2', s1, s2, s3, s4, s5, s6⟩ := word_loop (N := N) (b := b) (x1 := x1) (L := L) (by omega) N 0 V2 (by omega) (by omega) (by rw [hL2]; rfl) (fun j hj => by omega)
  refine ⟨V1', V2', r1, s1, ⟨by rw [r2, s2], by rw [s2]; omega, fun i hi => ?_⟩, by rw [s2, hL2]; omega, ⟨r3, r4⟩, s3, s4⟩
  rw [s2] at hi
  by_cases z : i < L
  · rw [r5 i z, s5 i z]
    exact h3 i (by omega)
  · obtain ⟨j, hj⟩ : ∃ j, i = L + j := ⟨i - L, by omega⟩
    subst hj
    rw [r6 j (by omega), s6 j (by omega)]
    exact ⟨by omega, (Int.emod_bmod (x := fdB x1 j) (n := 256)).symm⟩
theorem s_feed (hI : INV V a b) (hab : b = a + 189) (hN : 1000 ≤ N) : ST a b (g_X8_feed N a x1 x2 x3 x4 x5) (g_X9_feed N b x1 x2 x3 x4 x5) V := by
  obtain ⟨i1, i2, i3, i4, ⟨e1, e2, e3, e4⟩, i6⟩ := id hI
  unfold ST g_X8_feed g_X9_feed
  rw [e1, k_lec ⟨by omega, by omega⟩ ⟨by omega, by omega⟩]
  by_cases hq : V b 28 ≤ 580
  · -- the class's five words
    have key : ∃ V5 W5, (e_cs (g_X7_put N (a + 52) x1 V) fun _u V1 => e_cs (g_X7_put N (a + 52) x2 V1) fun _u V2 => e_cs (g_X7_put N (a + 52) x3 V2) fun _u V3 => e_cs (g_X7_put N (a + 52) x4 V3) fun _u V4 => e_cs (g_X7_put N (a + 52) x5 V4) fun _u V5 => some (V5 (a + 52) 1, V5)) = some (V b 28 + 20, V5) ∧ (e_cs (g_X9_comesWord N b x1 V5) fun _u V1 => e_cs (g_X9_comesWord N b x2 V1) fun _u V2 => e_cs (g_X9_comesWord N b x3 V2) fun _u V3 => e_cs (g_X9_comesWord N b x4 V3) fun _u V4 => e_cs (g_X9_comesWord N b x5 V4) fun _u V5 => some (V5 b 28, V5)) = some (V b 28 + 20, W5) ∧ TP V5 W5 (a + 52) b ∧ W5 b 28 = V b 28 + 20 ∧ ((∀ j, j ≠ 1 → V5 (a + 52) j = V (a + 52) j) ∧ (∀ z, z ≠ a + 52 → z ≠ a + 53 → V5 z = V z)) ∧ (∀ j, j ≠ 28 → W5 b j = V b j) ∧ ∀ z, z ≠ b → z ≠ b + 10 → W5 z = V5 z := by
      have t0 : TP V V (a + 52) b := ⟨e1, e2.1, e4⟩
      -- puts alone
      have put1 : ∀ (x : Int) (A B : sj_VV), TP A B (a + 52) b → B b 28 + 4 ≤ 600 → ∃ A' B', g_X7_put N (a + 52) x A = some ((), A') ∧ g_X9_comesWord N b x B = some ((), B') ∧ TP A' B' (a + 52) b ∧ B' b 28 = B b 28 + 4 ∧ ((∀ j, j ≠ 1 → A' (a + 52) j = A (a + 52) j) ∧ (∀ z, z ≠ a + 52 → z ≠ a + 52 + 1 → A' z = A z)) ∧ (∀ j, j ≠ 28 → B' b j = B b j) ∧ ∀ z, z ≠ b → z ≠ b + 10 → B' z = B z := fun x A B h h2 => TP.word h h2 (by omega)
      -- first the class alone, against any state of the reference
      obtain ⟨A1, B1, a1, b1, t1, l1, ⟨m1, n1⟩, c1, d1⟩ := put1 x1 V V t0 (by omega)
      obtain ⟨A2, B2, a2, b2, t2, l2, ⟨m2, n2⟩, c2, d2⟩ := put1 x2 A1 B1 t1 (by omega)
      obtain ⟨A3, B3, a3, b3, t3, l3, ⟨m3, n3⟩, c3, d3⟩ := put1 x3 A2 B2 t2 (by omega)
      obtain ⟨A4, B4, a4, b4, t4, l4, ⟨m4, n4⟩, c4, d4⟩ := put1 x4 A3 B3 t3 (by omega)
      obtain ⟨A5, B5, a5, b5, t5, l5, ⟨m5, n5⟩, c5, d5⟩ := put1 x5 A4 B4 t4 (by omega)
      have oA : ∀ z, z ≠ a + 52 → z ≠ a + 53 → A5 z = V z := fun z z1 z2 => by rw [n5 z z1 z2, n4 z z1 z2, n3 z z1 z2, n2 z z1 z2, n1 z z1 z2]
      have mA : ∀ j, j ≠ 1 → A5 (a + 52) j = V (a + 52) j := fun j hj => by rw [m5 j hj, m4 j hj, m3 j hj, m2 j hj, m1 j hj]
      -- then the reference from there
      have sb : A5 b = V b := oA _ (by omega) (by omega)
      have s10 : A5 (b + 10) = V (b + 10) := oA _ (by omega) (by omega)
      have t0' : TP V A5 (a + 52) b := ⟨by rw [sb]; exact e1, by rw [sb]; exact e2.1, fun i hi => by rw [sb] at hi; rw [s10]; exact e4 i hi⟩
      obtain ⟨A1', W1, a1', w1, t1', l1', _, c1', d1'⟩ := put1 x1 V A5 t0' (by rw [sb]; omega)
      obtain rfl : A1' = A1 := by rw [a1] at a1'; simpa using a1'.symm
      obtain ⟨A2', W2, a2', w2, t2', l2', _, c2', d2'⟩ := put1 x2 A1' W1 t1' (by rw [l1', sb]; omega)
      obtain rfl : A2' = A2 := by rw [a2] at a2'; simpa using a2'.symm
      obtain ⟨A3', W3, a3', w3, t3', l3', _, c3', d3'⟩ := put1 x3 A2' W2 t2' (by rw [l2', l1', sb]; omega)
      obtain rfl : A3' = A3 := by rw [a3] at a3'; simpa using a3'.symm
      obtain ⟨A4', W4, a4', w4, t4', l4', _, c4', d4'⟩ := put1 x4 A3' W3 t3' (by rw [l3', l2', l1', sb]; omega)
      obtain rfl : A4' = A4 := by rw [a4] at a4'; simpa using a4'.symm
      obtain ⟨A5', W5, a5', w5, t5', l5', _, c5', d5'⟩ := put1 x5 A4' W4 t4' (by rw [l4', l3', l2', l1', sb]; omega)
      obtain rfl : A5' = A5 := by rw [a5] at a5'; simpa using a5'.symm
      have len : W5 b 28 = V b 28 + 20 := by rw [l5', l4', l3', l2', l1', sb]; omega
      refine ⟨A5', W5, ?_, ?_, t5', len, ⟨mA, oA⟩, fun j hj => by rw [c5' j hj, c4' j hj, c3' j hj, c2' j hj, c1' j hj, sb], fun z z1 z2 => by rw [d5' z z1 z2, d4' z z1 z2, d3' z z1 z2, d2' z z1 z2, d1' z z1 z2]⟩
      · rw [a1, k_cs, a2, k_cs, a3, k_cs, a4, k_cs, a5, k_cs, t5'.1, len]
      · rw [w1, k_cs, w2, k_cs, w3, k_cs, w4, k_cs, w5, k_cs, len]
    obtain ⟨V5, W5, r1, r2, r3, r4, ⟨r5, r6⟩, r7, r8⟩ := key
    rw [if_pos hq, r1]
    have e : ∀ z, z ≠ b → z ≠ b + 10 → z ≠ a + 52 → z ≠ a + 53 → W5 z = V z := fun z z1 z2 z3 z4 => by rw [r8 z z1 z2, r6 z z3 z4]
    have w2 : W5 (b + 1) = V (b + 1) := e _ (by omega) (by omega) (by omega) (by omega)
    refine ⟨_, V5, W5, rfl, ?_, ?_, ?_, ?_, ?_, ?_, ?_⟩
    · have sb : V5 b = V b := r6 _ (by omega) (by omega)
      rw [sb, k_leT (by omega) ⟨by omega, by omega⟩ ⟨by omega, by omega⟩]
      exact r2
    · rw [w2]; exact i1.eq (fun z z1 z2 => e z (by omega) (by omega) (by omega) (by omega))
    · rw [w2]; exact i2.eq (fun z z1 z2 => e z (by omega) (by omega) (by omega) (by omega)) (fun _ _ _ => rfl)
    · exact i3.eq (by rw [e _ (by omega) (by omega) (by omega) (by omega)]) (by rw [e _ (by omega) (by omega) (by omega) (by omega)]) (r7 _ (by omega)) (e _ (by omega) (by omega) (by omega) (by omega)) (fun z z1 z2 => e z (by omega) (by omega) (by omega) (by omega))
    · exact i4.eq (by rw [e _ (by omega) (by omega) (by omega) (by omega)]) (r7 _ (by omega)) (e _ (by omega) (by omega) (by omega) (by omega)) (fun z z1 z2 => e z (by omega) (by omega) (by omega) (by omega)) (fun z z1 z2 => e z (by omega) (by omega) (by omega) (by omega)) (TL.of (e _ (by omega) (by omega) (by omega) (by omega)))
    · have s52 : W5 (a + 52) = V5 (a + 52) := r8 _ (by omega) (by omega)
      have s53 : W5 (a + 53) = V5 (a + 53) := r8 _ (by omega) (by omega)
      refine ⟨by rw [s52]; exact r3.1, by rw [r4]; omega, ⟨by rw [s52, r5 _ (by omega), r7 _ (by omega)]; exact e3.1, by rw [s52, r5 _ (by omega), r7 _ (by omega)]; exact e3.2⟩, fun i hi => by rw [s53]; exact r3.2.2 i hi⟩
    · exact i6.eq (e _ (by omega) (by omega) (by omega) (by omega)) (e _ (by omega) (by omega) (by omega) (by omega)) (r7 _ (by omega)) (e _ (by omega) (by omega) (by omega) (by omega))
  · rw [if_neg hq]
    refine ⟨_, V, V, rfl, ?_, hI⟩
    rw [k_leF (by omega) ⟨by omega, by omega⟩ ⟨by omega, by omega⟩]
end Feed
