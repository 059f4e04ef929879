/-! ACTS kept and undone, THE IMAGE -/
section Acts
variable {V V' V1 V2 : sj_VV} {a b h h2 src : Nat} {w w0 : sj_R} {N : Nat}
theorem tm8 {i : Int} (h : 0 ≤ i) : i.tmod 8 = i % 8 := Int.tmod_eq_emod_of_nonneg h
theorem c_keepAct (hR : RG V (a + 1) w) (h14 : 0 ≤ V a 14 ∧ V a 14 < 8) (h13 : 0 ≤ V a 13 ∧ V a 13 ≤ 8) : ∃ V', g_X8_keepAct N a V = some ((), V') ∧ (∀ z, z ≠ a → (z < a + 77 + 14 * (V a 14).toNat ∨ a + 91 + 14 * (V a 14).toNat ≤ z) → V' z = V z) ∧ (∀ j, j ≠ 13 → j ≠ 14 → V' a j = V a j) ∧ V' a 14 = (V a 14 + 1) % 8 ∧ V' a 13 = min 8 (V a 13 + 1) ∧ RG V' (a + 77 + 14 * (V a 14).toNat) w := by
  unfold g_X8_keepAct
  obtain ⟨V2, r1, r2, r3⟩ := copy_eq (N := N) (a := a + 77 + 14 * (V a 14).toNat) (b := a + 1) (by omega) hR
  have e0 : V2 a = V a := r2 _ (by omega)
  rw [k_ix (by omega) (by omega), r1, k_cs, e0, k_rI ⟨by omega, by omega⟩ ⟨by omega, by omega⟩ (by omega), tm8 (by omega), k_lt, up_nk _ _ _ (by omega), e0, k_lec ⟨by omega, by omega⟩ ⟨by omega, by omega⟩]
  obtain ⟨V3, e3⟩ : ∃ V3, V3 = sj_up V2 a 14 ((V a 14 + 1) % 8) := ⟨_, rfl⟩
  rw [← e3]
  have q3 : ∀ z, z ≠ a → V3 z = V2 z := fun z hz => by rw [e3, up_row _ _ _ hz]
  have p13 : V3 a 13 = V a 13 := by rw [e3, up_nk _ _ _ (by omega), e0]
  have p14 : V3 a 14 = (V a 14 + 1) % 8 := by rw [e3, up_ss]
  have pj : ∀ j, j ≠ 14 → V3 a j = V a j := fun j hj => by rw [e3, up_nk _ _ _ hj, e0]
  by_cases h8 : 8 ≤ V a 13
  · rw [if_pos h8]
    exact ⟨V3, rfl, fun z z1 z2 => by rw [q3 z z1, r2 z (by omega)], fun j _ j2 => pj j j2, p14, by rw [p13]; omega, r3.eq (fun z z1 z2 => q3 z (by omega))⟩
  · rw [if_neg h8, k_lt]
    refine ⟨_, rfl, fun z z1 z2 => by rw [up_row _ _ _ z1, q3 z z1, r2 z (by omega)], fun j j1 j2 => by rw [up_nk _ _ _ j1, pj j j2], by rw [up_nk _ _ _ (by omega), p14], by rw [up_ss]; omega, r3.eq (fun z z1 z2 => by rw [up_row _ _ _ (by omega), q3 z (by omega)])⟩
theorem m_rem_loop {q : Nat} (hq : q < 8) (hs : src ≠ b) (hs4 : src ≠ b + 4) : ∀ (m c : Nat) (V : sj_VV), c ≤ 364 → 364 - c < m → V b 4 = (q : Nat) → (∀ d, d < c → V (b + 4) (364 * q + d) = V src d) → ∃ V', g_X9_remembers_54 N m b src 390 c V = some ((), V') ∧ (∀ z, z ≠ b → z ≠ b + 4 → V' z = V z) ∧ V' b 4 = (q : Int) + 1 ∧ (∀ j, j ≠ 4 → V' b j = V b j) ∧ (∀ d, d < 364 → V' (b + 4) (364 * q + d) = V src d) ∧ ∀ k, k < 364 * q → V' (b + 4) k = V (b + 4) k
  | 0, _, _, _, h, _, _ => absurd h (by omega)
  | m + 1, c, V, h1, h2, h4, hb => by
    unfold g_X9_remembers_54 g_X9_remembers_54_b
    by_cases hc : c = 364
    · subst hc
      rw [k_leT (by omega) ⟨by omega, by omega⟩ ⟨by omega, by omega⟩, k_lt, h4]
      exact ⟨_, rfl, fun z z1 _ => up_row _ _ _ z1, up_ss _ _ _ _, fun j hj => up_nk _ _ _ hj, fun d hd => by rw [up_row _ _ _ (by omega)]; exact hb d hd, fun k _ => by rw [up_row _ _ _ (by omega)]⟩
    · rw [k_leF (by omega) ⟨by omega, by omega⟩ ⟨by omega, by omega⟩, k_ix (by omega) (by omega), h4, k_ix (by omega) (by omega), k_lt, k_lt, tn0, show (364 * (q : Int) + (c : Int)).toNat = 364 * q + c by omega]
      have u : ∀ z, z ≠ b + 4 → sj_up V (b + 4) (364 * q + c) (V src c) z = V z := fun z hz => up_row _ _ _ hz
      obtain ⟨V2, r1, r2, r3, r4, r5, r6⟩ := m_rem_loop hq hs hs4 m (c + 1) (sj_up V (b + 4) (364 * q + c) (V src c)) (by omega) (by omega) (by rw [u _ (by omega)]; exact h4) (fun d hd => by
        rw [u src hs4]
        by_cases z : d = c
        · subst z; rw [up_ss]
        · rw [up_nk _ _ _ (by omega)]; exact hb d (by omega))
      refine ⟨V2, r1, fun z z1 z2 => by rw [r2 z z1 z2, u z z2], r3, fun j hj => by rw [r4 j hj, u b (by omega)], fun d hd => by rw [r5 d hd, u src hs4], fun k hk => by rw [r6 k hk, up_nk _ _ _ (by omega)]⟩
theorem m_move_loop {R : sj_R} (hs : src ≠ b) (hs4 : src ≠ b + 4) (hN : 10000 ≤ N) : ∀ (m x : Nat) (V : sj_VV), 364 ≤ x → x ≤ 2912 → 2912 - x < m → V b 4 = 8 → (∀ k, k + 364 < x → V (b + 4) k = R (k + 364)) → (∀ k, x ≤ k + 364 → V (b + 4) k = R k) → ∃ V', g_X9_remembers_13 N m b src 390 x V = some ((), V') ∧ (∀ z, z ≠ b → z ≠ b + 4 → V' z = V z) ∧ V' b 4 = 8 ∧ (∀ j, j ≠ 4 → V' b j = V b j) ∧ (∀ d, d < 364 → V' (b + 4) (364 * 7 + d) = V src d) ∧ ∀ k, k < 364 * 7 → V' (b + 4) k = R (k + 364)
  | 0, _, _, _, _, h, _, _, _ => absurd h (by omega)
  | m + 1, x, V, h1, h2, h3, h4, hb, hc => by
    unfold g_X9_remembers_13 g_X9_remembers_13_b
    by_cases hx : x = 2912
    · subst hx
      rw [k_leT (by omega) ⟨by omega, by omega⟩ ⟨by omega, by omega⟩, k_lt, h4]
      have u : ∀ z, z ≠ b → sj_up V b 4 (8 - 1) z = V z := fun z hz => up_row _ _ _ hz
      unfold g_X9_remembers_52
      obtain ⟨V2, r1, r2, r3, r4, r5, r6⟩ := m_rem_loop (N := N) (q := 7) (b := b) (src := src) (by omega) hs hs4 N 0 (sj_up V b 4 (8 - 1)) (by omega) (by omega) (by rw [up_ss]; rfl) (fun d hd => by omega)
      refine ⟨V2, r1, fun z z1 z2 => by rw [r2 z z1 z2, u z z1], by rw [r3]; rfl, fun j hj => by rw [r4 j hj, up_nk _ _ _ hj], fun d hd => by rw [r5 d hd, u src hs], fun k hk => by rw [r6 k hk, u _ (by omega)]; exact hb k (by omega)⟩
    · rw [k_leF (by omega) ⟨by omega, by omega⟩ ⟨by omega, by omega⟩, k_ix (by omega) (by omega), k_ix (by omega) (by omega), k_lt, k_lt, tn0, show ((x : Int) - 364).toNat = x - 364 by omega, hc x (by omega)]
      have u : ∀ z, z ≠ b + 4 → sj_up V (b + 4) (x - 364) (R x) z = V z := fun z hz => up_row _ _ _ hz
      obtain ⟨V2, r1, r2, r3, r4, r5, r6⟩ := m_move_loop (R := R) hs hs4 hN m (x + 1) (sj_up V (b + 4) (x - 364) (R x)) (by omega) (by omega) (by omega) (by rw [u _ (by omega)]; exact h4) (fun k hk => by
        by_cases z : k = x - 364
        · rw [z, up_ss, Nat.sub_add_cancel h1]
        · rw [up_nk _ _ _ z]; exact hb k (by omega)) (fun k hk => by rw [up_nk _ _ _ (by omega)]; exact hc k (by omega))
      exact ⟨V2, r1, fun z z1 z2 => by rw [r2 z z1 z2, u z z2], r3, fun j hj => by rw [r4 j hj, u b (by omega)], fun d hd => by rw [r5 d hd, u src hs4], r6⟩
theorem m_remembers (hs : src ≠ b) (hs4 : src ≠ b + 4) (hk : 0 ≤ V b 4 ∧ V b 4 ≤ 8) (hN : 10000 ≤ N) : ∃ V', g_X9_remembers N b src 390 V = some ((), V') ∧ (∀ z, z ≠ b → z ≠ b + 4 → V' z = V z) ∧ V' b 4 = min 8 (V b 4 + 1) ∧ (∀ j, j ≠ 4 → V' b j = V b j) ∧ (∀ d, d < 364 → V' (b + 4) (364 * (V' b 4 - 1).toNat + d) = V src d) ∧ ∀ i d : Nat, d < 364 → (i : Int) < V' b 4 - 1 → V' (b + 4) (364 * i + d) = V (b + 4) (364 * (if V b 4 = 8 then i + 1 else i) + d) := by
  unfold g_X9_remembers
  by_cases h8 : V b 4 = 8
  · rw [k_eqT h8]
    obtain ⟨V2, r1, r2, r3, r4, r5, r6⟩ := m_move_loop (N := N) (R := V (b + 4)) (b := b) (src := src) hs hs4 hN N 364 V (by omega) (by omega) (by omega) h8 (fun k hk => by omega) (fun k _ => rfl)
    refine ⟨V2, r1, r2, by rw [r3, h8]; rfl, r4, fun d hd => by rw [r3]; exact r5 d hd, fun i d hd hi => ?_⟩
    rw [r3] at hi
    rw [r6 _ (by omega), if_pos h8, show 364 * i + d + 364 = 364 * (i + 1) + d by omega]
  · rw [k_eqF h8 ⟨by omega, by omega⟩ ⟨by omega, by omega⟩]
    obtain ⟨q, hq⟩ : ∃ q : Nat, V b 4 = q := ⟨(V b 4).toNat, by omega⟩
    unfold g_X9_remembers_52
    obtain ⟨V2, r1, r2, r3, r4, r5, r6⟩ := m_rem_loop (N := N) (q := q) (b := b) (src := src) (by omega) hs hs4 N 0 V (by omega) (by omega) hq (fun d hd => by omega)
    refine ⟨V2, r1, r2, by rw [r3, hq]; omega, r4, fun d hd => by rw [r3, show ((q : Int) + 1 - 1).toNat = q by omega]; exact r5 d hd, fun i d hd hi => ?_⟩
    rw [r3] at hi
    rw [if_neg h8, r6 _ (by omega)]
theorem UN.keep (hU : UN V a b) (h14 : V2 a 14 = (V a 14 + 1) % 8) (h13 : V2 a 13 = min 8 (V b 4 + 1)) (h4 : V2 b 4 = min 8 (V b 4 + 1)) (hR : RG V2 (a + 77 + 14 * (V a 14).toNat) w0) (hz : ∀ z, a + 77 ≤ z → z < a + 189 → (z < a + 77 + 14 * (V a 14).toNat ∨ a + 91 + 14 * (V a 14).toNat ≤ z) → V2 z = V z) (hl : ∀ d, d < 364 → V2 (b + 4) (364 * (V2 b 4 - 1).toNat + d) = w0 d) (ho : ∀ i d : Nat, d < 364 → (i : Int) < V2 b 4 - 1 → V2 (b + 4) (364 * i + d) = V (b + 4) (364 * (if V b 4 = 8 then i + 1 else i) + d)) : UN V2 a b := by
  obtain ⟨a1, a2, a3, a4⟩ := hU
  refine ⟨by rw [h13, h4], by rw [h4]; omega, by rw [h14]; omega, fun i hi => ?_⟩
  by_cases hlast : (i : Int) = V2 b 4 - 1
  · have e : acAt a (V2 a 14) (V2 b 4) i = a + 77 + 14 * (V a 14).toNat := by unfold acAt; rw [h14] ; rw [h4] at hlast ⊢; omega
    rw [e]
    refine hR.row (fun j hj => ?_)
    rw [show i = (V2 b 4 - 1).toNat by omega]
    exact hl j hj
  · have e : acAt a (V2 a 14) (V2 b 4) i = acAt a (V a 14) (V b 4) (if V b 4 = 8 then i + 1 else i) := by
      unfold acAt
      rw [h14, h4] at *
      split <;> omega
    have hlt : ((if V b 4 = 8 then i + 1 else i : Nat) : Int) < V b 4 := by
      rw [h4] at hi hlast
      split <;> omega
    rw [e]
    refine ((a4 _ hlt).row (fun j hj => ho i j hj (by omega))).eq (fun z z1 z2 => hz z ?_ ?_ ?_)
    · unfold acAt at z1; omega
    · unfold acAt at z2; omega
    · unfold acAt at z1 z2
      rw [h4] at hi hlast
      split at z1 <;> split at z2 <;> omega
theorem m_undo_loop {q : Nat} (hq : q < 8) : ∀ (m c : Nat) (V : sj_VV), c ≤ 364 → 364 - c < m → V b 4 = (q : Nat) → (∀ d, d < c → V (b + 1) d = V (b + 4) (364 * q + d)) → ∃ V', g_X9_undo_21 N m b c V = some ((q : Int), V') ∧ (∀ z, z ≠ b + 1 → V' z = V z) ∧ (∀ d, d < 364 → V' (b + 1) d = V (b + 4) (364 * q + d)) ∧ ∀ d, 364 ≤ d → V' (b + 1) d = V (b + 1) d
  | 0, _, _, _, h, _, _ => absurd h (by omega)
  | m + 1, c, V, h1, h2, h4, hb => by
    unfold g_X9_undo_21 g_X9_undo_21_b
    rw [h4]
    by_cases hc : c = 364
    · subst hc
      rw [k_leT (by omega) ⟨by omega, by omega⟩ ⟨by omega, by omega⟩]
      exact ⟨V, rfl, fun _ _ => rfl, hb, fun _ _ => rfl⟩
    · rw [k_leF (by omega) ⟨by omega, by omega⟩ ⟨by omega, by omega⟩, k_ix (by omega) (by omega), k_ix (by omega) (by omega), k_lt, k_lt, tn0, show (364 * (q : Int) + (c : Int)).toNat = 364 * q + c by omega]
      have u : ∀ z, z ≠ b + 1 → sj_up V (b + 1) c (V (b + 4) (364 * q + c)) z = V z := fun z hz => up_row _ _ _ hz
      obtain ⟨V2, r1, r2, r3, r4⟩ := m_undo_loop hq m (c + 1) (sj_up V (b + 1) c (V (b + 4) (364 * q + c))) (by omega) (by omega) (by rw [u _ (by omega)]; exact h4) (fun d hd => by
        rw [u (b + 4) (by omega)]
        by_cases z : d = c
        · subst z; rw [up_ss]
        · rw [up_nk _ _ _ (by omega)]; exact hb d (by omega))
      exact ⟨V2, r1, fun z hz => (r2 z hz).trans (u z hz), fun d hd => by rw [r3 d hd, u _ (by omega)], fun d hd => by rw [r4 d hd, up_nk _ _ _ (by omega)]⟩
theorem s_undo (hI : INV V a b) (hab : b = a + 189) (hN : 10000 ≤ N) : ST a b (g_X8_undo N a) (g_X9_undo N b) V := by
  obtain ⟨u1, u2, u3, u4⟩ := hI.2.2.1
  unfold ST g_X8_undo g_X9_undo
  by_cases h0 : V b 4 = 0
  · rw [k_eqT (u1.trans h0)]
    exact ⟨_, V, V, rfl, by rw [k_eqT h0], hI⟩
  · obtain ⟨q, hq⟩ : ∃ q : Nat, V b 4 = (q : Int) + 1 := ⟨(V b 4).toNat - 1, by omega⟩
    obtain ⟨p, hp⟩ : ∃ p : Nat, (V a 14 + 7) % 8 = p := ⟨((V a 14 + 7) % 8).toNat, by omega⟩
    rw [k_eqF (by omega) ⟨by omega, by omega⟩ ⟨by omega, by omega⟩, k_rI ⟨by omega, by omega⟩ ⟨by omega, by omega⟩ (by omega), tm8 (by omega), show V a 14 + 8 - 1 = V a 14 + 7 by omega, hp, k_lt, up_ss, k_ix (by omega) (by omega), tn0]
    have hRk := u4 q (by omega)
    have ep : acAt a (V a 14) (V b 4) q = a + 77 + 14 * p := by unfold acAt; omega
    rw [ep] at hRk
    obtain ⟨V1, e1⟩ : ∃ V1, V1 = sj_up V a 14 p := ⟨_, rfl⟩
    rw [← e1]
    have q1 : ∀ z, z ≠ a → V1 z = V z := fun z hz => by rw [e1, up_row _ _ _ hz]
    have p14 : V1 a 14 = p := by rw [e1, up_ss]
    have pj : ∀ j, j ≠ 14 → V1 a j = V a j := fun j hj => by rw [e1, up_nk _ _ _ hj]
    have hR1 : RG V1 (a + 77 + 14 * p) (fun j => V (b + 4) (364 * q + j)) := hRk.eq (fun z z1 z2 => q1 z (by omega))
    obtain ⟨V2, r1, r2, r3⟩ := copy_eq (N := N) (a := a + 1) (b := a + 77 + 14 * p) (by omega) hR1
    have e2 : V2 a = V1 a := r2 _ (by omega)
    rw [r1, k_cs, e2, pj 13 (by omega), u1, hq, k_lt, up_ss, show (q : Int) + 1 - 1 = q by omega]
    obtain ⟨V3, e3⟩ : ∃ V3, V3 = sj_up V2 a 13 q := ⟨_, rfl⟩
    rw [← e3]
    have q3 : ∀ z, z ≠ a → V3 z = V2 z := fun z hz => by rw [e3, up_row _ _ _ hz]
    have c3 : ∀ z, z ≠ a → (z < a + 1 ∨ a + 15 ≤ z) → V3 z = V z := fun z z1 z2 => by rw [q3 z z1, r2 z (by omega), q1 z z1]
    have b4 : V3 b 4 = (q : Int) + 1 := by rw [c3 _ (by omega) (by omega)]; exact hq
    obtain ⟨V4, t1, t2, t3, t4⟩ := m_undo_loop (N := N) (b := b) (q := q) (by omega) N 0 (sj_up V3 b 4 q) (by omega) (by omega) (up_ss _ _ _ _) (fun d hd => by omega)
    have f4 : ∀ z, z ≠ b → z ≠ b + 1 → V4 z = V3 z := fun z z1 z2 => by rw [t2 z z2, up_row _ _ _ z1]
    have row4 : ∀ d, d < 364 → V4 (b + 1) d = V (b + 4) (364 * q + d) := fun d hd => by rw [t3 d hd, up_row _ _ _ (by omega), c3 _ (by omega) (by omega)]
    have a4' : V4 a = V3 a := f4 _ (by omega) (by omega)
    have x13 : V4 a 13 = q := by rw [a4', e3, up_ss]
    have x14 : V4 a 14 = p := by rw [a4', e3, up_nk _ _ _ (by omega), e2, p14]
    have x4 : V4 b 4 = q := by rw [t2 _ (by omega), up_ss]
    have xb : V4 (b + 4) = V (b + 4) := by rw [f4 _ (by omega) (by omega), c3 _ (by omega) (by omega)]
    refine ⟨_, V3, V4, rfl, ?_, ?_⟩
    · rw [k_eqF (by omega) ⟨by omega, by omega⟩ ⟨by omega, by omega⟩, k_lt, b4, show (q : Int) + 1 - 1 = q by omega]
      exact t1
    · refine hI.gen ?_ (fun j j1 j2 => by rw [t4 j j1, up_row _ _ _ (by omega), c3 _ (by omega) (by omega)]) ?_ (fun z z1 z2 => by rw [f4 z (by omega) (by omega), c3 z (by omega) (by omega)]) (by rw [a4', e3, up_nk _ _ _ (by omega), e2, pj _ (by omega)]) (fun j hj => by rw [t2 _ (by omega), up_nk _ _ _ (by omega), c3 _ (by omega) (by omega)]) (by rw [f4 _ (by omega) (by omega), c3 _ (by omega) (by omega)]) (by rw [f4 _ (by omega) (by omega), c3 _ (by omega) (by omega)]) (by rw [f4 _ (by omega) (by omega), c3 _ (by omega) (by omega)]) (by rw [f4 _ (by omega) (by omega), c3 _ (by omega) (by omega)])
      · exact (r3.eq (fun z z1 z2 => by rw [f4 z (by omega) (by omega), q3 z (by omega)])).row row4
      · refine ⟨by rw [x13, x4], by rw [x4]; omega, by rw [x14]; omega, fun i hi => ?_⟩
        rw [x4] at hi
        have e : acAt a (V4 a 14) (V4 b 4) i = acAt a (V a 14) (V b 4) i := by
          unfold acAt; rw [x14, x4, hq]; omega
        rw [e, xb]
        refine (u4 i (by omega)).eq (fun z z1 z2 => ?_)
        have l8 : ((V a 14).toNat + 8 - (V b 4).toNat + i) % 8 < 8 := Nat.mod_lt _ (by omega)
        unfold acAt at z1 z2
        rw [f4 z (by omega) (by omega), c3 z (by omega) (by omega)]
theorem c_hcopy (hd : h2 + 3 ≤ h ∨ h + 3 ≤ h2) (hH : HE V h2 w) : ∃ V', g_X1_copy N h h2 V = some ((), V') ∧ Fr h (h + 3) V V' ∧ HE V' h w := by
  unfold g_X1_copy
  rw [show (12 : Int) = ((12 : Nat) : Int) from rfl, k_cp (by omega) (by omega), k_cp (by omega) (by omega), k_lt, k_lt]
  obtain ⟨a1, a2, a3, a4⟩ := hH
  have e1 : ∀ j, j = h2 → cpv (cpv V (h2 + 1) (h + 1) 12) (h2 + 2) (h + 2) 12 j = V j := fun j hj => by rw [cpv_n _ _ _ (by omega), cpv_n _ _ _ (by omega)]
  rw [up_na _ _ _ _ (show h2 ≠ h by omega), e1 h2 rfl]
  refine ⟨_, rfl, (((Fr.rf.cp (by omega) (by omega)).cp (by omega) (by omega)).up (by omega) (by omega)).up (by omega) (by omega), ⟨?_, ?_⟩, a2, fun i hi => ⟨?_, ?_⟩, a4⟩
  · rw [up_nk _ _ _ (by omega), up_ss]; exact a1.1
  · rw [up_ss]; exact a1.2
  · rw [up_row _ _ _ (by omega), up_row _ _ _ (by omega), cpv_n _ _ _ (by omega), cpv_s _ _ _ hi]; exact (a3 i hi).1
  · rw [up_row _ _ _ (by omega), up_row _ _ _ (by omega), cpv_s _ _ _ hi, cpv_n _ _ _ (by omega)]; exact (a3 i hi).2
end Acts
section Image
variable {V : sj_VV} {a b : Nat} {N : Nat}
theorem m_img_take : ∀ (m c : Nat) (V : sj_VV), c ≤ 390 → 390 - c < m → (∀ d, d < c → V (b + 3) d = V (b + 1) d) → ∃ V', g_X9_image_15 N m b 1 c V = some (1, V') ∧ (∀ z, z ≠ b → z ≠ b + 3 → V' z = V z) ∧ (∀ d, d < 390 → V' (b + 3) d = V (b + 1) d) ∧ V' b 5 = 1 ∧ ∀ j, j ≠ 5 → V' b j = V b j
  | 0, _, _, _, h, _ => absurd h (by omega)
  | m + 1, c, V, h1, h2, hb => by
    unfold g_X9_image_15 g_X9_image_15_b
    by_cases hc : c = 390
    · subst hc
      rw [k_leT (by omega) ⟨by omega, by omega⟩ ⟨by omega, by omega⟩, k_eqF (by omega) ⟨by omega, by omega⟩ ⟨by omega, by omega⟩, k_zz (Or.inr rfl), k_lt, k_zs (Or.inr rfl)]
      exact ⟨_, rfl, fun z z1 _ => up_row _ _ _ z1, fun d hd => by rw [up_row _ _ _ (by omega)]; exact hb d hd, up_ss _ _ _ _, fun j hj => up_nk _ _ _ hj⟩
    · rw [k_leF (by omega) ⟨by omega, by omega⟩ ⟨by omega, by omega⟩, k_eqF (by omega) ⟨by omega, by omega⟩ ⟨by omega, by omega⟩, k_ix (by omega) (by omega), k_ix (by omega) (by omega), k_lt, tn0]
      unfold g_X9_image_53
      rw [k_lt]
      have u : ∀ z, z ≠ b + 3 → sj_up V (b + 3) c (V (b + 1) c) z = V z := fun z hz => up_row _ _ _ hz
      obtain ⟨V2, r1, r2, r3, r4, r5⟩ := m_img_take m (c + 1) (sj_up V (b + 3) c (V (b + 1) c)) (by omega) (by omega) (fun d hd => by
        rw [u (b + 1) (by omega)]
        by_cases z : d = c
        · subst z; rw [up_ss]
        · rw [up_nk _ _ _ (by omega)]; exact hb d (by omega))
      exact ⟨V2, r1, fun z z1 z2 => (r2 z z1 z2).trans (u z z2), fun d hd => by rw [r3 d hd, u _ (by omega)], r4, fun j hj => by rw [r5 j hj, u _ (by omega)]⟩
theorem m_img_back : ∀ (m c : Nat) (V : sj_VV), c ≤ 390 → 390 - c < m → (∀ d, d < c → V (b + 1) d = V (b + 3) d) → ∃ V', g_X9_image_15 N m b 0 c V = some (1, V') ∧ (∀ z, z ≠ b → z ≠ b + 1 → V' z = V z) ∧ (∀ d, d < 390 → V' (b + 1) d = V (b + 3) d) ∧ V' b 5 = 1 ∧ V' b 4 = 0 ∧ ∀ j, j ≠ 5 → j ≠ 4 → V' b j = V b j
  | 0, _, _, _, h, _ => absurd h (by omega)
  | m + 1, c, V, h1, h2, hb => by
    unfold g_X9_image_15 g_X9_image_15_b
    by_cases hc : c = 390
    · subst hc
      rw [k_leT (by omega) ⟨by omega, by omega⟩ ⟨by omega, by omega⟩, k_eqT rfl, k_lt, k_zz (Or.inr rfl), k_lt, k_zs (Or.inr rfl)]
      exact ⟨_, rfl, fun z z1 _ => by rw [up_row _ _ _ z1, up_row _ _ _ z1], fun d hd => by rw [up_row _ _ _ (by omega), up_row _ _ _ (by omega)]; exact hb d hd, up_ss _ _ _ _, by rw [up_nk _ _ _ (by omega), up_ss], fun j h5 h4 => by rw [up_nk _ _ _ h5, up_nk _ _ _ h4]⟩
    · rw [k_leF (by omega) ⟨by omega, by omega⟩ ⟨by omega, by omega⟩, k_eqT rfl, k_ix (by omega) (by omega), k_ix (by omega) (by omega), k_lt, tn0]
      unfold g_X9_image_53
      rw [k_lt]
      have u : ∀ z, z ≠ b + 1 → sj_up V (b + 1) c (V (b + 3) c) z = V z := fun z hz => up_row _ _ _ hz
      obtain ⟨V2, r1, r2, r3, r4, r5, r6⟩ := m_img_back m (c + 1) (sj_up V (b + 1) c (V (b + 3) c)) (by omega) (by omega) (fun d hd => by
        rw [u (b + 3) (by omega)]
        by_cases z : d = c
        · subst z; rw [up_ss]
        · rw [up_nk _ _ _ (by omega)]; exact hb d (by omega))
      exact ⟨V2, r1, fun z z1 z2 => (r2 z z1 z2).trans (u z z2), fun d hd => by rw [r3 d hd, u _ (by omega)], r4, r5, fun j j1 j2 => by rw [r6 j j1 j2, u _ (by omega)]⟩
theorem s_image {x : Int} (hI : INV V a b) (hab : b = a + 189) (hx : x = 0 ∨ x = 1) (hN : 10000 ≤ N) : ST a b (g_X8_image N a x) (g_X9_image N b x) V := by
  obtain ⟨h1, h2, h3, h4, h5, h6⟩ := hI
  obtain ⟨i1, i2, i3, i7⟩ := id h4
  unfold ST g_X8_image g_X9_image g_X9_image_13
  rcases hx with z | z
  · subst z
    rw [k_eqT rfl]
    by_cases h0 : V b 5 = 0
    · rw [k_eqT (i1.trans h0), k_zs (Or.inl rfl)]
      exact ⟨_, V, V, rfl, by rw [k_eqT rfl, k_eqT h0, k_zs (Or.inl rfl)], h1, h2, h3, h4, h5, h6⟩
    · have b5 : V b 5 = 1 := by omega
      obtain ⟨j1, j2⟩ := i3 b5
      obtain ⟨V1, r1, r2, r3⟩ := copy_eq (N := N) (a := a + 1) (b := a + 29) (by omega) j1
      have H1 : HE V1 (a + 46) (V (b + 3)) := j2.eq (fun z z1 z2 => r2 z (by omega)) (fun _ _ _ => rfl)
      obtain ⟨V2, s1, s2, s3⟩ := c_hcopy (N := N) (h := a + 43) (h2 := a + 46) (by omega) H1
      have R2 : RG V2 (a + 1) (V (b + 3)) := r3.eq (fun z z1 z2 => s2 z (by omega))
      rw [k_eqF (by omega) ⟨by omega, by omega⟩ ⟨by omega, by omega⟩, r1, k_cs, s1, k_cs, k_lt, k_zs (Or.inr rfl)]
      obtain ⟨V3, e3⟩ : ∃ V3, V3 = sj_up V2 a 13 0 := ⟨_, rfl⟩
      rw [← e3]
      have q3 : ∀ z, z ≠ a → V3 z = V2 z := fun z hz => by rw [e3, up_row _ _ _ hz]
      have c3 : ∀ z, z ≠ a → (z < a + 1 ∨ a + 15 ≤ z) → (z < a + 43 ∨ a + 46 ≤ z) → V3 z = V z := fun z z1 z2 z3 => by rw [q3 z z1, s2 z (by omega), r2 z (by omega)]
      have ea : ∀ j, j ≠ 13 → V3 a j = V a j := fun j hj => by rw [e3, up_nk _ _ _ hj, s2 _ (by omega), r2 _ (by omega)]
      obtain ⟨V4, t1, t2, t3, t4, t5, t6⟩ := m_img_back (N := N) (b := b) N 0 V3 (by omega) (by omega) (fun d hd => by omega)
      have b3 : V3 b = V b := c3 _ (by omega) (by omega) (by omega)
      have f4 : ∀ z, z ≠ b → z ≠ b + 1 → z ≠ a → (z < a + 1 ∨ a + 15 ≤ z) → (z < a + 43 ∨ a + 46 ≤ z) → V4 z = V z := fun z z1 z2 z3 z4 z5 => by rw [t2 z z1 z2, c3 z z3 z4 z5]
      have a4 : V4 a = V3 a := t2 _ (by omega) (by omega)
      have row : ∀ d, d < 390 → V4 (b + 1) d = V (b + 3) d := fun d hd => by rw [t3 d hd, c3 _ (by omega) (by omega) (by omega)]
      refine ⟨_, V3, V4, rfl, ?_, ?_, ?_, ?_, ?_, ?_, ?_⟩
      · rw [k_eqT rfl, k_eqF (by rw [b3]; omega) ⟨by rw [b3]; omega, by rw [b3]; omega⟩ ⟨by omega, by omega⟩]
        exact t1
      · exact (R2.eq (fun z z1 z2 => by rw [t2 z (by omega) (by omega), q3 z (by omega)])).row (fun j hj => row j (by omega))
      · exact s3.eq (fun z z1 z2 => by rw [t2 z (by omega) (by omega), q3 z (by omega)]) (fun j j1 j2 => row j j2)
      · refine ⟨by rw [a4, e3, up_ss, t5], by rw [t5]; omega, ?_, fun i hi => by rw [t5] at hi; omega⟩
        rw [a4, ea _ (by omega)]; exact h3.2.2.1
      · exact h4.eq (by rw [a4, ea _ (by omega)]) (by rw [t4, b5]) (f4 _ (by omega) (by omega) (by omega) (by omega) (by omega)) (fun z z1 z2 => f4 z (by omega) (by omega) (by omega) (by omega) (by omega)) (fun z z1 z2 => f4 z (by omega) (by omega) (by omega) (by omega) (by omega)) (TL.of (f4 _ (by omega) (by omega) (by omega) (by omega) (by omega)))
      · exact h5.eq (f4 _ (by omega) (by omega) (by omega) (by omega) (by omega)) (f4 _ (by omega) (by omega) (by omega) (by omega) (by omega)) (fun j j1 j2 => by rw [t6 j (by omega) (by omega), b3]) (f4 _ (by omega) (by omega) (by omega) (by omega) (by omega))
      · exact h6.eq (f4 _ (by omega) (by omega) (by omega) (by omega) (by omega)) (f4 _ (by omega) (by omega) (by omega) (by omega) (by omega)) (by rw [t6 _ (by omega) (by omega), b3]) (f4 _ (by omega) (by omega) (by omega) (by omega) (by omega))
  · subst z
    obtain ⟨V1, r1, r2, r3⟩ := copy_eq (N := N) (a := a + 29) (b := a + 1) (by omega) h1
    have H1 : HE V1 (a + 43) (V (b + 1)) := h2.eq (fun z z1 z2 => r2 z (by omega)) (fun _ _ _ => rfl)
    obtain ⟨V2, s1, s2, s3⟩ := c_hcopy (N := N) (h := a + 46) (h2 := a + 43) (by omega) H1
    have R2 : RG V2 (a + 29) (V (b + 1)) := r3.eq (fun z z1 z2 => s2 z (by omega))
    rw [k_eqF (by omega) ⟨by omega, by omega⟩ ⟨by omega, by omega⟩, r1, k_cs, s1, k_cs, k_zz (Or.inr rfl), k_lt, k_zs (Or.inr rfl)]
    obtain ⟨V3, e3⟩ : ∃ V3, V3 = sj_up V2 a 12 1 := ⟨_, rfl⟩
    rw [← e3]
    have q3 : ∀ z, z ≠ a → V3 z = V2 z := fun z hz => by rw [e3, up_row _ _ _ hz]
    have c3 : ∀ z, z ≠ a → (z < a + 29 ∨ a + 43 ≤ z) → (z < a + 46 ∨ a + 49 ≤ z) → V3 z = V z := fun z z1 z2 z3 => by rw [q3 z z1, s2 z (by omega), r2 z (by omega)]
    have ea : ∀ j, j ≠ 12 → V3 a j = V a j := fun j hj => by rw [e3, up_nk _ _ _ hj, s2 _ (by omega), r2 _ (by omega)]
    obtain ⟨V4, t1, t2, t3, t4, t6⟩ := m_img_take (N := N) (b := b) N 0 V3 (by omega) (by omega) (fun d hd => by omega)
    have b3 : V3 b = V b := c3 _ (by omega) (by omega) (by omega)
    have f4 : ∀ z, z ≠ b → z ≠ b + 3 → z ≠ a → (z < a + 29 ∨ a + 43 ≤ z) → (z < a + 46 ∨ a + 49 ≤ z) → V4 z = V z := fun z z1 z2 z3 z4 z5 => by rw [t2 z z1 z2, c3 z z3 z4 z5]
    have a4 : V4 a = V3 a := t2 _ (by omega) (by omega)
    have row : ∀ d, d < 390 → V4 (b + 3) d = V (b + 1) d := fun d hd => by rw [t3 d hd, c3 _ (by omega) (by omega) (by omega)]
    have w4 : V4 (b + 1) = V (b + 1) := f4 _ (by omega) (by omega) (by omega) (by omega) (by omega)
    refine ⟨_, V3, V4, rfl, ?_, ?_, ?_, ?_, ?_, ?_, ?_⟩
    · rw [k_eqF (by omega) ⟨by omega, by omega⟩ ⟨by omega, by omega⟩]
      exact t1
    · rw [w4]; exact h1.eq (fun z z1 z2 => f4 z (by omega) (by omega) (by omega) (by omega) (by omega))
    · rw [w4]; exact h2.eq (fun z z1 z2 => f4 z (by omega) (by omega) (by omega) (by omega) (by omega)) (fun _ _ _ => rfl)
    · exact h3.eq (by rw [a4, ea _ (by omega)]) (by rw [a4, ea _ (by omega)]) (by rw [t6 _ (by omega), b3]) (f4 _ (by omega) (by omega) (by omega) (by omega) (by omega)) (fun z z1 z2 => f4 z (by omega) (by omega) (by omega) (by omega) (by omega))
    · refine ⟨by rw [a4, e3, up_ss, t4], by rw [t4]; omega, fun _ => ⟨?_, ?_⟩, by rw [f4 _ (by omega) (by omega) (by omega) (by omega) (by omega)]; exact i7⟩
      · exact (R2.eq (fun z z1 z2 => by rw [t2 z (by omega) (by omega), q3 z (by omega)])).row (fun j hj => row j (by omega))
      · exact s3.eq (fun z z1 z2 => by rw [t2 z (by omega) (by omega), q3 z (by omega)]) (fun j j1 j2 => row j j2)
    · exact h5.eq (f4 _ (by omega) (by omega) (by omega) (by omega) (by omega)) (f4 _ (by omega) (by omega) (by omega) (by omega) (by omega)) (fun j j1 j2 => by rw [t6 j (by omega), b3]) (f4 _ (by omega) (by omega) (by omega) (by omega) (by omega))
    · exact h6.eq (f4 _ (by omega) (by omega) (by omega) (by omega) (by omega)) (f4 _ (by omega) (by omega) (by omega) (by omega) (by omega)) (by rw [t6 _ (by omega), b3]) (f4 _ (by omega) (by omega) (by omega) (by omega) (by omega))
end Image
