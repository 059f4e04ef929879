section Text
variable {V V1 W W1 : sj_VV} {a b N : Nat}
/-- what the reference does, once its lines are not told yet -/
def txE (N b : Nat) (W1 : sj_VV) : Option (Int × sj_VV) := e_cs (g_X9_reads N b (sj_up (sj_up (sj_up (sj_up W1 b 32 0) b 30 0) b 31 (-1)) b 29 0)) fun v6 V5 => e_lt (sj_up V5 b 28 0) fun V7 => e_ieq (V7 b 32) 0 (e_cs (g_X9_remembers N b (b + 2) 390 V7) fun _u V8 => some (v6, V8)) (e_cs (g_X9_comesBack N b V7) fun _u V9 => some ((-1), V9))
theorem m_text_loop : ∀ (m c : Nat) (W : sj_VV), c ≤ 20 → 20 - c < m → (∀ d, d < c → W (b + 11) d = 0) → ∃ W1, (∀ z, z ≠ b + 11 → W1 z = W z) ∧ (∀ d, d < 20 → W1 (b + 11) d = 0) ∧ g_X9_text_6 N m b c W = txE N b W1
  | 0, _, _, _, h, _ => absurd h (by omega)
  | m + 1, c, W, h1, h2, hb => by
    by_cases z : c = 20
    · subst z
      refine ⟨W, fun _ _ => rfl, hb, ?_⟩
      show g_X9_text_6_b N (g_X9_text_6 N m) b ((20 : Nat) : Int) W = _
      unfold g_X9_text_6_b txE
      rw [k_leT (by omega) ⟨by omega, by omega⟩ ⟨by omega, by omega⟩, k_zz (Or.inl rfl), k_lt, k_lt, k_lt, k_lt]
    · obtain ⟨W2, r1, r2, r3⟩ := m_text_loop m (c + 1) (sj_up W (b + 11) c 0) (by omega) (by omega) (fun d hd => by
        by_cases y : d = c
        · subst y; rw [up_ss]
        · rw [up_nk _ _ _ y]; exact hb d (by omega))
      refine ⟨W2, fun z hz => (r1 z hz).trans (up_row _ _ _ hz), r2, ?_⟩
      rw [← r3]
      show g_X9_text_6_b N (g_X9_text_6 N m) b (c : Int) W = _
      unfold g_X9_text_6_b
      rw [k_leF (by omega) ⟨by omega, by omega⟩ ⟨by omega, by omega⟩, k_ix (by omega) (by omega), k_zz (Or.inl rfl), k_lt, k_lt, tn0]
      rfl
/-- the reference as it stands when it begins to read, from a state that holds the class's outcome -/
theorem m_text_pre (hN : 10000 ≤ N) (W : sj_VV) : ∃ W2, g_X9_text N b W = (e_cs (g_X9_reads N b W2) fun v6 V5 => e_lt (sj_up V5 b 28 0) fun V7 => e_ieq (V7 b 32) 0 (e_cs (g_X9_remembers N b (b + 2) 390 V7) fun _u V8 => some (v6, V8)) (e_cs (g_X9_comesBack N b V7) fun _u V9 => some ((-1), V9))) ∧ (∀ z, z ≠ b → z ≠ b + 2 → z ≠ b + 11 → W2 z = W z) ∧ (∀ j, j ≠ 29 → j ≠ 30 → j ≠ 31 → j ≠ 32 → W2 b j = W b j) ∧ (W2 b 29 = 0 ∧ W2 b 30 = 0 ∧ W2 b 31 = -1 ∧ W2 b 32 = 0) ∧ (∀ d, d < 390 → W2 (b + 2) d = W (b + 1) d) ∧ ∀ k, k < 18 → W2 (b + 11) k = 0 := by
  obtain ⟨Wa, a1, a2, a3⟩ := m_laysAside (N := N) (a := b) (V := W) (by omega)
  obtain ⟨Wb, b1, b2, b3⟩ := m_text_loop (N := N) (b := b) N 0 Wa (by omega) (by omega) (fun d hd => by omega)
  have b3' : g_X9_text_6 N N b 0 Wa = txE N b Wb := b3
  refine ⟨sj_up (sj_up (sj_up (sj_up Wb b 32 0) b 30 0) b 31 (-1)) b 29 0, ?_, fun z z1 z2 z3 => ?_, fun j j1 j2 j3 j4 => ?_, ⟨up_ss _ _ _ _, ?_, ?_, ?_⟩, fun d hd => ?_, fun k hk => ?_⟩
  · unfold g_X9_text
    rw [a1, k_cs, b3']
    rfl
  · rw [up_row _ _ _ z1, up_row _ _ _ z1, up_row _ _ _ z1, up_row _ _ _ z1, b1 z z3, a2 z z2]
  · rw [up_nk _ _ _ j1, up_nk _ _ _ j3, up_nk _ _ _ j2, up_nk _ _ _ j4, b1 _ (by omega), a2 _ (by omega)]
  · rw [up_nk _ _ _ (by omega), up_nk _ _ _ (by omega), up_ss]
  · rw [up_nk _ _ _ (by omega), up_ss]
  · rw [up_nk _ _ _ (by omega), up_nk _ _ _ (by omega), up_nk _ _ _ (by omega), up_ss]
  · rw [up_row _ _ _ (by omega), up_row _ _ _ (by omega), up_row _ _ _ (by omega), up_row _ _ _ (by omega), b1 _ (by omega)]; exact a3 d hd
  · rw [up_row _ _ _ (by omega), up_row _ _ _ (by omega), up_row _ _ _ (by omega), up_row _ _ _ (by omega)]; exact b2 k (by omega)
theorem s_text (hI : INV V a b) (hab : b = a + 189) (hN : 10000 ≤ N) : ST a b (g_X8_text N a) (g_X9_text N b) V := by
  obtain ⟨i1, i2, i3, i4, ⟨t1, t2, t3, t4⟩, i6⟩ := id hI
  obtain ⟨L, hL⟩ : ∃ L : Nat, V b 28 = L := ⟨(V b 28).toNat, by omega⟩
  have r14 := i3.2.2.1
  have hth := i4.2.2.2
  have hTX : ∀ W : sj_VV, W b 28 = V b 28 → W (b + 10) = V (b + 10) → TX V W (a + 52) b (V (a + 53)) L := fun W e1 e2 => ⟨by rw [t1, hL], by rw [e1, hL], by omega, fun i hi => rfl, fun i hi => by rw [e2]; exact t4 i (by omega)⟩
  -- once, to know what the class does
  obtain ⟨P0, _, p2, p3, p4, _, p6⟩ := m_text_pre (N := N) (b := b) hN V
  obtain ⟨r, Vc, _, _, c1, _, c3, _, _⟩ := j_read (N := N) (ga := a + 15) (hTX P0 (p3 28 (by omega) (by omega) (by omega) (by omega)) (p2 _ (by omega) (by omega) (by omega))) p4.1 p4.2.2.2 p4.2.1 p4.2.2.1 p6 hth (by omega) (by omega)
  obtain ⟨V2, d2⟩ : ∃ V2, V2 = sj_up Vc (a + 52) 1 0 := ⟨_, rfl⟩
  have q2 : ∀ z, z ≠ a + 52 → V2 z = Vc z := fun z hz => by rw [d2, up_row _ _ _ hz]
  have v2 : ∀ z, z ≠ a + 52 → (z < a + 15 ∨ a + 29 ≤ z) → V2 z = V z := fun z z1 z2 => by rw [q2 z z1, c3.1 z z1 (by omega)]
  have x1 : V2 (a + 52) 1 = 0 := by rw [d2, up_ss]
  have x34 : ∀ j, j ≠ 1 → V2 (a + 52) j = Vc (a + 52) j := fun j hj => by rw [d2, up_nk _ _ _ hj]
  have hR2 : RG V2 (a + 1) (V (b + 1)) := i1.eq (fun z z1 z2 => v2 z (by omega) (by omega))
  obtain ⟨Vk, k0, k1, k2, k3, k4, k5⟩ := c_keepAct (N := N) hR2 (by rw [v2 _ (by omega) (by omega)]; exact r14) (by rw [v2 _ (by omega) (by omega), i3.1]; exact i3.2.1)
  -- the reference, from any state that holds the class's outcome
  have again : ∀ VT : sj_VV, (∀ z, b ≤ z → VT z = V z) → ∃ (r2 : Int) (W2 W3 : sj_VV), g_X9_text N b VT = (e_cs (some (r2, W3)) fun v6 V5 => e_lt (sj_up V5 b 28 0) fun V7 => e_ieq (V7 b 32) 0 (e_cs (g_X9_remembers N b (b + 2) 390 V7) fun _u V8 => some (v6, V8)) (e_cs (g_X9_comesBack N b V7) fun _u V9 => some ((-1), V9))) ∧ (∀ z, z ≠ b → z ≠ b + 1 → z ≠ b + 2 → z ≠ b + 11 → W3 z = VT z) ∧ (∀ j, (j < 29 ∨ 34 ≤ j) → W3 b j = V b j) ∧ (∀ d, d < 390 → W3 (b + 2) d = V (b + 1) d) ∧ (∀ j, 390 ≤ j → W3 (b + 1) j = V (b + 1) j) ∧ ((r = r2 ∧ (1 ≤ r ∧ r ≤ 1000) ∧ DN Vc W3 (a + 52) (a + 15) b (V (b + 1))) ∨ (r = -1 ∧ BX Vc W3 (a + 52) b L)) := by
    intro VT hVT
    obtain ⟨W2, m1, m2, m3, m4, m5, m6⟩ := m_text_pre (N := N) (b := b) hN VT
    obtain ⟨r', Vc', r2, W3, e1, e2, e3, e4, e5⟩ := j_read (N := N) (ga := a + 15) (hTX W2 (by rw [m3 28 (by omega) (by omega) (by omega) (by omega), hVT _ (by omega)]) (by rw [m2 _ (by omega) (by omega) (by omega), hVT _ (by omega)])) m4.1 m4.2.2.2 m4.2.1 m4.2.2.1 m6 hth (by omega) (by omega)
    rw [c1] at e1
    obtain ⟨rfl, rfl⟩ : r = r' ∧ Vc = Vc' := by simpa using e1
    have ew : W2 (b + 1) = V (b + 1) := by rw [m2 _ (by omega) (by omega) (by omega), hVT _ (by omega)]
    rw [ew] at e5
    refine ⟨r2, W2, W3, by rw [m1, e2], fun z z1 z2 z3 z4 => by rw [e4.1 z z1 z2 z4, m2 z z1 z3 z4], fun j hj => by rw [e4.2.1 j hj, m3 j (by omega) (by omega) (by omega) (by omega), hVT _ (by omega)], fun d hd => by rw [e4.1 _ (by omega) (by omega) (by omega), m5 d hd, hVT _ (by omega)], fun j hj => by rw [e4.2.2 j hj, ew], e5⟩
  have vb : ∀ z, b ≤ z → V2 z = V z := fun z hz => v2 z (by omega) (by omega)
  have v14 : V2 a 14 = V a 14 := by rw [v2 _ (by omega) (by omega)]
  unfold ST g_X8_text
  rw [c1, k_cs, k_lt, ← d2]
  by_cases hr : r = -1
  · -- a fault
    subst hr
    rw [k_eqT rfl]
    obtain ⟨r2, _, W3, m1, m2, m3, m4, m5, m6⟩ := again V2 vb
    have hB : BX Vc W3 (a + 52) b L := by
      rcases m6 with ⟨_, z, _⟩ | ⟨_, z⟩
      · omega
      · exact z
    obtain ⟨W4, d4⟩ : ∃ W4, W4 = sj_up W3 b 28 0 := ⟨_, rfl⟩
    have u4 : ∀ z, z ≠ b → W4 z = W3 z := fun z hz => by rw [d4, up_row _ _ _ hz]
    obtain ⟨W5, n1, n2, n3⟩ := m_back (N := N) (a := b) (V := W4) (w := V (b + 1)) (by omega) (fun d hd => by rw [u4 _ (by omega)]; exact m4 d hd) (fun d hd => by rw [u4 _ (by omega)]; exact m5 d hd)
    have e5 : ∀ z, z ≠ b → z ≠ b + 1 → z ≠ b + 2 → z ≠ b + 11 → W5 z = V2 z := fun z z1 z2 z3 z4 => by rw [n2 z z2, u4 z z1, m2 z z1 z2 z3 z4]
    have eV : ∀ z, z ≠ b → z ≠ b + 1 → z ≠ b + 2 → z ≠ b + 11 → z ≠ a + 52 → (z < a + 15 ∨ a + 29 ≤ z) → W5 z = V z := fun z z1 z2 z3 z4 z5 z6 => by rw [e5 z z1 z2 z3 z4, v2 z z5 z6]
    have b5 : ∀ j, j ≠ 28 → W5 b j = W3 b j := fun j hj => by rw [n2 _ (by omega), d4, up_nk _ _ _ hj]
    have b28 : W5 b 28 = 0 := by rw [n2 _ (by omega), d4, up_ss]
    have bj : ∀ j, (j < 28 ∨ 34 ≤ j) → W5 b j = V b j := fun j hj => by rw [b5 j (by omega), m3 j (by omega)]
    have ea : W5 a = V a := eV _ (by omega) (by omega) (by omega) (by omega) (by omega) (by omega)
    have e52 : W5 (a + 52) = V2 (a + 52) := e5 _ (by omega) (by omega) (by omega) (by omega)
    have eth : W5 (a + 15 + 12) = Vc (a + 15 + 12) := by rw [e5 _ (by omega) (by omega) (by omega) (by omega), q2 _ (by omega)]
    refine ⟨_, V2, W5, rfl, ?_, ?_, ?_, ?_, ?_, ?_, ?_⟩
    · rw [m1, k_cs, k_lt, ← d4, d4, up_nk _ _ _ (by omega), ← d4, hB.2.2.1, k_eqF (by omega) ⟨by omega, by omega⟩ ⟨by omega, by omega⟩, n1, k_cs]
    · rw [n3]; exact i1.eq (fun z z1 z2 => eV z (by omega) (by omega) (by omega) (by omega) (by omega) (by omega))
    · rw [n3]; exact i2.eq (fun z z1 z2 => eV z (by omega) (by omega) (by omega) (by omega) (by omega) (by omega)) (fun _ _ _ => rfl)
    · exact i3.eq (by rw [ea]) (by rw [ea]) (bj 4 (by omega)) (eV _ (by omega) (by omega) (by omega) (by omega) (by omega) (by omega)) (fun z z1 z2 => eV z (by omega) (by omega) (by omega) (by omega) (by omega) (by omega))
    · exact i4.eq (by rw [ea]) (bj 5 (by omega)) (eV _ (by omega) (by omega) (by omega) (by omega) (by omega) (by omega)) (fun z z1 z2 => eV z (by omega) (by omega) (by omega) (by omega) (by omega) (by omega)) (fun z z1 z2 => eV z (by omega) (by omega) (by omega) (by omega) (by omega) (by omega)) (fun q => by rw [eth, c3.2.2 (by omega)]; exact hth)
    · refine ⟨by rw [e52, x1, b28], by rw [b28]; omega, ⟨by rw [e52, x34 _ (by omega), b5 _ (by omega)]; exact hB.1, by rw [e52, x34 _ (by omega), b5 _ (by omega)]; exact hB.2.1⟩, fun i hi => by rw [b28] at hi; omega⟩
    · exact i6.eq (eV _ (by omega) (by omega) (by omega) (by omega) (by omega) (by omega)) (eV _ (by omega) (by omega) (by omega) (by omega) (by omega) (by omega)) (bj 26 (by omega)) (eV _ (by omega) (by omega) (by omega) (by omega) (by omega) (by omega))
  · have hpos : 1 ≤ r ∧ r ≤ 1000 := by
      obtain ⟨r2, _, W3, _, _, _, _, _, m6⟩ := again V2 vb
      rcases m6 with ⟨_, z, _⟩ | ⟨z, _⟩
      · exact z
      · exact absurd z hr
    -- what the class has read: its row is the reference's
    have hRk : ∀ w' : sj_R, (CG Vc (a + 15) w' ∧ WB 500 200 1500 w' ∧ (Vc (a + 15 + 12) 1 = -1 ∧ Vc (a + 15 + 12) 2 = -1 ∧ (Vc (a + 15 + 12) 3 = 0 ∨ Vc (a + 15 + 12) 3 = 1)) ∧ w' 320 = -1 ∧ w' 322 = 0) → RG Vk (a + 15) w' := fun w' ⟨h1, h2, h3, h4, h5⟩ => by
      have base : RG Vc (a + 15) w' := ⟨h2, ⟨Or.inl h5, Or.inl h4⟩, h1, h3.2.2, fun _ => ⟨h3.1, h3.2.1⟩, fun z => absurd h4 z⟩
      exact base.eq (fun z z1 z2 => by rw [k1 z (by omega) (by omega), q2 z (by omega)])
    have hbool : Vk (a + 15 + 12) 3 = 0 ∨ Vk (a + 15 + 12) 3 = 1 := by
      rw [k1 _ (by omega) (by rw [v14]; omega), q2 _ (by omega), c3.2.2 (by omega)]; exact hth
    obtain ⟨V5, g0, g1, _⟩ := copy_raw (N := N) (V := Vk) (a := a + 1) (b := a + 15) (by omega) hbool
    have vb5 : ∀ z, b ≤ z → V5 z = V z := fun z hz => by rw [g1 z (by omega), k1 z (by omega) (by rw [v14]; omega), vb z hz]
    rw [k_eqF hr ⟨by omega, by omega⟩ ⟨by omega, by omega⟩, k0, k_cs, g0, k_cs]
    obtain ⟨r2, _, W3, m1, m2, m3, m4, m5, m6⟩ := again V5 vb5
    obtain ⟨er, _, hDN⟩ : r = r2 ∧ (1 ≤ r ∧ r ≤ 1000) ∧ DN Vc W3 (a + 52) (a + 15) b (V (b + 1)) := by
      rcases m6 with z | ⟨z, _⟩
      · exact z
      · exact absurd z hr
    obtain ⟨h1, h2, h3, h4, h5, ⟨h61, h62⟩, h63, h64, h65⟩ := hDN
    have hR5 : RG V5 (a + 1) (W3 (b + 1)) := by
      obtain ⟨V5', g0', g1', g2'⟩ := copy_eq (N := N) (V := Vk) (a := a + 1) (b := a + 15) (by omega) (hRk (W3 (b + 1)) ⟨h1, h2, h3, h4⟩)
      rw [g0] at g0'
      obtain rfl : V5 = V5' := by simpa using g0'
      exact g2'
    obtain ⟨W4, d4⟩ : ∃ W4, W4 = sj_up W3 b 28 0 := ⟨_, rfl⟩
    have u4 : ∀ z, z ≠ b → W4 z = W3 z := fun z hz => by rw [d4, up_row _ _ _ hz]
    have b4 : ∀ j, j ≠ 28 → W4 b j = W3 b j := fun j hj => by rw [d4, up_nk _ _ _ hj]
    have w44 : W4 b 4 = V b 4 := by rw [b4 _ (by omega), m3 _ (by omega)]
    obtain ⟨W5, n0, n1, n2, n3, n4, n5⟩ := m_remembers (N := N) (V := W4) (b := b) (src := b + 2) (by omega) (by omega) (by rw [w44]; exact i3.2.1) hN
    have e5 : ∀ z, z ≠ b → z ≠ b + 1 → z ≠ b + 2 → z ≠ b + 11 → z ≠ b + 4 → W5 z = V5 z := fun z z1 z2 z3 z4 z5 => by rw [n1 z z1 z5, u4 z z1, m2 z z1 z2 z3 z4]
    have w51 : W5 (b + 1) = W3 (b + 1) := by rw [n1 _ (by omega) (by omega), u4 _ (by omega)]
    have a5 : W5 a = Vk a := by rw [e5 _ (by omega) (by omega) (by omega) (by omega) (by omega), g1 _ (by omega)]
    have eV : ∀ z, z ≠ b → z ≠ b + 1 → z ≠ b + 2 → z ≠ b + 11 → z ≠ b + 4 → z ≠ a → z ≠ a + 52 → (z < a + 1 ∨ a + 29 ≤ z) → (z < a + 77 + 14 * (V a 14).toNat ∨ a + 91 + 14 * (V a 14).toNat ≤ z) → W5 z = V z := fun z z1 z2 z3 z4 z5 z6 z7 z8 z9 => by rw [e5 z z1 z2 z3 z4 z5, g1 z (by omega), k1 z z6 (by rw [v14]; exact z9), v2 z z7 (by omega)]
    have e52 : W5 (a + 52) = V2 (a + 52) := by rw [e5 _ (by omega) (by omega) (by omega) (by omega) (by omega), g1 _ (by omega), k1 _ (by omega) (by omega)]
    have bj : ∀ j, j ≠ 4 → (j < 28 ∨ 34 ≤ j) → W5 b j = V b j := fun j j4 hj => by rw [n3 j j4, b4 j (by omega), m3 j (by omega)]
    refine ⟨_, V5, W5, rfl, ?_, ?_, ?_, ?_, ?_, ?_, ?_⟩
    · rw [m1, k_cs, k_lt, ← d4, b4 _ (by omega), k_eqT h63, n0, k_cs, er]
    · rw [w51]
      exact hR5.eq (fun z z1 z2 => e5 z (by omega) (by omega) (by omega) (by omega) (by omega))
    · rw [w51]
      exact i2.eq (fun z z1 z2 => eV z (by omega) (by omega) (by omega) (by omega) (by omega) (by omega) (by omega) (by omega) (by omega)) (fun j j1 j2 => h5 j j1)
    · refine i3.keep (w0 := V (b + 1)) (by rw [a5, k3, v14]) (by rw [a5, k4, v2 _ (by omega) (by omega), i3.1]) (by rw [n2, w44]) ?_ (fun z z1 z2 z3 => eV z (by omega) (by omega) (by omega) (by omega) (by omega) (by omega) (by omega) (by omega) z3) (fun d hd => ?_) (fun i d hd hi => ?_)
      · rw [v14] at k5
        exact k5.eq (fun z z1 z2 => by rw [e5 z (by omega) (by omega) (by omega) (by omega) (by omega), g1 z (by omega)])
      · rw [n4 d hd, u4 _ (by omega)]; exact m4 d (by omega)
      · rw [n5 i d hd hi, u4 _ (by omega), m2 _ (by omega) (by omega) (by omega) (by omega), vb5 _ (by omega), w44]
    · refine i4.eq (by rw [a5, k2 _ (by omega) (by omega), v2 _ (by omega) (by omega)]) (bj 5 (by omega) (by omega)) (eV _ (by omega) (by omega) (by omega) (by omega) (by omega) (by omega) (by omega) (by omega) (by omega)) (fun z z1 z2 => eV z (by omega) (by omega) (by omega) (by omega) (by omega) (by omega) (by omega) (by omega) (by omega)) (fun z z1 z2 => eV z (by omega) (by omega) (by omega) (by omega) (by omega) (by omega) (by omega) (by omega) (by omega)) (fun _ => ?_)
      rw [e5 _ (by omega) (by omega) (by omega) (by omega) (by omega), g1 _ (by omega)]
      exact hbool
    · have b28 : W5 b 28 = 0 := by rw [n3 _ (by omega), d4, up_ss]
      refine ⟨by rw [e52, x1, b28], by rw [b28]; omega, ⟨?_, ?_⟩, fun i hi => by rw [b28] at hi; omega⟩
      · rw [e52, x34 _ (by omega), n3 _ (by omega), b4 _ (by omega), h61, h64]
      · rw [e52, x34 _ (by omega), n3 _ (by omega), b4 _ (by omega), h62, h65]
    · exact i6.eq (eV _ (by omega) (by omega) (by omega) (by omega) (by omega) (by omega) (by omega) (by omega) (by omega)) (eV _ (by omega) (by omega) (by omega) (by omega) (by omega) (by omega) (by omega) (by omega) (by omega)) (bj 26 (by omega) (by omega)) (eV _ (by omega) (by omega) (by omega) (by omega) (by omega) (by omega) (by omega) (by omega) (by omega))
end Text
