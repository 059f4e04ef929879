/-! LOOK, COLUMN, LAYER, ANCHORED -/
section Look
variable {V : sj_VV} {a b N : Nat} {x1 x2 x3 x4 : Int} {w : sj_R}
theorem or_i32 (x y : Int) : sj_i32 (sj_or x y) := by
  unfold sj_or
  have h1 := Int32.toInt_lt (Int32.ofInt x ||| Int32.ofInt y)
  have h2 := Int32.le_toInt (Int32.ofInt x ||| Int32.ofInt y)
  exact ⟨by omega, by omega⟩
theorem or_0 {x : Int} (hx : sj_i32 x) : sj_or x 0 = x := by
  unfold sj_or
  have e : Int32.ofInt x ||| Int32.ofInt 0 = Int32.ofInt x := by
    rw [show Int32.ofInt 0 = 0 from rfl, Int32.or_zero]
  rw [e, sj_t32 hx]
theorem m_isAnchor {i : Nat} (hw : V (b + 1) = w) (hB : WB 500 200 1500 w) (hi : i < 6) : g_X9_isAnchor N b i V = some (if 0 < w (304 + 3 * i) then 1 else 0, V) := by
  have h7 := (hB.2.2.2.2.2.2 i hi).1
  unfold g_X9_isAnchor
  rw [k_wid ⟨by omega, by omega⟩, m_in ⟨by omega, by omega⟩ ⟨by omega, by omega⟩ ⟨by omega, by omega⟩, k_cs, if_pos ⟨by omega, by omega⟩, k_eqF (by omega) ⟨by omega, by omega⟩ ⟨by omega, by omega⟩, k_ix (by omega) (by omega), show (302 + 3 * (i : Int) + 2).toNat = 304 + 3 * i by omega, hw, k_lec ⟨by omega, by omega⟩ ⟨by omega, by omega⟩, k_zs (Or.inl rfl), k_zs (Or.inr rfl)]
  by_cases z : w (304 + 3 * i) ≤ 0
  · rw [if_pos z, if_neg (by omega)]
  · rw [if_neg z, if_pos (by omega)]
theorem set_loop (hR : RG V (a + 1) w) (hw : V (b + 1) = w) : ∀ (m i : Nat) (x : Int), i ≤ 6 → 6 - i < m → sj_i32 x → ∃ q, g_X0_anchorSet_4 N m (a + 1) x i V = some (q, V) ∧ g_X9_anchorSet_4 N m b x i V = some (q, V)
  | 0, _, _, _, h, _ => absurd h (by omega)
  | m + 1, i, x, h1, h2, hx => by
    by_cases hi : i = 6
    · subst hi
      unfold g_X0_anchorSet_4 g_X0_anchorSet_4_b g_X9_anchorSet_4 g_X9_anchorSet_4_b
      rw [k_leT (by omega) ⟨by omega, by omega⟩ ⟨by omega, by omega⟩, k_leT (by omega) ⟨by omega, by omega⟩ ⟨by omega, by omega⟩]
      exact ⟨x, rfl, rfl⟩
    · have h7 := (hR.1.2.2.2.2.2.2 i (by omega)).1
      have hA : g_X0_anchorSet_4 N (m + 1) (a + 1) x i V = if w (304 + 3 * i) ≤ 0 then g_X0_anchorSet_4 N m (a + 1) x ((i + 1 : Nat) : Int) V else g_X0_anchorSet_4 N m (a + 1) (sj_or x (1 * 2 ^ (i : Int).toNat)) ((i + 1 : Nat) : Int) V := by
        show g_X0_anchorSet_4_b N (g_X0_anchorSet_4 N m) (a + 1) x i V = _
        unfold g_X0_anchorSet_4_b g_X0_anchorSet_25 e_shl
        rw [k_leF (by omega) ⟨by omega, by omega⟩ ⟨by omega, by omega⟩, k_ix (by omega) (by omega), tn0, (hR.2.2.1.2.2.2.2 i (by omega)).1, k_lec ⟨by omega, by omega⟩ ⟨by omega, by omega⟩, if_pos (show 0 ≤ (i : Int) ∧ (i : Int) < 32 by omega)]
        rfl
      have hB : g_X9_anchorSet_4 N (m + 1) b x i V = if w (304 + 3 * i) ≤ 0 then g_X9_anchorSet_4 N m b x ((i + 1 : Nat) : Int) V else g_X9_anchorSet_4 N m b (sj_or x (1 * 2 ^ (i : Int).toNat)) ((i + 1 : Nat) : Int) V := by
        show g_X9_anchorSet_4_b N (g_X9_anchorSet_4 N m) b x i V = _
        unfold g_X9_anchorSet_4_b g_X9_anchorSet_26 e_shl
        rw [k_leF (by omega) ⟨by omega, by omega⟩ ⟨by omega, by omega⟩, m_isAnchor hw hR.1 (by omega), k_cs, if_pos (show 0 ≤ (i : Int) ∧ (i : Int) < 32 by omega), or_0 hx]
        by_cases z : w (304 + 3 * i) ≤ 0
        · rw [if_pos z, if_neg (by omega), k_eqT rfl]; rfl
        · rw [if_neg z, if_pos (by omega), k_eqF (by omega) ⟨by omega, by omega⟩ ⟨by omega, by omega⟩]; rfl
      rw [hA, hB]
      by_cases z : w (304 + 3 * i) ≤ 0
      · rw [if_pos z, if_pos z]
        exact set_loop hR hw m (i + 1) x (by omega) (by omega) hx
      · rw [if_neg z, if_neg z]
        exact set_loop hR hw m (i + 1) (sj_or x (1 * 2 ^ (i : Int).toNat)) (by omega) (by omega) (or_i32 _ _)
theorem high_loop {n : Nat} (hR : RG V (a + 1) w) (hw : V (b + 1) = w) (hn : w 0 = (n : Nat)) : ∀ (m i : Nat) (x : Int), i ≤ n + 1 → n + 1 - i < m → 0 ≤ x ∧ x ≤ 100 → ∃ q, g_X0_greatestGround_4 N m (a + 1) x i V = some (q, V) ∧ g_X9_highest_4 N m b x i V = some (q, V)
  | 0, _, _, _, h, _ => absurd h (by omega)
  | m + 1, i, x, h1, h2, hx => by
    have h0 := hR.1.1
    by_cases hi : i = n + 1
    · subst hi
      unfold g_X0_greatestGround_4 g_X0_greatestGround_4_b g_X9_highest_4 g_X9_highest_4_b
      rw [hR.2.2.1.1.1, hn, k_ltT (by omega) ⟨by omega, by omega⟩ ⟨by omega, by omega⟩, k_ix (by omega) (by omega), hw, show (0 : Int).toNat = 0 from rfl, hn, k_ltT (by omega) ⟨by omega, by omega⟩ ⟨by omega, by omega⟩]
      exact ⟨x, rfl, rfl⟩
    · have h4 := (hR.1.2.2.2.1 i (by omega)).1
      have hA : g_X0_greatestGround_4 N (m + 1) (a + 1) x i V = g_X0_greatestGround_4 N m (a + 1) (max x (w (3 + i))) ((i + 1 : Nat) : Int) V := by
        show g_X0_greatestGround_4_b N (g_X0_greatestGround_4 N m) (a + 1) x i V = _
        unfold g_X0_greatestGround_4_b
        rw [hR.2.2.1.1.1, hn, k_ltF (by omega) ⟨by omega, by omega⟩ ⟨by omega, by omega⟩, k_ix (by omega) (by omega), tn0, (hR.2.2.1.2.1 i (by omega)).1, k_max ⟨by omega, by omega⟩ ⟨by omega, by omega⟩, k_lt]
        rfl
      have hB : g_X9_highest_4 N (m + 1) b x i V = g_X9_highest_4 N m b (max x (w (3 + i))) ((i + 1 : Nat) : Int) V := by
        show g_X9_highest_4_b N (g_X9_highest_4 N m) b x i V = _
        unfold g_X9_highest_4_b
        rw [k_ix (by omega) (by omega), hw, show (0 : Int).toNat = 0 from rfl, hn, k_ltF (by omega) ⟨by omega, by omega⟩ ⟨by omega, by omega⟩, k_ix (by omega) (by omega), show (3 + (i : Int)).toNat = 3 + i by omega, m_most ⟨by omega, by omega⟩ ⟨by omega, by omega⟩, k_cs, k_lt]
        rfl
      rw [hA, hB]
      exact high_loop hR hw hn m (i + 1) (max x (w (3 + i))) (by omega) (by omega) (by omega)
theorem soil_loop {n : Nat} (hR : RG V (a + 1) w) (hw : V (b + 1) = w) (hn : w 0 = (n : Nat)) : ∀ (m i : Nat) (x : Int), i ≤ n + 1 → n + 1 - i < m → ∃ q, g_X0_allSoil_4 N m (a + 1) x i V = some (q, V) ∧ g_X9_soilOver_4 N m b x i V = some (q, V)
  | 0, _, _, _, h => absurd h (by omega)
  | m + 1, i, x, h1, h2 => by
    have h0 := hR.1.1
    by_cases hi : i = n + 1
    · subst hi
      unfold g_X0_allSoil_4 g_X0_allSoil_4_b g_X9_soilOver_4 g_X9_soilOver_4_b
      rw [hR.2.2.1.1.1, hn, k_ltT (by omega) ⟨by omega, by omega⟩ ⟨by omega, by omega⟩, k_ix (by omega) (by omega), hw, show (0 : Int).toNat = 0 from rfl, hn, k_ltT (by omega) ⟨by omega, by omega⟩ ⟨by omega, by omega⟩]
      exact ⟨x, rfl, rfl⟩
    · have h4 := (hR.1.2.2.2.1 i (by omega)).1
      have c4 := hR.2.2.1.2.1 i (by omega)
      have hA : g_X0_allSoil_4 N (m + 1) (a + 1) x i V = g_X0_allSoil_4 N m (a + 1) (x + (w (3 + i) - w (44 + i))) ((i + 1 : Nat) : Int) V := by
        show g_X0_allSoil_4_b N (g_X0_allSoil_4 N m) (a + 1) x i V = _
        unfold g_X0_allSoil_4_b
        rw [hR.2.2.1.1.1, hn, k_ltF (by omega) ⟨by omega, by omega⟩ ⟨by omega, by omega⟩, k_ix (by omega) (by omega), k_ix (by omega) (by omega), tn0, c4.1, c4.2.1, k_lt, k_lt]
        rfl
      have hB : g_X9_soilOver_4 N (m + 1) b x i V = g_X9_soilOver_4 N m b (x + (w (3 + i) - w (44 + i))) ((i + 1 : Nat) : Int) V := by
        show g_X9_soilOver_4_b N (g_X9_soilOver_4 N m) b x i V = _
        unfold g_X9_soilOver_4_b
        rw [k_ix (by omega) (by omega), hw, show (0 : Int).toNat = 0 from rfl, hn, k_ltF (by omega) ⟨by omega, by omega⟩ ⟨by omega, by omega⟩, k_ix (by omega) (by omega), k_ix (by omega) (by omega), show (3 + (i : Int)).toNat = 3 + i by omega, show (44 + (i : Int)).toNat = 44 + i by omega, k_lt, k_lt]
        rfl
      rw [hA, hB]
      exact soil_loop hR hw hn m (i + 1) (x + (w (3 + i) - w (44 + i))) (by omega) (by omega)
theorem m_hasSlip (hw : V (b + 1) = w) (hP : SP w) (hB : WB 500 200 1500 w) : g_X9_hasSlip N b V = some (if w 320 = -1 then 0 else 1, V) := by
  have hn := hB.1
  have i1 : sj_i32 (w 320) := by
    rcases hP.2 with z | z
    · exact ⟨by omega, by omega⟩
    · have z2 : (w 320).toNat < (w 321).toNat := z.2.2.2.1
      exact ⟨by omega, by omega⟩
  unfold g_X9_hasSlip
  rw [k_ix (by omega) (by omega), hw, show (320 : Int).toNat = 320 from rfl, k_eq i1 ⟨by omega, by omega⟩, k_zs (Or.inl rfl), k_zs (Or.inr rfl)]
  split <;> rfl
theorem s_look (hI : INV V a b) (hab : b = a + 189) (h1 : sj_i32 x1) (hN : 1000 ≤ N) : ST a b (g_X8_look N a x1) (g_X9_look N b x1) V := by
  suffices h : ∃ q, g_X8_look N a x1 V = some (q, V) ∧ g_X9_look N b x1 V = some (q, V) by
    obtain ⟨q, r1, r2⟩ := h
    exact ⟨q, V, V, r1, r2, hI⟩
  obtain ⟨hR, hH, hU, hM, hT, hE⟩ := hI
  have h0 := hR.1.1
  obtain ⟨n, hn⟩ : ∃ n : Nat, V (b + 1) 0 = n := ⟨(V (b + 1) 0).toNat, by omega⟩
  unfold g_X8_look g_X9_look
  rw [k_sw h1, k_sw h1]
  by_cases z0 : x1 = 0
  · rw [if_pos z0, if_pos z0, hR.2.2.1.1.1]; exact ⟨_, rfl, rfl⟩
  rw [if_neg z0, if_neg z0]
  by_cases z1 : x1 = 1
  · rw [if_pos z1, if_pos z1, hR.2.2.1.1.2.1]; exact ⟨_, rfl, rfl⟩
  rw [if_neg z1, if_neg z1]
  by_cases z2 : x1 = 2
  · rw [if_pos z2, if_pos z2, hR.2.2.1.1.2.2]; exact ⟨_, rfl, rfl⟩
  rw [if_neg z2, if_neg z2]
  by_cases z3 : x1 = 3
  · rw [if_pos z3, if_pos z3]
    unfold g_X0_anchorSet g_X9_anchorSet
    obtain ⟨q, r1, r2⟩ := set_loop (N := N) hR rfl N 0 0 (by omega) (by omega) ⟨by omega, by omega⟩
    have r1' : g_X0_anchorSet_4 N N (a + 1) 0 0 V = some (q, V) := r1
    have r2' : g_X9_anchorSet_4 N N b 0 0 V = some (q, V) := r2
    rw [r1', r2', k_cs]; exact ⟨_, rfl, rfl⟩
  rw [if_neg z3, if_neg z3]
  have hs := m_hasSlip (N := N) (b := b) rfl hR.2.1 hR.1
  have sl := hR.2.2.2
  by_cases z4 : x1 = 4
  · rw [if_pos z4, if_pos z4, c_count hR, k_cs, hs, k_cs]
    by_cases y : V (b + 1) 320 = -1
    · rw [if_pos y, if_pos y, k_eqT rfl]; exact ⟨_, rfl, rfl⟩
    · rw [if_neg y, if_neg y, k_eqF (by omega) ⟨by omega, by omega⟩ ⟨by omega, by omega⟩]; exact ⟨_, rfl, rfl⟩
  rw [if_neg z4, if_neg z4]
  by_cases z5 : x1 = 5
  · rw [if_pos z5, if_pos z5]
    by_cases y : V (b + 1) 320 = -1
    · rw [(sl.2.1 y).1, k_ix (by omega) (by omega)]
      exact ⟨-1, rfl, by rw [show (320 : Int).toNat = 320 from rfl, y]⟩
    · rw [(sl.2.2 y).1, k_ix (by omega) (by omega)]
      exact ⟨_, rfl, by rw [show (320 : Int).toNat = 320 from rfl, ← (hR.2.1.bb y).1.1]⟩
  rw [if_neg z5, if_neg z5]
  by_cases z6 : x1 = 6
  · rw [if_pos z6, if_pos z6, hs, k_cs]
    by_cases y : V (b + 1) 320 = -1
    · rw [(sl.2.1 y).2, if_pos y, k_eqT rfl]; exact ⟨_, rfl, rfl⟩
    · rw [(sl.2.2 y).2.1, if_neg y, k_eqF (by omega) ⟨by omega, by omega⟩ ⟨by omega, by omega⟩, k_ix (by omega) (by omega)]
      exact ⟨_, rfl, by rw [show (321 : Int).toNat = 321 from rfl, ← (hR.2.1.bb y).1.2.1]⟩
  rw [if_neg z6, if_neg z6]
  by_cases z7 : x1 = 7
  · rw [if_pos z7, if_pos z7, hs, k_cs]
    by_cases y : V (b + 1) 320 = -1
    · rw [isNone_T sl y, k_cs, if_pos y, k_eqF (by omega) ⟨by omega, by omega⟩ ⟨by omega, by omega⟩, k_eqT rfl]; exact ⟨_, rfl, rfl⟩
    · have hl := sl.2.2 y
      rw [isNone_eq hl (hR.2.1.bb y).2, k_cs, if_neg y, k_eqT rfl, hl.2.2.1]
      rcases hR.2.1.1 with l | l
      · rw [l, k_eqT rfl, k_eqF (by omega) ⟨by omega, by omega⟩ ⟨by omega, by omega⟩, k_ix (by omega) (by omega), show (322 : Int).toNat = 322 from rfl, l]; exact ⟨_, rfl, rfl⟩
      · rw [l, k_eqF (by omega) ⟨by omega, by omega⟩ ⟨by omega, by omega⟩, k_eqF (by omega) ⟨by omega, by omega⟩ ⟨by omega, by omega⟩, k_ix (by omega) (by omega), show (322 : Int).toNat = 322 from rfl, l]; exact ⟨_, rfl, rfl⟩
  rw [if_neg z7, if_neg z7]
  by_cases z8 : x1 = 8
  · rw [if_pos z8, if_pos z8, hH.1.1]; exact ⟨_, rfl, rfl⟩
  rw [if_neg z8, if_neg z8]
  by_cases z9 : x1 = 9
  · rw [if_pos z9, if_pos z9, hU.1]; exact ⟨_, rfl, rfl⟩
  rw [if_neg z9, if_neg z9]
  by_cases z10 : x1 = 10
  · rw [if_pos z10, if_pos z10, hT.1]; exact ⟨_, rfl, rfl⟩
  rw [if_neg z10, if_neg z10]
  by_cases z11 : x1 = 11
  · rw [if_pos z11, if_pos z11]
    unfold g_X0_greatestGround g_X9_highest
    obtain ⟨q, r1, r2⟩ := high_loop (N := N) hR rfl hn N 0 0 (by omega) (by omega) ⟨by omega, by omega⟩
    have r1' : g_X0_greatestGround_4 N N (a + 1) 0 0 V = some (q, V) := r1
    have r2' : g_X9_highest_4 N N b 0 0 V = some (q, V) := r2
    rw [r1', r2', k_cs]; exact ⟨_, rfl, rfl⟩
  rw [if_neg z11, if_neg z11]
  by_cases z12 : x1 = 12
  · rw [if_pos z12, if_pos z12]
    unfold g_X0_allSoil g_X9_soilOver
    obtain ⟨q, r1, r2⟩ := soil_loop (N := N) hR rfl hn N 0 0 (by omega) (by omega)
    have r1' : g_X0_allSoil_4 N N (a + 1) 0 0 V = some (q, V) := r1
    have r2' : g_X9_soilOver_4 N N b 0 0 V = some (q, V) := r2
    rw [r1', r2', k_cs]; exact ⟨_, rfl, rfl⟩
  rw [if_neg z12, if_neg z12]
  by_cases z13 : x1 = 13
  · rw [if_pos z13, if_pos z13, hH.1.2]; exact ⟨_, rfl, rfl⟩
  rw [if_neg z13, if_neg z13]
  exact ⟨_, rfl, rfl⟩
theorem s_column (hI : INV V a b) (hab : b = a + 189) (h1 : sj_i32 x1) (h2 : sj_i32 x2) (hN : 1000 ≤ N) : ST a b (g_X8_column N a x1 x2) (g_X9_column N b x1 x2) V := by
  suffices h : ∃ q, g_X8_column N a x1 x2 V = some (q, V) ∧ g_X9_column N b x1 x2 V = some (q, V) by
    obtain ⟨q, r1, r2⟩ := h
    exact ⟨q, V, V, r1, r2, hI⟩
  have hR := hI.1
  have h0 := hR.1.1
  unfold g_X8_column g_X9_column
  rw [c_col hR h1, k_cs, m_isColumn rfl hR.1 h1, k_cs]
  by_cases c1 : spCol (V (b + 1)) x1
  · obtain ⟨c, hc⟩ : ∃ c : Nat, x1 = c := ⟨x1.toNat, by omega⟩
    subst hc
    have hc40 : c < 41 := by omega
    have g4 := hR.2.2.1.2.1 c hc40
    have tt : ∀ l : Nat, l < 4 → ∃ q, (e_cs (g_X0_topAt N (a + 1) l c V) fun v6 V5 => some (v6, V5)) = some (q, V) ∧ (e_cs (g_X9_top N b l c V) fun v6 V5 => some (v6, V5)) = some (q, V) := fun l hl => by
      rw [topAt_eq hR.2.2.1 hR.1 hc40 hl (by omega), m_top rfl hR.1 hc40 hl (by omega), k_cs]
      exact ⟨_, rfl, rfl⟩
    rw [if_pos c1, k_eqF (by omega) ⟨by omega, by omega⟩ ⟨by omega, by omega⟩, k_eqF (by omega) ⟨by omega, by omega⟩ ⟨by omega, by omega⟩, k_sw h2, k_sw h2]
    by_cases z0 : x2 = 0
    · rw [if_pos z0, if_pos z0, k_ix (by omega) (by omega), k_ix (by omega) (by omega), tn0, g4.1, show (3 + (c : Int)).toNat = 3 + c by omega]; exact ⟨_, rfl, rfl⟩
    rw [if_neg z0, if_neg z0]
    by_cases z1 : x2 = 1
    · rw [if_pos z1, if_pos z1, k_ix (by omega) (by omega), k_ix (by omega) (by omega), tn0, g4.2.1, show (44 + (c : Int)).toNat = 44 + c by omega]; exact ⟨_, rfl, rfl⟩
    rw [if_neg z1, if_neg z1]
    by_cases z2 : x2 = 2
    · rw [if_pos z2, if_pos z2, waterAt_eq hR.2.2.1 hR.1 hc40, m_water rfl hR.1 hc40, k_cs]; exact ⟨_, rfl, rfl⟩
    rw [if_neg z2, if_neg z2]
    by_cases z3 : x2 = 3
    · rw [if_pos z3, if_pos z3, k_ix (by omega) (by omega), k_ix (by omega) (by omega), tn0, g4.2.2.2, show (126 + (c : Int)).toNat = 126 + c by omega]; exact ⟨_, rfl, rfl⟩
    rw [if_neg z3, if_neg z3]
    by_cases z4 : x2 = 4
    · rw [if_pos z4, if_pos z4, show x2 - 4 = ((0 : Nat) : Int) by omega]; exact tt 0 (by omega)
    rw [if_neg z4, if_neg z4]
    by_cases z5 : x2 = 5
    · rw [if_pos z5, if_pos z5, show x2 - 4 = ((1 : Nat) : Int) by omega]; exact tt 1 (by omega)
    rw [if_neg z5, if_neg z5]
    by_cases z6 : x2 = 6
    · rw [if_pos z6, if_pos z6, show x2 - 4 = ((2 : Nat) : Int) by omega]; exact tt 2 (by omega)
    rw [if_neg z6, if_neg z6]
    by_cases z7 : x2 = 7
    · rw [if_pos z7, if_pos z7, show x2 - 4 = ((3 : Nat) : Int) by omega]; exact tt 3 (by omega)
    rw [if_neg z7, if_neg z7]
    by_cases z8 : x2 = 8
    · rw [if_pos z8, if_pos z8, m_hasSlip rfl hR.2.1 hR.1, k_cs]
      unfold g_X5_baseAt g_X5_baseAt_23
      by_cases y : V (b + 1) 320 = -1
      · rw [isNone_T hR.2.2.2 y, k_cs, if_pos y, k_eqT rfl, k_eqF (by omega) ⟨by omega, by omega⟩ ⟨by omega, by omega⟩, k_cs]; exact ⟨_, rfl, rfl⟩
      · have hl := hR.2.2.2.2.2 y
        obtain ⟨⟨y1, y2, y3⟩, y4, y5, y6, y7⟩ := hR.2.1.bb y
        rw [isNone_eq hl ⟨y4, y5, y6, y7⟩, k_cs, if_neg y, k_eqT rfl, k_eqF (by omega) ⟨by omega, by omega⟩ ⟨by omega, by omega⟩, hl.1, hl.2.1, k_wid h1, k_ix (by omega) (by omega), show (320 : Int).toNat = 320 from rfl, k_wid ⟨by omega, by omega⟩, k_ix (by omega) (by omega), show (321 : Int).toNat = 321 from rfl, k_wid ⟨by omega, by omega⟩, m_in h1 ⟨by omega, by omega⟩ ⟨by omega, by omega⟩, k_cs, k_ltc h1 ⟨by omega, by omega⟩, k_lec h1 ⟨by omega, by omega⟩]
        by_cases q1 : (c : Int) < (wf (V (b + 1)) : Nat)
        · rw [if_pos q1, if_neg (by omega), k_eqT rfl, k_cs]; exact ⟨_, rfl, rfl⟩
        · by_cases q2 : (c : Int) ≤ (wt (V (b + 1)) : Nat)
          · rw [if_neg q1, if_pos q2, if_pos (by omega), k_eqF (by omega) ⟨by omega, by omega⟩ ⟨by omega, by omega⟩, k_ix (by omega) (by omega), k_cs, k_ix (by omega) (by omega), tn0, hl.2.2.2 c (by omega) (by omega), show (323 + (c : Int)).toNat = 323 + c by omega]; exact ⟨_, rfl, rfl⟩
          · rw [if_neg q1, if_neg q2, if_neg (by omega), k_eqT rfl, k_cs]; exact ⟨_, rfl, rfl⟩
    rw [if_neg z8, if_neg z8]
    exact ⟨_, rfl, rfl⟩
  · rw [if_neg c1, k_eqT rfl, k_eqT rfl]; exact ⟨_, rfl, rfl⟩
theorem s_layer (hI : INV V a b) (hab : b = a + 189) (h1 : sj_i32 x1) (h2 : sj_i32 x2) : ST a b (g_X8_layer N a x1 x2) (g_X9_layer N b x1 x2) V := by
  suffices h : ∃ q, g_X8_layer N a x1 x2 V = some (q, V) ∧ g_X9_layer N b x1 x2 V = some (q, V) by
    obtain ⟨q, r1, r2⟩ := h
    exact ⟨q, V, V, r1, r2, hI⟩
  have hR := hI.1
  unfold g_X8_layer g_X9_layer
  rw [k_ltc h1 ⟨by omega, by omega⟩, k_ltc h1 ⟨by omega, by omega⟩, k_wid h1, m_in h1 ⟨by omega, by omega⟩ ⟨by omega, by omega⟩, k_cs]
  by_cases c1 : 0 ≤ x1 ∧ x1 ≤ 3
  · obtain ⟨l, hl⟩ : ∃ l : Nat, x1 = l := ⟨x1.toNat, by omega⟩
    subst hl
    have g4 := hR.2.2.1.2.2.2.1 l (by omega)
    rw [if_neg (by omega), if_pos (by omega), if_pos c1, k_eqF (by omega) ⟨by omega, by omega⟩ ⟨by omega, by omega⟩, k_sw h2, k_wid h2, m_in h2 ⟨by omega, by omega⟩ ⟨by omega, by omega⟩, k_cs, tn0, g4.1, g4.2.1, g4.2.2, k_ix (by omega) (by omega)]
    by_cases z0 : x2 = 0
    · subst z0
      rw [if_pos rfl, if_pos (by omega), k_eqF (by omega) ⟨by omega, by omega⟩ ⟨by omega, by omega⟩, k_ix (by omega) (by omega), show (290 + 3 * (l : Int) + 0).toNat = 290 + 3 * l by omega]; exact ⟨_, rfl, rfl⟩
    rw [if_neg z0, k_ix (by omega) (by omega)]
    by_cases z1 : x2 = 1
    · subst z1
      rw [if_pos rfl, if_pos (by omega), k_eqF (by omega) ⟨by omega, by omega⟩ ⟨by omega, by omega⟩, k_ix (by omega) (by omega), show (290 + 3 * (l : Int) + 1).toNat = 291 + 3 * l by omega]; exact ⟨_, rfl, rfl⟩
    rw [if_neg z1, k_ix (by omega) (by omega)]
    by_cases z2 : x2 = 2
    · subst z2
      rw [if_pos rfl, if_pos (by omega), k_eqF (by omega) ⟨by omega, by omega⟩ ⟨by omega, by omega⟩, k_ix (by omega) (by omega), show (290 + 3 * (l : Int) + 2).toNat = 292 + 3 * l by omega]; exact ⟨_, rfl, rfl⟩
    rw [if_neg z2, if_neg (by omega), k_eqT rfl]; exact ⟨_, rfl, rfl⟩
  · rw [if_neg c1, k_eqT rfl]
    by_cases z : x1 < 0
    · rw [if_pos z]; exact ⟨_, rfl, rfl⟩
    · rw [if_neg z, if_neg (by omega)]; exact ⟨_, rfl, rfl⟩
end Look
