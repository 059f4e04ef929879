section Mirror3
variable {V V' V1 : sj_VV} {a b n N : Nat} {w : sj_R}
theorem m_mir33 (hn : n ≤ 40) (hN : 50 ≤ N) : ∀ (m l : Nat) (V : sj_VV), l ≤ 3 → 3 - l < m → V (b + 1) 0 = (n : Nat) → ∃ V', g_X9_mirror_33 N m b l V = g_X9_mirror_58 N N b 0 V' ∧ (∀ z, z ≠ b + 1 → V' z = V z) ∧ (∀ k c, l ≤ k → k < 3 → c < 41 → V' (b + 1) (167 + 41 * k + c) = V (b + 1) (167 + 41 * k + rv n c)) ∧ ∀ j, (j < 167 + 41 * l ∨ 290 ≤ j) → V' (b + 1) j = V (b + 1) j
  | 0, _, _, _, h, _ => absurd h (by omega)
  | m + 1, l, V, h1, h2, h0 => by
    unfold g_X9_mirror_33 g_X9_mirror_33_b
    by_cases hl : l = 3
    · subst hl
      rw [k_leT (by omega) ⟨by omega, by omega⟩ ⟨by omega, by omega⟩]
      exact ⟨V, rfl, fun _ _ => rfl, fun k c k1 k2 => by omega, fun _ _ => rfl⟩
    · obtain ⟨V2, r1, r2, r3⟩ := m_turnsRound (N := N) (V := V) (b := b) (p := 167 + 41 * l) rfl h0 hn (by omega) hN
      obtain ⟨V3, s1, s2, s3, s4⟩ := m_mir33 hn hN m (l + 1) V2 (by omega) (by omega) (by rw [r3, wTurn_n _ _ _ (by omega)]; exact h0)
      rw [k_leF (by omega) ⟨by omega, by omega⟩ ⟨by omega, by omega⟩, show 167 + 41 * (l : Int) = ((167 + 41 * l : Nat) : Int) by omega, r1, k_cs, k_lt]
      refine ⟨V3, s1, fun z hz => (s2 z hz).trans (r2 z hz), fun k c k1 k2 hc => ?_, fun j hj => by rw [s4 j (by omega), r3, wTurn_n _ _ _ (by omega)]⟩
      have := rv_lt (n := n) (c := c) hn hc
      by_cases z : k = l
      · subst z; rw [s4 _ (by omega), r3, wTurn_s _ _ _ hc]
      · rw [s3 k c (by omega) k2 hc, r3, wTurn_n _ _ _ (by omega)]
theorem m_mir58 : ∀ (m i : Nat) (V : sj_VV), i ≤ 6 → 6 - i < m → (∀ j, i ≤ j → j < 6 → 0 ≤ V (b + 1) (304 + 3 * j) ∧ V (b + 1) (304 + 3 * j) ≤ 500) → ∃ V', g_X9_mirror_58 N m b i V = g_X9_mirror_58 N 1 b 6 V' ∧ (∀ z, z ≠ b + 1 → V' z = V z) ∧ (∀ j, i ≤ j → j < 6 → 0 < V (b + 1) (304 + 3 * j) → V' (b + 1) (302 + 3 * j) = V (b + 1) 0 - V (b + 1) (302 + 3 * j)) ∧ (∀ j, (j < 302 + 3 * i ∨ 320 ≤ j) → V' (b + 1) j = V (b + 1) j) ∧ ∀ j, V' (b + 1) (303 + 3 * j) = V (b + 1) (303 + 3 * j) ∧ V' (b + 1) (304 + 3 * j) = V (b + 1) (304 + 3 * j)
  | 0, _, _, _, h, _ => absurd h (by omega)
  | m + 1, i, V, h1, h2, hb => by
    by_cases hi : i = 6
    · subst hi
      refine ⟨V, ?_, fun _ _ => rfl, fun j j1 j2 => by omega, fun _ _ => rfl, fun _ => ⟨rfl, rfl⟩⟩
      show g_X9_mirror_58_b N (g_X9_mirror_58 N m) b ((6 : Nat) : Int) V = g_X9_mirror_58_b N (g_X9_mirror_58 N 0) b 6 V
      unfold g_X9_mirror_58_b
      rw [k_leT (by omega) ⟨by omega, by omega⟩ ⟨by omega, by omega⟩, k_leT (by omega) ⟨by omega, by omega⟩ ⟨by omega, by omega⟩]
    · have h4 := hb i (by omega) (by omega)
      by_cases z : V (b + 1) (304 + 3 * i) ≤ 0
      · obtain ⟨V3, s1, s2, s3, s4, s5⟩ := m_mir58 m (i + 1) V (by omega) (by omega) (fun j j1 j2 => hb j (by omega) j2)
        refine ⟨V3, ?_, s2, fun j j1 j2 j3 => s3 j (Nat.lt_of_le_of_ne j1 (fun q => by subst q; omega)) j2 j3, fun j hj => s4 j (by omega), s5⟩
        show g_X9_mirror_58_b N (g_X9_mirror_58 N m) b (i : Int) V = _
        rw [← s1]
        unfold g_X9_mirror_58_b g_X9_mirror_112
        rw [k_leF (by omega) ⟨by omega, by omega⟩ ⟨by omega, by omega⟩, k_ix (by omega) (by omega), show (302 + 3 * (i : Int) + 2).toNat = 304 + 3 * i by omega, k_leT z ⟨by omega, by omega⟩ ⟨by omega, by omega⟩, k_lt]
        rfl
      · obtain ⟨V2, d2⟩ : ∃ V2, V2 = sj_up V (b + 1) (302 + 3 * i) (V (b + 1) 0 - V (b + 1) (302 + 3 * i)) := ⟨_, rfl⟩
        have q1 : ∀ z, z ≠ b + 1 → V2 z = V z := fun z hz => by rw [d2, up_row _ _ _ hz]
        have q2 : ∀ j, j ≠ 302 + 3 * i → V2 (b + 1) j = V (b + 1) j := fun j hj => by rw [d2, up_nk _ _ _ hj]
        obtain ⟨V3, s1, s2, s3, s4, s5⟩ := m_mir58 m (i + 1) V2 (by omega) (by omega) (fun j j1 j2 => by rw [q2 _ (by omega)]; exact hb j (by omega) j2)
        refine ⟨V3, ?_, fun z hz => (s2 z hz).trans (q1 z hz), fun j j1 j2 j3 => ?_, fun j hj => by rw [s4 j (by omega), q2 _ (by omega)], fun j => ⟨by rw [(s5 j).1, q2 _ (by omega)], by rw [(s5 j).2, q2 _ (by omega)]⟩⟩
        · show g_X9_mirror_58_b N (g_X9_mirror_58 N m) b (i : Int) V = _
          rw [← s1]
          unfold g_X9_mirror_58_b g_X9_mirror_112
          rw [k_leF (by omega) ⟨by omega, by omega⟩ ⟨by omega, by omega⟩, k_ix (by omega) (by omega), show (302 + 3 * (i : Int) + 2).toNat = 304 + 3 * i by omega, k_leF z ⟨by omega, by omega⟩ ⟨by omega, by omega⟩, k_ix (by omega) (by omega), k_ix (by omega) (by omega), k_ix (by omega) (by omega), k_lt, k_lt, show (0 : Int).toNat = 0 from rfl, show (302 + 3 * (i : Int)).toNat = 302 + 3 * i by omega, ← d2]
          rfl
        · by_cases y : j = i
          · subst y; rw [s4 _ (by omega), d2, up_ss]
          · rw [s3 j (by omega) j2 (by rw [q2 _ (by omega)]; exact j3), q2 0 (by omega), q2 _ (by omega)]
theorem m_mirror_rest (hw : V (b + 1) = w) (hB : WB 500 200 1500 w) (hP : SP w) (hn : w 0 = (n : Nat)) (hN : 50 ≤ N) : ∃ V', (e_cs (g_X9_turnsRound N b 3 V) fun _u V2 => e_cs (g_X9_turnsRound N b 44 V2) fun _u V3 => e_cs (g_X9_turnsRound N b 85 V3) fun _u V4 => e_cs (g_X9_turnsRound N b 126 V4) fun _u V5 => g_X9_mirror_33 N N b 0 V5) = some (if w 320 = -1 then 0 else 1, V') ∧ (∀ z, z ≠ b + 1 → V' z = V z) ∧ MR n w (V' (b + 1)) := by
  have hn4 : n ≤ 40 := by have := hB.1; omega
  obtain ⟨V1, a1, b1, c1⟩ := m_turnsRound (N := N) (V := V) (b := b) (p := 3) hw hn hn4 (by omega) hN
  have n1 : wTurn w n 3 0 = (n : Nat) := by rw [wTurn_n _ _ _ (by omega)]; exact hn
  obtain ⟨V2, a2, b2, c2⟩ := m_turnsRound (N := N) (V := V1) (b := b) (p := 44) c1 n1 hn4 (by omega) hN
  have n2 : wTurn (wTurn w n 3) n 44 0 = (n : Nat) := by rw [wTurn_n _ _ _ (by omega)]; exact n1
  obtain ⟨V3, a3, b3, c3⟩ := m_turnsRound (N := N) (V := V2) (b := b) (p := 85) c2 n2 hn4 (by omega) hN
  have n3 : wTurn (wTurn (wTurn w n 3) n 44) n 85 0 = (n : Nat) := by rw [wTurn_n _ _ _ (by omega)]; exact n2
  obtain ⟨V4, a4, b4, c4⟩ := m_turnsRound (N := N) (V := V3) (b := b) (p := 126) c3 n3 hn4 (by omega) hN
  obtain ⟨u4, hu4⟩ : ∃ u4 : sj_R, u4 = wTurn (wTurn (wTurn (wTurn w n 3) n 44) n 85) n 126 := ⟨_, rfl⟩
  rw [← hu4] at c4
  have o4 : ∀ j, (j < 3 ∨ 167 ≤ j) → u4 j = w j := fun j hj => by rw [hu4, wTurn_n _ _ _ (by omega), wTurn_n _ _ _ (by omega), wTurn_n _ _ _ (by omega), wTurn_n _ _ _ (by omega)]
  have g3 : ∀ c, c < 41 → u4 (3 + c) = w (3 + rv n c) := fun c hc => by rw [hu4, wTurn_n _ _ _ (by omega), wTurn_n _ _ _ (by omega), wTurn_n _ _ _ (by omega), wTurn_s _ _ _ hc]
  have g44 : ∀ c, c < 41 → u4 (44 + c) = w (44 + rv n c) := fun c hc => by
    have := rv_lt (n := n) hn4 hc
    rw [hu4, wTurn_n _ _ _ (by omega), wTurn_n _ _ _ (by omega), wTurn_s _ _ _ hc, wTurn_n _ _ _ (by omega)]
  have g85 : ∀ c, c < 41 → u4 (85 + c) = w (85 + rv n c) := fun c hc => by
    have := rv_lt (n := n) hn4 hc
    rw [hu4, wTurn_n _ _ _ (by omega), wTurn_s _ _ _ hc, wTurn_n _ _ _ (by omega), wTurn_n _ _ _ (by omega)]
  have g126 : ∀ c, c < 41 → u4 (126 + c) = w (126 + rv n c) := fun c hc => by
    have := rv_lt (n := n) hn4 hc
    rw [hu4, wTurn_s _ _ _ hc, wTurn_n _ _ _ (by omega), wTurn_n _ _ _ (by omega), wTurn_n _ _ _ (by omega)]
  obtain ⟨V5, a5, b5, c5, d5⟩ := m_mir33 (N := N) (b := b) hn4 hN N 0 V4 (by omega) (by omega) (by rw [c4, o4 _ (by omega)]; exact hn)
  have o5 : ∀ j, (j < 3 ∨ 290 ≤ j) → V5 (b + 1) j = w j := fun j hj => by rw [d5 j (by omega), c4, o4 j (by omega)]
  obtain ⟨V6, a6, b6, c6, d6, e6⟩ := m_mir58 (N := N) (b := b) N 0 V5 (by omega) (by omega) (fun j _ hj => by rw [o5 _ (by omega)]; exact (hB.2.2.2.2.2.2 j hj).1)
  have a1' : g_X9_turnsRound N b 3 V = some ((), V1) := a1
  have a2' : g_X9_turnsRound N b 44 V1 = some ((), V2) := a2
  have a3' : g_X9_turnsRound N b 85 V2 = some ((), V3) := a3
  have a4' : g_X9_turnsRound N b 126 V3 = some ((), V4) := a4
  have a5' : g_X9_mirror_33 N N b 0 V4 = g_X9_mirror_58 N N b 0 V5 := a5
  have a6' : g_X9_mirror_58 N N b 0 V5 = g_X9_mirror_58 N 1 b 6 V6 := a6
  have fr : ∀ z, z ≠ b + 1 → V6 z = V z := fun z hz => by rw [b6 z hz, b5 z hz, b4 z hz, b3 z hz, b2 z hz, b1 z hz]
  have p0 : ∀ j, j < 3 → V6 (b + 1) j = w j := fun j hj => by rw [d6 j (by omega), o5 j (by omega)]
  have pr : ∀ p, (p = 3 ∨ p = 44 ∨ p = 85 ∨ p = 126 ∨ p = 167 ∨ p = 208 ∨ p = 249) → ∀ c, c < 41 → V6 (b + 1) (p + c) = w (p + rv n c) := fun p hp c hc => by
    have hr := rv_lt (n := n) hn4 hc
    rw [d6 _ (by omega)]
    rcases hp with z | z | z | z | z | z | z
    · subst z; rw [d5 _ (by omega), c4, g3 c hc]
    · subst z; rw [d5 _ (by omega), c4, g44 c hc]
    · subst z; rw [d5 _ (by omega), c4, g85 c hc]
    · subst z; rw [d5 _ (by omega), c4, g126 c hc]
    · subst z
      have := c5 0 c (by omega) (by omega) hc
      simp only [Nat.mul_zero, Nat.add_zero] at this
      rw [this, c4, o4 _ (by omega)]
    · subst z
      have := c5 1 c (by omega) (by omega) hc
      simp only [Nat.mul_one] at this
      rw [show 167 + 41 + c = 208 + c by omega, show 167 + 41 + rv n c = 208 + rv n c by omega] at this
      rw [this, c4, o4 _ (by omega)]
    · subst z
      have := c5 2 c (by omega) (by omega) hc
      rw [show 167 + 41 * 2 + c = 249 + c by omega, show 167 + 41 * 2 + rv n c = 249 + rv n c by omega] at this
      rw [this, c4, o4 _ (by omega)]
  have ps : ∀ j, 290 ≤ j → j < 302 → V6 (b + 1) j = w j := fun j j1 j2 => by rw [d6 j (by omega), o5 j (by omega)]
  have pa : ∀ i, i < 6 → V6 (b + 1) (303 + 3 * i) = w (303 + 3 * i) ∧ V6 (b + 1) (304 + 3 * i) = w (304 + 3 * i) ∧ (0 < w (304 + 3 * i) → V6 (b + 1) (302 + 3 * i) = w 0 - w (302 + 3 * i)) := fun i hi => by
    refine ⟨by rw [(e6 i).1, o5 _ (by omega)], by rw [(e6 i).2, o5 _ (by omega)], fun h => ?_⟩
    rw [c6 i (by omega) hi (by rw [o5 _ (by omega)]; exact h), o5 _ (by omega), o5 _ (by omega)]
  have pt : ∀ j, 320 ≤ j → V6 (b + 1) j = w j := fun j j1 => by rw [d6 j (by omega), o5 j (by omega)]
  rw [a1', k_cs, a2', k_cs, a3', k_cs, a4', k_cs, a5', a6']
  show ∃ V', g_X9_mirror_58_b N (g_X9_mirror_58 N 0) b 6 V6 = _ ∧ _
  unfold g_X9_mirror_58_b
  have hs : g_X9_hasSlip N b V6 = some (if w 320 = -1 then 0 else 1, V6) := by
    have i1 : sj_i32 (w 320) := by
      rcases hP.2 with z | z
      · exact ⟨by omega, by omega⟩
      · have z2 : (w 320).toNat < (w 321).toNat := z.2.2.2.1
        exact ⟨by omega, by omega⟩
    unfold g_X9_hasSlip
    rw [k_ix (by omega) (by omega), show (320 : Int).toNat = 320 from rfl, pt 320 (by omega), k_eq i1 ⟨by omega, by omega⟩, k_zs (Or.inl rfl), k_zs (Or.inr rfl)]
    split <;> rfl
  rw [k_leT (by omega) ⟨by omega, by omega⟩ ⟨by omega, by omega⟩, hs, k_cs]
  by_cases z0 : w 320 = -1
  · rw [if_pos z0, k_eqT rfl, k_zs (Or.inl rfl)]
    exact ⟨V6, rfl, fr, p0, pr, ps, pa, fun _ j j1 _ => pt j j1, fun z => absurd z0 z, fun j hj => pt j (by omega)⟩
  · obtain ⟨V7, a7, b7, c7⟩ := m_turnsRound (N := N) (V := V6) (b := b) (p := 323) rfl (by rw [p0 0 (by omega)]; exact hn) hn4 (by omega) hN
    have a7' : g_X9_turnsRound N b 323 V6 = some ((), V7) := a7
    have q7 : ∀ j, (j < 323 ∨ 364 ≤ j) → V7 (b + 1) j = V6 (b + 1) j := fun j hj => by rw [c7, wTurn_n _ _ _ (by omega)]
    rw [if_neg z0, k_eqF (by omega) ⟨by omega, by omega⟩ ⟨by omega, by omega⟩, a7', k_cs, k_ix (by omega) (by omega), k_ix (by omega) (by omega), k_lt, k_ix (by omega) (by omega), k_ix (by omega) (by omega), k_ix (by omega) (by omega), k_lt, k_ix (by omega) (by omega), k_lt, k_ix (by omega) (by omega), k_ix (by omega) (by omega), k_lt, k_zs (Or.inr rfl), show (320 : Int).toNat = 320 from rfl, show (321 : Int).toNat = 321 from rfl, show (322 : Int).toNat = 322 from rfl, show (0 : Int).toNat = 0 from rfl, up_nk _ _ _ (show 322 ≠ 320 by omega), up_nk _ _ _ (show 322 ≠ 321 by omega), q7 322 (by omega), q7 321 (by omega), q7 320 (by omega), q7 0 (by omega), p0 0 (by omega), pt 320 (by omega), pt 321 (by omega), pt 322 (by omega)]
    obtain ⟨V8, d8⟩ : ∃ V8, V8 = sj_up (sj_up (sj_up V7 (b + 1) 321 (w 0 - w 320)) (b + 1) 320 (w 0 - w 321)) (b + 1) 322 (1 - w 322) := ⟨_, rfl⟩
    rw [← d8]
    have q8 : ∀ j, j ≠ 320 → j ≠ 321 → j ≠ 322 → V8 (b + 1) j = V7 (b + 1) j := fun j j0 j1 j2 => by rw [d8, up_nk _ _ _ j2, up_nk _ _ _ j0, up_nk _ _ _ j1]
    refine ⟨V8, rfl, fun z hz => by rw [d8, up_row _ _ _ hz, up_row _ _ _ hz, up_row _ _ _ hz, b7 z hz, fr z hz], fun j hj => ?_, fun p hp c hc => ?_, fun j j1 j2 => ?_, fun i hi => ?_, fun z => absurd z z0, fun _ => ⟨⟨?_, ?_, ?_⟩, fun c hc => ?_⟩, fun j hj => ?_⟩
    · rw [q8 _ (by omega) (by omega) (by omega), q7 _ (by omega)]; exact p0 j hj
    · rw [q8 _ (by omega) (by omega) (by omega), q7 _ (by omega)]; exact pr p hp c hc
    · rw [q8 _ (by omega) (by omega) (by omega), q7 _ (by omega)]; exact ps j j1 j2
    · rw [q8 _ (by omega) (by omega) (by omega), q7 _ (by omega), q8 _ (by omega) (by omega) (by omega), q7 _ (by omega), q8 _ (by omega) (by omega) (by omega), q7 _ (by omega)]; exact pa i hi
    · rw [d8, up_nk _ _ _ (by omega), up_ss]
    · rw [d8, up_nk _ _ _ (by omega), up_nk _ _ _ (by omega), up_ss]
    · rw [d8, up_ss]
    · rw [q8 _ (by omega) (by omega) (by omega), c7, wTurn_s _ _ _ hc, pt _ (by omega)]
    · rw [q8 _ (by omega) (by omega) (by omega), q7 _ (by omega)]; exact pt j (by omega)
theorem s_mirror (hI : INV V a b) (hab : b = a + 189) (hN : 10000 ≤ N) : ST a b (g_X8_mirror N a) (g_X9_mirror N b) V := by
  have hU := hI.2.2.1
  have r14 := hU.2.2.1
  have hR := hI.1
  have h40 := hR.1.1
  obtain ⟨n, hn⟩ : ∃ n : Nat, V (b + 1) 0 = n := ⟨(V (b + 1) 0).toNat, by omega⟩
  unfold ST g_X8_mirror g_X9_mirror
  obtain ⟨Vk, k0, k1, k2, k3, k4, k5⟩ := c_keepAct (N := N) hI.1 hU.2.2.1 (by rw [hU.1]; exact hU.2.1)
  have hRk : RG Vk (a + 1) (V (b + 1)) := hR.eq (fun z z1 z2 => k1 z (by omega) (by omega))
  obtain ⟨V1, r0, r1, r2⟩ := c_turn (N := N) hRk hn (by omega)
  have vb : ∀ z, b ≤ z → V1 z = V z := fun z hz => by rw [r1 z (by omega), k1 z (by omega) (by omega)]
  obtain ⟨V2, m0, m1, m2, m3, m4, m5⟩ := m_remembers (N := N) (V := V1) (b := b) (src := b + 1) (by omega) (by omega) (by rw [vb b (by omega)]; exact hU.2.1) hN
  have w2 : V2 (b + 1) = V (b + 1) := by rw [m1 _ (by omega) (by omega), vb _ (by omega)]
  obtain ⟨V3, n0, n1, n2⟩ := m_mirror_rest (N := N) w2 hR.1 hR.2.1 hn (by omega)
  have hR1 : RG V1 (a + 1) (V3 (b + 1)) := hRk.mir hn r2 n2
  have hno : g_X5_isNone N (a + 1 + 12) V1 = some (if V (b + 1) 320 = -1 then 1 else 0, V1) := by
    by_cases z : V (b + 1) 320 = -1
    · rw [if_pos z]
      exact isNone_T (a := a + 1) (w := V3 (b + 1)) hR1.2.2.2 (by rw [n2.2.2.2.2.1 z 320 (by omega) (by omega)]; exact z)
    · rw [if_neg z]
      have nz : V3 (b + 1) 320 ≠ -1 := by
        have := (n2.bb hR.2.1 hn z).2.1.1
        rw [this]; omega
      exact isNone_eq (hR1.2.2.2.2.2 nz) (hR1.2.1.bb nz).2
  rw [k0, k_cs, r0, k_cs, hno, k_cs]
  refine ⟨if V (b + 1) 320 = -1 then 0 else 1, V1, V3, ?_, ?_, ?_⟩
  · by_cases z : V (b + 1) 320 = -1
    · rw [if_pos z, if_pos z, k_eqF (by omega) ⟨by omega, by omega⟩ ⟨by omega, by omega⟩, k_zs (Or.inl rfl)]
    · rw [if_neg z, if_neg z, k_eqT rfl, k_zs (Or.inr rfl)]
  · rw [m0, k_cs]
    exact n0
  · exact hI.acted hab k1 k2 k3 k4 k5 (r1.wide (by omega) (by omega)) hR1 m1 m2 m3 m4 m5 n1 rfl (fun j j1 _ => n2.2.2.2.2.2.2 j j1)
end Mirror3
