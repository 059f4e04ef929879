section Mirror2
variable {V V' V1 : sj_VV} {a b ga n N : Nat} {w : sj_R}
theorem turn38_loop (hn : n ≤ 40) (hN : 50 ≤ N) : ∀ (m l : Nat) (V : sj_VV), l ≤ 3 → 3 - l < m → V ga 0 = (n : Nat) → ∃ V', g_X0_turn_38 N m ga ((l : Int) + 1) V = g_X0_turn_64 N N ga 0 V' ∧ (∀ z, z ≠ ga + 5 → V' z = V z) ∧ (∀ k c, l ≤ k → k < 3 → c < 41 → V' (ga + 5) (41 * k + c) = V (ga + 5) (41 * k + rv n c)) ∧ ∀ j, j < 41 * l → V' (ga + 5) j = V (ga + 5) j
  | 0, _, _, _, h, _ => absurd h (by omega)
  | m + 1, l, V, h1, h2, h0 => by
    unfold g_X0_turn_38 g_X0_turn_38_b
    by_cases hl : l = 3
    · subst hl
      rw [k_leT (by omega) ⟨by omega, by omega⟩ ⟨by omega, by omega⟩]
      exact ⟨V, rfl, fun _ _ => rfl, fun k c k1 k2 => by omega, fun _ _ => rfl⟩
    · obtain ⟨V2, r1, r2, r3, r4⟩ := turnRow_eq (N := N) (x := ga + 5) (p := 41 * l) (n1 := 123) h0 hn (by omega) (by omega) (by omega) hN
      obtain ⟨V3, s1, s2, s3, s4⟩ := turn38_loop hn hN m (l + 1) V2 (by omega) (by omega) (by rw [r2 _ (by omega)]; exact h0)
      rw [k_leF (by omega) ⟨by omega, by omega⟩ ⟨by omega, by omega⟩, topPlace_eq, k_cs, show ((l : Int) + 1 - 1) * 41 + 0 = ((41 * l : Nat) : Int) by omega, r1, k_cs, k_lt]
      refine ⟨V3, s1, fun z hz => (s2 z hz).trans (r2 z hz), fun k c k1 k2 hc => ?_, fun j hj => by rw [s4 j (by omega), r4 j (by omega)]⟩
      have := rv_lt (n := n) (c := c) hn hc
      by_cases z : k = l
      · subst z; rw [s4 _ (by omega), r3 c hc]
      · rw [s3 k c (by omega) k2 hc, r4 _ (by omega)]
theorem turn64_loop : ∀ (m i : Nat) (V : sj_VV), i ≤ 6 → 6 - i < m → ∃ V', g_X0_turn_64 N m ga i V = g_X0_turn_64 N 1 ga 6 V' ∧ (∀ z, z ≠ ga + 9 → V' z = V z) ∧ (∀ j, i ≤ j → j < 6 → V' (ga + 9) j = V ga 0 - V (ga + 9) j) ∧ ∀ j, j < i → V' (ga + 9) j = V (ga + 9) j
  | 0, _, _, _, h => absurd h (by omega)
  | m + 1, i, V, h1, h2 => by
    by_cases hi : i = 6
    · subst hi
      refine ⟨V, ?_, fun _ _ => rfl, fun j j1 j2 => by omega, fun _ _ => rfl⟩
      show g_X0_turn_64_b N (g_X0_turn_64 N m) ga ((6 : Nat) : Int) V = g_X0_turn_64_b N (g_X0_turn_64 N 0) ga 6 V
      unfold g_X0_turn_64_b
      rw [k_leT (by omega) ⟨by omega, by omega⟩ ⟨by omega, by omega⟩, k_leT (by omega) ⟨by omega, by omega⟩ ⟨by omega, by omega⟩]
    · obtain ⟨V2, d2⟩ : ∃ V2, V2 = sj_up V (ga + 9) i (V ga 0 - V (ga + 9) i) := ⟨_, rfl⟩
      have q1 : ∀ z, z ≠ ga + 9 → V2 z = V z := fun z hz => by rw [d2, up_row _ _ _ hz]
      obtain ⟨V3, s1, s2, s3, s4⟩ := turn64_loop m (i + 1) V2 (by omega) (by omega)
      refine ⟨V3, ?_, fun z hz => (s2 z hz).trans (q1 z hz), fun j j1 j2 => ?_, fun j hj => by rw [s4 j (by omega), d2, up_nk _ _ _ (by omega)]⟩
      · show g_X0_turn_64_b N (g_X0_turn_64 N m) ga (i : Int) V = _
        rw [← s1]
        unfold g_X0_turn_64_b
        rw [k_leF (by omega) ⟨by omega, by omega⟩ ⟨by omega, by omega⟩, k_ix (by omega) (by omega), k_ix (by omega) (by omega), k_lt, k_lt, tn0, ← d2]
        rfl
      · by_cases z : j = i
        · subst z; rw [s4 _ (by omega), d2, up_ss]
        · rw [s3 j (by omega) j2, q1 ga (by omega), d2, up_nk _ _ _ z]
theorem c_turn (hR : RG V ga w) (hn : w 0 = (n : Nat)) (hN : 50 ≤ N) : ∃ V', g_X0_turn N ga V = some ((), V') ∧ Fr ga (ga + 14) V V' ∧ TG V V' ga n := by
  have hn4 : n ≤ 40 := by have := hR.1.1; omega
  have h0 : V ga 0 = (n : Nat) := by rw [hR.2.2.1.1.1, hn]
  unfold g_X0_turn
  obtain ⟨V1, a1, b1, c1, _⟩ := turnRow_eq (N := N) (V := V) (x := ga + 1) (p := 0) (n1 := 41) h0 hn4 (by omega) (by omega) (by omega) hN
  obtain ⟨V2, a2, b2, c2, _⟩ := turnRow_eq (N := N) (V := V1) (ga := ga) (x := ga + 2) (p := 0) (n1 := 41) (by rw [b1 _ (by omega)]; exact h0) hn4 (by omega) (by omega) (by omega) hN
  obtain ⟨V3, a3, b3, c3, _⟩ := turnRow_eq (N := N) (V := V2) (ga := ga) (x := ga + 3) (p := 0) (n1 := 41) (by rw [b2 _ (by omega), b1 _ (by omega)]; exact h0) hn4 (by omega) (by omega) (by omega) hN
  obtain ⟨V4, a4, b4, c4, _⟩ := turnRow_eq (N := N) (V := V3) (ga := ga) (x := ga + 4) (p := 0) (n1 := 41) (by rw [b3 _ (by omega), b2 _ (by omega), b1 _ (by omega)]; exact h0) hn4 (by omega) (by omega) (by omega) hN
  have g4 : V4 ga 0 = (n : Nat) := by rw [b4 _ (by omega), b3 _ (by omega), b2 _ (by omega), b1 _ (by omega)]; exact h0
  obtain ⟨V5, a5, b5, c5, _⟩ := turn38_loop (N := N) (ga := ga) hn4 hN N 0 V4 (by omega) (by omega) g4
  obtain ⟨V6, a6, b6, c6, _⟩ := turn64_loop (N := N) (ga := ga) N 0 V5 (by omega) (by omega)
  have g6 : V6 ga 0 = (n : Nat) := by rw [b6 _ (by omega), b5 _ (by omega)]; exact g4
  obtain ⟨V7, a7, b7, c7, _⟩ := turnRow_eq (N := N) (V := V6) (ga := ga) (x := ga + 12 + 1) (p := 0) (n1 := 41) g6 hn4 (by omega) (by omega) (by omega) hN
  have a1' : g_X0_turnRow N ga (ga + 1) 41 0 V = some ((), V1) := a1
  have a2' : g_X0_turnRow N ga (ga + 2) 41 0 V1 = some ((), V2) := a2
  have a3' : g_X0_turnRow N ga (ga + 3) 41 0 V2 = some ((), V3) := a3
  have a4' : g_X0_turnRow N ga (ga + 4) 41 0 V3 = some ((), V4) := a4
  have a5' : g_X0_turn_38 N N ga 1 V4 = g_X0_turn_64 N N ga 0 V5 := a5
  have a6' : g_X0_turn_64 N N ga 0 V5 = g_X0_turn_64 N 1 ga 6 V6 := a6
  have a7' : g_X0_turnRow N ga (ga + 12 + 1) 41 0 V6 = some ((), V7) := a7
  simp only [Nat.zero_add] at c1 c2 c3 c4 c7
  have e : ∀ z, (z < ga + 1 ∨ ga + 5 < z) → z ≠ ga + 9 → z ≠ ga + 12 + 1 → V7 z = V z := fun z z1 z2 z3 => by rw [b7 z z3, b6 z z2, b5 z (by omega), b4 z (by omega), b3 z (by omega), b2 z (by omega), b1 z (by omega)]
  have k1 : ∀ c, c < 41 → V7 (ga + 1) c = V (ga + 1) (rv n c) := fun c hc => by rw [b7 _ (by omega), b6 _ (by omega), b5 _ (by omega), b4 _ (by omega), b3 _ (by omega), b2 _ (by omega), c1 c hc]
  have k2 : ∀ c, c < 41 → V7 (ga + 2) c = V (ga + 2) (rv n c) := fun c hc => by rw [b7 _ (by omega), b6 _ (by omega), b5 _ (by omega), b4 _ (by omega), b3 _ (by omega), c2 c hc, b1 _ (by omega)]
  have k3 : ∀ c, c < 41 → V7 (ga + 3) c = V (ga + 3) (rv n c) := fun c hc => by rw [b7 _ (by omega), b6 _ (by omega), b5 _ (by omega), b4 _ (by omega), c3 c hc, b2 _ (by omega), b1 _ (by omega)]
  have k4 : ∀ c, c < 41 → V7 (ga + 4) c = V (ga + 4) (rv n c) := fun c hc => by rw [b7 _ (by omega), b6 _ (by omega), b5 _ (by omega), c4 c hc, b3 _ (by omega), b2 _ (by omega), b1 _ (by omega)]
  have k5 : ∀ l c, l < 3 → c < 41 → V7 (ga + 5) (41 * l + c) = V (ga + 5) (41 * l + rv n c) := fun l c hl hc => by rw [b7 _ (by omega), b6 _ (by omega), c5 l c (by omega) hl hc, b4 _ (by omega), b3 _ (by omega), b2 _ (by omega), b1 _ (by omega)]
  have s5 : ∀ z, (z < ga + 1 ∨ ga + 5 < z) → V5 z = V z := fun z hz => by rw [b5 z (by omega), b4 z (by omega), b3 z (by omega), b2 z (by omega), b1 z (by omega)]
  have k9 : ∀ i, i < 6 → V7 (ga + 9) i = V ga 0 - V (ga + 9) i := fun i hi => by rw [b7 _ (by omega), c6 i (by omega) hi, s5 _ (by omega), s5 _ (by omega)]
  have k13 : ∀ c, c < 41 → V7 (ga + 12 + 1) c = V (ga + 13) (rv n c) := fun c hc => by rw [c7 c hc, b6 _ (by omega), s5 _ (by omega)]
  have s0 : V7 ga = V ga := e _ (by omega) (by omega) (by omega)
  have s12 : V7 (ga + 12) = V (ga + 12) := e _ (by omega) (by omega) (by omega)
  have hend : ∀ V8 : sj_VV, (∀ z, z ≠ ga + 12 → V8 z = V7 z) → (V (ga + 12) 1 = -1 → V8 (ga + 12) = V (ga + 12)) → (V (ga + 12) 1 ≠ -1 → V8 (ga + 12) 1 = V ga 0 - V (ga + 12) 2 ∧ V8 (ga + 12) 2 = V ga 0 - V (ga + 12) 1 ∧ V8 (ga + 12) 3 = 1 - V (ga + 12) 3) → Fr ga (ga + 14) V V8 ∧ TG V V8 ga n := by
    intro V8 u t1 t2
    refine ⟨fun z hz => by rw [u z (by omega), e z (by omega) (by omega) (by omega)], by rw [u _ (by omega), s0], fun k k1' k2' c hc => ?_, fun l c hl hc => by rw [u _ (by omega)]; exact k5 l c hl hc, ⟨by rw [u _ (by omega), e _ (by omega) (by omega) (by omega)], by rw [u _ (by omega), e _ (by omega) (by omega) (by omega)], by rw [u _ (by omega), e _ (by omega) (by omega) (by omega)], by rw [u _ (by omega), e _ (by omega) (by omega) (by omega)], by rw [u _ (by omega), e _ (by omega) (by omega) (by omega)]⟩, fun i hi => by rw [u _ (by omega)]; exact k9 i hi, fun c hc => by rw [u _ (by omega)]; exact k13 c hc, t1, t2⟩
    rw [u _ (by omega)]
    rcases (show k = 1 ∨ k = 2 ∨ k = 3 ∨ k = 4 by omega) with z | z | z | z
    · subst z; exact k1 c hc
    · subst z; exact k2 c hc
    · subst z; exact k3 c hc
    · subst z; exact k4 c hc
  rw [a1', k_cs, a2', k_cs, a3', k_cs, a4', k_cs, a5', a6']
  show ∃ V', g_X0_turn_64_b N (g_X0_turn_64 N 0) ga 6 V6 = some ((), V') ∧ _
  unfold g_X0_turn_64_b
  rw [k_leT (by omega) ⟨by omega, by omega⟩ ⟨by omega, by omega⟩, a7', k_cs]
  by_cases z0 : w 320 = -1
  · have hS := hR.2.2.2.2.1 z0
    have hno : g_X5_isNone N (ga + 12) V7 = some (1, V7) := by
      unfold g_X5_isNone
      rw [s12, hS.1, k_leF (by omega) ⟨by omega, by omega⟩ ⟨by omega, by omega⟩, k_zs (Or.inr rfl)]
    rw [hno, k_cs, k_eqF (by omega) ⟨by omega, by omega⟩ ⟨by omega, by omega⟩]
    exact ⟨V7, rfl, hend V7 (fun _ _ => rfl) (fun _ => s12) (fun z => absurd hS.1 z)⟩
  · have hS := hR.2.2.2.2.2 z0
    have hb := (hR.2.1.bb z0).2
    have hno : g_X5_isNone N (ga + 12) V7 = some (0, V7) := by
      unfold g_X5_isNone
      rw [s12, hS.1, k_leT (by omega) ⟨by omega, by omega⟩ ⟨by omega, by have := hb.1; have := hb.2.1; omega⟩, k_zs (Or.inl rfl)]
    rw [hno, k_cs, k_eqT rfl, k_lt, k_lt, k_lt]
    have l3 : V (ga + 12) 3 = 0 ∨ V (ga + 12) 3 = 1 := hR.2.2.2.1
    rw [up_nk _ _ _ (show 3 ≠ 1 by omega), up_nk _ _ _ (show 3 ≠ 2 by omega), s12, s0]
    obtain ⟨V8, d8⟩ : ∃ V8, V8 = sj_up (sj_up V7 (ga + 12) 2 (V ga 0 - V (ga + 12) 1)) (ga + 12) 1 (V ga 0 - V (ga + 12) 2) := ⟨_, rfl⟩
    rw [← d8]
    have y1 : V8 (ga + 12) 1 = V ga 0 - V (ga + 12) 2 := by rw [d8, up_ss]
    have y2 : V8 (ga + 12) 2 = V ga 0 - V (ga + 12) 1 := by rw [d8, up_nk _ _ _ (by omega), up_ss]
    have y0 : ∀ z, z ≠ ga + 12 → V8 z = V7 z := fun z hz => by rw [d8, up_row _ _ _ hz, up_row _ _ _ hz]
    have nn : V (ga + 12) 1 ≠ -1 := by rw [hS.1]; omega
    rcases l3 with l | l
    · rw [k_eqT l, k_zz (Or.inr rfl), k_lt]
      exact ⟨_, rfl, hend _ (fun z hz => by rw [up_row _ _ _ hz, y0 z hz]) (fun z => absurd z nn) (fun _ => ⟨by rw [up_nk _ _ _ (by omega)]; exact y1, by rw [up_nk _ _ _ (by omega)]; exact y2, by rw [up_ss, l]; rfl⟩)⟩
    · rw [k_eqF (by omega) ⟨by omega, by omega⟩ ⟨by omega, by omega⟩, k_zz (Or.inl rfl), k_lt]
      exact ⟨_, rfl, hend _ (fun z hz => by rw [up_row _ _ _ hz, y0 z hz]) (fun z => absurd z nn) (fun _ => ⟨by rw [up_nk _ _ _ (by omega)]; exact y1, by rw [up_nk _ _ _ (by omega)]; exact y2, by rw [up_ss, l]; rfl⟩)⟩
end Mirror2
