/-! SIZE, DIG: acts -/
def wBeg (w : sj_R) (n d : Int) : sj_R := fun j => if j = 0 then n else if j = 1 then d else if 3 ≤ j ∧ j < 44 then 20 else if 290 ≤ j ∧ j < 302 then (if j % 3 = 2 then 20 else if j % 3 = 0 then 10 else 300) else if j = 320 then -1 else if j < 364 then 0 else w j
section Size
variable {V Vk V1 V2 V3 : sj_VV} {a b ga N : Nat} {n d x1 x2 : Int} {w w' : sj_R}
theorem wBeg_0 (w : sj_R) (n d : Int) : wBeg w n d 0 = n := rfl
theorem wBeg_1 (w : sj_R) (n d : Int) : wBeg w n d 1 = d := rfl
theorem wBeg_g (w : sj_R) (n d : Int) {j : Nat} (h : 3 ≤ j ∧ j < 44) : wBeg w n d j = 20 := by unfold wBeg; rw [if_neg (by omega), if_neg (by omega), if_pos h]
theorem wBeg_z (w : sj_R) (n d : Int) {j : Nat} (h : j = 2 ∨ (44 ≤ j ∧ j < 290) ∨ (302 ≤ j ∧ j < 320) ∨ (321 ≤ j ∧ j < 364)) : wBeg w n d j = 0 := by unfold wBeg; rw [if_neg (by omega), if_neg (by omega), if_neg (by omega), if_neg (by omega), if_neg (by omega), if_pos (by omega)]
theorem wBeg_s (w : sj_R) (n d : Int) {l : Nat} (h : l < 4) : wBeg w n d (290 + 3 * l) = 20 ∧ wBeg w n d (291 + 3 * l) = 10 ∧ wBeg w n d (292 + 3 * l) = 300 := by
  unfold wBeg
  refine ⟨?_, ?_, ?_⟩
  · rw [if_neg (by omega), if_neg (by omega), if_neg (by omega), if_pos (by omega), if_pos (by omega)]
  · rw [if_neg (by omega), if_neg (by omega), if_neg (by omega), if_pos (by omega), if_neg (by omega), if_pos (by omega)]
  · rw [if_neg (by omega), if_neg (by omega), if_neg (by omega), if_pos (by omega), if_neg (by omega), if_neg (by omega)]
theorem wBeg_f (w : sj_R) (n d : Int) : wBeg w n d 320 = -1 := rfl
theorem wBeg_o (w : sj_R) (n d : Int) {j : Nat} (h : 364 ≤ j) : wBeg w n d j = w j := by unfold wBeg; rw [if_neg (by omega), if_neg (by omega), if_neg (by omega), if_neg (by omega), if_neg (by omega), if_neg (by omega)]
theorem WB.beg (w : sj_R) (hn : 4 ≤ n ∧ n ≤ 40) (hd : 1 ≤ d ∧ d ≤ 10) : WB 500 200 1500 (wBeg w n d) := by
  refine ⟨hn, hd, by rw [wBeg_z _ _ _ (by omega)]; omega, fun c hc => ?_, fun i hi => by rw [wBeg_z _ _ _ (by omega)]; omega, fun l hl => ?_, fun i hi => ?_⟩
  · rw [wBeg_z _ _ _ (by omega), wBeg_g _ _ _ (by omega), wBeg_z _ _ _ (by omega), wBeg_z _ _ _ (by omega)]; omega
  · obtain ⟨h1, h2, h3⟩ := wBeg_s w n d hl
    rw [h1, h2, h3]; omega
  · rw [wBeg_z _ _ _ (by omega)]
    exact ⟨by omega, fun h => absurd h (by omega)⟩
theorem c_begin (w : sj_R) (hN : 200 ≤ N) : ∃ V', g_X0_begin N ga n d V = some ((), V') ∧ Fr ga (ga + 14) V V' ∧ CG V' ga (wBeg w n d) ∧ V' (ga + 12) 1 = -1 ∧ V' (ga + 12) 2 = -1 ∧ V' (ga + 12) 3 = V (ga + 12) 3 := by
  unfold g_X0_begin
  rw [k_lt, k_lt, k_lt]
  obtain ⟨V3, d3⟩ : ∃ V3, V3 = sj_up (sj_up (sj_up V ga 0 n) ga 1 d) ga 2 0 := ⟨_, rfl⟩
  rw [← d3]
  obtain ⟨V4, a4, b4, c4, _⟩ := fill_eq (N := N) (V := V3) (x0 := ga + 1) (n := 41) (v := 20) (by omega) (by omega)
  obtain ⟨V5, a5, b5, c5, _⟩ := fill_eq (N := N) (V := V4) (x0 := ga + 2) (n := 41) (v := 0) (by omega) (by omega)
  obtain ⟨V6, a6, b6, c6, _⟩ := fill_eq (N := N) (V := V5) (x0 := ga + 3) (n := 41) (v := 0) (by omega) (by omega)
  obtain ⟨V7, a7, b7, c7, _⟩ := fill_eq (N := N) (V := V6) (x0 := ga + 4) (n := 41) (v := 0) (by omega) (by omega)
  obtain ⟨V8, a8, b8, c8, _⟩ := fill_eq (N := N) (V := V7) (x0 := ga + 5) (n := 123) (v := 0) (by omega) (by omega)
  obtain ⟨V9, a9, b9, c9, _⟩ := fill_eq (N := N) (V := V8) (x0 := ga + 6) (n := 4) (v := 20) (by omega) (by omega)
  obtain ⟨V10, a10, b10, c10, _⟩ := fill_eq (N := N) (V := V9) (x0 := ga + 7) (n := 4) (v := 10) (by omega) (by omega)
  obtain ⟨V11, a11, b11, c11, _⟩ := fill_eq (N := N) (V := V10) (x0 := ga + 8) (n := 4) (v := 300) (by omega) (by omega)
  obtain ⟨V12, a12, b12, c12, _⟩ := fill_eq (N := N) (V := V11) (x0 := ga + 11) (n := 6) (v := 0) (by omega) (by omega)
  rw [a4, k_cs, a5, k_cs, a6, k_cs, a7, k_cs, a8, k_cs, a9, k_cs, a10, k_cs, a11, k_cs, a12, k_cs, drop_eq, k_cs]
  obtain ⟨V13, d13⟩ : ∃ V13, V13 = sj_up (sj_up V12 (ga + 12) 1 (-1)) (ga + 12) 2 (-1) := ⟨_, rfl⟩
  rw [← d13]
  have b13 : ∀ z, z ≠ ga + 12 → V13 z = V12 z := fun z hz => by rw [d13, up_row _ _ _ hz, up_row _ _ _ hz]
  have b3 : ∀ z, z ≠ ga → V3 z = V z := fun z hz => by rw [d3, up_row _ _ _ hz, up_row _ _ _ hz, up_row _ _ _ hz]
  have s12 : V12 (ga + 12) = V (ga + 12) := by rw [b12 _ (by omega), b11 _ (by omega), b10 _ (by omega), b9 _ (by omega), b8 _ (by omega), b7 _ (by omega), b6 _ (by omega), b5 _ (by omega), b4 _ (by omega), b3 _ (by omega)]
  have e0 : V13 ga = V3 ga := by rw [b13 _ (by omega), b12 _ (by omega), b11 _ (by omega), b10 _ (by omega), b9 _ (by omega), b8 _ (by omega), b7 _ (by omega), b6 _ (by omega), b5 _ (by omega), b4 _ (by omega)]
  have e1 : V13 (ga + 1) = V4 (ga + 1) := by rw [b13 _ (by omega), b12 _ (by omega), b11 _ (by omega), b10 _ (by omega), b9 _ (by omega), b8 _ (by omega), b7 _ (by omega), b6 _ (by omega), b5 _ (by omega)]
  have e2 : V13 (ga + 2) = V5 (ga + 2) := by rw [b13 _ (by omega), b12 _ (by omega), b11 _ (by omega), b10 _ (by omega), b9 _ (by omega), b8 _ (by omega), b7 _ (by omega), b6 _ (by omega)]
  have e3 : V13 (ga + 3) = V6 (ga + 3) := by rw [b13 _ (by omega), b12 _ (by omega), b11 _ (by omega), b10 _ (by omega), b9 _ (by omega), b8 _ (by omega), b7 _ (by omega)]
  have e4 : V13 (ga + 4) = V7 (ga + 4) := by rw [b13 _ (by omega), b12 _ (by omega), b11 _ (by omega), b10 _ (by omega), b9 _ (by omega), b8 _ (by omega)]
  have e5 : V13 (ga + 5) = V8 (ga + 5) := by rw [b13 _ (by omega), b12 _ (by omega), b11 _ (by omega), b10 _ (by omega), b9 _ (by omega)]
  have e6 : V13 (ga + 6) = V9 (ga + 6) := by rw [b13 _ (by omega), b12 _ (by omega), b11 _ (by omega), b10 _ (by omega)]
  have e7 : V13 (ga + 7) = V10 (ga + 7) := by rw [b13 _ (by omega), b12 _ (by omega), b11 _ (by omega)]
  have e8 : V13 (ga + 8) = V11 (ga + 8) := by rw [b13 _ (by omega), b12 _ (by omega)]
  have e11 : V13 (ga + 11) = V12 (ga + 11) := b13 _ (by omega)
  refine ⟨V13, rfl, fun z hz => ?_, ⟨⟨?_, ?_, ?_⟩, fun c hc => ?_, fun i hi => ?_, fun l hl => ?_, fun i hi => ?_⟩, ?_, ?_, ?_⟩
  · rw [b13 _ (by omega), b12 _ (by omega), b11 _ (by omega), b10 _ (by omega), b9 _ (by omega), b8 _ (by omega), b7 _ (by omega), b6 _ (by omega), b5 _ (by omega), b4 _ (by omega), b3 _ (by omega)]
  · rw [e0, d3, up_nk _ _ _ (by omega), up_nk _ _ _ (by omega), up_ss, wBeg_0]
  · rw [e0, d3, up_nk _ _ _ (by omega), up_ss, wBeg_1]
  · rw [e0, d3, up_ss, wBeg_z _ _ _ (by omega)]
  · rw [e1, e2, e3, e4, c4 c hc, c5 c hc, c6 c hc, c7 c hc, wBeg_g _ _ _ (by omega), wBeg_z _ _ _ (by omega), wBeg_z _ _ _ (by omega), wBeg_z _ _ _ (by omega)]
    exact ⟨rfl, rfl, rfl, rfl⟩
  · rw [e5, c8 i hi, wBeg_z _ _ _ (by omega)]
  · obtain ⟨h1, h2, h3⟩ := wBeg_s w n d hl
    rw [e6, e7, e8, c9 l hl, c10 l hl, c11 l hl, h1, h2, h3]
    exact ⟨rfl, rfl, rfl⟩
  · rw [e11, c12 i hi, wBeg_z _ _ _ (by omega)]
    exact ⟨rfl, fun h => absurd h (by omega)⟩
  · rw [d13, up_nk _ _ _ (by omega), up_ss]
  · rw [d13, up_ss]
  · rw [d13, up_nk _ _ _ (by omega), up_nk _ _ _ (by omega), s12]
theorem RG.beg {V' : sj_VV} (w : sj_R) (hn : 4 ≤ n ∧ n ≤ 40) (hd : 1 ≤ d ∧ d ≤ 10) (hC : CG V' ga (wBeg w n d)) (h1 : V' (ga + 12) 1 = -1) (h2 : V' (ga + 12) 2 = -1) (h3 : V' (ga + 12) 3 = 0 ∨ V' (ga + 12) 3 = 1) : RG V' ga (wBeg w n d) :=
  ⟨WB.beg w hn hd, ⟨Or.inl (wBeg_z _ _ _ (by omega)), Or.inl (wBeg_f _ _ _)⟩, hC, h3, fun _ => ⟨h1, h2⟩, fun z => absurd (wBeg_f w n d) z⟩
theorem m_beg62 : ∀ (m l : Nat) (V : sj_VV), l ≤ 4 → 4 - l < m → (∀ k, k < l → V (b + 1) (290 + 3 * k) = 20 ∧ V (b + 1) (291 + 3 * k) = 10 ∧ V (b + 1) (292 + 3 * k) = 300) → ∃ V', g_X9_begins_62 N m b l V = some ((), V') ∧ (∀ z, z ≠ b + 1 → V' z = V z) ∧ (∀ k, k < 4 → V' (b + 1) (290 + 3 * k) = 20 ∧ V' (b + 1) (291 + 3 * k) = 10 ∧ V' (b + 1) (292 + 3 * k) = 300) ∧ V' (b + 1) 320 = -1 ∧ ∀ j, (j < 290 ∨ 302 ≤ j) → j ≠ 320 → V' (b + 1) j = V (b + 1) j
  | 0, _, _, _, h, _ => absurd h (by omega)
  | m + 1, l, V, h1, h2, hb => by
    unfold g_X9_begins_62 g_X9_begins_62_b
    by_cases hl : l = 4
    · subst hl
      rw [k_leT (by omega) ⟨by omega, by omega⟩ ⟨by omega, by omega⟩, k_ix (by omega) (by omega), k_lt, show (320 : Int).toNat = 320 from rfl]
      refine ⟨_, rfl, fun z hz => up_row _ _ _ hz, fun k hk => ?_, up_ss _ _ _ _, fun j _ hj => up_nk _ _ _ hj⟩
      rw [up_nk _ _ _ (by omega), up_nk _ _ _ (by omega), up_nk _ _ _ (by omega)]
      exact hb k hk
    · rw [k_leF (by omega) ⟨by omega, by omega⟩ ⟨by omega, by omega⟩, k_ix (by omega) (by omega), k_lt, k_ix (by omega) (by omega), k_lt, k_ix (by omega) (by omega), k_lt, k_lt, show (290 + 3 * (l : Int)).toNat = 290 + 3 * l by omega, show (290 + 3 * (l : Int) + 1).toNat = 291 + 3 * l by omega, show (290 + 3 * (l : Int) + 2).toNat = 292 + 3 * l by omega]
      obtain ⟨V2, d2⟩ : ∃ V2, V2 = sj_up (sj_up (sj_up V (b + 1) (290 + 3 * l) 20) (b + 1) (291 + 3 * l) 10) (b + 1) (292 + 3 * l) 300 := ⟨_, rfl⟩
      rw [← d2]
      have q1 : ∀ z, z ≠ b + 1 → V2 z = V z := fun z hz => by rw [d2, up_row _ _ _ hz, up_row _ _ _ hz, up_row _ _ _ hz]
      have q2 : ∀ j, (j < 290 + 3 * l ∨ 293 + 3 * l ≤ j) → V2 (b + 1) j = V (b + 1) j := fun j hj => by rw [d2, up_nk _ _ _ (by omega), up_nk _ _ _ (by omega), up_nk _ _ _ (by omega)]
      obtain ⟨V3, r1, r2, r3, r4, r5⟩ := m_beg62 m (l + 1) V2 (by omega) (by omega) (fun k hk => by
        by_cases z : k = l
        · subst z
          refine ⟨?_, ?_, ?_⟩
          · rw [d2, up_nk _ _ _ (by omega), up_nk _ _ _ (by omega), up_ss]
          · rw [d2, up_nk _ _ _ (by omega), up_ss]
          · rw [d2, up_ss]
        · rw [q2 _ (by omega), q2 _ (by omega), q2 _ (by omega)]
          exact hb k (by omega))
      exact ⟨V3, r1, fun z hz => (r2 z hz).trans (q1 z hz), r3, r4, fun j j1 j2 => (r5 j j1 j2).trans (q2 j (by omega))⟩
theorem m_beg38 : ∀ (m c : Nat) (V : sj_VV), c ≤ 41 → 41 - c < m → (∀ k, k < c → V (b + 1) (3 + k) = 20) → ∃ V', g_X9_begins_38 N m b c V = g_X9_begins_62 N N b 0 V' ∧ (∀ z, z ≠ b + 1 → V' z = V z) ∧ (∀ k, k < 41 → V' (b + 1) (3 + k) = 20) ∧ ∀ j, (j < 3 ∨ 44 ≤ j) → V' (b + 1) j = V (b + 1) j
  | 0, _, _, _, h, _ => absurd h (by omega)
  | m + 1, c, V, h1, h2, hb => by
    unfold g_X9_begins_38 g_X9_begins_38_b
    by_cases hc : c = 41
    · subst hc
      rw [k_leT (by omega) ⟨by omega, by omega⟩ ⟨by omega, by omega⟩]
      exact ⟨V, rfl, fun _ _ => rfl, hb, fun _ _ => rfl⟩
    · rw [k_leF (by omega) ⟨by omega, by omega⟩ ⟨by omega, by omega⟩, k_ix (by omega) (by omega), k_lt, k_lt, show (3 + (c : Int)).toNat = 3 + c by omega]
      obtain ⟨V3, r1, r2, r3, r5⟩ := m_beg38 m (c + 1) (sj_up V (b + 1) (3 + c) 20) (by omega) (by omega) (fun k hk => by
        by_cases z : k = c
        · subst z; rw [up_ss]
        · rw [up_nk _ _ _ (by omega)]; exact hb k (by omega))
      exact ⟨V3, r1, fun z hz => (r2 z hz).trans (up_row _ _ _ hz), r3, fun j hj => (r5 j hj).trans (up_nk _ _ _ (by omega))⟩
theorem m_beg2 (hN : 1000 ≤ N) : ∀ (m c : Nat) (V : sj_VV), c ≤ 364 → 364 - c < m → (∀ k, k < c → V (b + 1) k = 0) → ∃ V', g_X9_begins_2 N m b n d c V = some ((), V') ∧ (∀ z, z ≠ b + 1 → V' z = V z) ∧ V' (b + 1) = wBeg (V (b + 1)) n d
  | 0, _, _, _, h, _ => absurd h (by omega)
  | m + 1, c, V, h1, h2, hb => by
    unfold g_X9_begins_2 g_X9_begins_2_b
    by_cases hc : c = 364
    · subst hc
      rw [k_leT (by omega) ⟨by omega, by omega⟩ ⟨by omega, by omega⟩, k_ix (by omega) (by omega), k_lt, k_ix (by omega) (by omega), k_lt, show (0 : Int).toNat = 0 from rfl, show (1 : Int).toNat = 1 from rfl]
      obtain ⟨V2, d2⟩ : ∃ V2, V2 = sj_up (sj_up V (b + 1) 0 n) (b + 1) 1 d := ⟨_, rfl⟩
      rw [← d2]
      have q1 : ∀ z, z ≠ b + 1 → V2 z = V z := fun z hz => by rw [d2, up_row _ _ _ hz, up_row _ _ _ hz]
      have q2 : ∀ j, j ≠ 0 → j ≠ 1 → V2 (b + 1) j = V (b + 1) j := fun j j0 j1 => by rw [d2, up_nk _ _ _ j1, up_nk _ _ _ j0]
      have q3 : V2 (b + 1) 0 = n := by rw [d2, up_nk _ _ _ (by omega), up_ss]
      have q4 : V2 (b + 1) 1 = d := by rw [d2, up_ss]
      obtain ⟨V3, r1, r2, r3, r4⟩ := m_beg38 (N := N) (b := b) N 0 V2 (by omega) (by omega) (fun k hk => by omega)
      obtain ⟨V4, s1, s2, s3, s4, s5⟩ := m_beg62 (N := N) (b := b) N 0 V3 (by omega) (by omega) (fun k hk => by omega)
      refine ⟨V4, r1.trans s1, fun z hz => by rw [s2 z hz, r2 z hz, q1 z hz], funext fun j => ?_⟩
      by_cases c0 : j = 0
      · subst c0; rw [s5 _ (by omega) (by omega), r4 _ (by omega), q3, wBeg_0]
      by_cases c1 : j = 1
      · subst c1; rw [s5 _ (by omega) (by omega), r4 _ (by omega), q4, wBeg_1]
      by_cases c2 : 3 ≤ j ∧ j < 44
      · have := r3 (j - 3) (by omega)
        rw [show 3 + (j - 3) = j by omega] at this
        rw [s5 _ (by omega) (by omega), this, wBeg_g _ _ _ c2]
      by_cases c3 : 290 ≤ j ∧ j < 302
      · obtain ⟨l, hl⟩ : ∃ l, l = (j - 290) / 3 := ⟨_, rfl⟩
        obtain ⟨e1, e2, e3⟩ := wBeg_s (V (b + 1)) n d (l := l) (by omega)
        obtain ⟨f1, f2, f3⟩ := s3 l (by omega)
        rcases (show j = 290 + 3 * l ∨ j = 291 + 3 * l ∨ j = 292 + 3 * l by omega) with z | z | z
        · rw [z, f1, e1]
        · rw [z, f2, e2]
        · rw [z, f3, e3]
      by_cases c4 : j = 320
      · subst c4; rw [s4, wBeg_f]
      by_cases c5 : j < 364
      · rw [s5 _ (by omega) c4, r4 _ (by omega), q2 _ c0 c1, hb j c5, wBeg_z _ _ _ (by omega)]
      · rw [s5 _ (by omega) c4, r4 _ (by omega), q2 _ c0 c1, wBeg_o _ _ _ (by omega)]
    · rw [k_leF (by omega) ⟨by omega, by omega⟩ ⟨by omega, by omega⟩, k_ix (by omega) (by omega), k_lt, k_lt, tn0]
      obtain ⟨V3, r1, r2, r3⟩ := m_beg2 hN m (c + 1) (sj_up V (b + 1) c 0) (by omega) (by omega) (fun k hk => by
        by_cases z : k = c
        · subst z; rw [up_ss]
        · rw [up_nk _ _ _ (by omega)]; exact hb k (by omega))
      refine ⟨V3, r1, fun z hz => (r2 z hz).trans (up_row _ _ _ hz), ?_⟩
      rw [r3]
      funext j
      unfold wBeg
      by_cases z : j = c
      · subst z
        repeat' split
        all_goals first | rfl | omega
      · rw [up_nk _ _ _ z]
theorem m_begins (hN : 1000 ≤ N) : ∃ V', g_X9_begins N b n d V = some ((), V') ∧ (∀ z, z ≠ b + 1 → V' z = V z) ∧ V' (b + 1) = wBeg (V (b + 1)) n d := by
  unfold g_X9_begins
  exact m_beg2 hN N 0 V (by omega) (by omega) (fun k hk => by omega)
theorem INV.acted (hI : INV V a b) (hab : b = a + 189) (k1 : ∀ z, z ≠ a → (z < a + 77 + 14 * (V a 14).toNat ∨ a + 91 + 14 * (V a 14).toNat ≤ z) → Vk z = V z) (k2 : ∀ j, j ≠ 13 → j ≠ 14 → Vk a j = V a j) (k3 : Vk a 14 = (V a 14 + 1) % 8) (k4 : Vk a 13 = min 8 (V a 13 + 1)) (k5 : RG Vk (a + 77 + 14 * (V a 14).toNat) (V (b + 1))) (f1 : Fr (a + 1) (a + 15) Vk V1) (hR : RG V1 (a + 1) w') (m1 : ∀ z, z ≠ b → z ≠ b + 4 → V2 z = V1 z) (m2 : V2 b 4 = min 8 (V1 b 4 + 1)) (m3 : ∀ j, j ≠ 4 → V2 b j = V1 b j) (m4 : ∀ q, q < 364 → V2 (b + 4) (364 * (V2 b 4 - 1).toNat + q) = V1 (b + 1) q) (m5 : ∀ i q : Nat, q < 364 → (i : Int) < V2 b 4 - 1 → V2 (b + 4) (364 * i + q) = V1 (b + 4) (364 * (if V1 b 4 = 8 then i + 1 else i) + q)) (f3 : ∀ z, z ≠ b + 1 → V3 z = V2 z) (hw3 : V3 (b + 1) = w') (h3 : ∀ j, 364 ≤ j → j < 390 → w' j = V (b + 1) j) : INV V3 a b := by
  have hU := hI.2.2.1
  have r14 := hU.2.2.1
  have vb : ∀ z, b ≤ z → V1 z = V z := fun z hz => by rw [f1 z (by omega), k1 z (by omega) (by omega)]
  have e : ∀ z, z ≠ b → z ≠ b + 1 → z ≠ b + 4 → z ≠ a → (z < a + 1 ∨ a + 15 ≤ z) → (z < a + 77 + 14 * (V a 14).toNat ∨ a + 91 + 14 * (V a 14).toNat ≤ z) → V3 z = V z := fun z z1 z2 z3 z4 z5 z6 => by rw [f3 z z2, m1 z z1 z3, f1 z (by omega), k1 z z4 z6]
  have ea : V3 a = Vk a := by rw [f3 _ (by omega), m1 _ (by omega) (by omega), f1 _ (by omega)]
  have eb : ∀ j, V3 b j = V2 b j := fun j => by rw [f3 _ (by omega)]
  rw [vb b (by omega)] at m2
  rw [vb (b + 1) (by omega)] at m4
  rw [vb (b + 4) (by omega), vb b (by omega)] at m5
  refine hI.gen ?_ (fun j j1 j2 => by rw [hw3]; exact h3 j j1 j2) ?_ (fun z z1 z2 => e z (by omega) (by omega) (by omega) (by omega) (by omega) (by omega)) (by rw [ea, k2 _ (by omega) (by omega)]) (fun j hj => by rw [eb, m3 j (by omega), vb b (by omega)]) (e _ (by omega) (by omega) (by omega) (by omega) (by omega) (by omega)) (e _ (by omega) (by omega) (by omega) (by omega) (by omega) (by omega)) (e _ (by omega) (by omega) (by omega) (by omega) (by omega) (by omega)) (e _ (by omega) (by omega) (by omega) (by omega) (by omega) (by omega))
  · rw [hw3]
    exact hR.eq (fun z z1 z2 => by rw [f3 z (by omega), m1 z (by omega) (by omega)])
  · refine hU.keep (w0 := V (b + 1)) (by rw [ea]; exact k3) (by rw [ea, k4, hU.1]) (by rw [eb]; exact m2) (k5.eq (fun z z1 z2 => by rw [f3 z (by omega), m1 z (by omega) (by omega), f1 z (by omega)])) (fun z z1 z2 z3 => e z (by omega) (by omega) (by omega) (by omega) (by omega) z3) (fun q hq => by rw [f3 _ (by omega), f3 _ (by omega)]; exact m4 q hq) (fun i q hq hi => by rw [f3 _ (by omega)] at hi; rw [f3 _ (by omega)]; exact m5 i q hq hi)
theorem s_size (hI : INV V a b) (hab : b = a + 189) (h1 : sj_i32 x1) (h2 : sj_i32 x2) (hN : 10000 ≤ N) : ST a b (g_X8_size N a x1 x2) (g_X9_size N b x1 x2) V := by
  have hU := hI.2.2.1
  have r14 := hU.2.2.1
  unfold ST g_X8_size g_X9_size
  rw [k_ltc h1 ⟨by omega, by omega⟩, k_lec ⟨by omega, by omega⟩ h1, k_ltc h2 ⟨by omega, by omega⟩, k_lec h2 ⟨by omega, by omega⟩]
  by_cases q1 : 4 ≤ x1 ∧ x1 ≤ 40
  · by_cases q2 : 1 ≤ x2 ∧ x2 ≤ 10
    · obtain ⟨Vk, k0, k1, k2, k3, k4, k5⟩ := c_keepAct (N := N) hI.1 hU.2.2.1 (by rw [hU.1]; exact hU.2.1)
      obtain ⟨V1, r0, r1, r2, r3, r4, r5⟩ := c_begin (N := N) (ga := a + 1) (n := x1) (d := x2) (V := Vk) (V (b + 1)) (by omega)
      have vb : ∀ z, b ≤ z → V1 z = V z := fun z hz => by rw [r1 z (by omega), k1 z (by omega) (by omega)]
      have sk : Vk (a + 1 + 12) = V (a + 1 + 12) := k1 _ (by omega) (by omega)
      obtain ⟨V2, m0, m1, m2, m3, m4, m5⟩ := m_remembers (N := N) (V := V1) (b := b) (src := b + 1) (by omega) (by omega) (by rw [vb b (by omega)]; exact hU.2.1) hN
      obtain ⟨V3, n0, n1, n2⟩ := m_begins (N := N) (b := b) (n := x1) (d := x2) (V := V2) (by omega)
      have w2 : V2 (b + 1) = V (b + 1) := by rw [m1 _ (by omega) (by omega), vb _ (by omega)]
      rw [if_neg (by omega), if_neg (by omega), if_neg (by omega), if_pos (by omega), k0, k_cs, r0, k_cs, k_zs (Or.inr rfl)]
      refine ⟨_, V1, V3, rfl, ?_, ?_⟩
      · rw [k_wid h1, m_in h1 ⟨by omega, by omega⟩ ⟨by omega, by omega⟩, k_cs, if_pos q1, k_eqF (by omega) ⟨by omega, by omega⟩ ⟨by omega, by omega⟩, k_wid h2, m_in h2 ⟨by omega, by omega⟩ ⟨by omega, by omega⟩, k_cs, if_pos q2, k_eqF (by omega) ⟨by omega, by omega⟩ ⟨by omega, by omega⟩, m0, k_cs, n0, k_cs, k_zs (Or.inr rfl)]
      · rw [w2] at n2
        exact hI.acted hab k1 k2 k3 k4 k5 r1 (RG.beg _ q1 q2 r2 r3 r4 (by rw [r5, sk]; exact hI.1.2.2.2.1)) m1 m2 m3 m4 m5 n1 n2 (fun j j1 _ => wBeg_o _ _ _ j1)
    · refine ⟨0, V, V, ?_, ?_, hI⟩
      · rw [if_neg (by omega), if_neg (by omega)]
        by_cases z : x2 < 1
        · rw [if_pos z]; rfl
        · rw [if_neg z, if_neg (by omega)]; rfl
      · rw [k_wid h1, m_in h1 ⟨by omega, by omega⟩ ⟨by omega, by omega⟩, k_cs, if_pos q1, k_eqF (by omega) ⟨by omega, by omega⟩ ⟨by omega, by omega⟩, k_wid h2, m_in h2 ⟨by omega, by omega⟩ ⟨by omega, by omega⟩, k_cs, if_neg q2, k_eqT rfl, k_zs (Or.inl rfl)]
  · refine ⟨0, V, V, ?_, ?_, hI⟩
    · by_cases z : x1 < 4
      · rw [if_pos z]; rfl
      · rw [if_neg z, if_pos (by omega)]; rfl
    · rw [k_wid h1, m_in h1 ⟨by omega, by omega⟩ ⟨by omega, by omega⟩, k_cs, if_neg q1, k_eqT rfl, k_zs (Or.inl rfl)]
theorem s_dig (hI : INV V a b) (hab : b = a + 189) (h1 : sj_i32 x1) (h2 : sj_i32 x2) (hN : 10000 ≤ N) : ST a b (g_X8_dig N a x1 x2) (g_X9_dig N b x1 x2) V := by
  have hU := hI.2.2.1
  have r14 := hU.2.2.1
  have hR := hI.1
  have hn := hR.1.1
  unfold ST g_X8_dig g_X9_dig
  rw [canLower_eq hR.2.2.1 hR.1 h1 h2, k_cs]
  by_cases q : spCanDig (V (b + 1)) x1 x2
  · obtain ⟨c, hc⟩ : ∃ c : Nat, x1 = c := ⟨x1.toNat, by have := q.1; omega⟩
    subst hc
    obtain ⟨q1, q2, q3, q4⟩ := id q
    rw [tn0] at q3 q4
    obtain ⟨Vk, k0, k1, k2, k3, k4, k5⟩ := c_keepAct (N := N) hI.1 hU.2.2.1 (by rw [hU.1]; exact hU.2.1)
    have gk : Vk (a + 1 + 1) c = V (b + 1) (3 + c) := by rw [k1 _ (by omega) (by omega)]; exact (hR.2.2.1.2.1 c (by omega)).1
    rw [if_pos q, k_eqF (by omega) ⟨by omega, by omega⟩ ⟨by omega, by omega⟩, k0, k_cs, k_ix (by omega) (by omega), k_ix (by omega) (by omega), k_lt, tn0, gk, drop_eq, k_cs, k_ix (by omega) (by omega)]
    obtain ⟨V1, d1⟩ : ∃ V1, V1 = sj_up (sj_up (sj_up Vk (a + 1 + 1) c (V (b + 1) (3 + c) - x2)) (a + 1 + 12) 1 (-1)) (a + 1 + 12) 2 (-1) := ⟨_, rfl⟩
    rw [← d1]
    have r1 : Fr (a + 1) (a + 15) Vk V1 := by rw [d1]; exact ((Fr.rf.up (by omega) (by omega)).up (by omega) (by omega)).up (by omega) (by omega)
    have vb : ∀ z, b ≤ z → V1 z = V z := fun z hz => by rw [r1 z (by omega), k1 z (by omega) (by omega)]
    have hRk : RG Vk (a + 1) (V (b + 1)) := hR.eq (fun z z1 z2 => k1 z (by omega) (by omega))
    have hR1 : RG V1 (a + 1) (wUp (wUp (V (b + 1)) (3 + c) (V (b + 1) (3 + c) - x2)) 320 (-1)) := by
      rw [d1]
      exact (hRk.sl (hR.1.ground (by omega) q3 q4) (hRk.2.2.1.ground (by omega)) (wUp_n _ _ (by omega)) (fun j j1 j2 => wUp_n _ _ (by omega)) (up_row _ _ _ (by omega)) (up_row _ _ _ (by omega))).drop
    have g1 : V1 (a + 1 + 1) c = V (b + 1) (3 + c) - x2 := by rw [d1, up_row _ _ _ (by omega), up_row _ _ _ (by omega), up_ss]
    rw [g1]
    obtain ⟨V2, m0, m1, m2, m3, m4, m5⟩ := m_remembers (N := N) (V := V1) (b := b) (src := b + 1) (by omega) (by omega) (by rw [vb b (by omega)]; exact hU.2.1) hN
    have w2 : V2 (b + 1) = V (b + 1) := by rw [m1 _ (by omega) (by omega), vb _ (by omega)]
    refine ⟨_, V1, sj_up (sj_up V2 (b + 1) (3 + c) (V (b + 1) (3 + c) - x2)) (b + 1) 320 (-1), rfl, ?_, ?_⟩
    · rw [m_canDig (vb _ (by omega)) hR.1 h1 h2, k_cs, if_pos q, k_eqF (by omega) ⟨by omega, by omega⟩ ⟨by omega, by omega⟩, m0, k_cs, k_ix (by omega) (by omega), k_ix (by omega) (by omega), k_lt, k_ix (by omega) (by omega), k_lt, k_ix (by omega) (by omega), show (3 + (c : Int)).toNat = 3 + c by omega, show (320 : Int).toNat = 320 from rfl, w2, up_nk _ _ _ (by omega), up_ss]
    · exact hI.acted hab k1 k2 k3 k4 k5 r1 hR1 m1 m2 m3 m4 m5 (fun z hz => by rw [up_row _ _ _ hz, up_row _ _ _ hz]) (up_wUp (up_wUp w2 _ _) _ _) (fun j j1 _ => by rw [wUp_n _ _ (by omega), wUp_n _ _ (by omega)])
  · rw [if_neg q, k_eqT rfl]
    refine ⟨_, V, V, rfl, ?_, hI⟩
    rw [m_canDig rfl hR.1 h1 h2, k_cs, if_neg q, k_eqT rfl]
end Size
