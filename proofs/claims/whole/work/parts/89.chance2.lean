section Chance2
variable {V V1 V2 : sj_VV} {a b f t N : Nat} {w w' : sj_R} {wd s k lf x1 x2 : Int} {bs : Nat → Int}
theorem c_ch54 {n : Nat} (hn : n ≤ 40) (hB : WB 500 200 1500 w) (hb : BB f t lf bs) (hk : 1 ≤ k ∧ k ≤ 20000) (hwd : 0 ≤ wd ∧ wd ≤ 50) (hN : 50 ≤ N) : ∀ (m i : Nat) (F s : Int) (V : sj_VV), i ≤ n → n - i < m → V (a + 43) 3 = s → CG V (a + 1) w → V (a + 15) 2 = w 2 → WD V (a + 54) w f t lf bs → ∃ V1, g_X8_chance_54 N m a n wd k F i V = some (F + spChN w f t lf bs wd k (n - i) s, V1) ∧ V1 (a + 43) 3 = sEnd (n - i) s ∧ Fch a V V1
  | 0, _, _, _, _, _, h, _, _, _, _ => absurd h (by omega)
  | m + 1, i, F, s, V, h1, h2, h3, hC, hq, hW => by
    unfold g_X8_chance_54 g_X8_chance_54_b
    by_cases hi : i = n
    · subst hi
      rw [k_leT (by omega) ⟨by omega, by omega⟩ ⟨by omega, by omega⟩, Nat.sub_self, spChN, sEnd, Int.add_zero]
      exact ⟨V, rfl, h3, Fch.rf⟩
    · obtain ⟨V2, r1, r2, r3, r4⟩ := c_ch63 (N := N) (a := a) (s := s) (n := (n : Int)) (i := (i : Int)) (F := F) hB hb hk hwd hN (g_X8_chance_54 N m) N 0 V (by omega) (by omega) h3 (fun j hj => by omega) hC hq hW
      have r1' : g_X8_chance_63 N (g_X8_chance_54 N m) N a n wd k F i 0 V = _ := r1
      obtain ⟨V3, s1, s2, s3⟩ := c_ch54 hn hB hb hk hwd hN m (i + 1) (F + spFal w f t lf bs wd k s) (itS 8 s) V2 (by omega) (by omega) r2 (hC.fr (lo := a + 15) (hi := a + 63) (fun z hz => r3.1 z (by omega) (by omega) (by omega) (by omega)) (by omega)) (by rw [r3.1 _ (by omega) (by omega) (by omega) (by omega)]; exact hq) r4
      rw [k_leF (by omega) ⟨by omega, by omega⟩ ⟨by omega, by omega⟩, r1', show n - i = (n - (i + 1)) + 1 by omega, spChN, sEnd, ← Int.add_assoc]
      exact ⟨V3, s1, s2, r3.tr s3⟩
theorem c_chance (hR : RG V (a + 1) w) (h1 : sj_i32 x1) (h2 : sj_i32 x2) (hk : sj_i32 k) (hN : 1000 ≤ N) : (¬ ((1 ≤ x1 ∧ x1 ≤ 40) ∧ (0 ≤ x2 ∧ x2 ≤ 50) ∧ (1 ≤ k ∧ k ≤ 20000) ∧ w 320 ≠ -1) → g_X8_chance N a x1 x2 k V = some (-1, V)) ∧ ((1 ≤ x1 ∧ x1 ≤ 40) ∧ (0 ≤ x2 ∧ x2 ≤ 50) ∧ (1 ≤ k ∧ k ≤ 20000) ∧ w 320 ≠ -1 → ∃ V', g_X8_chance N a x1 x2 k V = some (spChN w (wf w) (wt w) (w 322) (wb w) x2 k x1.toNat (V (a + 43) 3), V') ∧ V' (a + 43) 3 = sEnd x1.toNat (V (a + 43) 3) ∧ TL a V V' ∧ (∀ z, (z < a + 15 ∨ a + 29 ≤ z) → z ≠ a + 43 → (z < a + 54 ∨ a + 63 ≤ z) → V' z = V z) ∧ ∀ j, j ≠ 3 → V' (a + 43) j = V (a + 43) j) := by
  unfold g_X8_chance
  rw [k_ltc h1 ⟨by omega, by omega⟩, k_ltc ⟨by omega, by omega⟩ h1, k_ltc h2 ⟨by omega, by omega⟩, k_ltc ⟨by omega, by omega⟩ h2, isK_eq hk, k_cs]
  constructor
  · intro hn
    by_cases q1 : x1 < 1
    · rw [if_pos q1]
    rw [if_neg q1]
    by_cases q2 : 40 < x1
    · rw [if_pos q2]
    rw [if_neg q2]
    by_cases q3 : x2 < 0
    · rw [if_pos q3]
    rw [if_neg q3]
    by_cases q4 : 50 < x2
    · rw [if_pos q4]
    rw [if_neg q4]
    by_cases q5 : 1 ≤ k ∧ k ≤ 20000
    · have h0 : w 320 = -1 := by
        rcases Int.lt_or_le 0 1 with _ | h
        · by_cases z : w 320 = -1
          · exact z
          · exact absurd ⟨⟨by omega, by omega⟩, ⟨by omega, by omega⟩, q5, z⟩ hn
        · omega
      rw [if_pos q5, k_eqF (by omega) ⟨by omega, by omega⟩ ⟨by omega, by omega⟩, cutUp_0 hR h0, k_cs, k_eqT rfl]
    · rw [if_neg q5, k_eqT rfl]
  · rintro ⟨q1, q2, q3, q4⟩
    obtain ⟨n, hn⟩ : ∃ n : Nat, x1 = n := ⟨x1.toNat, by omega⟩
    subst hn
    have hb := (hR.2.1.bb q4).2
    obtain ⟨V2, r1, r2, r3⟩ := cutUp_1 (N := N) hR q4 (by omega)
    have hR2 : RG V2 (a + 1) w := hR.eq (fun z z1 z2 => r2 z (by omega))
    obtain ⟨V3, s1, s2, s3⟩ := copy_eq (N := N) (a := a + 15) (b := a + 1) (by omega) hR2
    have hW3 : WD V3 (a + 54) w (wf w) (wt w) (w 322) (wb w) := by
      obtain ⟨w1, w2, w3, w4⟩ := r3.1
      refine ⟨by rw [s2 _ (by omega)]; exact w1, by rw [s2 _ (by omega)]; exact w2, by rw [s2 _ (by omega)]; exact w3, fun j hj => ?_⟩
      obtain ⟨v1, v2, v3, v4⟩ := w4 j hj
      exact ⟨by rw [s2 _ (by omega)]; exact v1, by rw [s2 _ (by omega)]; exact v2, by rw [s2 _ (by omega)]; exact v3, by rw [s2 _ (by omega)]; exact v4⟩
    obtain ⟨V4, t1, t2, t3⟩ := c_ch54 (N := N) (a := a) (n := n) (by omega) hR.1 hb q3 q2 (by omega) N 0 0 (V (a + 43) 3) V3 (by omega) (by omega) (by rw [s2 _ (by omega), r2 _ (by omega)]) (hR2.2.2.1.fr s2 (by omega)) s3.2.2.1.1.2.2 hW3
    have t1' : g_X8_chance_54 N N a n x2 k 0 0 V3 = _ := t1
    rw [if_neg (by omega), if_neg (by omega), if_neg (by omega), if_neg (by omega), if_pos q3, k_eqF (by omega) ⟨by omega, by omega⟩ ⟨by omega, by omega⟩, r1, k_cs, k_eqF (by omega) ⟨by omega, by omega⟩ ⟨by omega, by omega⟩, s1, k_cs, t1', Int.zero_add, Nat.sub_zero, tn0]
    refine ⟨V4, rfl, t2, fun _ => by rw [t3.1 _ (by omega) (by omega) (by omega) (by omega)]; exact s3.2.2.2.1, fun z z1 z2 z3 => by rw [t3.1 z (by omega) (by omega) z2 z3, s2 z (by omega), r2 z (by omega)], fun j hj => by rw [t3.2 j hj, s2 _ (by omega), r2 _ (by omega)]⟩
/-- the reference's row while a trial is drawn -/
def wDr (w : sj_R) (wd s : Int) (c : Nat) (R : sj_R) : Prop := (∀ j, (j < 291 ∨ 302 ≤ j ∨ j % 3 = 2) → j ≠ 389 → R j = w j) ∧ (∀ l, l < 4 → 2 * l < c → R (291 + 3 * l) = cvS (w (291 + 3 * l)) wd (itS (2 * l) s)) ∧ (∀ l, l < 4 → 2 * l + 1 < c → R (292 + 3 * l) = cvS (w (292 + 3 * l)) wd (itS (2 * l + 1) s)) ∧ R 389 = itS c s
theorem m_ch68 {n i F : Int} (hB : WB 500 200 1500 w) (hwd : 0 ≤ wd ∧ wd ≤ 50) (hN : 50 ≤ N) (K50 : Nat → Int → Int → Int → Int → Int → sj_VV → Option (Int × sj_VV)) (K59 : Nat → Int → Int → Int → Int → Int → Int → sj_VV → Option (Int × sj_VV)) {l : Nat} (hl : l < 4) : ∀ (m c : Nat) (V : sj_VV), c ≤ 2 → 2 - c < m → wDr w wd s (2 * l + c) (V (b + 1)) → (∀ j, j < 390 → V (b + 2) j = w j) → ∃ V1, g_X9_chance_68 N K50 K59 m b n wd k F i l ((c : Int) + 1) V = K59 b n wd k F i ((l + 1 : Nat) : Int) V1 ∧ wDr w wd s (2 * (l + 1)) (V1 (b + 1)) ∧ ∀ z, z ≠ b + 1 → V1 z = V z
  | 0, _, _, _, h, _, _ => absurd h (by omega)
  | m + 1, c, V, h1, h2, hd, ha => by
    unfold g_X9_chance_68 g_X9_chance_68_b
    by_cases hc : c = 2
    · subst hc
      rw [k_leT (by omega) ⟨by omega, by omega⟩ ⟨by omega, by omega⟩, k_lt]
      exact ⟨V, rfl, hd, fun _ _ => rfl⟩
    · obtain ⟨d1, d2, d3, d4⟩ := id hd
      have q6 := hB.2.2.2.2.2.1 l hl
      have g1 := drw_b (itS (2 * l + c) s) (m := 2 * wd + 1) (by omega)
      have hw : 0 ≤ w (291 + 3 * l + c) ∧ w (291 + 3 * l + c) ≤ 1500 := by
        rcases (show c = 0 ∨ c = 1 by omega) with z | z
        · subst z; rw [Nat.add_zero]; omega
        · subst z; rw [show 291 + 3 * l + 1 = 292 + 3 * l by omega]; omega
      have e1 := mul_b (x := w (291 + 3 * l + c)) (y := 100 - wd + drw (itS (2 * l + c) s) (2 * wd + 1)) (X := 1500) (Y := 150) (by omega) (by omega) (by omega) (by omega)
      rw [k_leF (by omega) ⟨by omega, by omega⟩ ⟨by omega, by omega⟩, k_ix (by omega) (by omega), m_draw (by omega), k_cs, d4, show (290 + 3 * (l : Int) + ((c : Int) + 1)).toNat = 291 + 3 * l + c by omega, ha _ (by omega), k_dI ⟨by omega, by omega⟩ ⟨by omega, by omega⟩ (by omega), td10 e1.1, k_ix (by omega) (by omega), k_lt, k_lt]
      obtain ⟨V2, g2⟩ : ∃ V2, V2 = sj_up (sj_up V (b + 1) 389 (nxS (itS (2 * l + c) s))) (b + 1) (291 + 3 * l + c) (w (291 + 3 * l + c) * (100 - wd + drw (itS (2 * l + c) s) (2 * wd + 1)) / 100) := ⟨_, rfl⟩
      rw [← g2]
      have u1 : ∀ j, j ≠ 389 → j ≠ 291 + 3 * l + c → V2 (b + 1) j = V (b + 1) j := fun j j1 j2 => by rw [g2, up_nk _ _ _ j2, up_nk _ _ _ j1]
      have u2 : V2 (b + 1) 389 = itS (2 * l + (c + 1)) s := by rw [g2, up_nk _ _ _ (by omega), up_ss]; rfl
      have u3 : V2 (b + 1) (291 + 3 * l + c) = cvS (w (291 + 3 * l + c)) wd (itS (2 * l + c) s) := by rw [g2, up_ss]; rfl
      have u4 : ∀ z, z ≠ b + 1 → V2 z = V z := fun z hz => by rw [g2, up_row _ _ _ hz, up_row _ _ _ hz]
      obtain ⟨V3, t1, t2, t3⟩ := m_ch68 (n := n) (i := i) (F := F) hB hwd hN K50 K59 hl m (c + 1) V2 (by omega) (by omega) ⟨fun j j1 j2 => by rw [u1 j j2 (by omega)]; exact d1 j j1 j2, fun l' l1 l2 => by
        by_cases z : l' = l ∧ c = 0
        · obtain ⟨z1, z2⟩ := z
          subst z1 z2
          exact u3
        · rw [u1 _ (by omega) (by omega)]; exact d2 l' l1 (by omega), fun l' l1 l2 => by
        by_cases z : l' = l ∧ c = 1
        · obtain ⟨z1, z2⟩ := z
          subst z1 z2
          rw [show 292 + 3 * l' = 291 + 3 * l' + 1 by omega]
          exact u3
        · rw [u1 _ (by omega) (by omega)]; exact d3 l' l1 (by omega), u2⟩ (fun j hj => by rw [u4 _ (by omega)]; exact ha j hj)
      exact ⟨V3, t1, t2, fun z hz => (t3 z hz).trans (u4 z hz)⟩
theorem m_ch59 {n i F : Int} (hB : WB 500 200 1500 w) (hwd : 0 ≤ wd ∧ wd ≤ 50) (hb : BB f t lf bs) (hk : 1 ≤ k ∧ k ≤ 20000) (hN : 50 ≤ N) (K50 : Nat → Int → Int → Int → Int → Int → sj_VV → Option (Int × sj_VV)) : ∀ (m l : Nat) (V : sj_VV), l ≤ 4 → 4 - l < m → wDr w wd s (2 * l) (V (b + 1)) → (∀ j, j < 390 → V (b + 2) j = w j) → SM V b f t lf bs → ∃ V1, g_X9_chance_59 N K50 m b n wd k F i l V = K50 b n wd k (F + spFal w f t lf bs wd k s) (i + 1) V1 ∧ wDr w wd s 8 (V1 (b + 1)) ∧ (∀ z, z ≠ b → z ≠ b + 1 → V1 z = V z) ∧ ∀ j, (j < 6 ∨ 13 ≤ j) → V1 b j = V b j
  | 0, _, _, _, h, _, _, _ => absurd h (by omega)
  | m + 1, l, V, h1, h2, hd, ha, hS => by
    unfold g_X9_chance_59 g_X9_chance_59_b
    by_cases hl : l = 4
    · subst hl
      obtain ⟨d1, d2, d3, d4⟩ := id hd
      -- the row judged is the trial's, but for the state
      have eR : ∀ j, j ≠ 389 → V (b + 1) j = wCh w wd s j := fun j hj => by
        by_cases z1 : 291 ≤ j ∧ j < 302 ∧ j % 3 = 0
        · have := d2 ((j - 291) / 3) (by omega) (by omega)
          have e2 := wCh_h w wd s (l := (j - 291) / 3) (by omega)
          rw [show 291 + 3 * ((j - 291) / 3) = j by omega] at this e2
          rw [this, e2]
        · by_cases z2 : 292 ≤ j ∧ j < 302 ∧ j % 3 = 1
          · have := d3 ((j - 292) / 3) (by omega) (by omega)
            have e2 := wCh_r w wd s (l := (j - 292) / 3) (by omega)
            rw [show 292 + 3 * ((j - 292) / 3) = j by omega] at this e2
            rw [this, e2]
          · rw [d1 j (by omega) hj, wCh_n w wd s (by omega)]
      have hB0 : WB 500 300 2250 (wCh w wd s) := hB.chance hwd
      have hB2 : WB 500 300 2250 (V (b + 1)) := hB0.row (fun j hj => eR j (by omega))
      obtain ⟨V2, r1, r2⟩ := m_isStanding (N := N) (k := k) (a := b) rfl hB2 (by omega) (by omega) (by omega) hN hS hb (by omega)
      have eS : spStd (V (b + 1)) f t lf bs (spPulls (V (b + 1)) f t bs) k = spStd (wCh w wd s) f t lf bs (spPulls w f t bs) k := by
        have e1 : spPulls (V (b + 1)) f t bs = spPulls w f t bs := by
          rw [← ch_pulls w wd s]
          unfold spPulls
          refine spSum_congr 6 (fun j hj => ?_)
          unfold spPull spC1
          rw [eR (304 + 3 * (0 + j)) (by omega), eR (302 + 3 * (0 + j)) (by omega), eR (303 + 3 * (0 + j)) (by omega), eR 1 (by omega)]
        rw [e1]
        have ht := hb.2.1
        exact std_congr (fun c c1 c2 => ⟨eR _ (by omega), eR _ (by omega), eR _ (by omega), fun l hl => eR _ (by omega)⟩) ⟨eR _ (by omega), eR _ (by omega), fun l hl => ⟨eR _ (by omega), eR _ (by omega)⟩⟩ (fun l hl => eR _ (by omega)) _
      rw [k_leT (by omega) ⟨by omega, by omega⟩ ⟨by omega, by omega⟩, r1, k_cs, eS]
      unfold g_X9_chance_151 spFal
      have w2 : V2 (b + 1) = V (b + 1) := r2.w 0
      by_cases hp : spStd (wCh w wd s) f t lf bs (spPulls w f t bs) k = true
      · rw [if_pos hp, if_pos hp, k_eqF (by omega) ⟨by omega, by omega⟩ ⟨by omega, by omega⟩, k_lt, k_lt]
        exact ⟨V2, rfl, by rw [w2]; exact hd, fun z z1 _ => r2.1 z z1, r2.2⟩
      · rw [if_neg hp, if_neg hp, k_eqT rfl, k_lt, k_lt]
        exact ⟨V2, rfl, by rw [w2]; exact hd, fun z z1 _ => r2.1 z z1, r2.2⟩
    · obtain ⟨V2, r1, r2, r3⟩ := m_ch68 (N := N) (b := b) (s := s) (k := k) (n := n) (i := i) (F := F) hB hwd hN K50 (g_X9_chance_59 N K50 m) (l := l) (by omega) N 0 V (by omega) (by omega) hd ha
      have r1' : g_X9_chance_68 N K50 (g_X9_chance_59 N K50 m) N b n wd k F i l 1 V = _ := r1
      have hS2 : SM V2 b f t lf bs := ⟨by rw [r3 _ (by omega)]; exact hS.1, by rw [r3 _ (by omega)]; exact hS.2.1, by rw [r3 _ (by omega)]; exact hS.2.2.1, fun c c1 c2 => by rw [r3 _ (by omega)]; exact hS.2.2.2 c c1 c2⟩
      obtain ⟨V3, t1, t2, t3, t4⟩ := m_ch59 (n := n) (i := i) (F := F) hB hwd hb hk hN K50 m (l + 1) V2 (by omega) (by omega) r2 (fun j hj => by rw [r3 _ (by omega)]; exact ha j hj) hS2
      rw [k_leF (by omega) ⟨by omega, by omega⟩ ⟨by omega, by omega⟩, r1']
      exact ⟨V3, t1, t2, fun z z1 z2 => (t3 z z1 z2).trans (r3 z z2), fun j hj => by rw [t4 j hj, r3 _ (by omega)]⟩
theorem m_ch50 {n : Nat} (hn : n ≤ 40) (hB : WB 500 200 1500 w) (hwd : 0 ≤ wd ∧ wd ≤ 50) (hb : BB f t lf bs) (hk : 1 ≤ k ∧ k ≤ 20000) (hN : 1000 ≤ N) : ∀ (m i : Nat) (F s : Int) (V : sj_VV), i ≤ n → n - i < m → (∀ j, (j < 291 ∨ 302 ≤ j ∨ j % 3 = 2) → j ≠ 389 → V (b + 1) j = w j) → V (b + 1) 389 = s → (∀ j, j < 390 → V (b + 2) j = w j) → SM V b f t lf bs → ∃ V1, g_X9_chance_50 N m b n wd k F i V = some (F + spChN w f t lf bs wd k (n - i) s, V1) ∧ V1 (b + 1) = wUp w 389 (sEnd (n - i) s) ∧ (∀ z, z ≠ b → z ≠ b + 1 → V1 z = V z) ∧ ∀ j, (j < 6 ∨ 13 ≤ j) → V1 b j = V b j
  | 0, _, _, _, _, _, h, _, _, _, _ => absurd h (by omega)
  | m + 1, i, F, s, V, h1, h2, hw, h3, ha, hS => by
    unfold g_X9_chance_50 g_X9_chance_50_b
    by_cases hi : i = n
    · subst hi
      obtain ⟨V2, r1, r2, r3, r4⟩ := m_comesBack (N := N) (a := b) (V := V) hN
      rw [k_leT (by omega) ⟨by omega, by omega⟩ ⟨by omega, by omega⟩, k_ix (by omega) (by omega), k_lt, r1, k_cs, k_ix (by omega) (by omega), k_lt, Nat.sub_self, spChN, sEnd, Int.add_zero, show (389 : Int).toNat = 389 from rfl, h3]
      refine ⟨_, rfl, up_wUp (funext fun j => ?_) _ _, fun z z1 z2 => by rw [up_row _ _ _ z2, r2 z z2], fun j _ => by rw [up_row _ _ _ (by omega), r2 _ (by omega)]⟩
      by_cases hj : j < 390
      · rw [r3 j hj]; exact ha j hj
      · rw [r4 j (by omega)]; exact hw j (by omega) (by omega)
    · obtain ⟨V2, r1, r2, r3, r4⟩ := m_ch59 (N := N) (b := b) (s := s) (n := (n : Int)) (i := (i : Int)) (F := F) hB hwd hb hk (by omega) (g_X9_chance_50 N m) N 0 V (by omega) (by omega) ⟨hw, fun l l1 l2 => by omega, fun l l1 l2 => by omega, h3⟩ ha hS
      have r1' : g_X9_chance_59 N (g_X9_chance_50 N m) N b n wd k F i 0 V = _ := r1
      have hS2 : SM V2 b f t lf bs := ⟨by rw [r4 _ (by omega)]; exact hS.1, by rw [r4 _ (by omega)]; exact hS.2.1, by rw [r4 _ (by omega)]; exact hS.2.2.1, fun c c1 c2 => by rw [r3 _ (by omega) (by omega)]; exact hS.2.2.2 c c1 c2⟩
      obtain ⟨V3, s1, s2, s3, s4⟩ := m_ch50 hn hB hwd hb hk hN m (i + 1) (F + spFal w f t lf bs wd k s) (itS 8 s) V2 (by omega) (by omega) r2.1 r2.2.2.2 (fun j hj => by rw [r3 _ (by omega) (by omega)]; exact ha j hj) hS2
      rw [k_leF (by omega) ⟨by omega, by omega⟩ ⟨by omega, by omega⟩, r1', show n - i = (n - (i + 1)) + 1 by omega, spChN, sEnd, ← Int.add_assoc]
      exact ⟨V3, s1, s2, fun z z1 z2 => (s3 z z1 z2).trans (r3 z z1 z2), fun j hj => (s4 j hj).trans (r4 j hj)⟩
theorem INV.held2 (hI : INV V a b) (hab : b = a + 189) (f1 : ∀ z, (z < a + 15 ∨ a + 29 ≤ z) → (z < a + 43 ∨ a + 46 ≤ z) → (z < a + 54 ∨ a + 77 ≤ z) → z < a + 201 → V1 z = V z) (f7 : TL a V V1) (f2 : Kn b V1 V2) (hw : V2 (b + 1) = w') (h3 : ∀ j, j < 364 → w' j = V (b + 1) j) (hH : HE V1 (a + 43) w') : INV V2 a b := by
  obtain ⟨i1, i2, i3, i4, i5, i6⟩ := hI
  have e : ∀ z, (z < a + 15 ∨ a + 29 ≤ z) → (z < a + 43 ∨ a + 46 ≤ z) → (z < a + 54 ∨ a + 77 ≤ z) → z < a + 201 → z ≠ b → z ≠ b + 1 → z ≠ b + 2 → z ≠ b + 5 → (z < b + 6 ∨ b + 9 ≤ z) → V2 z = V z := fun z z1 z2 z3 z4 z5 z6 z7 z8 z9 => by rw [f2.1 z z5 z6 z7 z8 z9, f1 z z1 z2 z3 z4]
  have ej : ∀ j, (j < 6 ∨ 22 ≤ j) → V2 b j = V b j := fun j hj => by rw [f2.2 j hj, f1 _ (by omega) (by omega) (by omega) (by omega)]
  have ea : V2 a = V a := e _ (by omega) (by omega) (by omega) (by omega) (by omega) (by omega) (by omega) (by omega) (by omega)
  refine ⟨?_, ?_, ?_, ?_, ?_, ?_⟩
  · rw [hw]; exact (i1.eq (fun z z1 z2 => e z (by omega) (by omega) (by omega) (by omega) (by omega) (by omega) (by omega) (by omega) (by omega))).row h3
  · rw [hw]; exact hH.eq (fun z z1 z2 => f2.1 z (by omega) (by omega) (by omega) (by omega) (by omega)) (fun _ _ _ => rfl)
  · exact i3.eq (by rw [ea]) (by rw [ea]) (ej 4 (by omega)) (e _ (by omega) (by omega) (by omega) (by omega) (by omega) (by omega) (by omega) (by omega) (by omega)) (fun z z1 z2 => e z (by omega) (by omega) (by omega) (by omega) (by omega) (by omega) (by omega) (by omega) (by omega))
  · exact i4.eq (by rw [ea]) (ej 5 (by omega)) (e _ (by omega) (by omega) (by omega) (by omega) (by omega) (by omega) (by omega) (by omega) (by omega)) (fun z z1 z2 => e z (by omega) (by omega) (by omega) (by omega) (by omega) (by omega) (by omega) (by omega) (by omega)) (fun z z1 z2 => e z (by omega) (by omega) (by omega) (by omega) (by omega) (by omega) (by omega) (by omega) (by omega)) (fun q => by rw [f2.1 _ (by omega) (by omega) (by omega) (by omega) (by omega)]; exact f7 q)
  · exact i5.eq (e _ (by omega) (by omega) (by omega) (by omega) (by omega) (by omega) (by omega) (by omega) (by omega)) (e _ (by omega) (by omega) (by omega) (by omega) (by omega) (by omega) (by omega) (by omega) (by omega)) (fun j j1 j2 => ej j (by omega)) (e _ (by omega) (by omega) (by omega) (by omega) (by omega) (by omega) (by omega) (by omega) (by omega))
  · exact i6.eq (e _ (by omega) (by omega) (by omega) (by omega) (by omega) (by omega) (by omega) (by omega) (by omega)) (e _ (by omega) (by omega) (by omega) (by omega) (by omega) (by omega) (by omega) (by omega) (by omega)) (ej 26 (by omega)) (e _ (by omega) (by omega) (by omega) (by omega) (by omega) (by omega) (by omega) (by omega) (by omega))
theorem s_chance (hI : INV V a b) (hab : b = a + 189) (h1 : sj_i32 x1) (h2 : sj_i32 x2) (hk : sj_i32 k) (hN : 1000 ≤ N) : ST a b (g_X8_chance N a x1 x2 k) (g_X9_chance N b x1 x2 k) V := by
  have hR := hI.1
  have hH := hI.2.1
  obtain ⟨c0, c1⟩ := c_chance (N := N) hR h1 h2 hk hN
  unfold ST
  by_cases hq : (1 ≤ x1 ∧ x1 ≤ 40) ∧ (0 ≤ x2 ∧ x2 ≤ 50) ∧ (1 ≤ k ∧ k ≤ 20000) ∧ V (b + 1) 320 ≠ -1
  · obtain ⟨V1, r1, r2, r5, r3, r4⟩ := c1 hq
    obtain ⟨q1, q2, q3, q4⟩ := hq
    have w1 : V1 (b + 1) = V (b + 1) := r3 _ (by omega) (by omega) (by omega)
    have hb := (hR.2.1.bb q4).2
    obtain ⟨U1, U2, s1, s2, s3, s4, s5, s6, s7⟩ := m_lay (N := N) w1 hR.1 hR.2.1 hN q4
    obtain ⟨n, hn⟩ : ∃ n : Nat, x1 = n := ⟨x1.toNat, by omega⟩
    subst hn
    rw [tn0] at r1 r2
    obtain ⟨V2, t1, t2, t3, t4⟩ := m_ch50 (N := N) (b := b) (n := n) (by omega) hR.1 q2 hb q3 hN N 0 0 (V (b + 1) 389) U2 (by omega) (by omega) (fun j _ _ => by rw [s3]) (by rw [s3]) s4 s5
    have t1' : g_X9_chance_50 N N b n x2 k 0 0 U2 = _ := t1
    rw [hH.1.2] at r1 r2
    rw [r1]
    refine ⟨_, V1, V2, rfl, ?_, ?_⟩
    · unfold g_X9_chance
      rw [k_wid h1, m_in h1 ⟨by omega, by omega⟩ ⟨by omega, by omega⟩, k_cs, if_pos q1, k_eqF (by omega) ⟨by omega, by omega⟩ ⟨by omega, by omega⟩, k_wid h2, m_in h2 ⟨by omega, by omega⟩ ⟨by omega, by omega⟩, k_cs, if_pos q2, k_eqF (by omega) ⟨by omega, by omega⟩ ⟨by omega, by omega⟩, m_isK hk, k_cs, if_pos q3, k_eqF (by omega) ⟨by omega, by omega⟩ ⟨by omega, by omega⟩, s1, k_cs, k_eqF (by omega) ⟨by omega, by omega⟩ ⟨by omega, by omega⟩, s2, k_cs, t1', Int.zero_add]
      rfl
    · have hk2 : Kn b V1 V2 := ⟨fun z z1 z2 z3 z4 z5 => by rw [t3 z z1 z2, s6 z z1 z3 z4], fun j hj => by rw [t4 j (by omega), s7 j (by omega)]⟩
      refine hI.held2 hab (fun z z1 z2 z3 z4 => r3 z z1 (by omega) (by omega)) r5 hk2 t2 (fun j hj => wUp_n _ _ (by omega)) ?_
      obtain ⟨a1, a2, a3, a4, a5⟩ := hH
      have u : ∀ (s : Int) j, j ≠ 389 → wUp (V (b + 1)) 389 s j = V (b + 1) j := fun s j hj => wUp_n _ _ hj
      refine ⟨⟨?_, ?_⟩, ?_, fun i hi => ?_, fun i hi => ?_, fun i hi => ?_⟩
      · rw [r4 _ (by omega), u _ _ (by omega)]; exact a1.1
      · rw [r2, wUp_s, Nat.sub_zero]
      · rw [u _ _ (by omega)]; exact a2
      · rw [r3 _ (by omega) (by omega) (by omega), r3 _ (by omega) (by omega) (by omega), u _ _ (by omega), u _ _ (by omega)]; exact a3 i hi
      · rw [u _ _ (by omega)] at hi
        rw [u _ _ (by omega), u _ _ (by omega)]; exact a4 i hi
      · rw [u _ _ (by omega)] at hi
        rw [u _ _ (by omega), u _ _ (by omega)]; exact a5 i hi
  · rw [c0 hq]
    unfold g_X9_chance
    by_cases q1 : 1 ≤ x1 ∧ x1 ≤ 40
    · by_cases q2 : 0 ≤ x2 ∧ x2 ≤ 50
      · by_cases q3 : 1 ≤ k ∧ k ≤ 20000
        · have q4 : V (b + 1) 320 = -1 := by
            by_cases z : V (b + 1) 320 = -1
            · exact z
            · exact absurd ⟨q1, q2, q3, z⟩ hq
          obtain ⟨V2, r1, r2, r3⟩ := m_takesSlip (N := N) (a := b) rfl hR.1 hR.2.1 (by omega)
          refine ⟨_, V, V2, rfl, ?_, hI.ask hab ⟨fun _ _ _ _ => rfl, id⟩ (Km.fc r2)⟩
          rw [k_wid h1, m_in h1 ⟨by omega, by omega⟩ ⟨by omega, by omega⟩, k_cs, if_pos q1, k_eqF (by omega) ⟨by omega, by omega⟩ ⟨by omega, by omega⟩, k_wid h2, m_in h2 ⟨by omega, by omega⟩ ⟨by omega, by omega⟩, k_cs, if_pos q2, k_eqF (by omega) ⟨by omega, by omega⟩ ⟨by omega, by omega⟩, m_isK hk, k_cs, if_pos q3, k_eqF (by omega) ⟨by omega, by omega⟩ ⟨by omega, by omega⟩, r1, k_cs, if_pos q4, k_eqT rfl]
        · refine ⟨_, V, V, rfl, ?_, hI⟩
          rw [k_wid h1, m_in h1 ⟨by omega, by omega⟩ ⟨by omega, by omega⟩, k_cs, if_pos q1, k_eqF (by omega) ⟨by omega, by omega⟩ ⟨by omega, by omega⟩, k_wid h2, m_in h2 ⟨by omega, by omega⟩ ⟨by omega, by omega⟩, k_cs, if_pos q2, k_eqF (by omega) ⟨by omega, by omega⟩ ⟨by omega, by omega⟩, m_isK hk, k_cs, if_neg q3, k_eqT rfl]
      · refine ⟨_, V, V, rfl, ?_, hI⟩
        rw [k_wid h1, m_in h1 ⟨by omega, by omega⟩ ⟨by omega, by omega⟩, k_cs, if_pos q1, k_eqF (by omega) ⟨by omega, by omega⟩ ⟨by omega, by omega⟩, k_wid h2, m_in h2 ⟨by omega, by omega⟩ ⟨by omega, by omega⟩, k_cs, if_neg q2, k_eqT rfl]
    · refine ⟨_, V, V, rfl, ?_, hI⟩
      rw [k_wid h1, m_in h1 ⟨by omega, by omega⟩ ⟨by omega, by omega⟩, k_cs, if_neg q1, k_eqT rfl]
end Chance2
