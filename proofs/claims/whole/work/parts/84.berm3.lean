section Berm3
variable {V : sj_VV} {a b f t c d N : Nat} {w : sj_R} {k lf x1 x2 : Int} {bs : Nat → Int}
def spBerm (w : sj_R) (x1 x2 k : Int) : Int := if (1 ≤ k ∧ k ≤ 20000) ∧ spCol w x1 ∧ spCol w x2 ∧ x1 ≤ x2 ∧ w 320 ≠ -1 then spBmA (spBm w (wf w) (wt w) (w 322) (wb w) x1.toNat x2.toNat k) else -1
theorem c_berm (hR : RG V (a + 1) w) (h1 : sj_i32 x1) (h2 : sj_i32 x2) (hk : sj_i32 k) (hN : 1000 ≤ N) : ∃ V', g_X8_berm N a x1 x2 k V = some (spBerm w x1 x2 k, V') ∧ Fr (a + 54) (a + 63) V V' := by
  have hn := hR.1.1
  unfold g_X8_berm spBerm
  rw [isK_eq hk, k_cs]
  by_cases q1 : 1 ≤ k ∧ k ≤ 20000
  · rw [if_pos q1, k_eqF (by omega) ⟨by omega, by omega⟩ ⟨by omega, by omega⟩, c_col hR h1, k_cs]
    by_cases q2 : spCol w x1
    · rw [if_pos q2, k_eqF (by omega) ⟨by omega, by omega⟩ ⟨by omega, by omega⟩, c_col hR h2, k_cs]
      by_cases q3 : spCol w x2
      · rw [if_pos q3, k_eqF (by omega) ⟨by omega, by omega⟩ ⟨by omega, by omega⟩, k_ltc h2 h1]
        by_cases q4 : x1 ≤ x2
        · rw [if_neg (by omega)]
          by_cases q5 : w 320 = -1
          · rw [cutUp_0 hR q5, k_cs, k_eqT rfl, if_neg (fun q => q.2.2.2.2 q5)]
            exact ⟨V, rfl, Fr.rf⟩
          · have hb := (hR.2.1.bb q5).2
            obtain ⟨c, hc⟩ : ∃ c : Nat, x1 = c := ⟨x1.toNat, by omega⟩
            obtain ⟨d, hd⟩ : ∃ d : Nat, x2 = d := ⟨x2.toNat, by omega⟩
            subst hc hd
            obtain ⟨V2, r1, r2, r3⟩ := cutUp_1 (N := N) hR q5 (by omega)
            obtain ⟨V3, s1, s2⟩ := c_berm_loop (N := N) (a := a) (c := c) (d := d) hR.1 (by omega) (by omega) hb q1 (by omega) N 0 V2 (by omega) (by omega) (hR.2.2.1.fr r2 (by omega)) (by rw [r2 _ (by omega)]; exact (hR.2.2.2.2.2 q5).1) (by rw [show ((0 : Nat) : Int) = 0 from rfl, wLoad_0]; exact r3) rfl
            rw [r1, k_cs, k_eqF (by omega) ⟨by omega, by omega⟩ ⟨by omega, by omega⟩, if_pos ⟨q1, q2, q3, q4, q5⟩]
            exact ⟨V3, s1, r2.tr s2⟩
        · rw [if_pos (by omega), if_neg (fun q => q4 q.2.2.2.1)]
          exact ⟨V, rfl, Fr.rf⟩
      · rw [if_neg q3, k_eqT rfl, if_neg (fun q => q3 q.2.2.1)]
        exact ⟨V, rfl, Fr.rf⟩
    · rw [if_neg q2, k_eqT rfl, if_neg (fun q => q2 q.2.1)]
      exact ⟨V, rfl, Fr.rf⟩
  · rw [if_neg q1, k_eqT rfl, if_neg (fun q => q1 q.1)]
    exact ⟨V, rfl, Fr.rf⟩
theorem m_load_loop {v : Int} (hd : d ≤ 40) (hB : WB 500 200 1500 w) (K : Nat → Int → Int → Int → Int → sj_VV → Option (Int × sj_VV)) : ∀ (m i : Nat) (V : sj_VV), c ≤ i → i ≤ d + 1 → d + 1 - i < m → (∀ j, (126 + c ≤ j ∧ j < 126 + i) → V (a + 1) j = w j + v) → (∀ j, (j < 126 + c ∨ 126 + d < j) → V (a + 1) j = w j) → (∀ j, j < 390 → V (a + 2) j = w j) → ∃ V', g_X9_berm_66 N K m a c d k v i V = K a c d k v V' ∧ V' (a + 1) = wLoad w c d v ∧ ∀ z, z ≠ a + 1 → V' z = V z
  | 0, _, _, _, _, h, _, _, _ => absurd h (by omega)
  | m + 1, i, V, h0, h1, h2, hh, hw, ha => by
    unfold g_X9_berm_66 g_X9_berm_66_b
    by_cases hl : i = d + 1
    · subst hl
      rw [k_ltT (by omega) ⟨by omega, by omega⟩ ⟨by omega, by omega⟩]
      refine ⟨V, rfl, funext fun j => ?_, fun _ _ => rfl⟩
      unfold wLoad
      by_cases hj : 126 + c ≤ j ∧ j ≤ 126 + d
      · rw [if_pos hj]; exact hh j (by omega)
      · rw [if_neg hj]; exact hw j (by omega)
    · rw [k_ltF (by omega) ⟨by omega, by omega⟩ ⟨by omega, by omega⟩, k_ix (by omega) (by omega), k_ix (by omega) (by omega), k_lt, k_lt, show (126 + (i : Int)).toNat = 126 + i by omega, ha _ (by omega)]
      obtain ⟨V2, r1, r2, r3⟩ := m_load_loop hd hB K m (i + 1) (sj_up V (a + 1) (126 + i) (w (126 + i) + v)) (by omega) (by omega) (by omega) (fun j hj => by
        by_cases z : j = 126 + i
        · rw [z, up_ss]
        · rw [up_nk _ _ _ z]; exact hh j (by omega)) (fun j hj => by rw [up_nk _ _ _ (by omega)]; exact hw j hj) (fun j hj => by rw [up_row _ _ _ (by omega)]; exact ha j hj)
      exact ⟨V2, r1, r2, fun z hz => (r3 z hz).trans (up_row _ _ _ hz)⟩
theorem m_berm_loop (hB : WB 500 200 1500 w) (hcd : c ≤ d) (hd : d ≤ 40) (hb : BB f t lf bs) (hk : 1 ≤ k ∧ k ≤ 20000) (hN : 1000 ≤ N) : ∀ (m v : Nat) (V : sj_VV), v ≤ 501 → 501 - v < m → V (a + 1) = wLoad w c d v → (∀ j, j < 390 → V (a + 2) j = w j) → SM V a f t lf bs → spSeek (spBmP w f t lf bs c d k) (501 - v) v = spBm w f t lf bs c d k → ∃ V', g_X9_berm_44 N m a c d k v V = some (spBmA (spBm w f t lf bs c d k), V') ∧ V' (a + 1) = w ∧ (∀ z, z ≠ a → z ≠ a + 1 → V' z = V z) ∧ ∀ j, (j < 6 ∨ 13 ≤ j) → V' a j = V a j
  | 0, _, _, _, h, _, _, _, _ => absurd h (by omega)
  | m + 1, v, V, h1, h2, hw, ha, hS, hq => by
    unfold g_X9_berm_44 g_X9_berm_44_b
    have hend : ∀ V1 : sj_VV, V1 (a + 1) = wLoad w c d v → (∀ j, j < 390 → V1 (a + 2) j = w j) → v = spBm w f t lf bs c d k → ∃ V', g_X9_berm_104 N a v V1 = some (spBmA (spBm w f t lf bs c d k), V') ∧ V' (a + 1) = w ∧ ∀ z, z ≠ a + 1 → V' z = V1 z := by
      intro V1 w1 a1 e
      obtain ⟨V3, s1, s2, s3⟩ := m_back (N := N) (a := a) (V := V1) (w := w) hN a1 (fun j hj => by rw [w1]; exact wLoad_n w v hd (by omega))
      unfold g_X9_berm_104 spBmA
      rw [s1, k_cs, k_lec ⟨by omega, by omega⟩ ⟨by omega, by omega⟩, ← e]
      refine ⟨V3, ?_, s3, s2⟩
      by_cases y : v ≤ 500
      · rw [if_pos y, if_pos (by omega)]
      · rw [if_neg y, if_neg (by omega)]
    by_cases hv : v = 501
    · subst hv
      rw [k_ltT (by omega) ⟨by omega, by omega⟩ ⟨by omega, by omega⟩]
      obtain ⟨V3, s1, s2, s3⟩ := hend V hw ha (by rw [← hq, Nat.sub_self, spSeek])
      exact ⟨V3, s1, s2, fun z _ z2 => s3 z z2, fun j _ => by rw [s3 a (by omega)]⟩
    · have hB2 : WB 1001 200 1500 (wLoad w c d v) := hB.load hd (by omega)
      obtain ⟨V2, r1, r2⟩ := m_isStanding (N := N) (k := k) hw hB2 (by omega) (by omega) (by omega) (by omega) hS hb (by omega)
      have w2 := (r2.w 0).trans hw
      have a2 : ∀ j, j < 390 → V2 (a + 2) j = w j := fun j hj => by rw [r2.w 1]; exact ha j hj
      have eP : spStd (wLoad w c d v) f t lf bs (spPulls (wLoad w c d v) f t bs) k = spBmP w f t lf bs c d k v := by unfold spBmP; rw [wl_pulls w _ hd]
      rw [show 501 - v = 500 + 1 - v by omega, spSeek_s _ (by omega)] at hq
      rw [k_ltF (by omega) ⟨by omega, by omega⟩ ⟨by omega, by omega⟩, r1, k_cs, eP]
      by_cases hp : spBmP w f t lf bs c d k v = true
      · rw [if_pos hp] at hq
        rw [if_pos hp, k_eqF (by omega) ⟨by omega, by omega⟩ ⟨by omega, by omega⟩]
        obtain ⟨V3, s1, s2, s3⟩ := hend V2 w2 a2 hq
        exact ⟨V3, s1, s2, fun z z1 z2 => (s3 z z2).trans (r2.1 z z1), fun j hj => by rw [s3 a (by omega)]; exact r2.2 j hj⟩
      · rw [if_neg hp] at hq
        rw [if_neg hp, k_eqT rfl, k_lt]
        obtain ⟨V3, s1, s2, s3⟩ := m_load_loop (N := N) (a := a) (w := w) (k := k) (c := c) (d := d) (v := (v : Int) + 1) hd hB (g_X9_berm_44 N m) N c V2 (by omega) (by omega) (by omega) (fun j hj => by omega) (fun j hj => by rw [w2]; exact if_neg (by omega)) a2
        obtain ⟨V4, t1, t2, t3, t4⟩ := m_berm_loop hB hcd hd hb hk hN m (v + 1) V3 (by omega) (by omega) s2 (fun j hj => by rw [s3 _ (by omega)]; exact a2 j hj) (by
          have hS2 := hS.fm r2
          exact ⟨by rw [s3 _ (by omega)]; exact hS2.1, by rw [s3 _ (by omega)]; exact hS2.2.1, by rw [s3 _ (by omega)]; exact hS2.2.2.1, fun j d1 d2 => by rw [s3 _ (by omega)]; exact hS2.2.2.2 j d1 d2⟩) (by rw [← hq])
        exact ⟨V4, s1.trans t1, t2, fun z z1 z2 => by rw [t3 z z1 z2, s3 z z2, r2.1 z z1], fun j hj => by rw [t4 j hj, s3 a (by omega), r2.2 j hj]⟩
theorem m_berm (hw : V (a + 1) = w) (hB : WB 500 200 1500 w) (hP : SP w) (h1 : sj_i32 x1) (h2 : sj_i32 x2) (hk : sj_i32 k) (hN : 1000 ≤ N) : ∃ V', g_X9_berm N a x1 x2 k V = some (spBerm w x1 x2 k, V') ∧ V' (a + 1) = w ∧ Fa a V V' := by
  have hn := hB.1
  unfold g_X9_berm spBerm
  rw [m_isColumn hw hB h1, k_cs]
  by_cases q2 : spCol w x1
  · rw [if_pos q2, k_eqF (by omega) ⟨by omega, by omega⟩ ⟨by omega, by omega⟩, m_isColumn hw hB h2, k_cs]
    by_cases q3 : spCol w x2
    · rw [if_pos q3, k_eqF (by omega) ⟨by omega, by omega⟩ ⟨by omega, by omega⟩, k_ltc h2 h1]
      by_cases q4 : x1 ≤ x2
      · rw [if_neg (by omega), m_isK hk, k_cs]
        by_cases q1 : 1 ≤ k ∧ k ≤ 20000
        · rw [if_pos q1, k_eqF (by omega) ⟨by omega, by omega⟩ ⟨by omega, by omega⟩]
          by_cases q5 : w 320 = -1
          · obtain ⟨V2, r1, r2, r3⟩ := m_takesSlip (N := N) hw hB hP (by omega)
            rw [r1, k_cs, if_pos q5, k_eqT rfl, if_neg (fun q => q.2.2.2.2 q5)]
            exact ⟨V2, rfl, r2.w.trans hw, r2.s.asd⟩
          · obtain ⟨c, hc⟩ : ∃ c : Nat, x1 = c := ⟨x1.toNat, by omega⟩
            obtain ⟨d, hd⟩ : ∃ d : Nat, x2 = d := ⟨x2.toNat, by omega⟩
            subst hc hd
            obtain ⟨V1, V2, r1, r2, r3, r4, r5, r6, r7⟩ := m_lay (N := N) hw hB hP hN q5
            have hb := (hP.bb q5).2
            obtain ⟨V3, s1, s2, s3, s4⟩ := m_berm_loop (N := N) (a := a) (c := c) (d := d) hB (by omega) (by omega) hb q1 hN N 0 V2 (by omega) (by omega) (by rw [r3]; exact (wLoad_0 w c d).symm) r4 r5 rfl
            rw [r1, k_cs, k_eqF (by omega) ⟨by omega, by omega⟩ ⟨by omega, by omega⟩, r2, k_cs, if_pos ⟨q1, q2, q3, q4, q5⟩]
            refine ⟨V3, s1, s2, fun z z1 z2 z3 => ?_, fun j hj => ?_⟩
            · by_cases z4 : z = a + 1
              · rw [z4, s2, hw]
              · rw [s3 z z1 z4, r6 z z1 z2 z3]
            · rw [s4 j (by omega), r7 j (by omega)]
        · rw [if_neg q1, k_eqT rfl, if_neg (fun q => q1 q.1)]
          exact ⟨V, rfl, hw, Fs.rf.asd⟩
      · rw [if_pos (by omega), if_neg (fun q => q4 q.2.2.2.1)]
        exact ⟨V, rfl, hw, Fs.rf.asd⟩
    · rw [if_neg q3, k_eqT rfl, if_neg (fun q => q3 q.2.2.1)]
      exact ⟨V, rfl, hw, Fs.rf.asd⟩
  · rw [if_neg q2, k_eqT rfl, if_neg (fun q => q2 q.2.1)]
    exact ⟨V, rfl, hw, Fs.rf.asd⟩
theorem s_berm (hI : INV V a b) (hab : b = a + 189) (h1 : sj_i32 x1) (h2 : sj_i32 x2) (hk : sj_i32 k) (hN : 1000 ≤ N) : ST a b (g_X8_berm N a x1 x2 k) (g_X9_berm N b x1 x2 k) V := by
  obtain ⟨V', r1, r2⟩ := c_berm (N := N) hI.1 h1 h2 hk hN
  refine ST.ask hI hab ⟨V', r1, Kc.ff r2 (by omega) (by omega)⟩ (fun V1 e => ?_)
  obtain ⟨V2, s1, _, s2⟩ := m_berm (N := N) e hI.1.1 hI.1.2.1 h1 h2 hk (by omega)
  exact ⟨V2, s1, Km.fa s2⟩
end Berm3
