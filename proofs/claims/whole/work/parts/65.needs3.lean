section Needs3
variable {V : sj_VV} {a f t : Nat} {w : sj_R} {k lf : Int} {bs : Nat → Int} {N : Nat}
def spNeeds (w : sj_R) (k : Int) : Int := if 1 ≤ k ∧ k ≤ 20000 then if w 320 = -1 then -1 else if spNd w (wf w) (wt w) (w 322) (wb w) k ≤ 500 then (spNd w (wf w) (wt w) (w 322) (wb w) k : Int) else -1 else -1
theorem c_needs (hR : RG V (a + 1) w) (hk : sj_i32 k) (hN : 50 ≤ N) : ∃ V', g_X8_needs N a k V = some (spNeeds w k, V') ∧ Fr (a + 54) (a + 63) V V' := by
  unfold g_X8_needs spNeeds
  rw [isK_eq hk, k_cs]
  by_cases hK : 1 ≤ k ∧ k ≤ 20000
  · rw [if_pos hK, if_pos hK, k_eqF (by omega) ⟨by omega, by omega⟩ ⟨by omega, by omega⟩]
    by_cases h0 : w 320 = -1
    · rw [cutUp_0 hR h0, k_cs, k_eqT rfl, if_pos h0]
      exact ⟨V, rfl, Fr.rf⟩
    · obtain ⟨V2, r1, r2, r3⟩ := cutUp_1 (N := N) hR h0 hN
      have hb := (hR.2.1.bb h0).2
      have hT := (spSeek_b (spNdP w (wf w) (wt w) (w 322) (wb w) k) 501 0).2.1
      have e : spSeek (spNdP w (wf w) (wt w) (w 322) (wb w) k) 501 0 = spNd w (wf w) (wt w) (w 322) (wb w) k := rfl
      rw [e] at hT
      obtain ⟨V3, s1, s2⟩ := c_needs_loop (N := N) (a := a) hR.1 hb hK hN N 0 (-1) 501 V2 (by omega) (by omega) (by omega) (by omega) (by omega) (by decide) (by omega) (by omega) (hR.2.2.1.fr r2 (by omega)) r3.1
      rw [r1, k_cs, k_eqF (by omega) ⟨by omega, by omega⟩ ⟨by omega, by omega⟩, if_neg h0]
      exact ⟨V3, s1, r2.tr s2⟩
  · rw [if_neg hK, if_neg hK, k_eqT rfl]
    exact ⟨V, rfl, Fr.rf⟩
theorem m_hold_loop {v : Int} (K : Nat → Int → Int → sj_VV → Option (Int × sj_VV)) : ∀ (m l : Nat) (V : sj_VV), l ≤ 4 → 4 - l < m → (∀ d, d < l → V (a + 1) (291 + 3 * d) = w (291 + 3 * d) + v) → (∀ j, ¬ (j = 291 ∨ j = 294 ∨ j = 297 ∨ j = 300) → V (a + 1) j = w j) → (∀ d, d < 390 → V (a + 2) d = w d) → ∃ V', g_X9_needs_42 N K m a k v l V = K a k v V' ∧ V' (a + 1) = wHold w v ∧ ∀ z, z ≠ a + 1 → V' z = V z
  | 0, _, _, _, h, _, _, _ => absurd h (by omega)
  | m + 1, l, V, h1, h2, hh, hw, ha => by
    unfold g_X9_needs_42 g_X9_needs_42_b
    by_cases hl : l = 4
    · subst hl
      rw [k_leT (by omega) ⟨by omega, by omega⟩ ⟨by omega, by omega⟩]
      refine ⟨V, rfl, funext fun j => ?_, fun _ _ => rfl⟩
      by_cases hj : j = 291 ∨ j = 294 ∨ j = 297 ∨ j = 300
      · have := hh ((j - 291) / 3) (by omega)
        rw [show 291 + 3 * ((j - 291) / 3) = j by omega] at this
        rw [this]
        exact (if_pos hj).symm
      · rw [hw j hj]
        exact (if_neg hj).symm
    · rw [k_leF (by omega) ⟨by omega, by omega⟩ ⟨by omega, by omega⟩, k_ix (by omega) (by omega), k_ix (by omega) (by omega), k_lt, k_lt, show (290 + 3 * (l : Int) + 1).toNat = 291 + 3 * l by omega, ha _ (by omega)]
      obtain ⟨V2, r1, r2, r3⟩ := m_hold_loop K m (l + 1) (sj_up V (a + 1) (291 + 3 * l) (w (291 + 3 * l) + v)) (by omega) (by omega) (fun d hd => by
        by_cases z : d = l
        · subst z; rw [up_ss]
        · rw [up_nk _ _ _ (by omega)]; exact hh d (by omega)) (fun j hj => by rw [up_nk _ _ _ (by omega)]; exact hw j hj) (fun d hd => by rw [up_row _ _ _ (by omega)]; exact ha d hd)
      exact ⟨V2, r1, r2, fun z hz => (r3 z hz).trans (up_row _ _ _ hz)⟩
theorem m_needs_loop (hB : WB 500 200 1500 w) (hb : BB f t lf bs) (hk : 1 ≤ k ∧ k ≤ 20000) (hN : 1000 ≤ N) : ∀ (m v : Nat) (V : sj_VV), v ≤ 501 → 501 - v < m → V (a + 1) = wHold w v → (∀ d, d < 390 → V (a + 2) d = w d) → SM V a f t lf bs → spSeek (spNdP w f t lf bs k) (501 - v) v = spNd w f t lf bs k → ∃ V', g_X9_needs_22 N m a k v V = some (if spNd w f t lf bs k ≤ 500 then (spNd w f t lf bs k : Int) else -1, V') ∧ V' (a + 1) = w ∧ (∀ z, z ≠ a → z ≠ a + 1 → V' z = V z) ∧ ∀ j, (j < 6 ∨ 13 ≤ j) → V' a j = V a j
  | 0, _, _, _, h, _, _, _, _ => absurd h (by omega)
  | m + 1, v, V, h1, h2, hw, ha, hS, hq => by
    unfold g_X9_needs_22 g_X9_needs_22_b
    have hend : ∀ V1 : sj_VV, V1 (a + 1) = wHold w v → (∀ d, d < 390 → V1 (a + 2) d = w d) → v = spNd w f t lf bs k → ∃ V', g_X9_needs_86 N a v V1 = some (if spNd w f t lf bs k ≤ 500 then (spNd w f t lf bs k : Int) else -1, V') ∧ V' (a + 1) = w ∧ ∀ z, z ≠ a + 1 → V' z = V1 z := by
      intro V1 w1 a1 e
      obtain ⟨V3, s1, s2, s3⟩ := m_back (N := N) (a := a) (V := V1) (w := w) hN a1 (fun d hd => by rw [w1]; exact wHold_n w v (by omega))
      unfold g_X9_needs_86
      rw [s1, k_cs, k_lec ⟨by omega, by omega⟩ ⟨by omega, by omega⟩, ← e]
      refine ⟨V3, ?_, s3, s2⟩
      by_cases y : v ≤ 500
      · rw [if_pos y, if_pos (by omega)]
      · rw [if_neg y, if_neg (by omega)]
    by_cases hv : v = 501
    · subst hv
      rw [k_ltT (by omega) ⟨by omega, by omega⟩ ⟨by omega, by omega⟩]
      obtain ⟨V3, s1, s2, s3⟩ := hend V hw ha (by rw [← hq, Nat.sub_self, spSeek])
      exact ⟨V3, s1, s2, fun z _ z2 => s3 z z2, fun j _ => by rw [s3 a (by omega)]⟩
    · have hB2 : WB 500 700 1500 (wHold w v) := hB.hold (by omega) (by omega)
      obtain ⟨V2, r1, r2⟩ := m_isStanding (N := N) (k := k) hw hB2 (by omega) (by omega) (by omega) (by omega) hS hb (by omega)
      have w2 := (r2.w 0).trans hw
      have a2 : ∀ d, d < 390 → V2 (a + 2) d = w d := fun d hd => by rw [r2.w 1]; exact ha d hd
      have eP : spStd (wHold w v) f t lf bs (spPulls (wHold w v) f t bs) k = spNdP w f t lf bs k v := by unfold spNdP; rw [wHold_pulls]
      rw [show 501 - v = 500 + 1 - v by omega, spSeek_s _ (by omega)] at hq
      rw [k_ltF (by omega) ⟨by omega, by omega⟩ ⟨by omega, by omega⟩, r1, k_cs, eP]
      by_cases hp : spNdP w f t lf bs k v = true
      · rw [if_pos hp] at hq
        rw [if_pos hp, k_eqF (by omega) ⟨by omega, by omega⟩ ⟨by omega, by omega⟩]
        obtain ⟨V3, s1, s2, s3⟩ := hend V2 w2 a2 hq
        exact ⟨V3, s1, s2, fun z z1 z2 => (s3 z z2).trans (r2.1 z z1), fun j hj => by rw [s3 a (by omega)]; exact r2.2 j hj⟩
      · rw [if_neg hp] at hq
        rw [if_neg hp, k_eqT rfl, k_lt]
        obtain ⟨V3, s1, s2, s3⟩ := m_hold_loop (N := N) (a := a) (w := w) (k := k) (v := (v : Int) + 1) (g_X9_needs_22 N m) N 0 V2 (by omega) (by omega) (fun d hd => by omega) (fun j hj => by rw [w2]; exact if_neg hj) a2
        obtain ⟨V4, t1, t2, t3, t4⟩ := m_needs_loop hB hb hk hN m (v + 1) V3 (by omega) (by omega) s2 (fun d hd => by rw [s3 _ (by omega)]; exact a2 d hd) (by
          have hS2 := hS.fm r2
          exact ⟨by rw [s3 _ (by omega)]; exact hS2.1, by rw [s3 _ (by omega)]; exact hS2.2.1, by rw [s3 _ (by omega)]; exact hS2.2.2.1, fun d d1 d2 => by rw [s3 _ (by omega)]; exact hS2.2.2.2 d d1 d2⟩) (by rw [← hq])
        refine ⟨V4, s1.trans t1, t2, fun z z1 z2 => by rw [t3 z z1 z2, s3 z z2, r2.1 z z1], fun j hj => by rw [t4 j hj, s3 a (by omega), r2.2 j hj]⟩
end Needs3
