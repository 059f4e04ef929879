section SumAsk
variable {V : sj_VV} {a f t : Nat} {w : sj_R} {k i what lf : Int} {bs : Nat → Int} {N : Nat}
def spRubs (w : sj_R) (i k : Int) : Int := if spHasI w i then if 1 ≤ k ∧ k ≤ 20000 then if 0 < slD w (w 322) (wf w + i.toNat) (wb w (wf w + i.toNat)) (wb w (wf w + i.toNat + 1)) k then slR w (w 322) (wf w + i.toNat) (wb w (wf w + i.toNat)) (wb w (wf w + i.toNat + 1)) k else -1 else -10 else -10
theorem c_rubs (hR : RG V (a + 1) w) (hi : sj_i32 i) (hk : sj_i32 k) (hN : 50 ≤ N) : ∃ V', g_X8_rubs N a i k V = some (spRubs w i k, V') ∧ Fr (a + 54) (a + 63) V V' := by
  rw [c_hasI (x := -10) (K := fun V1 => _) hR hi (g_X8_rubs N a i k V) rfl]
  unfold spRubs
  by_cases hI : spHasI w i
  · have h0 := hI.1
    have hb := hR.2.1.bb h0
    obtain ⟨i1, i2, i3⟩ := id hI
    rw [if_pos hI, if_pos hI, isK_eq hk, k_cs]
    by_cases hK : 1 ≤ k ∧ k ≤ 20000
    · obtain ⟨V2, r1, r2, r3⟩ := cutUp_1 (N := N) hR h0 hN
      obtain ⟨j, rfl⟩ : ∃ j : Nat, i = j := ⟨i.toNat, by omega⟩
      have hj : wf w + j < wt w := by omega
      rw [if_pos hK, if_pos hK, k_eqF (by omega) ⟨by omega, by omega⟩ ⟨by omega, by omega⟩, r1, k_cs, k_eqF (by omega) ⟨by omega, by omega⟩ ⟨by omega, by omega⟩, rubsOf_eq r3 hR.1 (by omega) (by omega) (by omega) hb.2 (by omega) hj, k_cs]
      exact ⟨V2, rfl, r2⟩
    · rw [if_neg hK, if_neg hK, k_eqT rfl]
      exact ⟨V, rfl, Fr.rf⟩
  · rw [if_neg hI, if_neg hI]
    exact ⟨V, rfl, Fr.rf⟩
theorem m_rubs (hw : V (a + 1) = w) (hB : WB 500 200 1500 w) (hP : SP w) (hi : sj_i32 i) (hk : sj_i32 k) (hN : 50 ≤ N) : ∃ V', g_X9_rubs N a i k V = some (spRubs w i k, V') ∧ Fc a V V' := by
  unfold g_X9_rubs spRubs
  obtain ⟨V2, r1, r2, r3⟩ := m_isSlice (N := N) hw hB hP hi hN
  rw [r1, k_cs]
  by_cases hI : spHasI w i
  · have h0 := hI.1
    have hb := hP.bb h0
    obtain ⟨i1, i2, i3⟩ := id hI
    have hS := r3 h0
    rw [if_pos hI, if_pos hI, k_eqF (by omega) ⟨by omega, by omega⟩ ⟨by omega, by omega⟩, m_isK hk, k_cs]
    by_cases hK : 1 ≤ k ∧ k ≤ 20000
    · obtain ⟨j, rfl⟩ : ∃ j : Nat, i = j := ⟨i.toNat, by omega⟩
      have hj : wf w + j < wt w := by omega
      have hb3 := hb.2.2.1
      have p1 := hb.2.2.2.2 (wf w + j) (by omega) (by omega)
      have p2 := hb.2.2.2.2 (wf w + j + 1) (by omega) (by omega)
      obtain ⟨V3, s1, s2, s3⟩ := m_laysAt (N := N) (r2.w.trans hw) hB (by omega) (by omega) (by omega) hN hS hb.2 (x := wf w + j) (by omega) hj
      rw [if_pos hK, if_pos hK, k_eqF (by omega) ⟨by omega, by omega⟩ ⟨by omega, by omega⟩, hS.1, show ((wf w : Nat) : Int) + (j : Int) = ((wf w + j : Nat) : Int) by omega, s1, k_cs, m_rubsOf ((s2.w 0).trans (r2.w.trans hw)) hB (by omega) (by omega) (by omega) (by omega) p1 p2 s3 (by omega), k_cs]
      exact ⟨V3, rfl, r2.tr s2.c⟩
    · rw [if_neg hK, if_neg hK, k_eqT rfl]
      exact ⟨V2, rfl, r2⟩
  · rw [if_neg hI, if_neg hI, k_eqT rfl]
    exact ⟨V2, rfl, r2⟩
def spPick (w : sj_R) (what lf : Int) (bs : Nat → Int) (x : Nat) : Int := if what = 0 then slU w lf x (bs x) (bs (x + 1)) else if what = 2 then slW w x (bs x) (bs (x + 1)) else if what = 3 then slL w x (bs x) (bs (x + 1)) else slS w x (bs x) (bs (x + 1))
theorem m_sum_loop (hB : WB 500 200 1500 w) (hb : BB f t lf bs) (hwh : sj_i32 what) (hN : 50 ≤ N) : ∀ (m i : Nat) (V : sj_VV), f + i ≤ t → t - (f + i) < m → V (a + 1) = w → SM V a f t lf bs → ∃ V', g_X9_sum_41 N m a what (spSum (spPick w what lf bs) f i) ((f + i : Nat) : Int) V = some (spSum (spPick w what lf bs) f (t - f), V') ∧ Fm a V V'
  | 0, _, _, _, h, _, _ => absurd h (by omega)
  | m + 1, i, V, h1, h2, hw, hS => by
    obtain ⟨b1, b2, b3, b4⟩ := id hb
    unfold g_X9_sum_41 g_X9_sum_41_b
    by_cases hi : f + i = t
    · have ei : i = t - f := by omega
      rw [hS.2.1, k_leT (by omega) ⟨by omega, by omega⟩ ⟨by omega, by omega⟩, ← ei]
      exact ⟨V, rfl, Fm.rf⟩
    · have hit : f + i < t := by omega
      obtain ⟨V3, r1, r2, r3⟩ := m_laysAt hw hB (by omega) (by omega) (by omega) hN hS hb (x := f + i) (by omega) hit
      obtain ⟨l1, l2, l3, l4, l5, l6, l7⟩ := r3
      obtain ⟨V4, q1, q2⟩ := m_sum_loop hB hb hwh hN m (i + 1) V3 (by omega) (by omega) ((r2.w 0).trans hw) (hS.fm r2)
      refine ⟨V4, ?_, r2.tr q2⟩
      rw [hS.2.1, k_leF (by omega) ⟨by omega, by omega⟩ ⟨by omega, by omega⟩, r1, k_cs, k_eq hwh ⟨by omega, by omega⟩, k_eq hwh ⟨by omega, by omega⟩, k_eq hwh ⟨by omega, by omega⟩, ← q1, spSum]
      unfold g_X9_sum_96 spPick
      rw [l7, l3, l4, l6, k_lt, k_lt, k_lt, k_lt, k_lt, k_lt, k_lt, k_lt]
      repeat' split
      all_goals first | rfl | omega
def spSumA (w : sj_R) (what : Int) : Int := if w 320 = -1 then -10000000000000 else if what = 1 then spPulls w (wf w) (wt w) (wb w) else if 0 ≤ what ∧ what ≤ 4 then spSum (spPick w what (w 322) (wb w)) (wf w) (wt w - wf w) else -10000000000000
theorem m_sum (hw : V (a + 1) = w) (hB : WB 500 200 1500 w) (hP : SP w) (hwh : sj_i32 what) (hN : 50 ≤ N) : ∃ V', g_X9_sum N a what V = some (spSumA w what, V') ∧ Fc a V V' := by
  unfold g_X9_sum spSumA
  obtain ⟨V2, r1, r2, r3⟩ := m_takesSlip (N := N) hw hB hP hN
  rw [r1, k_cs]
  by_cases h0 : w 320 = -1
  · rw [if_pos h0, if_pos h0, k_eqT rfl]
    exact ⟨V2, rfl, r2⟩
  · have hb := hP.bb h0
    have hS := r3 h0
    have w2 := r2.w.trans hw
    rw [if_neg h0, if_neg h0, k_eqF (by omega) ⟨by omega, by omega⟩ ⟨by omega, by omega⟩, k_wid hwh, m_isIn (sj_i64_of hwh) ⟨by omega, by omega⟩ ⟨by omega, by omega⟩, k_cs]
    by_cases c : 0 ≤ what ∧ what ≤ 4
    · rw [if_pos c, if_pos c, k_eqF (by omega) ⟨by omega, by omega⟩ ⟨by omega, by omega⟩, k_eq hwh ⟨by omega, by omega⟩]
      by_cases h1 : what = 1
      · rw [if_pos h1, if_pos h1, m_pulls w2 hB hS hb.2 hN, k_cs]
        exact ⟨V2, rfl, r2⟩
      · rw [if_neg h1, if_neg h1, k_lt, hS.1]
        obtain ⟨V3, s1, s2⟩ := m_sum_loop (N := N) (a := a) hB hb.2 hwh hN N 0 V2 (by have := hb.2.1; omega) (by have := hb.2.2.1; omega) w2 hS
        exact ⟨V3, s1, r2.tr s2.c⟩
    · rw [if_neg c, if_neg c, k_eqT rfl, if_neg (by omega)]
      exact ⟨V2, rfl, r2⟩
theorem c_sum (hR : RG V (a + 1) w) (hwh : sj_i32 what) (hN : 50 ≤ N) : ∃ V', g_X8_sum N a what V = some (spSumA w what, V') ∧ Fr (a + 54) (a + 63) V V' := by
  unfold g_X8_sum spSumA
  by_cases h0 : w 320 = -1
  · rw [cutUp_0 hR h0, k_cs, k_eqT rfl, if_pos h0]
    exact ⟨V, rfl, Fr.rf⟩
  · have hb := hR.2.1.bb h0
    obtain ⟨V2, r1, r2, r3⟩ := cutUp_1 (N := N) hR h0 hN
    rw [r1, k_cs, k_eqF (by omega) ⟨by omega, by omega⟩ ⟨by omega, by omega⟩, k_sw hwh, if_neg h0, allPushes_eq r3 hb.2 hN, allWeights_eq r3 hR.1 (by omega) hb.2 hN, allLifts_eq r3 hR.1 hb.2 hN, allStrengths_eq r3 hb.2 hN, k_cs, k_cs, k_cs, k_cs, r3.1.2.2.1]
    refine ⟨V2, ?_, r2⟩
    by_cases h1 : what = 0
    · subst h1; rfl
    · by_cases h2 : what = 1
      · subst h2; rfl
      · by_cases h3 : what = 2
        · subst h3; rfl
        · by_cases h4 : what = 3
          · subst h4; rfl
          · by_cases h5 : what = 4
            · subst h5; rfl
            · rw [if_neg h1, if_neg h2, if_neg h3, if_neg h4, if_neg h5, if_neg h2, if_neg (by omega)]
end SumAsk
