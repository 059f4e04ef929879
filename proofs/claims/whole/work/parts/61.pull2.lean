section PullAsk2
variable {V : sj_VV} {a : Nat} {w : sj_R} {k : Int} {N : Nat}
def spPullA (w : sj_R) (k : Int) : Int := if 1 ≤ k ∧ k ≤ 20000 then if w 320 = -1 then -1 else if spLeast w (wf w) (wt w) (w 322) (wb w) k ≤ 20000 then spLeast w (wf w) (wt w) (w 322) (wb w) k else -1 else -1
theorem c_pull (hR : RG V (a + 1) w) (hk : sj_i32 k) (hN : 50 ≤ N) : ∃ V', g_X8_pull N a k V = some (spPullA w k, V') ∧ Fr (a + 54) (a + 63) V V' := by
  unfold g_X8_pull spPullA
  rw [isK_eq hk, k_cs]
  by_cases hK : 1 ≤ k ∧ k ≤ 20000
  · rw [if_pos hK, if_pos hK, k_eqF (by omega) ⟨by omega, by omega⟩ ⟨by omega, by omega⟩]
    by_cases h0 : w 320 = -1
    · rw [cutUp_0 hR h0, k_cs, k_eqT rfl, if_pos h0]
      exact ⟨V, rfl, Fr.rf⟩
    · obtain ⟨V2, r1, r2, r3⟩ := cutUp_1 (N := N) hR h0 hN
      have hb := (hR.2.1.bb h0).2
      have h1 := hR.1.2.1
      have hP := spPulls_b hR.1 (f := wf w) (t := wt w) (bs := wb w)
      have hone := mul_b (x := 2000 * w 1) (y := k) (X := 20000) (Y := 20000) (by omega) (by omega) (by omega) (by omega)
      have hpos : 0 < 2000 * w 1 * k := Int.mul_pos (by omega) (by omega)
      have hLb := (spLack_b hR.1 (by omega) (by omega) (by omega) hb (k := k) (by omega) (P := spPulls w (wf w) (wt w) (wb w)) ⟨hP.1, by omega⟩).1
      have hU := spU_b hR.1 (by omega) hb (wt w - wf w) (by have := hb.1; omega)
      have hkU := mul_kb (k := k) (x := spU w (w 322) (wb w) (wf w) (wt w - wf w) - spPulls w (wf w) (wt w) (wb w)) (X := 2200000000000) (by omega) (by have := hb.2.1; omega) (by have := hb.2.1; omega)
      have hLs : spLack w (wf w) (wt w) (w 322) (wb w) (spPulls w (wf w) (wt w) (wb w)) k ≤ 100000000000000000 := by
        unfold spLack
        split
        · rename_i hn
          have hRb := spR_b hR.1 (by omega) (by omega) (by omega) hb (k := k) (by omega) (wt w - wf w) (by have := hb.1; omega) hn
          split <;> omega
        · omega
      have e1 : V2 (a + 1) 1 = w 1 := by rw [r2 _ (by omega)]; exact hR.2.2.1.1.2.1
      rw [r1, k_cs, k_eqF (by omega) ⟨by omega, by omega⟩ ⟨by omega, by omega⟩, lack_eq r3 hR.1 (by omega) (by omega) (by omega) hb (by omega) hN, k_cs, if_neg h0, k_lltc ⟨by omega, by omega⟩ hLb]
      refine ⟨V2, ?_, r2⟩
      unfold spLeast
      by_cases hl : 0 < spLack w (wf w) (wt w) (w 322) (wb w) (spPulls w (wf w) (wt w) (wb w)) k
      · have hl2 : ¬ spLack w (wf w) (wt w) (w 322) (wb w) (spPulls w (wf w) (wt w) (wb w)) k ≤ 0 := by omega
        rw [if_pos hl, if_neg hl2, e1, k_wid ⟨by omega, by omega⟩, k_wid hk, k_lt, k_lltc ⟨by omega, by omega⟩ ⟨by omega, by omega⟩, if_pos hpos, k_dJ ⟨by omega, by omega⟩ ⟨by omega, by omega⟩ (by omega), Int.tdiv_eq_ediv_of_nonneg (by omega)]
        have hd := Int.ediv_le_self (a := spLack w (wf w) (wt w) (w 322) (wb w) (spPulls w (wf w) (wt w) (wb w)) k + 2000 * w 1 * k - 1) (2000 * w 1 * k) (by omega)
        have hd2 := Int.ediv_nonneg (a := spLack w (wf w) (wt w) (w 322) (wb w) (spPulls w (wf w) (wt w) (wb w)) k + 2000 * w 1 * k - 1) (b := 2000 * w 1 * k) (by omega) (by omega)
        rw [k_llec ⟨by omega, by omega⟩ ⟨by omega, by omega⟩]
        split <;> rfl
      · have hl2 : spLack w (wf w) (wt w) (w 322) (wb w) (spPulls w (wf w) (wt w) (wb w)) k ≤ 0 := by omega
        rw [if_neg hl, if_pos hl2]
        rfl
  · rw [if_neg hK, if_neg hK, k_eqT rfl]
    exact ⟨V, rfl, Fr.rf⟩
theorem m_pull (hw : V (a + 1) = w) (hB : WB 500 200 1500 w) (hP : SP w) (hk : sj_i32 k) (hN : 50 ≤ N) : ∃ V', g_X9_pull N a k V = some (spPullA w k, V') ∧ Fc a V V' := by
  unfold g_X9_pull spPullA
  rw [m_isK hk, k_cs]
  by_cases hK : 1 ≤ k ∧ k ≤ 20000
  · rw [if_pos hK, if_pos hK, k_eqF (by omega) ⟨by omega, by omega⟩ ⟨by omega, by omega⟩]
    obtain ⟨V2, r1, r2, r3⟩ := m_takesSlip (N := N) hw hB hP hN
    rw [r1, k_cs]
    by_cases h0 : w 320 = -1
    · rw [if_pos h0, k_eqT rfl, if_pos h0]
      exact ⟨V2, rfl, r2⟩
    · have hb := (hP.bb h0).2
      have hS := r3 h0
      have w2 := r2.w.trans hw
      have b1 := hB.2.1
      obtain ⟨V3, s1, s2⟩ := m_standsWith (N := N) (k := k) w2 hB (by omega) (by omega) (by omega) hN hS hb (by omega) (P := 2000 * w 1 * 20000) (by omega)
      have hiff := spLeast_iff hB (by omega) (by omega) (by omega) hb hK (m := 20000) (by omega)
      rw [if_neg h0, k_eqF (by omega) ⟨by omega, by omega⟩ ⟨by omega, by omega⟩, k_ix (by omega) (by omega), w2, show (1 : Int).toNat = 1 from rfl, k_wid ⟨by omega, by omega⟩, s1, k_cs, if_neg h0]
      by_cases hT : spLeast w (wf w) (wt w) (w 322) (wb w) k ≤ 20000
      · rw [if_pos (hiff.mpr hT), k_eqF (by omega) ⟨by omega, by omega⟩ ⟨by omega, by omega⟩, if_pos hT]
        have hge : -1 < spLeast w (wf w) (wt w) (w 322) (wb w) k := by
          unfold spLeast
          split
          · omega
          · have hpos : 0 < 2000 * w 1 * k := Int.mul_pos (by omega) (by omega)
            have := Int.ediv_nonneg (a := spLack w (wf w) (wt w) (w 322) (wb w) (spPulls w (wf w) (wt w) (wb w)) k + 2000 * w 1 * k - 1) (b := 2000 * w 1 * k) (by omega) (by omega)
            omega
        obtain ⟨V4, t1, t2⟩ := m_pull_loop (N := N) (a := a) hB (by omega) (by omega) (by omega) hN hb hK N 15 (-1) 20000 V3 (by omega) (by omega) (by omega) (by omega) (by decide) hge hT ((s2.w 0).trans w2) (hS.fm s2)
        exact ⟨V4, t1, r2.tr (s2.tr t2).c⟩
      · rw [if_neg (fun z => hT (hiff.mp z)), k_eqT rfl, if_neg hT]
        exact ⟨V3, rfl, r2.tr s2.c⟩
  · rw [if_neg hK, if_neg hK, k_eqT rfl]
    exact ⟨V, rfl, Fc.rf⟩
end PullAsk2
