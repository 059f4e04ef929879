section Needs4
variable {V : sj_VV} {a : Nat} {w : sj_R} {k : Int} {N : Nat}
theorem wHold_0 (w : sj_R) : wHold w 0 = w := by
  funext j
  unfold wHold
  split
  · rw [Int.add_zero]
  · rfl
/-- a question that lays the row aside: what is common to them -/
theorem m_lay (hw : V (a + 1) = w) (hB : WB 500 200 1500 w) (hP : SP w) (hN : 1000 ≤ N) (h0 : w 320 ≠ -1) : ∃ V1 V2, g_X9_takesSlip N a V = some (1, V1) ∧ g_X9_laysAside N a V1 = some ((), V2) ∧ V2 (a + 1) = w ∧ (∀ d, d < 390 → V2 (a + 2) d = w d) ∧ SM V2 a (wf w) (wt w) (w 322) (wb w) ∧ (∀ z, z ≠ a → z ≠ a + 2 → z ≠ a + 5 → V2 z = V z) ∧ ∀ j, (j < 6 ∨ 16 ≤ j) → V2 a j = V a j := by
  obtain ⟨V2, r1, r2, r3⟩ := m_takesSlip (N := N) hw hB hP (by omega)
  have hS := r3 h0
  obtain ⟨V3, s1, s2, s3⟩ := m_laysAside (N := N) (a := a) (V := V2) hN
  have w2 := r2.w.trans hw
  rw [if_neg h0] at r1
  exact ⟨V2, V3, r1, s1, (s2 _ (by omega)).trans w2, fun d hd => by rw [s3 d hd, w2], ⟨by rw [s2 _ (by omega)]; exact hS.1, by rw [s2 _ (by omega)]; exact hS.2.1, by rw [s2 _ (by omega)]; exact hS.2.2.1, fun d d1 d2 => by rw [s2 _ (by omega)]; exact hS.2.2.2 d d1 d2⟩, fun z z1 z2 z3 => (s2 z z2).trans (r2.1 z z1 z3), fun j hj => by rw [s2 a (by omega)]; exact r2.2 j hj⟩
theorem m_needs (hw : V (a + 1) = w) (hB : WB 500 200 1500 w) (hP : SP w) (hk : sj_i32 k) (hN : 1000 ≤ N) : ∃ V', g_X9_needs N a k V = some (spNeeds w k, V') ∧ V' (a + 1) = w ∧ Fa a V V' := by
  unfold g_X9_needs spNeeds
  rw [m_isK hk, k_cs]
  by_cases hK : 1 ≤ k ∧ k ≤ 20000
  · rw [if_pos hK, if_pos hK, k_eqF (by omega) ⟨by omega, by omega⟩ ⟨by omega, by omega⟩]
    by_cases h0 : w 320 = -1
    · obtain ⟨V2, r1, r2, r3⟩ := m_takesSlip (N := N) hw hB hP (by omega)
      rw [r1, k_cs, if_pos h0, k_eqT rfl, if_pos h0]
      exact ⟨V2, rfl, r2.w.trans hw, r2.s.asd⟩
    · obtain ⟨V1, V2, r1, r2, r3, r4, r5, r6, r7⟩ := m_lay (N := N) hw hB hP hN h0
      have hb := (hP.bb h0).2
      obtain ⟨V3, s1, s2, s3, s4⟩ := m_needs_loop (N := N) (a := a) hB hb hK hN N 0 V2 (by omega) (by omega) (by rw [r3]; exact (wHold_0 w).symm) r4 r5 rfl
      rw [r1, k_cs, k_eqF (by omega) ⟨by omega, by omega⟩ ⟨by omega, by omega⟩, r2, k_cs, if_neg h0]
      refine ⟨V3, s1, s2, fun z z1 z2 z3 => ?_, fun j hj => ?_⟩
      · by_cases z4 : z = a + 1
        · rw [z4, s2, hw]
        · rw [s3 z z1 z4, r6 z z1 z2 z3]
      · rw [s4 j (by omega), r7 j (by omega)]
  · rw [if_neg hK, if_neg hK, k_eqT rfl]
    exact ⟨V, rfl, hw, Fs.rf.asd⟩
end Needs4
