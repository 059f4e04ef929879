/-! SLICE, RUBS, SUM as they are asked -/
section SliceAsk
variable {V : sj_VV} {a : Nat} {w : sj_R} {k i x : Int} {N : Nat}
abbrev spHasI (w : sj_R) (i : Int) : Prop := w 320 ≠ -1 ∧ 0 ≤ i ∧ i < w 321 - w 320
theorem c_count (hR : RG V (a + 1) w) : g_X5_count N (a + 1 + 12) V = some (if w 320 = -1 then 0 else w 321 - w 320, V) := by
  obtain ⟨hB, hP, hC, hS⟩ := hR
  by_cases h0 : w 320 = -1
  · unfold g_X5_count
    rw [(hS.2.1 h0).1, (hS.2.1 h0).2, if_pos h0]
    rfl
  · have hb := hP.bb h0
    rw [count_eq (hS.2.2 h0), if_neg h0, hb.1.1, hb.1.2.1]
/-- what the class does ahead of asking slice i -/
theorem c_hasI (hR : RG V (a + 1) w) (hi : sj_i32 i) (A : Option (Int × sj_VV)) (K : sj_VV → Option (Int × sj_VV)) (hA : A = e_ilt i 0 (some (x, V)) (e_cs (g_X5_count N (a + 1 + 12) V) fun v2 V1 => e_ile v2 i (some (x, V1)) (K V1))) : A = if spHasI w i then K V else some (x, V) := by
  have hn := hR.1.1
  have hP := hR.2.1
  rw [hA, k_ltc hi ⟨by omega, by omega⟩]
  by_cases c1 : i < 0
  · rw [if_pos c1, if_neg (by unfold spHasI; omega)]
  · rw [if_neg c1, c_count hR, k_cs]
    by_cases h0 : w 320 = -1
    · rw [if_pos h0, k_leT (by omega) ⟨by omega, by omega⟩ hi, if_neg (by unfold spHasI; omega)]
    · have hb := hP.bb h0
      have hb2 := hb.2.1
      have hb3 := hb.2.2.1
      rw [if_neg h0, k_lec ⟨by omega, by omega⟩ hi]
      by_cases c2 : w 321 - w 320 ≤ i
      · rw [if_pos c2, if_neg (by unfold spHasI; omega)]
      · rw [if_neg c2, if_pos (by unfold spHasI; omega)]
theorem m_isSlice (hw : V (a + 1) = w) (hB : WB 500 200 1500 w) (hP : SP w) (hi : sj_i32 i) (hN : 50 ≤ N) : ∃ V', g_X9_isSlice N a i V = some (if spHasI w i then 1 else 0, V') ∧ Fc a V V' ∧ (w 320 ≠ -1 → SM V' a (wf w) (wt w) (w 322) (wb w)) := by
  unfold g_X9_isSlice
  have hn := hB.1
  obtain ⟨V2, r1, r2, r3⟩ := m_takesSlip (N := N) hw hB hP hN
  rw [r1, k_cs]
  by_cases h0 : w 320 = -1
  · rw [if_pos h0, k_eqT rfl, k_zs (Or.inl rfl), if_neg (by unfold spHasI; omega)]
    exact ⟨V2, rfl, r2, r3⟩
  · have hb := hP.bb h0
    have hb2 := hb.2.1
    have hb3 := hb.2.2.1
    have hS := r3 h0
    refine ⟨V2, ?_, r2, r3⟩
    rw [if_neg h0, k_eqF (by omega) ⟨by omega, by omega⟩ ⟨by omega, by omega⟩, k_wid hi, hS.1, hS.2.1, k_wid ⟨by omega, by omega⟩, m_isIn (sj_i64_of hi) ⟨by omega, by omega⟩ ⟨by omega, by omega⟩, k_cs]
    by_cases c : 0 ≤ i ∧ i ≤ (wt w : Int) - (wf w : Int) - 1
    · rw [if_pos c, k_eqF (by omega) ⟨by omega, by omega⟩ ⟨by omega, by omega⟩, k_zs (Or.inr rfl), if_pos (by unfold spHasI; omega)]
    · rw [if_neg c, k_eqT rfl, k_zs (Or.inl rfl), if_neg (by unfold spHasI; omega)]
def spSlice (w : sj_R) (i what : Int) : Int :=
  if spHasI w i then
    if what = 0 then w 320 + i else if what = 1 then slRise (w 322) (w (323 + (w 320 + i).toNat)) (w (323 + ((w 320 + i).toNat + 1)))
    else if what = 2 then slW w (w 320 + i).toNat (w (323 + (w 320 + i).toNat)) (w (323 + ((w 320 + i).toNat + 1)))
    else if what = 3 then slL w (w 320 + i).toNat (w (323 + (w 320 + i).toNat)) (w (323 + ((w 320 + i).toNat + 1)))
    else if what = 4 then slP w (w 320 + i).toNat (w (323 + (w 320 + i).toNat)) (w (323 + ((w 320 + i).toNat + 1)))
    else if what = 5 then (slY w (w 320 + i).toNat (w (323 + (w 320 + i).toNat)) (w (323 + ((w 320 + i).toNat + 1))) : Nat)
    else if what = 6 then slS w (w 320 + i).toNat (w (323 + (w 320 + i).toNat)) (w (323 + ((w 320 + i).toNat + 1)))
    else if what = 7 then slU w (w 322) (w 320 + i).toNat (w (323 + (w 320 + i).toNat)) (w (323 + ((w 320 + i).toNat + 1)))
    else -10000000000000
  else -10000000000000
theorem c_slice {what : Int} (hR : RG V (a + 1) w) (hi : sj_i32 i) (hw2 : sj_i32 what) (hN : 50 ≤ N) : ∃ V', g_X8_slice N a i what V = some (spSlice w i what, V') ∧ Fr (a + 54) (a + 63) V V' := by
  rw [c_hasI (x := -10000000000000) (K := fun V1 => _) hR hi (g_X8_slice N a i what V) rfl]
  unfold spSlice
  by_cases hI : spHasI w i
  · have h0 := hI.1
    have hb := hR.2.1.bb h0
    have hn := hR.1.1
    have hb3 := hb.2.2.1
    obtain ⟨i1, i2, i3⟩ := id hI
    obtain ⟨V2, r1, r2, r3⟩ := cutUp_1 (N := N) hR h0 hN
    obtain ⟨j, rfl⟩ : ∃ j : Nat, i = j := ⟨i.toNat, by omega⟩
    have hj : wf w + j < wt w := by omega
    have ej : (w 320 + (j : Int)).toNat = wf w + j := by omega
    have e0 : V2 (a + 1 + 12) = V (a + 1 + 12) := r2 _ (by omega)
    have eF : V (a + 1 + 12) 1 = w 320 := by rw [(hR.2.2.2.2.2 h0).1]; exact hb.1.1.symm
    obtain ⟨s1, s2, s3, s4⟩ := r3.1.2.2.2 j hj
    obtain ⟨t1, t2, t3, t4⟩ := r3.2 j hj
    have p1 := hb.2.2.2.2 (wf w + j) (by omega) (by omega)
    have p2 := hb.2.2.2.2 (wf w + j + 1) (by omega) (by omega)
    have bW := slW_b hR.1 (by omega) (x := wf w + j) (by omega) p1 p2
    have bL := slL_b hR.1 (x := wf w + j) (by omega) p1 p2
    have bP := slP_b hR.1 (by omega) (x := wf w + j) (by omega) p1 p2
    have bR := slRise_b (lf := w 322) p1 p2
    have bY := spLayer_b w (wf w + j) (wb w (wf w + j) + wb w (wf w + j + 1))
    have eP := press_eq (N := N) (V := V2) hR.1 (by omega) hb.2 hj ⟨s1, s2, s3, s4⟩
    rw [if_pos hI, if_pos hI, r1, k_cs, k_eqF (by omega) ⟨by omega, by omega⟩ ⟨by omega, by omega⟩, k_sw hw2, ej, e0, eF, k_wid ⟨by omega, by omega⟩, k_ix (by omega) (by omega), k_ix (by omega) (by omega), k_ix (by omega) (by omega), k_ix (by omega) (by omega), k_ix (by omega) (by omega), k_ix (by omega) (by omega), tn0, s1, s2, s3, s4, t1, t2, eP, k_cs, k_wid ⟨by omega, by omega⟩, k_wid ⟨by omega, by omega⟩, k_wid ⟨by omega, by omega⟩, k_wid ⟨by omega, by omega⟩, k_wid ⟨by unfold slY; omega, by unfold slY; omega⟩]
    refine ⟨V2, ?_, r2⟩
    repeat' split
    all_goals rfl
  · rw [if_neg hI, if_neg hI]
    exact ⟨V, rfl, Fr.rf⟩
theorem m_slice {what : Int} (hw : V (a + 1) = w) (hB : WB 500 200 1500 w) (hP : SP w) (hi : sj_i32 i) (hw2 : sj_i32 what) (hN : 50 ≤ N) : ∃ V', g_X9_slice N a i what V = some (spSlice w i what, V') ∧ Fc a V V' := by
  unfold g_X9_slice spSlice
  obtain ⟨V2, r1, r2, r3⟩ := m_isSlice (N := N) hw hB hP hi hN
  rw [r1, k_cs]
  by_cases hI : spHasI w i
  · have h0 := hI.1
    have hb := hP.bb h0
    have hn := hB.1
    have hb3 := hb.2.2.1
    obtain ⟨i1, i2, i3⟩ := id hI
    have hS := r3 h0
    obtain ⟨j, rfl⟩ : ∃ j : Nat, i = j := ⟨i.toNat, by omega⟩
    have hj : wf w + j < wt w := by omega
    have ej : (w 320 + (j : Int)).toNat = wf w + j := by omega
    have ef : ((wf w : Nat) : Int) + (j : Int) = ((wf w + j : Nat) : Int) := by omega
    obtain ⟨V3, s1, s2, s3⟩ := m_laysAt (N := N) (r2.w.trans hw) hB (by omega) (by omega) (by omega) hN hS hb.2 (x := wf w + j) (by omega) hj
    have e13 : V3 a 13 = (wf w : Nat) := (s2.2 13 (by omega)).trans hS.1
    have p1 := hb.2.2.2.2 (wf w + j) (by omega) (by omega)
    have p2 := hb.2.2.2.2 (wf w + j + 1) (by omega) (by omega)
    have bR := slRise_b (lf := w 322) p1 p2
    have bY := spLayer_b w (wf w + j) (wb w (wf w + j) + wb w (wf w + j + 1))
    obtain ⟨l1, l2, l3, l4, l5, l6, l7⟩ := s3
    rw [if_pos hI, if_pos hI, k_eqF (by omega) ⟨by omega, by omega⟩ ⟨by omega, by omega⟩, hS.1, ef, s1, k_cs, k_sw hw2, e13, ef, ej, k_wid ⟨by omega, by omega⟩, l1, l2, l3, l4, l5, l6, l7, k_wid ⟨by omega, by omega⟩, k_wid ⟨by unfold slY; omega, by unfold slY; omega⟩, show w 320 + (j : Int) = ((wf w + j : Nat) : Int) by omega]
    refine ⟨V3, ?_, r2.tr s2.c⟩
    repeat' split
    all_goals rfl
  · rw [if_neg hI, if_neg hI, k_eqT rfl]
    exact ⟨V2, rfl, r2⟩
end SliceAsk
