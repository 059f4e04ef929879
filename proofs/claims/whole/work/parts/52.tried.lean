/-! TRIED, BOXES, SCAN as they are asked -/
section Tried
variable {V : sj_VV} {a : Nat} {w : sj_R} {k x y r st lf what : Int} {N : Nat}
theorem c_tried (hR : RG V (a + 1) w) (h1 : sj_i32 x) (h2 : sj_i32 y) (h3 : sj_i32 r) (hlf : lf = 0 ∨ lf = 1) (hN : 1000 ≤ N) : ∃ V', g_X8_tried N a x y r lf V = some (spFBy w x y r lf, V') ∧ Fr (a + 63) (a + 75) V V' := by
  unfold g_X8_tried
  obtain ⟨q, V2, r1, r2, r3, r4⟩ := ask_eq (N := N) (s := a + 63) (lim := 20001) hR.2.2.1 (by omega) hR.1 (by omega) (by omega) (by omega) h1 h2 h3 hlf (by omega) hN
  have hF := spFBy_b w x y r lf
  have e : q = spFBy w x y r lf := by
    by_cases z : spFBy w x y r lf = -1
    · rw [r3 z, z]
    · exact (r4 z).1 (by omega)
  rw [r1, k_cs, e]
  exact ⟨V2, rfl, r2.wide (by omega) (by omega)⟩
theorem m_tried (hw : V (a + 1) = w) (hB : WB 500 200 1500 w) (h1 : sj_i32 x) (h2 : sj_i32 y) (h3 : sj_i32 r) (hlf : lf = 0 ∨ lf = 1) (hN : 1000 ≤ N) : ∃ V', g_X9_tried N a x y r lf V = some (spFBy w x y r lf, V') ∧ Fc a V V' := by
  unfold g_X9_tried
  obtain ⟨V2, r1, r2⟩ := m_factorBy (N := N) hw hB (by omega) (by omega) (by omega) h1 h2 h3 hlf hN
  rw [r1, k_cs]
  exact ⟨V2, rfl, r2⟩
abbrev spBoxOk (x y r st what : Int) : Prop := spCirc x y r ∧ (1 ≤ st ∧ st ≤ 64) ∧ 0 ≤ what ∧ what ≤ 4
def spBoxesA (w : sj_R) (x y r st lf what : Int) : Int := if spBoxOk x y r st what then if (spBoxes w lf x y r st).1.2.2.2 ≤ 20000 then if what = 0 then (spBoxes w lf x y r st).1.2.2.2 else if what = 1 then (spBoxes w lf x y r st).1.1 else if what = 2 then (spBoxes w lf x y r st).1.2.1 else if what = 3 then (spBoxes w lf x y r st).1.2.2.1 else ((spBoxes w lf x y r st).2 : Int) else -100 else -100
theorem c_boxes (hR : RG V (a + 1) w) (h1 : sj_i32 x) (h2 : sj_i32 y) (h3 : sj_i32 r) (h4 : sj_i32 st) (h5 : sj_i32 what) (hlf : lf = 0 ∨ lf = 1) (hN : 1000 ≤ N) : ∃ V', g_X8_boxes N a x y r st lf what V = some (spBoxesA w x y r st lf what, V') ∧ Fr (a + 63) (a + 75) V V' := by
  unfold g_X8_boxes spBoxesA
  rw [isCircle_eq h1 h2 h3, k_cs, k_ltc h4 ⟨by omega, by omega⟩, k_ltc ⟨by omega, by omega⟩ h4, k_ltc h5 ⟨by omega, by omega⟩, k_lec h5 ⟨by omega, by omega⟩]
  by_cases hok : spBoxOk x y r st what
  · obtain ⟨c1, c2, c3⟩ := id hok
    obtain ⟨V2, r1, r2, r3, r4⟩ := seek_eq (N := N) (s := a + 63) (st := st) hR.2.2.1 (by omega) hR.1 (by omega) (by omega) (by omega) hlf c1 (by omega) hN
    rw [if_pos c1, k_eqF (by omega) ⟨by omega, by omega⟩ ⟨by omega, by omega⟩, if_neg (by omega), if_neg (by omega), if_neg (by omega), if_pos (by omega), r1, k_cs, if_pos hok]
    refine ⟨V2, ?_, r2⟩
    by_cases hb : (spBoxes w lf x y r st).1.2.2.2 ≤ 20000
    · rw [if_pos hb, k_eqF (by omega) ⟨by omega, by omega⟩ ⟨by omega, by omega⟩, k_sw h5, if_pos hb, r3.1, r3.2.1, r3.2.2.1, r3.2.2.2, r4]
      repeat' split
      all_goals rfl
    · rw [if_neg hb, k_eqT rfl, if_neg hb]
  · rw [if_neg hok]
    refine ⟨V, ?_, Fr.rf⟩
    by_cases c1 : spCirc x y r
    · rw [if_pos c1, k_eqF (by omega) ⟨by omega, by omega⟩ ⟨by omega, by omega⟩]
      by_cases d1 : st < 1
      · rw [if_pos d1]
      · by_cases d2 : 64 < st
        · rw [if_neg d1, if_pos d2]
        · by_cases d3 : what < 0
          · rw [if_neg d1, if_neg d2, if_pos d3]
          · by_cases d4 : what ≤ 4
            · exact absurd ⟨c1, by omega, by omega⟩ hok
            · rw [if_neg d1, if_neg d2, if_neg d3, if_neg d4]
    · rw [if_neg c1, k_eqT rfl]
theorem m_boxes (hw : V (a + 1) = w) (hB : WB 500 200 1500 w) (h1 : sj_i32 x) (h2 : sj_i32 y) (h3 : sj_i32 r) (h4 : sj_i32 st) (h5 : sj_i32 what) (hlf : lf = 0 ∨ lf = 1) (hN : 1000 ≤ N) : ∃ V', g_X9_boxes N a x y r st lf what V = some (spBoxesA w x y r st lf what, V') ∧ Fs a V V' := by
  unfold g_X9_boxes spBoxesA
  rw [m_isCircle h1 h2 h3, k_cs]
  by_cases c1 : spCirc x y r
  · rw [if_pos c1, k_eqF (by omega) ⟨by omega, by omega⟩ ⟨by omega, by omega⟩, k_wid h4, m_isIn (sj_i64_of h4) ⟨by omega, by omega⟩ ⟨by omega, by omega⟩, k_cs]
    by_cases c2 : 1 ≤ st ∧ st ≤ 64
    · rw [if_pos c2, k_eqF (by omega) ⟨by omega, by omega⟩ ⟨by omega, by omega⟩, k_wid h5, m_isIn (sj_i64_of h5) ⟨by omega, by omega⟩ ⟨by omega, by omega⟩, k_cs]
      by_cases c3 : 0 ≤ what ∧ what ≤ 4
      · obtain ⟨V2, r1, r2, r3, r4⟩ := m_searches (N := N) (a := a) (st := st) hw hB (by omega) (by omega) (by omega) hlf c1 (by omega) hN
        have hq := (spBx_ok w lf 60 0 st (x, y, r, spBest (spFBy w x y r lf)) ⟨c1, spBest_b w x y r lf⟩).1.2
        have hq2 : 0 ≤ (spBoxes w lf x y r st).1.2.2.2 ∧ (spBoxes w lf x y r st).1.2.2.2 ≤ 20001 := hq
        rw [if_pos c3, k_eqF (by omega) ⟨by omega, by omega⟩ ⟨by omega, by omega⟩, r1, k_cs, if_pos ⟨c1, c2, c3⟩]
        refine ⟨V2, ?_, r2⟩
        by_cases hb : (spBoxes w lf x y r st).1.2.2.2 ≤ 20000
        · have eN : spNo (spBoxes w lf x y r st).1.2.2.2 = (spBoxes w lf x y r st).1.2.2.2 := by unfold spNo; rw [if_neg (by omega)]
          rw [eN, k_eqF (by omega) ⟨by omega, by omega⟩ ⟨by omega, by omega⟩, if_pos hb, k_eq h5 ⟨by omega, by omega⟩, k_eq h5 ⟨by omega, by omega⟩, k_eq h5 ⟨by omega, by omega⟩, k_eq h5 ⟨by omega, by omega⟩, r3.1, r3.2.1, r3.2.2.1, r3.2.2.2, r4, eN]
          repeat' split
          all_goals rfl
        · rw [show spNo (spBoxes w lf x y r st).1.2.2.2 = -1 by unfold spNo; rw [if_pos (by omega)], k_eqT rfl, if_neg hb]
      · rw [if_neg c3, k_eqT rfl, if_neg (fun z => c3 z.2.2)]
        exact ⟨V, rfl, Fs.rf⟩
    · rw [if_neg c2, k_eqT rfl, if_neg (fun z => c2 z.2.1)]
      exact ⟨V, rfl, Fs.rf⟩
  · rw [if_neg c1, k_eqT rfl, if_neg (fun z => c1 z.1)]
    exact ⟨V, rfl, Fs.rf⟩
end Tried
