section Steps3
variable {V : sj_VV} {a b N : Nat} {x1 x2 x3 x4 : Int} {w : sj_R}
theorem c_col (hR : RG V (a + 1) w) (hc : sj_i32 x1) : g_X0_hasColumn N (a + 1) x1 V = some (if spCol w x1 then 1 else 0, V) := by
  have h0 := hR.1.1
  rw [hasColumn_eq (by rw [hR.2.2.1.1.1]; exact ⟨by omega, by omega⟩) hc, hR.2.2.1.1.1]
theorem s_tell (hI : INV V a b) (hab : b = a + 189) (h1 : sj_i32 x1) (h2 : sj_i32 x2) (h3 : sj_i32 x3) : ST a b (g_X8_tell N a x1 x2 x3) (g_X9_tell N b x1 x2 x3) V := by
  have hR := hI.1
  have hB := hR.1
  unfold ST g_X8_tell g_X9_tell
  rw [c_col hR h1, k_cs]
  by_cases c1 : spCol (V (b + 1)) x1
  · rw [if_pos c1, k_eqF (by omega) ⟨by omega, by omega⟩ ⟨by omega, by omega⟩, k_ltc h2 ⟨by omega, by omega⟩, k_ltc ⟨by omega, by omega⟩ h2]
    have mH : ∀ V1 : sj_VV, V1 (b + 1) = V (b + 1) → g_X9_isColumn N b x1 V1 = some (1, V1) := fun V1 e => by rw [m_isColumn e hB h1, if_pos c1]
    by_cases c2 : 0 ≤ x2 ∧ x2 ≤ 5
    · rw [if_neg (by omega), if_neg (by omega), k_lec ⟨by omega, by omega⟩ h3]
      have hn := hB.1
      obtain ⟨c, hc⟩ : ∃ c : Nat, x1 = c := ⟨x1.toNat, by omega⟩
      subst hc
      have hc40 : c < 41 := by omega
      have hcol := hB.2.2.2.1 c hc40
      have mI : ∀ V1 : sj_VV, g_X9_isIn N x2 0 5 V1 = some (1, V1) := fun V1 => by rw [m_in h2 ⟨by omega, by omega⟩ ⟨by omega, by omega⟩, if_pos c2]
      by_cases c3 : 0 ≤ x3
      · rw [if_pos c3]
        by_cases z0 : x2 = 0
        · subst z0
          rw [k_eqT rfl]
          unfold g_X8_tellRock
          rw [k_ix (by omega) (by omega), tn0, (hR.2.2.1.2.1 c hc40).1, k_lec h3 ⟨by omega, by omega⟩]
          by_cases c4 : x3 ≤ V (b + 1) (3 + c)
          · rw [if_pos c4, k_ix (by omega) (by omega), k_lt, drop_eq, k_cs, k_zs (Or.inr rfl), k_cs, k_zs (Or.inr rfl)]
            obtain ⟨V1, e1⟩ : ∃ V1, V1 = sj_up (sj_up (sj_up V (a + 1 + 2) c x3) (a + 1 + 12) 1 (-1)) (a + 1 + 12) 2 (-1) := ⟨_, rfl⟩
            rw [← e1]
            have f1 : Kt a V V1 := by rw [e1]; exact ((Kt.rf.up (by omega) (by omega)).up (by omega) (by omega)).up (by omega) (by omega)
            have w1 : V1 (b + 1) = V (b + 1) := f1 _ (by omega) (by omega) (by omega)
            have hR1 : RG V1 (a + 1) (wUp (wUp (V (b + 1)) (44 + c) x3) 320 (-1)) := by
              rw [e1]
              exact (hR.up1 (k := 2) (i := c) (j := 44 + c) (v := x3) (by unfold CM; omega) (by unfold CB; rw [show 44 + c - 41 = 3 + c by omega]; omega)).drop
            refine ⟨_, V1, sj_up (sj_up V1 (b + 1) (44 + c) x3) (b + 1) 320 (-1), rfl, ?_, ?_⟩
            · unfold g_X9_tell_55
              rw [mH V1 w1, k_cs, k_eqF (by omega) ⟨by omega, by omega⟩ ⟨by omega, by omega⟩, k_wid h2, mI, k_cs, k_eqF (by omega) ⟨by omega, by omega⟩ ⟨by omega, by omega⟩, k_wid h3, k_eqT rfl, k_ix (by omega) (by omega), show (3 + (c : Int)).toNat = 3 + c by omega, w1, k_wid ⟨by omega, by omega⟩, m_in h3 ⟨by omega, by omega⟩ ⟨by omega, by omega⟩, k_cs, if_pos ⟨c3, c4⟩, k_eqF (by omega) ⟨by omega, by omega⟩ ⟨by omega, by omega⟩, k_eqT rfl, k_ix (by omega) (by omega), k_lt, k_ix (by omega) (by omega), k_lt, k_zs (Or.inr rfl), show (44 + (c : Int)).toNat = 44 + c by omega]
              rfl
            · exact hI.told hab f1 hR1 (fun z hz => by rw [up_row _ _ _ hz, up_row _ _ _ hz]) (up_wUp (up_wUp w1 _ _) _ _) (fun j j1 j2 => by rw [wUp_n _ _ (by omega), wUp_n _ _ (by omega)])
          · rw [if_neg c4, k_zs (Or.inl rfl), k_cs, k_zs (Or.inl rfl)]
            refine ⟨_, V, V, rfl, ?_, hI⟩
            unfold g_X9_tell_55
            rw [mH V rfl, k_cs, k_eqF (by omega) ⟨by omega, by omega⟩ ⟨by omega, by omega⟩, k_wid h2, mI, k_cs, k_eqF (by omega) ⟨by omega, by omega⟩ ⟨by omega, by omega⟩, k_wid h3, k_eqT rfl, k_ix (by omega) (by omega), show (3 + (c : Int)).toNat = 3 + c by omega, k_wid ⟨by omega, by omega⟩, m_in h3 ⟨by omega, by omega⟩ ⟨by omega, by omega⟩, k_cs, if_neg (fun q => c4 q.2), k_eqT rfl, k_zs (Or.inl rfl)]
        · rw [k_eqF z0 h2 ⟨by omega, by omega⟩]
          by_cases z2 : x2 = 2
          · subst z2
            rw [k_eqT rfl]
            unfold g_X8_tell_51
            rw [k_lec h3 ⟨by omega, by omega⟩]
            by_cases c4 : x3 ≤ 500
            · rw [if_pos c4, k_eqF (by omega) h2 ⟨by omega, by omega⟩, k_eqT rfl, k_ix (by omega) (by omega), k_lt, k_zs (Or.inr rfl), tn0]
              refine ⟨_, _, sj_up (sj_up V (a + 1 + 4) c x3) (b + 1) (126 + c) x3, rfl, ?_, ?_⟩
              · unfold g_X9_tell_55 g_X9_tell_110
                rw [mH _ (up_row _ _ _ (by omega)), k_cs, k_eqF (by omega) ⟨by omega, by omega⟩ ⟨by omega, by omega⟩, k_wid h2, mI, k_cs, k_eqF (by omega) ⟨by omega, by omega⟩ ⟨by omega, by omega⟩, k_wid h3, k_eqF (by omega) h2 ⟨by omega, by omega⟩, k_eqT rfl, m_in h3 ⟨by omega, by omega⟩ ⟨by omega, by omega⟩, k_cs, if_pos ⟨c3, c4⟩, k_eqF (by omega) ⟨by omega, by omega⟩ ⟨by omega, by omega⟩, k_eqF (by omega) h2 ⟨by omega, by omega⟩, k_leF (by omega) ⟨by omega, by omega⟩ h2, k_eqF (by omega) h2 ⟨by omega, by omega⟩, k_ix (by omega) (by omega), k_lt, k_zs (Or.inr rfl), show (126 + (c : Int)).toNat = 126 + c by omega]
              · exact hI.told hab (Kt.rf.up (by omega) (by omega)) (hR.up1 (k := 4) (i := c) (j := 126 + c) (v := x3) (by unfold CM; omega) (by unfold CB; omega)) (fun z hz => up_row _ _ _ hz) (up_wUp (up_row _ _ _ (by omega)) _ _) (fun j j1 j2 => wUp_n _ _ (by omega))
            · rw [if_neg c4, k_zs (Or.inl rfl)]
              refine ⟨_, V, V, rfl, ?_, hI⟩
              unfold g_X9_tell_55
              rw [mH V rfl, k_cs, k_eqF (by omega) ⟨by omega, by omega⟩ ⟨by omega, by omega⟩, k_wid h2, mI, k_cs, k_eqF (by omega) ⟨by omega, by omega⟩ ⟨by omega, by omega⟩, k_wid h3, k_eqF (by omega) h2 ⟨by omega, by omega⟩, k_eqT rfl, m_in h3 ⟨by omega, by omega⟩ ⟨by omega, by omega⟩, k_cs, if_neg (fun q => c4 q.2), k_eqT rfl, k_zs (Or.inl rfl)]
          · rw [k_eqF z2 h2 ⟨by omega, by omega⟩]
            unfold g_X8_tell_51
            rw [k_lec h3 ⟨by omega, by omega⟩]
            by_cases c4 : x3 ≤ 100
            · rw [if_pos c4]
              by_cases z1 : x2 = 1
              · subst z1
                rw [k_eqT rfl, k_ix (by omega) (by omega), k_lt, k_zs (Or.inr rfl), tn0]
                refine ⟨_, _, sj_up (sj_up V (a + 1 + 3) c x3) (b + 1) (85 + c) x3, rfl, ?_, ?_⟩
                · unfold g_X9_tell_55 g_X9_tell_110
                  rw [mH _ (up_row _ _ _ (by omega)), k_cs, k_eqF (by omega) ⟨by omega, by omega⟩ ⟨by omega, by omega⟩, k_wid h2, mI, k_cs, k_eqF (by omega) ⟨by omega, by omega⟩ ⟨by omega, by omega⟩, k_wid h3, k_eqF (by omega) h2 ⟨by omega, by omega⟩, k_eqF (by omega) h2 ⟨by omega, by omega⟩, m_in h3 ⟨by omega, by omega⟩ ⟨by omega, by omega⟩, k_cs, if_pos ⟨c3, c4⟩, k_eqF (by omega) ⟨by omega, by omega⟩ ⟨by omega, by omega⟩, k_eqF (by omega) h2 ⟨by omega, by omega⟩, k_leF (by omega) ⟨by omega, by omega⟩ h2, k_eqT rfl, k_ix (by omega) (by omega), k_lt, k_zs (Or.inr rfl), show (85 + (c : Int)).toNat = 85 + c by omega]
                · exact hI.told hab (Kt.rf.up (by omega) (by omega)) (hR.up1 (k := 3) (i := c) (j := 85 + c) (v := x3) (by unfold CM; omega) (by unfold CB; omega)) (fun z hz => up_row _ _ _ hz) (up_wUp (up_row _ _ _ (by omega)) _ _) (fun j j1 j2 => wUp_n _ _ (by omega))
              · obtain ⟨l, hl⟩ : ∃ l : Nat, x2 = (l : Int) + 3 := ⟨(x2 - 3).toNat, by omega⟩
                subst hl
                rw [k_eqF z1 h2 ⟨by omega, by omega⟩, k_eqF z2 h2 ⟨by omega, by omega⟩, topPlace_eq, k_cs, k_ix (by omega) (by omega), k_lt, k_zs (Or.inr rfl), show (((l : Int) + 3 - 2 - 1) * 41 + (c : Int)).toNat = 41 * l + c by omega]
                refine ⟨_, _, sj_up (sj_up V (a + 1 + 5) (41 * l + c) x3) (b + 1) (167 + (41 * l + c)) x3, rfl, ?_, ?_⟩
                · unfold g_X9_tell_55
                  rw [mH _ (up_row _ _ _ (by omega)), k_cs, k_eqF (by omega) ⟨by omega, by omega⟩ ⟨by omega, by omega⟩, k_wid h2, mI, k_cs, k_eqF (by omega) ⟨by omega, by omega⟩ ⟨by omega, by omega⟩, k_wid h3, k_eqF z0 h2 ⟨by omega, by omega⟩, k_eqF z2 h2 ⟨by omega, by omega⟩, m_in h3 ⟨by omega, by omega⟩ ⟨by omega, by omega⟩, k_cs, if_pos ⟨c3, c4⟩, k_eqF (by omega) ⟨by omega, by omega⟩ ⟨by omega, by omega⟩, k_eqF z0 h2 ⟨by omega, by omega⟩, k_leT (by omega) ⟨by omega, by omega⟩ h2, k_ix (by omega) (by omega), k_lt, k_zs (Or.inr rfl), show (167 + 41 * ((l : Int) + 3 - 3) + (c : Int)).toNat = 167 + (41 * l + c) by omega]
                · exact hI.told hab (Kt.rf.up (by omega) (by omega)) (hR.up1 (k := 5) (i := 41 * l + c) (j := 167 + (41 * l + c)) (v := x3) (by unfold CM; omega) (by unfold CB; omega)) (fun z hz => up_row _ _ _ hz) (up_wUp (up_row _ _ _ (by omega)) _ _) (fun j j1 j2 => wUp_n _ _ (by omega))
            · rw [if_neg c4, k_zs (Or.inl rfl)]
              refine ⟨_, V, V, rfl, ?_, hI⟩
              unfold g_X9_tell_55
              rw [mH V rfl, k_cs, k_eqF (by omega) ⟨by omega, by omega⟩ ⟨by omega, by omega⟩, k_wid h2, mI, k_cs, k_eqF (by omega) ⟨by omega, by omega⟩ ⟨by omega, by omega⟩, k_wid h3, k_eqF z0 h2 ⟨by omega, by omega⟩, k_eqF z2 h2 ⟨by omega, by omega⟩, m_in h3 ⟨by omega, by omega⟩ ⟨by omega, by omega⟩, k_cs, if_neg (fun q => c4 q.2), k_eqT rfl, k_zs (Or.inl rfl)]
      · rw [if_neg c3, k_zs (Or.inl rfl)]
        refine ⟨_, V, V, rfl, ?_, hI⟩
        have t55 : ∀ y0 : Int, sj_i32 y0 → g_X9_tell_55 N b c x2 x3 y0 0 x3 V = some (0, V) := fun y0 hy => by
          unfold g_X9_tell_55
          rw [m_in h3 ⟨by omega, by omega⟩ hy, k_cs, if_neg (fun q => c3 q.1), k_eqT rfl, k_zs (Or.inl rfl)]
        rw [mH V rfl, k_cs, k_eqF (by omega) ⟨by omega, by omega⟩ ⟨by omega, by omega⟩, k_wid h2, mI, k_cs, k_eqF (by omega) ⟨by omega, by omega⟩ ⟨by omega, by omega⟩, k_wid h3, k_ix (by omega) (by omega), show (3 + (c : Int)).toNat = 3 + c by omega, k_wid ⟨by omega, by omega⟩, t55 _ ⟨by omega, by omega⟩, t55 _ ⟨by omega, by omega⟩, t55 _ ⟨by omega, by omega⟩, k_eq h2 ⟨by omega, by omega⟩, k_eq h2 ⟨by omega, by omega⟩]
        split
        · rfl
        · split <;> rfl
    · refine ⟨0, V, V, ?_, ?_, hI⟩
      · by_cases z : x2 < 0
        · rw [if_pos z]; rfl
        · rw [if_neg z, if_pos (by omega)]; rfl
      · rw [mH V rfl, k_cs, k_eqF (by omega) ⟨by omega, by omega⟩ ⟨by omega, by omega⟩, k_wid h2, m_in h2 ⟨by omega, by omega⟩ ⟨by omega, by omega⟩, if_neg c2, k_cs, k_eqT rfl]; rfl
  · rw [if_neg c1, k_eqT rfl, k_zs (Or.inl rfl)]
    refine ⟨_, V, V, rfl, ?_, hI⟩
    rw [m_isColumn rfl hB h1, k_cs, if_neg c1, k_eqT rfl]; rfl
theorem s_state (hI : INV V a b) (hab : b = a + 189) : ST a b (g_X8_state N a x1) (g_X9_state N b x1) V := by
  unfold ST g_X8_state g_X9_state
  rw [k_lt, k_lt, hI.2.1.1.2]
  refine ⟨_, _, sj_up (sj_up V (a + 43) 3 x1) (b + 1) 389 x1, rfl, ?_, ?_⟩
  · rw [k_ix (by omega) (by omega), k_lt, k_ix (by omega) (by omega), k_lt, up_row _ _ _ (by omega)]; rfl
  · obtain ⟨h1, h2, h3, h4, h5, h6⟩ := hI
    have w2 : sj_up (sj_up V (a + 43) 3 x1) (b + 1) 389 x1 (b + 1) = wUp (V (b + 1)) 389 x1 := up_wUp (up_row _ _ _ (by omega)) _ _
    have e : ∀ z, z ≠ a + 43 → z ≠ b + 1 → sj_up (sj_up V (a + 43) 3 x1) (b + 1) 389 x1 z = V z := fun z z1 z2 => by rw [up_row _ _ _ z2, up_row _ _ _ z1]
    refine ⟨?_, ?_, ?_, ?_, ?_, ?_⟩
    · rw [w2]
      exact (h1.eq (fun z z1 z2 => e z (by omega) (by omega))).row (fun j hj => wUp_n _ _ (by omega))
    · rw [w2]
      obtain ⟨a1, a2, a3, a4, a5⟩ := h2
      have u : ∀ j, j ≠ 389 → wUp (V (b + 1)) 389 x1 j = V (b + 1) j := fun j hj => wUp_n _ _ hj
      refine ⟨⟨?_, ?_⟩, ?_, fun i hi => ?_, fun i hi => ?_, fun i hi => ?_⟩
      · rw [up_row _ _ _ (by omega), up_nk _ _ _ (by omega), u _ (by omega)]; exact a1.1
      · rw [up_row _ _ _ (by omega), up_ss, wUp_s]
      · rw [u _ (by omega)]; exact a2
      · rw [e _ (by omega) (by omega), e _ (by omega) (by omega), u _ (by omega), u _ (by omega)]; exact a3 i hi
      · rw [u _ (by omega)] at hi
        rw [u _ (by omega), u _ (by omega)]; exact a4 i hi
      · rw [u _ (by omega)] at hi
        rw [u _ (by omega), u _ (by omega)]; exact a5 i hi
    · exact h3.eq (by rw [e _ (by omega) (by omega)]) (by rw [e _ (by omega) (by omega)]) (by rw [e _ (by omega) (by omega)]) (e _ (by omega) (by omega)) (fun z z1 z2 => e z (by omega) (by omega))
    · exact h4.eq (by rw [e _ (by omega) (by omega)]) (by rw [e _ (by omega) (by omega)]) (e _ (by omega) (by omega)) (fun z z1 z2 => e z (by omega) (by omega)) (fun z z1 z2 => e z (by omega) (by omega)) (TL.of (e _ (by omega) (by omega)))
    · exact h5.eq (e _ (by omega) (by omega)) (e _ (by omega) (by omega)) (fun j j1 j2 => by rw [e _ (by omega) (by omega)]) (e _ (by omega) (by omega))
    · exact h6.eq (e _ (by omega) (by omega)) (e _ (by omega) (by omega)) (by rw [e _ (by omega) (by omega)]) (e _ (by omega) (by omega))
end Steps3
