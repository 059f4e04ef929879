/-! ANCHORED, ANCHOR, POINT, END, FAULT, SIGN -/
section Anch
variable {V : sj_VV} {a b ga i N : Nat} {x1 x2 x3 x4 c h p lv hv rv : Int} {w : sj_R}
theorem s_anchored (hI : INV V a b) (hab : b = a + 189) (h1 : sj_i32 x1) (h2 : sj_i32 x2) (hN : 1000 ≤ N) : ST a b (g_X8_anchored N a x1 x2) (g_X9_anchored N b x1 x2) V := by
  have hR := hI.1
  have hB := hR.1
  unfold ST g_X8_anchored g_X9_anchored
  rw [k_ltc h1 ⟨by omega, by omega⟩, k_lec ⟨by omega, by omega⟩ h1]
  by_cases c1 : 0 ≤ x1 ∧ x1 ≤ 5
  · obtain ⟨i, hi⟩ : ∃ i : Nat, x1 = i := ⟨x1.toNat, by omega⟩
    subst hi
    obtain ⟨g1, g2⟩ := hR.2.2.1.2.2.2.2 i (by omega)
    obtain ⟨b1, b2⟩ := hB.2.2.2.2.2.2 i (by omega)
    rw [if_neg (by omega), if_neg (by omega), k_ix (by omega) (by omega), tn0, g1]
    by_cases y : V (b + 1) (304 + 3 * i) = 0
    · rw [k_eqT y]
      refine ⟨_, V, V, rfl, ?_, hI⟩
      rw [m_isAnchor rfl hB (by omega), k_cs, if_neg (by omega), k_eqT rfl]
    · have g2 := g2 (by omega)
      rw [k_eqF y ⟨by omega, by omega⟩ ⟨by omega, by omega⟩, k_sw h2, g2.1, g2.2]
      have mA : ∀ V1 : sj_VV, V1 (b + 1) = V (b + 1) → g_X9_isAnchor N b i V1 = some (1, V1) := fun V1 e => by rw [m_isAnchor e hB (by omega), if_pos (by omega)]
      by_cases c2 : 0 ≤ x2 ∧ x2 ≤ 3
      · by_cases c3 : x2 = 3
        · subst c3
          rw [if_neg (by omega), if_neg (by omega), if_neg (by omega), if_pos rfl]
          obtain ⟨V3, r1, r2, r3⟩ := m_takesSlip (N := N) (a := b) rfl hB hR.2.1 (by omega)
          have eM : ∀ r V', (e_ieq (if V (b + 1) 320 = -1 then 0 else 1) 0 (some ((0 : Int), V3)) (e_cs (g_X9_isCounting N b i V3) fun v9 V8 => e_ieq v9 0 (some (0, V8)) (some (1, V8)))) = some (r, V') → (e_cs (g_X9_isAnchor N b i V) fun v2 V1 => e_ieq v2 0 (some (-1, V1)) (e_wid 3 fun v3 => e_cs (g_X9_isIn N v3 0 3 V1) fun v5 V4 => e_ieq v5 0 (some (-1, V4)) (e_ile 3 3 (e_cs (g_X9_takesSlip N b V4) fun v7 V6 => e_ieq v7 0 (some (0, V6)) (e_cs (g_X9_isCounting N b i V6) fun v9 V8 => e_ieq v9 0 (some (0, V8)) (some (1, V8)))) (e_ix 390 (302 + 3 * (i : Int) + 3) fun _ => some (V4 (b + 1) (302 + 3 * (i : Int) + 3).toNat, V4))))) = some (r, V') := fun r V' e => by
            rw [mA V rfl, k_cs, k_eqF (by omega) ⟨by omega, by omega⟩ ⟨by omega, by omega⟩, k_wid h2, m_in h2 ⟨by omega, by omega⟩ ⟨by omega, by omega⟩, k_cs, if_pos ⟨by omega, by omega⟩, k_eqF (by omega) ⟨by omega, by omega⟩ ⟨by omega, by omega⟩, k_leT (by omega) ⟨by omega, by omega⟩ ⟨by omega, by omega⟩, r1, k_cs]
            exact e
          by_cases z : V (b + 1) 320 = -1
          · have hcount : g_X0_anchorCounts N (a + 1) i (a + 1 + 12) V = some (0, V) := by
              unfold g_X0_anchorCounts
              rw [k_ix (by omega) (by omega), k_lt, k_ix (by omega) (by omega), tn0, g1, k_leF (by omega) ⟨by omega, by omega⟩ ⟨by omega, by omega⟩, isNone_T hR.2.2.2 z, k_cs, k_eqF (by omega) ⟨by omega, by omega⟩ ⟨by omega, by omega⟩, k_zs (Or.inl rfl)]
            rw [hcount, k_cs, k_eqT rfl]
            refine ⟨_, V, V3, rfl, eM _ _ ?_, hI.ask hab ⟨fun _ _ _ _ => rfl, id⟩ (Km.fc r2)⟩
            rw [if_pos z, k_eqT rfl]
          · have hb := (hR.2.1.bb z).2
            rw [anchorCounts_eq hR.2.2.1 hB (hR.2.2.2.2.2 z) hb (by omega), k_cs]
            rcases spC1_01 (V (b + 1)) (wf (V (b + 1))) (wt (V (b + 1))) (wb (V (b + 1))) i with q | q
            · rw [k_eqT q]
              refine ⟨_, V, V3, rfl, eM _ _ ?_, hI.ask hab ⟨fun _ _ _ _ => rfl, id⟩ (Km.fc r2)⟩
              rw [if_neg z, k_eqF (by omega) ⟨by omega, by omega⟩ ⟨by omega, by omega⟩, m_isCounting (r2.w) hB (r3 z) hb (by omega), k_cs, k_eqT q]
            · rw [q, k_eqF (by omega) ⟨by omega, by omega⟩ ⟨by omega, by omega⟩]
              refine ⟨_, V, V3, rfl, eM _ _ ?_, hI.ask hab ⟨fun _ _ _ _ => rfl, id⟩ (Km.fc r2)⟩
              rw [if_neg z, k_eqF (by omega) ⟨by omega, by omega⟩ ⟨by omega, by omega⟩, m_isCounting (r2.w) hB (r3 z) hb (by omega), k_cs, q, k_eqF (by omega) ⟨by omega, by omega⟩ ⟨by omega, by omega⟩]
        · have eM : (e_cs (g_X9_isAnchor N b i V) fun v2 V1 => e_ieq v2 0 (some (-1, V1)) (e_wid x2 fun v3 => e_cs (g_X9_isIn N v3 0 3 V1) fun v5 V4 => e_ieq v5 0 (some (-1, V4)) (e_ile 3 x2 (e_cs (g_X9_takesSlip N b V4) fun v7 V6 => e_ieq v7 0 (some (0, V6)) (e_cs (g_X9_isCounting N b i V6) fun v9 V8 => e_ieq v9 0 (some (0, V8)) (some (1, V8)))) (e_ix 390 (302 + 3 * (i : Int) + x2) fun _ => some (V4 (b + 1) (302 + 3 * (i : Int) + x2).toNat, V4))))) = some (V (b + 1) (302 + 3 * (i : Int) + x2).toNat, V) := by
            rw [mA V rfl, k_cs, k_eqF (by omega) ⟨by omega, by omega⟩ ⟨by omega, by omega⟩, k_wid h2, m_in h2 ⟨by omega, by omega⟩ ⟨by omega, by omega⟩, k_cs, if_pos c2, k_eqF (by omega) ⟨by omega, by omega⟩ ⟨by omega, by omega⟩, k_leF (by omega) ⟨by omega, by omega⟩ h2, k_ix (by omega) (by omega)]
          refine ⟨_, V, V, ?_, eM, hI⟩
          by_cases z0 : x2 = 0
          · rw [if_pos z0, k_ix (by omega) (by omega), show (302 + 3 * (i : Int) + x2).toNat = 302 + 3 * i by omega]
          rw [if_neg z0]
          by_cases z1 : x2 = 1
          · rw [if_pos z1, k_ix (by omega) (by omega), show (302 + 3 * (i : Int) + x2).toNat = 303 + 3 * i by omega]
          rw [if_neg z1, if_pos (by omega), k_ix (by omega) (by omega), show (302 + 3 * (i : Int) + x2).toNat = 304 + 3 * i by omega]
      · refine ⟨_, V, V, by rw [if_neg (by omega), if_neg (by omega), if_neg (by omega), if_neg (by omega)], ?_, hI⟩
        rw [mA V rfl, k_cs, k_eqF (by omega) ⟨by omega, by omega⟩ ⟨by omega, by omega⟩, k_wid h2, m_in h2 ⟨by omega, by omega⟩ ⟨by omega, by omega⟩, k_cs, if_neg c2, k_eqT rfl]
  · have e0 : g_X9_isAnchor N b x1 V = some (0, V) := by
      unfold g_X9_isAnchor
      rw [k_wid h1, m_in h1 ⟨by omega, by omega⟩ ⟨by omega, by omega⟩, k_cs, if_neg c1, k_eqT rfl, k_zs (Or.inl rfl)]
    refine ⟨-1, V, V, ?_, by rw [e0, k_cs, k_eqT rfl], hI⟩
    by_cases z : x1 < 0
    · rw [if_pos z]
    · rw [if_neg z, if_pos (by omega)]
theorem CG.anchor (hC : CG V ga w) (hi : i < 6) : CG (sj_up (sj_up (sj_up V (ga + 9) i c) (ga + 10) i h) (ga + 11) i p) ga (wUp (wUp (wUp w (302 + 3 * i) c) (303 + 3 * i) h) (304 + 3 * i) p) := by
  obtain ⟨a1, a2, a3, a4, a5⟩ := hC
  have e : ∀ j, (j < 302 + 3 * i ∨ 305 + 3 * i ≤ j) → wUp (wUp (wUp w (302 + 3 * i) c) (303 + 3 * i) h) (304 + 3 * i) p j = w j := fun j hj => by rw [wUp_n _ _ (by omega), wUp_n _ _ (by omega), wUp_n _ _ (by omega)]
  have u : ∀ z, (z < ga + 9 ∨ ga + 12 ≤ z) → sj_up (sj_up (sj_up V (ga + 9) i c) (ga + 10) i h) (ga + 11) i p z = V z := fun z hz => by rw [up_row _ _ _ (by omega), up_row _ _ _ (by omega), up_row _ _ _ (by omega)]
  refine ⟨by rw [u ga (by omega), e 0 (by omega), e 1 (by omega), e 2 (by omega)]; exact a1, fun d hd => ?_, fun j hj => by rw [u (ga + 5) (by omega), e _ (by omega)]; exact a3 j hj, fun l hl => by rw [u (ga + 6) (by omega), u (ga + 7) (by omega), u (ga + 8) (by omega), e _ (by omega), e _ (by omega), e _ (by omega)]; exact a4 l hl, fun j hj => ?_⟩
  · rw [u (ga + 1) (by omega), u (ga + 2) (by omega), u (ga + 3) (by omega), u (ga + 4) (by omega), e (3 + d) (by omega), e (44 + d) (by omega), e (85 + d) (by omega), e (126 + d) (by omega)]
    exact a2 d hd
  · by_cases z : j = i
    · subst z
      refine ⟨by rw [up_ss, wUp_s], fun _ => ⟨?_, ?_⟩⟩
      · rw [up_na _ _ _ _ (by omega), up_na _ _ _ _ (by omega), up_ss, wUp_n _ _ (by omega), wUp_n _ _ (by omega), wUp_s]
      · rw [up_na _ _ _ _ (by omega), up_ss, wUp_n _ _ (by omega), wUp_s]
    · have q := a5 j hj
      rw [e (304 + 3 * j) (by omega), e (302 + 3 * j) (by omega), e (303 + 3 * j) (by omega), up_nk _ _ _ z, up_na _ _ _ _ (by omega), up_na _ _ _ _ (by omega), up_na _ _ _ _ (by omega), up_na _ _ _ _ (by omega), up_nk _ _ _ z, up_na _ _ _ _ (by omega), up_nk _ _ _ z, up_na _ _ _ _ (by omega)]
      exact q
theorem WB.anchor (hB : WB lv hv rv w) (hi : i < 6) (hc : 0 ≤ c ∧ c ≤ w 0) (hh : 0 ≤ h ∧ h ≤ 100) (hp : 0 ≤ p ∧ p ≤ 500) : WB lv hv rv (wUp (wUp (wUp w (302 + 3 * i) c) (303 + 3 * i) h) (304 + 3 * i) p) := by
  obtain ⟨a1, a2, a3, a4, a5, a6, a7⟩ := hB
  have e : ∀ j, (j < 302 + 3 * i ∨ 305 + 3 * i ≤ j) → wUp (wUp (wUp w (302 + 3 * i) c) (303 + 3 * i) h) (304 + 3 * i) p j = w j := fun j hj => by rw [wUp_n _ _ (by omega), wUp_n _ _ (by omega), wUp_n _ _ (by omega)]
  refine ⟨by rw [e 0 (by omega)]; exact a1, by rw [e 1 (by omega)]; exact a2, by rw [e 2 (by omega)]; exact a3, fun d hd => by rw [e (3 + d) (by omega), e (44 + d) (by omega), e (85 + d) (by omega), e (126 + d) (by omega)]; exact a4 d hd, fun j hj => by rw [e _ (by omega)]; exact a5 j hj, fun l hl => by rw [e (290 + 3 * l) (by omega), e (291 + 3 * l) (by omega), e (292 + 3 * l) (by omega)]; exact a6 l hl, fun j hj => ?_⟩
  rw [e 0 (by omega)]
  by_cases z : j = i
  · subst z
    rw [wUp_s, wUp_n _ _ (show 302 + 3 * j ≠ 304 + 3 * j by omega), wUp_n _ _ (show 302 + 3 * j ≠ 303 + 3 * j by omega), wUp_s, wUp_n _ _ (show 303 + 3 * j ≠ 304 + 3 * j by omega), wUp_s]
    exact ⟨hp, fun _ => ⟨hc, hh⟩⟩
  · rw [e (304 + 3 * j) (by omega), e (302 + 3 * j) (by omega), e (303 + 3 * j) (by omega)]
    exact a7 j hj
theorem s_anchor (hI : INV V a b) (hab : b = a + 189) (h1 : sj_i32 x1) (h2 : sj_i32 x2) (h3 : sj_i32 x3) (h4 : sj_i32 x4) : ST a b (g_X8_anchor N a x1 x2 x3 x4) (g_X9_anchor N b x1 x2 x3 x4) V := by
  have hR := hI.1
  have hB := hR.1
  unfold ST g_X8_anchor g_X9_anchor
  rw [k_ltc h1 ⟨by omega, by omega⟩, k_lec ⟨by omega, by omega⟩ h1, c_col hR h2, k_cs, k_ltc h3 ⟨by omega, by omega⟩, k_ltc ⟨by omega, by omega⟩ h3, k_ltc h4 ⟨by omega, by omega⟩, k_lec h4 ⟨by omega, by omega⟩]
  by_cases q1 : 0 ≤ x1 ∧ x1 ≤ 5
  · by_cases q2 : spCol (V (b + 1)) x2
    · by_cases q3 : 0 ≤ x3 ∧ x3 ≤ 100
      · by_cases q4 : 0 ≤ x4 ∧ x4 ≤ 500
        · obtain ⟨i, hi⟩ : ∃ i : Nat, x1 = i := ⟨x1.toNat, by omega⟩
          subst hi
          rw [if_neg (by omega), if_neg (by omega), if_pos q2, k_eqF (by omega) ⟨by omega, by omega⟩ ⟨by omega, by omega⟩, if_neg (by omega), if_neg (by omega), if_neg (by omega), if_pos (by omega), k_ix (by omega) (by omega), k_lt, k_ix (by omega) (by omega), k_lt, k_ix (by omega) (by omega), k_lt, k_zs (Or.inr rfl), tn0]
          obtain ⟨V1, e1⟩ : ∃ V1, V1 = sj_up (sj_up (sj_up V (a + 1 + 9) i x2) (a + 1 + 10) i x3) (a + 1 + 11) i x4 := ⟨_, rfl⟩
          rw [← e1]
          have f1 : Kt a V V1 := by rw [e1]; exact ((Kt.rf.up (by omega) (by omega)).up (by omega) (by omega)).up (by omega) (by omega)
          have w1 : V1 (b + 1) = V (b + 1) := f1 _ (by omega) (by omega) (by omega)
          have hR1 : RG V1 (a + 1) (wUp (wUp (wUp (V (b + 1)) (302 + 3 * i) x2) (303 + 3 * i) x3) (304 + 3 * i) x4) := by
            refine hR.sl (hB.anchor (by omega) q2 q3 q4) (by rw [e1]; exact CG.anchor hR.2.2.1 (by omega)) (by rw [wUp_n _ _ (by omega), wUp_n _ _ (by omega), wUp_n _ _ (by omega)]) (fun j j1 j2 => by rw [wUp_n _ _ (by omega), wUp_n _ _ (by omega), wUp_n _ _ (by omega)]) ?_ ?_
            · rw [e1, up_row _ _ _ (by omega), up_row _ _ _ (by omega), up_row _ _ _ (by omega)]
            · rw [e1, up_row _ _ _ (by omega), up_row _ _ _ (by omega), up_row _ _ _ (by omega)]
          refine ⟨_, V1, sj_up (sj_up (sj_up V1 (b + 1) (302 + 3 * i) x2) (b + 1) (303 + 3 * i) x3) (b + 1) (304 + 3 * i) x4, rfl, ?_, ?_⟩
          · rw [k_wid h1, m_in h1 ⟨by omega, by omega⟩ ⟨by omega, by omega⟩, k_cs, if_pos q1, k_eqF (by omega) ⟨by omega, by omega⟩ ⟨by omega, by omega⟩, m_isColumn w1 hB h2, k_cs, if_pos q2, k_eqF (by omega) ⟨by omega, by omega⟩ ⟨by omega, by omega⟩, k_wid h3, m_in h3 ⟨by omega, by omega⟩ ⟨by omega, by omega⟩, k_cs, if_pos q3, k_eqF (by omega) ⟨by omega, by omega⟩ ⟨by omega, by omega⟩, k_wid h4, m_in h4 ⟨by omega, by omega⟩ ⟨by omega, by omega⟩, k_cs, if_pos q4, k_eqF (by omega) ⟨by omega, by omega⟩ ⟨by omega, by omega⟩, k_ix (by omega) (by omega), k_lt, k_ix (by omega) (by omega), k_lt, k_ix (by omega) (by omega), k_lt, k_zs (Or.inr rfl), show (302 + 3 * (i : Int)).toNat = 302 + 3 * i by omega, show (302 + 3 * (i : Int) + 1).toNat = 303 + 3 * i by omega, show (302 + 3 * (i : Int) + 2).toNat = 304 + 3 * i by omega]
          · exact hI.told hab f1 hR1 (fun z hz => by rw [up_row _ _ _ hz, up_row _ _ _ hz, up_row _ _ _ hz]) (up_wUp (up_wUp (up_wUp w1 _ _) _ _) _ _) (fun j j1 j2 => by rw [wUp_n _ _ (by omega), wUp_n _ _ (by omega), wUp_n _ _ (by omega)])
        · refine ⟨0, V, V, ?_, ?_, hI⟩
          · rw [if_neg (by omega), if_neg (by omega), if_pos q2, k_eqF (by omega) ⟨by omega, by omega⟩ ⟨by omega, by omega⟩, if_neg (by omega), if_neg (by omega)]
            by_cases z : x4 < 0
            · rw [if_pos z]; rfl
            · rw [if_neg z, if_neg (by omega)]; rfl
          · rw [k_wid h1, m_in h1 ⟨by omega, by omega⟩ ⟨by omega, by omega⟩, k_cs, if_pos q1, k_eqF (by omega) ⟨by omega, by omega⟩ ⟨by omega, by omega⟩, m_isColumn rfl hB h2, k_cs, if_pos q2, k_eqF (by omega) ⟨by omega, by omega⟩ ⟨by omega, by omega⟩, k_wid h3, m_in h3 ⟨by omega, by omega⟩ ⟨by omega, by omega⟩, k_cs, if_pos q3, k_eqF (by omega) ⟨by omega, by omega⟩ ⟨by omega, by omega⟩, k_wid h4, m_in h4 ⟨by omega, by omega⟩ ⟨by omega, by omega⟩, k_cs, if_neg q4, k_eqT rfl, k_zs (Or.inl rfl)]
      · refine ⟨0, V, V, ?_, ?_, hI⟩
        · rw [if_neg (by omega), if_neg (by omega), if_pos q2, k_eqF (by omega) ⟨by omega, by omega⟩ ⟨by omega, by omega⟩]
          by_cases z : x3 < 0
          · rw [if_pos z]; rfl
          · rw [if_neg z, if_pos (by omega)]; rfl
        · rw [k_wid h1, m_in h1 ⟨by omega, by omega⟩ ⟨by omega, by omega⟩, k_cs, if_pos q1, k_eqF (by omega) ⟨by omega, by omega⟩ ⟨by omega, by omega⟩, m_isColumn rfl hB h2, k_cs, if_pos q2, k_eqF (by omega) ⟨by omega, by omega⟩ ⟨by omega, by omega⟩, k_wid h3, m_in h3 ⟨by omega, by omega⟩ ⟨by omega, by omega⟩, k_cs, if_neg q3, k_eqT rfl, k_zs (Or.inl rfl)]
    · refine ⟨0, V, V, ?_, ?_, hI⟩
      · rw [if_neg (by omega), if_neg (by omega), if_neg q2, k_eqT rfl, k_zs (Or.inl rfl)]
      · rw [k_wid h1, m_in h1 ⟨by omega, by omega⟩ ⟨by omega, by omega⟩, k_cs, if_pos q1, k_eqF (by omega) ⟨by omega, by omega⟩ ⟨by omega, by omega⟩, m_isColumn rfl hB h2, k_cs, if_neg q2, k_eqT rfl, k_zs (Or.inl rfl)]
  · refine ⟨0, V, V, ?_, ?_, hI⟩
    · by_cases z : x1 < 0
      · rw [if_pos z]; rfl
      · rw [if_neg z, if_pos (by omega)]; rfl
    · rw [k_wid h1, m_in h1 ⟨by omega, by omega⟩ ⟨by omega, by omega⟩, k_cs, if_neg q1, k_eqT rfl, k_zs (Or.inl rfl)]
theorem s_fault (hI : INV V a b) (h1 : sj_i32 x1) : ST a b (g_X8_fault N a x1) (g_X9_fault N b x1) V := by
  have hT := hI.2.2.2.2.1
  unfold ST g_X8_fault g_X9_fault
  by_cases z0 : x1 = 0
  · rw [k_eqT z0, hT.2.2.1.1]
    exact ⟨_, V, V, rfl, by rw [k_eqT z0], hI⟩
  · rw [k_eqF z0 h1 ⟨by omega, by omega⟩]
    by_cases z1 : x1 = 1
    · rw [k_eqT z1, hT.2.2.1.2]
      exact ⟨_, V, V, rfl, by rw [k_eqF z0 h1 ⟨by omega, by omega⟩, k_eqT z1], hI⟩
    · rw [k_eqF z1 h1 ⟨by omega, by omega⟩]
      exact ⟨_, V, V, rfl, by rw [k_eqF z0 h1 ⟨by omega, by omega⟩, k_eqF z1 h1 ⟨by omega, by omega⟩], hI⟩
theorem s_sign (hI : INV V a b) (h1 : sj_i32 x1) : ST a b (g_X8_sign N a x1) (g_X9_sign N b x1) V := by
  obtain ⟨e1, e2, e3⟩ := hI.2.2.2.2.2
  unfold ST g_X8_sign g_X9_sign
  rw [e1, k_ltc h1 ⟨by omega, by omega⟩, k_lec ⟨by omega, by omega⟩ h1]
  by_cases q : 0 ≤ x1 ∧ x1 ≤ V b 26 - 1
  · obtain ⟨i, hi⟩ : ∃ i : Nat, x1 = i := ⟨x1.toNat, by omega⟩
    subst hi
    rw [if_neg (by omega), if_neg (by omega), k_ix (by omega) (by omega), tn0]
    refine ⟨_, V, V, rfl, ?_, hI⟩
    rw [k_wid h1, k_wid ⟨by omega, by omega⟩, m_in h1 ⟨by omega, by omega⟩ ⟨by omega, by omega⟩, k_cs, if_pos q, k_eqF (by omega) ⟨by omega, by omega⟩ ⟨by omega, by omega⟩, k_ix (by omega) (by omega)]
    show some (V (b + 9) i, V) = some (V (a + 50) i, V)
    rw [e3 i (by omega)]
  · refine ⟨-1, V, V, ?_, ?_, hI⟩
    · by_cases z : x1 < 0
      · rw [if_pos z]
      · rw [if_neg z, if_pos (by omega)]
    · rw [k_wid h1, k_wid ⟨by omega, by omega⟩, m_in h1 ⟨by omega, by omega⟩ ⟨by omega, by omega⟩, k_cs, if_neg q, k_eqT rfl]
theorem s_end (hI : INV V a b) (hab : b = a + 189) (h1 : sj_i32 x1) : ST a b (g_X8_end N a x1) (g_X9_end N b x1) V := by
  obtain ⟨i1, i2, i3, i4, ⟨e1, e2, e3, e4⟩, i6⟩ := id hI
  unfold ST g_X8_end g_X9_end
  rw [e1, k_ltc h1 ⟨by omega, by omega⟩, k_lec h1 ⟨by omega, by omega⟩]
  by_cases q : 0 ≤ x1 ∧ x1 ≤ V b 28
  · rw [if_neg (by omega), if_pos (by omega), k_lt, k_zs (Or.inr rfl)]
    obtain ⟨V1, d1⟩ : ∃ V1, V1 = sj_up V (a + 52) 1 x1 := ⟨_, rfl⟩
    rw [← d1]
    obtain ⟨V2, d2⟩ : ∃ V2, V2 = sj_up V1 b 28 x1 := ⟨_, rfl⟩
    have u1 : ∀ z, z ≠ a + 52 → V1 z = V z := fun z hz => by rw [d1, up_row _ _ _ hz]
    have u2 : ∀ z, z ≠ b → z ≠ a + 52 → V2 z = V z := fun z z1 z2 => by rw [d2, up_row _ _ _ z1, u1 z z2]
    have ub : ∀ j, j ≠ 28 → V2 b j = V b j := fun j hj => by rw [d2, up_nk _ _ _ hj, u1 _ (by omega)]
    have ut : ∀ j, j ≠ 1 → V2 (a + 52) j = V (a + 52) j := fun j hj => by rw [d2, up_row _ _ _ (by omega), d1, up_nk _ _ _ hj]
    have t1 : V2 (a + 52) 1 = x1 := by rw [d2, up_row _ _ _ (by omega), d1, up_ss]
    have t2 : V2 b 28 = x1 := by rw [d2, up_ss]
    have w2 : V2 (b + 1) = V (b + 1) := u2 _ (by omega) (by omega)
    refine ⟨_, V1, V2, rfl, ?_, ?_, ?_, ?_, ?_, ?_, ?_⟩
    · rw [k_wid h1, u1 b (by omega), k_wid ⟨by omega, by omega⟩, m_in h1 ⟨by omega, by omega⟩ ⟨by omega, by omega⟩, k_cs, if_pos q, k_eqF (by omega) ⟨by omega, by omega⟩ ⟨by omega, by omega⟩, k_lt, k_zs (Or.inr rfl), ← d2]
    · rw [w2]; exact i1.eq (fun z z1 z2 => u2 z (by omega) (by omega))
    · rw [w2]; exact i2.eq (fun z z1 z2 => u2 z (by omega) (by omega)) (fun _ _ _ => rfl)
    · exact i3.eq (by rw [u2 _ (by omega) (by omega)]) (by rw [u2 _ (by omega) (by omega)]) (ub _ (by omega)) (u2 _ (by omega) (by omega)) (fun z z1 z2 => u2 z (by omega) (by omega))
    · exact i4.eq (by rw [u2 _ (by omega) (by omega)]) (ub _ (by omega)) (u2 _ (by omega) (by omega)) (fun z z1 z2 => u2 z (by omega) (by omega)) (fun z z1 z2 => u2 z (by omega) (by omega)) (TL.of (u2 _ (by omega) (by omega)))
    · refine ⟨by rw [t1, t2], by rw [t2]; omega, ⟨by rw [ut _ (by omega), ub _ (by omega)]; exact e3.1, by rw [ut _ (by omega), ub _ (by omega)]; exact e3.2⟩, fun i hi => ?_⟩
      rw [t2] at hi
      rw [u2 (a + 53) (by omega) (by omega), u2 (b + 10) (by omega) (by omega)]
      exact e4 i (by omega)
    · exact i6.eq (u2 _ (by omega) (by omega)) (u2 _ (by omega) (by omega)) (ub _ (by omega)) (u2 _ (by omega) (by omega))
  · refine ⟨0, V, V, ?_, ?_, hI⟩
    · by_cases z : x1 < 0
      · rw [if_pos z]; rfl
      · rw [if_neg z, if_neg (by omega)]; rfl
    · rw [k_wid h1, k_wid ⟨by omega, by omega⟩, m_in h1 ⟨by omega, by omega⟩ ⟨by omega, by omega⟩, k_cs, if_neg q, k_eqT rfl, k_zs (Or.inl rfl)]
end Anch
