/-- an anchor counts -/
def spCnt (w : sj_R) (f t : Nat) (bs : Nat → Int) (i : Nat) : Prop := 0 < w (304 + 3 * i) ∧ (f : Int) ≤ w (302 + 3 * i) ∧ w (302 + 3 * i) < (t : Int) ∧ bs (w (302 + 3 * i)).toNat < w (303 + 3 * i)
def spC1 (w : sj_R) (f t : Nat) (bs : Nat → Int) (i : Nat) : Int := if 0 < w (304 + 3 * i) ∧ (f : Int) ≤ w (302 + 3 * i) ∧ w (302 + 3 * i) < (t : Int) ∧ bs (w (302 + 3 * i)).toNat < w (303 + 3 * i) then 1 else 0
def spPull (w : sj_R) (f t : Nat) (bs : Nat → Int) (i : Nat) : Int := if spC1 w f t bs i = 1 then 2000 * w 1 * w (304 + 3 * i) else 0
def spPulls (w : sj_R) (f t : Nat) (bs : Nat → Int) : Int := spSum (spPull w f t bs) 0 6
section Weigh
variable {V : sj_VV} {a ga sa f t : Nat} {w : sj_R} {lf lv hv rv : Int} {bs : Nat → Int} {N : Nat}
theorem isNone_eq (h : SL V sa f t lf bs) (hb : BB f t lf bs) : g_X5_isNone N sa V = some (0, V) := by
  unfold g_X5_isNone
  have := hb.1; have := hb.2.1
  rw [h.1, k_leT (by omega) ⟨by omega, by omega⟩ ⟨by omega, by omega⟩, k_zs (Or.inl rfl)]
theorem count_eq (h : SL V sa f t lf bs) : g_X5_count N sa V = some ((t : Int) - f, V) := by
  unfold g_X5_count
  rw [h.1, h.2.1]
theorem anchorCounts_eq (hC : CG V ga w) (hB : WB lv hv rv w) (h : SL V sa f t lf bs) (hb : BB f t lf bs) {i : Nat} (hi : i < 6) : g_X0_anchorCounts N ga i sa V = some (spC1 w f t bs i, V) := by
  unfold g_X0_anchorCounts
  have hc := hC.2.2.2.2 i hi
  have hw := hB.2.2.2.2.2.2 i hi
  have hn := hB.1
  obtain ⟨b1, b2, b3, b4⟩ := hb
  rw [k_ix (by omega) (by omega), k_lt, k_ix (by omega) (by omega), tn0, hc.1]
  unfold spC1
  by_cases hp : w (304 + 3 * i) ≤ 0
  · rw [k_leT hp ⟨by omega, by omega⟩ ⟨by omega, by omega⟩, k_zs (Or.inl rfl), if_neg (by omega)]
  · obtain ⟨c1, c2⟩ := hc.2 (by omega)
    obtain ⟨w1, w2⟩ := hw.2 (by omega)
    rw [k_leF hp ⟨by omega, by omega⟩ ⟨by omega, by omega⟩, isNone_eq h ⟨b1, b2, b3, b4⟩, k_cs, k_eqT rfl, c1, h.1]
    by_cases h1 : w (302 + 3 * i) < f
    · rw [k_ltT h1 ⟨by omega, by omega⟩ ⟨by omega, by omega⟩, k_zs (Or.inl rfl), if_neg (by omega)]
    · rw [k_ltF h1 ⟨by omega, by omega⟩ ⟨by omega, by omega⟩, h.2.1]
      by_cases h2 : (t : Int) ≤ w (302 + 3 * i)
      · rw [k_leT h2 ⟨by omega, by omega⟩ ⟨by omega, by omega⟩, k_zs (Or.inl rfl), if_neg (by omega)]
      · have e := h.2.2.2 (w (302 + 3 * i)).toNat (by omega) (by omega)
        have e2 := b4 (w (302 + 3 * i)).toNat (by omega) (by omega)
        rw [k_leF h2 ⟨by omega, by omega⟩ ⟨by omega, by omega⟩, k_ix (by omega) (by omega), k_ix (by omega) (by omega), c2, e]
        by_cases h3 : w (303 + 3 * i) ≤ bs (w (302 + 3 * i)).toNat
        · rw [k_leT h3 ⟨by omega, by omega⟩ ⟨by omega, by omega⟩, k_zs (Or.inl rfl), if_neg (by omega)]
        · rw [k_leF h3 ⟨by omega, by omega⟩ ⟨by omega, by omega⟩, k_zs (Or.inr rfl), if_pos (by omega)]
theorem spC1_01 (w : sj_R) (f t : Nat) (bs : Nat → Int) (i : Nat) : spC1 w f t bs i = 0 ∨ spC1 w f t bs i = 1 := by unfold spC1; split <;> simp
theorem pullsOn_loop (hC : CG V ga w) (hB : WB lv hv rv w) (h : SL V sa f t lf bs) (hb : BB f t lf bs) : ∀ (m i : Nat), i ≤ 6 → 6 - i < m → g_X0_pullsOn_5 N m ga sa (spSum (spPull w f t bs) 0 i) i V = some (spPulls w f t bs, V)
  | 0, _, _, h => absurd h (by omega)
  | m + 1, i, h1, h2 => by
    unfold g_X0_pullsOn_5 g_X0_pullsOn_5_b
    by_cases h6 : i = 6
    · subst h6
      rw [k_leT (by omega) ⟨by omega, by omega⟩ ⟨by omega, by omega⟩]; rfl
    · have hi : i < 6 := by omega
      have hp := (hB.2.2.2.2.2.2 i hi).1
      have hn := hB.2.1
      rw [k_leF (by omega) ⟨by omega, by omega⟩ ⟨by omega, by omega⟩, anchorCounts_eq hC hB h hb hi, k_cs]
      have ih := pullsOn_loop hC hB h hb m (i + 1) (by omega) (by omega)
      rw [spSum, Nat.zero_add] at ih
      rcases spC1_01 w f t bs i with e | e
      · rw [k_eqT e]
        unfold g_X0_pullsOn_43
        rw [k_lt]
        rw [show spPull w f t bs i = 0 by unfold spPull; rw [if_neg (by omega)], Int.add_zero] at ih
        exact ih
      · rw [e, k_eqF (by omega) ⟨by omega, by omega⟩ ⟨by omega, by omega⟩, hC.1.2.1, k_wid ⟨by omega, by omega⟩, k_ix (by omega) (by omega), tn0, (hC.2.2.2.2 i hi).1, k_wid ⟨by omega, by omega⟩, k_lt]
        unfold g_X0_pullsOn_43
        rw [k_lt]
        rw [show spPull w f t bs i = 2000 * w 1 * w (304 + 3 * i) by unfold spPull; rw [if_pos e]] at ih
        exact ih
theorem pullsOn_eq (hC : CG V ga w) (hB : WB lv hv rv w) (h : SL V sa f t lf bs) (hb : BB f t lf bs) (hN : 7 ≤ N) : g_X0_pullsOn N ga sa V = some (spPulls w f t bs, V) := by
  unfold g_X0_pullsOn
  exact pullsOn_loop hC hB h hb N 0 (by omega) (by omega)
/-- row j of what is weighed -/
def WR (V : sj_VV) (a : Nat) (w : sj_R) (f : Nat) (lf : Int) (bs : Nat → Int) (j : Nat) : Prop := V (a + 1) j = slRise lf (bs (f + j)) (bs (f + j + 1)) ∧ V (a + 2) j = slW w (f + j) (bs (f + j)) (bs (f + j + 1)) ∧ V (a + 3) j = slL w (f + j) (bs (f + j)) (bs (f + j + 1)) ∧ V (a + 4) j = (slY w (f + j) (bs (f + j)) (bs (f + j + 1)) : Nat)
theorem weigh_loop (hB : WB lv hv rv w) (hlv : lv ≤ 1100) (hb : BB f t lf bs) (hd1 : ga + 14 ≤ a) (hd2 : sa + 2 ≤ a ∨ a + 9 ≤ sa) (hN : 6 ≤ N) : ∀ (m i : Nat) (V : sj_VV), f + i ≤ t → t - (f + i) < m → CG V ga w → SL V sa f t lf bs → V a 8 = (t : Int) - f → V a 9 = w 1 → (∀ j, j < i → WR V a w f lf bs j) → ∃ V', g_X4_weigh_73 N m a ga sa (spOn w (f + i) (bs (f + i))) (spHead w (f + i) (bs (f + i))) i V = some ((), V') ∧ Fr (a + 1) (a + 9) V V' ∧ ∀ j, f + j < t → WR V' a w f lf bs j
  | 0, _, _, _, h, _, _, _, _, _ => absurd h (by omega)
  | m + 1, i, V, h1, h2, hC, hS, h8, h9, hr => by
    obtain ⟨b1, b2, b3, b4⟩ := id hb
    unfold g_X4_weigh_73 g_X4_weigh_73_b
    by_cases hi : f + i = t
    · rw [h8, k_leT (by omega) ⟨by omega, by omega⟩ ⟨by omega, by omega⟩]
      exact ⟨V, rfl, Fr.rf, fun j hj => hr j (by omega)⟩
    · have p1 := b4 (f + i) (by omega) (by omega)
      have p2 := b4 (f + i + 1) (by omega) (by omega)
      have q1 := hS.2.2.2 (f + i) (by omega) (by omega)
      have q2 := hS.2.2.2 (f + i + 1) (by omega) (by omega)
      have e0 : ((f : Int) + i) = ((f + i : Nat) : Int) := by omega
      have e1 : (((f + i : Nat) : Int) + 1) = ((f + i + 1 : Nat) : Int) := by omega
      have o1 := spOn_b hB (c := f + i) (b := bs (f + i)) (by omega) p1.1
      have o2 := spOn_b hB (c := f + i + 1) (b := bs (f + i + 1)) (by omega) p2.1
      have d1 := spHead_b hB (c := f + i) (b := bs (f + i)) (by omega) p1.1
      have d2 := spHead_b hB (c := f + i + 1) (b := bs (f + i + 1)) (by omega) p2.1
      rw [h8, k_leF (by omega) ⟨by omega, by omega⟩ ⟨by omega, by omega⟩, k_lt, hS.1, e0, k_ix (by omega) (by omega), k_lt, tn0, q1, e1, k_ix (by omega) (by omega), k_lt, tn0, q2, weightOn_eq hC hB (by omega) p2 hN, k_cs, headOn_eq hC hB (by omega) p2, k_cs, hS.2.2.1]
      have step : ∀ R : Int, R = slRise lf (bs (f + i)) (bs (f + i + 1)) → ∃ V', g_X4_weigh_161 N (g_X4_weigh_73 N m) a ga sa (spOn w (f + i) (bs (f + i))) (spHead w (f + i) (bs (f + i))) i ((f + i : Nat) : Int) (bs (f + i)) (bs (f + i + 1)) (spOn w (f + i + 1) (bs (f + i + 1))) (spHead w (f + i + 1) (bs (f + i + 1))) R i (a + 1) 41 V = some ((), V') ∧ Fr (a + 1) (a + 9) V V' ∧ ∀ j, f + j < t → WR V' a w f lf bs j := by
        intro R hR
        unfold g_X4_weigh_161
        rw [k_ix (by omega) (by omega), k_lt, k_ix (by omega) (by omega), k_lt, k_ix (by omega) (by omega), k_lt, tn0]
        generalize hV3 : sj_up (sj_up (sj_up V (a + 1) i R) (a + 2) i (sj_up V (a + 1) i R a 9 * (spOn w (f + i) (bs (f + i)) + spOn w (f + i + 1) (bs (f + i + 1))))) (a + 3) i (10 * sj_up (sj_up V (a + 1) i R) (a + 2) i (sj_up V (a + 1) i R a 9 * (spOn w (f + i) (bs (f + i)) + spOn w (f + i + 1) (bs (f + i + 1)))) a 9 * (spHead w (f + i) (bs (f + i)) + spHead w (f + i + 1) (bs (f + i + 1)))) = V3
        have F3 : Fr (a + 1) (a + 9) V V3 := by rw [← hV3]; exact ((Fr.rf.up (by omega) (by omega)).up (by omega) (by omega)).up (by omega) (by omega)
        rw [layerUnder_eq (hC.fr F3 (by omega)) hB (x := f + i) (by omega) (b := bs (f + i) + bs (f + i + 1)) (by omega) (by omega), k_cs, k_ix (by omega) (by omega), k_lt, k_lt]
        generalize hV4 : sj_up V3 (a + 4) i (spLayer w (f + i) (bs (f + i) + bs (f + i + 1)) : Nat) = V4
        have F4 : Fr (a + 1) (a + 9) V V4 := by rw [← hV4]; exact F3.up (by omega) (by omega)
        have ea : V4 a = V a := F4 a (by omega)
        have hrow : ∀ j, j < i + 1 → WR V4 a w f lf bs j := by
          intro j hj
          have w1 : ∀ k, sj_up V (a + 1) i R a k = V a k := fun k => up_na _ _ _ _ (by omega)
          have w2 : ∀ k v, sj_up (sj_up V (a + 1) i R) (a + 2) i v a k = V a k := fun k v => by rw [up_na _ _ _ _ (by omega), w1]
          rw [← hV4, ← hV3]
          by_cases hji : j = i
          · subst hji
            refine ⟨?_, ?_, ?_, ?_⟩
            · rw [up_na _ _ _ _ (by omega), up_na _ _ _ _ (by omega), up_na _ _ _ _ (by omega), up_ss]; exact hR
            · rw [up_na _ _ _ _ (by omega), up_na _ _ _ _ (by omega), up_ss, w1, h9]; rfl
            · rw [up_na _ _ _ _ (by omega), up_ss, w2, h9]; rfl
            · rw [up_ss]; rfl
          · have ho := hr j (by omega)
            refine ⟨?_, ?_, ?_, ?_⟩
            · rw [up_na _ _ _ _ (by omega), up_na _ _ _ _ (by omega), up_na _ _ _ _ (by omega), up_nk _ _ _ hji]; exact ho.1
            · rw [up_na _ _ _ _ (by omega), up_na _ _ _ _ (by omega), up_nk _ _ _ hji, up_na _ _ _ _ (by omega)]; exact ho.2.1
            · rw [up_na _ _ _ _ (by omega), up_nk _ _ _ hji, up_na _ _ _ _ (by omega), up_na _ _ _ _ (by omega)]; exact ho.2.2.1
            · rw [up_nk _ _ _ hji, up_na _ _ _ _ (by omega), up_na _ _ _ _ (by omega), up_na _ _ _ _ (by omega)]; exact ho.2.2.2
        obtain ⟨V', g1, g2, g3⟩ := weigh_loop hB hlv hb hd1 hd2 hN m (i + 1) V4 (by omega) (by omega) (hC.fr F4 (by omega)) (hS.fr F4 (by omega)) (by rw [ea]; exact h8) (by rw [ea]; exact h9) hrow
        refine ⟨V', ?_, F4.tr g2, g3⟩
        rw [← g1, ← Nat.add_assoc]
        rfl
      rcases b3 with e | e
      · rw [k_eqT e]
        exact step _ (by unfold slRise; rw [if_neg (by omega)])
      · rw [k_eqF (by omega) ⟨by omega, by omega⟩ ⟨by omega, by omega⟩]
        exact step _ (by unfold slRise; rw [if_pos e])
/-- the Slices at a are weighed: of the slip from f to t -/
def WD (V : sj_VV) (a : Nat) (w : sj_R) (f t : Nat) (lf : Int) (bs : Nat → Int) : Prop := V a 8 = (t : Int) - f ∧ V a 9 = w 1 ∧ V a 10 = spPulls w f t bs ∧ ∀ j, f + j < t → WR V a w f lf bs j
theorem weigh_eq (hC : CG V ga w) (hB : WB lv hv rv w) (hlv : lv ≤ 1100) (hS : SL V sa f t lf bs) (hb : BB f t lf bs) (hd1 : ga + 14 ≤ a) (hd2 : sa + 2 ≤ a ∨ a + 9 ≤ sa) (hN : 50 ≤ N) : ∃ V', g_X4_weigh N a ga sa V = some ((), V') ∧ Fr a (a + 9) V V' ∧ WD V' a w f t lf bs := by
  unfold g_X4_weigh
  have F1 : Fr a (a + 9) V (sj_up V a 9 (V ga 1)) := Fr.rf.up (by omega) (by omega)
  rw [k_lt, count_eq (hS.fr F1 (by omega)), k_cs, k_lt]
  have F2 := F1.up (p := a) (k := 8) (v := (t : Int) - f) (by omega) (by omega)
  rw [pullsOn_eq (hC.fr F2 (by omega)) hB (hS.fr F2 (by omega)) hb (by omega), k_cs, k_lt]
  have F3 := F2.up (p := a) (k := 10) (v := spPulls w f t bs) (by omega) (by omega)
  have hC3 := hC.fr F3 (by omega)
  have hS3 := hS.fr F3 (by omega)
  obtain ⟨b1, b2, b3, b4⟩ := id hb
  rw [isNone_eq hS3 hb, k_cs, k_eqT rfl]
  generalize hV3 : sj_up (sj_up (sj_up V a 9 (V ga 1)) a 8 ((t : Int) - f)) a 10 (spPulls w f t bs) = V3 at F3 hC3 hS3
  have v8 : V3 a 8 = (t : Int) - f := by rw [← hV3, up_nk _ _ _ (by omega), up_ss]
  have v9 : V3 a 9 = w 1 := by rw [← hV3, up_nk _ _ _ (by omega), up_nk _ _ _ (by omega), up_ss, hC.1.2.1]
  have v10 : V3 a 10 = spPulls w f t bs := by rw [← hV3, up_ss]
  rw [hS3.1, k_ix (by omega) (by omega), tn0, hS3.2.2.2 f (by omega) (by omega), weightOn_eq hC3 hB (by omega) (b4 f (by omega) (by omega)) (by omega), k_cs, hS3.1, k_ix (by omega) (by omega), tn0, hS3.2.2.2 f (by omega) (by omega), headOn_eq hC3 hB (by omega) (b4 f (by omega) (by omega)), k_cs]
  obtain ⟨V', g1, g2, g3⟩ := weigh_loop (N := N) hB hlv hb hd1 hd2 (by omega) N 0 V3 (by omega) (by omega) hC3 hS3 v8 v9 (fun j hj => by omega)
  have ea : V' a = V3 a := g2 a (by omega)
  exact ⟨V', g1, F3.tr (g2.wide (by omega) (by omega)), by rw [ea]; exact v8, by rw [ea]; exact v9, by rw [ea]; exact v10, g3⟩
end Weigh
