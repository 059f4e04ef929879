section Slices2
variable {V : sj_VV} {a f t : Nat} {w : sj_R} {lf lv hv rv k : Int} {bs : Nat → Int} {N : Nat}
/-- FACTOR of a slip -/
def spF (w : sj_R) (f t : Nat) (lf : Int) (bs : Nat → Int) : Int := spFactor (spStd w f t lf bs (spPulls w f t bs))
/-- what the search answers that need not go on from a limit on -/
def spLim (F lim r : Int) : Prop := (F < lim → r = F) ∧ (lim ≤ F → lim ≤ r ∧ r ≤ F) ∧ 0 ≤ r ∧ r ≤ 20000
theorem leastBound_loop (hS : SD V a w f t lf bs) (hB : WB lv hv rv w) (hlv : lv ≤ 1100) (hhv : hv ≤ 700) (hrv : rv ≤ 2250) (hb : BB f t lf bs) (hN : 50 ≤ N) {lim : Int} (hlim : 0 ≤ lim ∧ lim ≤ 20001) : ∀ (m s : Nat) (lo hi : Int), s ≤ 15 → 15 - s < m → 0 ≤ lo → lo < hi → hi ≤ 20001 → hi - lo ≤ 2 ^ (15 - s) → ∃ r, g_X4_leastBound_9 N m a lim lo hi s V = some (r, V) ∧ spLim (spFac (spStd w f t lf bs (spPulls w f t bs)) (15 - s) lo hi) lim r
  | 0, _, _, _, _, h, _, _, _, _ => absurd h (by omega)
  | m + 1, s, lo, hi, h1, h2, h3, h4, h5, h6 => by
    unfold g_X4_leastBound_9 g_X4_leastBound_9_b
    by_cases hs : s = 15
    · subst hs
      rw [k_leT (by omega) ⟨by omega, by omega⟩ ⟨by omega, by omega⟩]
      exact ⟨lo, rfl, fun _ => rfl, fun h => ⟨h, Int.le_refl _⟩, by omega, by omega⟩
    · obtain ⟨d, hd⟩ : ∃ d, 15 - s = d + 1 := ⟨14 - s, by omega⟩
      have hd2 : 15 - (s + 1) = d := by omega
      rw [k_leF (by omega) ⟨by omega, by omega⟩ ⟨by omega, by omega⟩, k_lec ⟨by omega, by omega⟩ ⟨by omega, by omega⟩, hd]
      rw [hd, Int.pow_succ] at h6
      by_cases hg : hi - lo ≤ 1
      · rw [if_pos hg, spFac, if_pos hg]
        exact ⟨lo, rfl, fun _ => rfl, fun h => ⟨h, Int.le_refl _⟩, by omega, by omega⟩
      · rw [if_neg hg, k_lec ⟨by omega, by omega⟩ ⟨by omega, by omega⟩]
        by_cases hL : lim ≤ lo
        · rw [if_pos hL]
          have hge := spFac_ge (spStd w f t lf bs (spPulls w f t bs)) (d + 1) lo hi (by omega)
          exact ⟨lo, rfl, fun h => by omega, fun _ => ⟨hL, hge.1⟩, by omega, by omega⟩
        · have em : (lo + hi).tdiv 2 = (lo + hi) / 2 := Int.tdiv_eq_ediv_of_nonneg (by omega)
          rw [if_neg hL, k_dI ⟨by omega, by omega⟩ ⟨by omega, by omega⟩ (by omega), em, hold_eq hS hB hlv hhv hrv hb ⟨by omega, by omega⟩ hN, k_cs, spFac, if_neg hg]
          by_cases hP : spStd w f t lf bs (spPulls w f t bs) ((lo + hi) / 2) = true
          · rw [if_pos hP, k_eqF (by omega) ⟨by omega, by omega⟩ ⟨by omega, by omega⟩, if_pos hP]
            unfold g_X4_leastBound_53
            rw [k_lt]
            have ih := leastBound_loop hS hB hlv hhv hrv hb hN hlim m (s + 1) ((lo + hi) / 2) hi (by omega) (by omega) (by omega) (by omega) (by omega) (by rw [hd2]; omega)
            rw [hd2] at ih
            exact ih
          · rw [if_neg hP, k_eqT rfl, if_neg hP]
            unfold g_X4_leastBound_53
            rw [k_lt]
            have ih := leastBound_loop hS hB hlv hhv hrv hb hN hlim m (s + 1) lo ((lo + hi) / 2) (by omega) (by omega) (by omega) (by omega) (by omega) (by rw [hd2]; omega)
            rw [hd2] at ih
            exact ih
theorem leastBound_eq (hS : SD V a w f t lf bs) (hB : WB lv hv rv w) (hlv : lv ≤ 1100) (hhv : hv ≤ 700) (hrv : rv ≤ 2250) (hb : BB f t lf bs) (hN : 50 ≤ N) {lim : Int} (hlim : 0 ≤ lim ∧ lim ≤ 20001) : ∃ r, g_X4_leastBound N a lim V = some (r, V) ∧ spLim (spF w f t lf bs) lim r := by
  unfold g_X4_leastBound
  exact leastBound_loop hS hB hlv hhv hrv hb hN hlim N 0 0 20001 (by omega) (by omega) (by omega) (by omega) (by omega) (by decide)
theorem spF_b (w : sj_R) (f t : Nat) (lf : Int) (bs : Nat → Int) : 0 ≤ spF w f t lf bs ∧ spF w f t lf bs ≤ 20000 := by
  have := spFac_ge (spStd w f t lf bs (spPulls w f t bs)) 15 0 20001 (by omega)
  unfold spF spFactor
  have := this.2 (by omega)
  omega
theorem factor_eq (hS : SD V a w f t lf bs) (hB : WB lv hv rv w) (hlv : lv ≤ 1100) (hhv : hv ≤ 700) (hrv : rv ≤ 2250) (hb : BB f t lf bs) (hN : 50 ≤ N) : g_X4_leastBound N a 20001 V = some (spF w f t lf bs, V) := by
  obtain ⟨r, h1, h2⟩ := leastBound_eq hS hB hlv hhv hrv hb hN (lim := 20001) (by omega)
  rw [h1, h2.1 (by have := spF_b w f t lf bs; omega)]
theorem rubsOf_eq (hS : SD V a w f t lf bs) (hB : WB lv hv rv w) (hlv : lv ≤ 1100) (hhv : hv ≤ 700) (hrv : rv ≤ 2250) (hb : BB f t lf bs) (hk : 0 ≤ k ∧ k ≤ 20001) {i : Nat} (hi : f + i < t) : g_X4_rubsOf N a i k V = some (if 0 < slD w lf (f + i) (bs (f + i)) (bs (f + i + 1)) k then slR w lf (f + i) (bs (f + i)) (bs (f + i + 1)) k else -1, V) := by
  obtain ⟨b1, b2, b3, b4⟩ := id hb
  have p1 := b4 (f + i) (by omega) (by omega)
  have p2 := b4 (f + i + 1) (by omega) (by omega)
  obtain ⟨s1, s2, s3, s4⟩ := hS.2 i hi
  have hdb := slD_b (x := f + i) (lf := lf) hB hrv p1 p2 hk
  have hgk := slGk_b (x := f + i) (lf := lf) hB hlv hhv hrv (by omega) p1 p2 hk
  have h1 := hB.2.1
  have eD : w 1 * k + slRise lf (bs (f + i)) (bs (f + i + 1)) * w (292 + 3 * slY w (f + i) (bs (f + i)) (bs (f + i + 1))) = slD w lf (f + i) (bs (f + i)) (bs (f + i + 1)) k := rfl
  unfold g_X4_rubsOf
  rw [hS.1.2.1, k_wid ⟨by omega, by omega⟩, k_wid ⟨by omega, by omega⟩, k_ix (by omega) (by omega), k_lt, tn0, s4, eD, k_lltc ⟨by omega, by omega⟩ ⟨by omega, by omega⟩]
  by_cases hd : 0 < slD w lf (f + i) (bs (f + i)) (bs (f + i + 1)) k
  · rw [if_pos hd, if_pos hd, k_ix (by omega) (by omega), k_wid ⟨by omega, by omega⟩, s3, k_dJ ⟨by omega, by omega⟩ ⟨by omega, by omega⟩ (by omega), Int.tdiv_eq_ediv_of_nonneg hgk.1]
    rfl
  · rw [if_neg hd, if_neg hd]
theorem isFast_eq (hS : SD V a w f t lf bs) (hB : WB lv hv rv w) (hrv : rv ≤ 2250) (hb : BB f t lf bs) (hk : 0 ≤ k ∧ k ≤ 20001) {i : Nat} (hi : f + i < t) : g_X4_isFast N a i k V = some (if 0 < slD w lf (f + i) (bs (f + i)) (bs (f + i + 1)) k then 0 else 1, V) := by
  obtain ⟨b1, b2, b3, b4⟩ := id hb
  have p1 := b4 (f + i) (by omega) (by omega)
  have p2 := b4 (f + i + 1) (by omega) (by omega)
  obtain ⟨s1, s2, s3, s4⟩ := hS.2 i hi
  have hdb := slD_b (x := f + i) (lf := lf) hB hrv p1 p2 hk
  have h1 := hB.2.1
  have eD : w 1 * k + slRise lf (bs (f + i)) (bs (f + i + 1)) * w (292 + 3 * slY w (f + i) (bs (f + i)) (bs (f + i + 1))) = slD w lf (f + i) (bs (f + i)) (bs (f + i + 1)) k := rfl
  unfold g_X4_isFast
  rw [hS.1.2.1, k_wid ⟨by omega, by omega⟩, k_wid ⟨by omega, by omega⟩, k_ix (by omega) (by omega), tn0, s4, eD, k_lltc ⟨by omega, by omega⟩ ⟨by omega, by omega⟩]
  by_cases hd : 0 < slD w lf (f + i) (bs (f + i)) (bs (f + i + 1)) k
  · rw [if_pos hd, if_pos hd, k_zs (Or.inl rfl)]
  · rw [if_neg hd, if_neg hd, k_zs (Or.inr rfl)]
/-- a sum over the slices, by rows of the Slices -/
theorem sum_loop {F : Nat → Int} {L : Nat → Nat → Int → Int → sj_VV → Option (Int × sj_VV)} (hx : ∀ n acc, L (n + 1) a acc ((t : Int) - f) V = some (acc, V)) (hs : ∀ n i acc, f + i < t → L (n + 1) a acc (i : Nat) V = L n a (acc + F (f + i)) ((i + 1 : Nat) : Int) V) : ∀ (m i : Nat), f + i ≤ t → t - (f + i) < m → L m a (spSum F f i) (i : Nat) V = some (spSum F f (t - f), V)
  | 0, _, _, h => absurd h (by omega)
  | m + 1, i, h1, h2 => by
    by_cases hi : f + i = t
    · have ei : i = t - f := by omega
      rw [show ((i : Nat) : Int) = (t : Int) - f by omega, hx, ei]
    · rw [hs m i _ (by omega)]
      exact sum_loop hx hs m (i + 1) (by omega) (by omega)
theorem allPushes_eq (hS : SD V a w f t lf bs) (hb : BB f t lf bs) (hN : 50 ≤ N) : g_X4_allPushes N a V = some (spU w lf bs f (t - f), V) := by
  obtain ⟨b1, b2, b3, b4⟩ := id hb
  unfold g_X4_allPushes
  refine sum_loop (F := fun x => slU w lf x (bs x) (bs (x + 1))) (L := g_X4_allPushes_4 N) (fun n acc => ?_) (fun n i acc hi => ?_) N 0 (by omega) (by omega)
  · unfold g_X4_allPushes_4 g_X4_allPushes_4_b
    rw [hS.1.1, k_leT (by omega) ⟨by omega, by omega⟩ ⟨by omega, by omega⟩]
  · show g_X4_allPushes_4_b N _ _ _ _ _ = _
    unfold g_X4_allPushes_4_b
    rw [hS.1.1, k_leF (by omega) ⟨by omega, by omega⟩ ⟨by omega, by omega⟩, k_ix (by omega) (by omega), k_lt, k_lt, tn0, (hS.2 i hi).2.1]
    rfl
theorem allStrengths_eq (hS : SD V a w f t lf bs) (hb : BB f t lf bs) (hN : 50 ≤ N) : g_X4_allStrengths N a V = some (spSum (fun x => slS w x (bs x) (bs (x + 1))) f (t - f), V) := by
  obtain ⟨b1, b2, b3, b4⟩ := id hb
  unfold g_X4_allStrengths
  refine sum_loop (F := fun x => slS w x (bs x) (bs (x + 1))) (L := g_X4_allStrengths_4 N) (fun n acc => ?_) (fun n i acc hi => ?_) N 0 (by omega) (by omega)
  · unfold g_X4_allStrengths_4 g_X4_allStrengths_4_b
    rw [hS.1.1, k_leT (by omega) ⟨by omega, by omega⟩ ⟨by omega, by omega⟩]
  · show g_X4_allStrengths_4_b N _ _ _ _ _ = _
    unfold g_X4_allStrengths_4_b
    rw [hS.1.1, k_leF (by omega) ⟨by omega, by omega⟩ ⟨by omega, by omega⟩, k_ix (by omega) (by omega), k_lt, k_lt, tn0, (hS.2 i hi).1]
    rfl
theorem allWeights_eq (hS : SD V a w f t lf bs) (hB : WB lv hv rv w) (hlv : lv ≤ 1100) (hb : BB f t lf bs) (hN : 50 ≤ N) : g_X4_allWeights N a V = some (spSum (fun x => slW w x (bs x) (bs (x + 1))) f (t - f), V) := by
  obtain ⟨b1, b2, b3, b4⟩ := id hb
  unfold g_X4_allWeights
  refine sum_loop (F := fun x => slW w x (bs x) (bs (x + 1))) (L := g_X4_allWeights_4 N) (fun n acc => ?_) (fun n i acc hi => ?_) N 0 (by omega) (by omega)
  · unfold g_X4_allWeights_4 g_X4_allWeights_4_b
    rw [hS.1.1, k_leT (by omega) ⟨by omega, by omega⟩ ⟨by omega, by omega⟩]
  · have := slW_b hB hlv (x := f + i) (by omega) (b4 (f + i) (by omega) (by omega)) (b4 (f + i + 1) (by omega) (by omega))
    show g_X4_allWeights_4_b N _ _ _ _ _ = _
    unfold g_X4_allWeights_4_b
    rw [hS.1.1, k_leF (by omega) ⟨by omega, by omega⟩ ⟨by omega, by omega⟩, k_ix (by omega) (by omega), tn0, (hS.1.2.2.2 i hi).2.1, k_wid ⟨by omega, by omega⟩, k_lt, k_lt]
    rfl
theorem allLifts_eq (hS : SD V a w f t lf bs) (hB : WB lv hv rv w) (hb : BB f t lf bs) (hN : 50 ≤ N) : g_X4_allLifts N a V = some (spSum (fun x => slL w x (bs x) (bs (x + 1))) f (t - f), V) := by
  obtain ⟨b1, b2, b3, b4⟩ := id hb
  unfold g_X4_allLifts
  refine sum_loop (F := fun x => slL w x (bs x) (bs (x + 1))) (L := g_X4_allLifts_4 N) (fun n acc => ?_) (fun n i acc hi => ?_) N 0 (by omega) (by omega)
  · unfold g_X4_allLifts_4 g_X4_allLifts_4_b
    rw [hS.1.1, k_leT (by omega) ⟨by omega, by omega⟩ ⟨by omega, by omega⟩]
  · have := slL_b hB (x := f + i) (by omega) (b4 (f + i) (by omega) (by omega)) (b4 (f + i + 1) (by omega) (by omega))
    show g_X4_allLifts_4_b N _ _ _ _ _ = _
    unfold g_X4_allLifts_4_b
    rw [hS.1.1, k_leF (by omega) ⟨by omega, by omega⟩ ⟨by omega, by omega⟩, k_ix (by omega) (by omega), tn0, (hS.1.2.2.2 i hi).2.2.1, k_wid ⟨by omega, by omega⟩, k_lt, k_lt]
    rfl
theorem countFalling_eq (hS : SD V a w f t lf bs) (hb : BB f t lf bs) (hN : 50 ≤ N) : g_X4_countFalling N a V = some (spSum (fun x => if slRise lf (bs x) (bs (x + 1)) < 0 then 1 else 0) f (t - f), V) := by
  obtain ⟨b1, b2, b3, b4⟩ := id hb
  unfold g_X4_countFalling
  refine sum_loop (F := fun x => if slRise lf (bs x) (bs (x + 1)) < 0 then 1 else 0) (L := g_X4_countFalling_4 N) (fun n acc => ?_) (fun n i acc hi => ?_) N 0 (by omega) (by omega)
  · unfold g_X4_countFalling_4 g_X4_countFalling_4_b
    rw [hS.1.1, k_leT (by omega) ⟨by omega, by omega⟩ ⟨by omega, by omega⟩]
  · have := slRise_b (lf := lf) (b4 (f + i) (by omega) (by omega)) (b4 (f + i + 1) (by omega) (by omega))
    show g_X4_countFalling_4_b N _ _ _ _ _ = _
    unfold g_X4_countFalling_4_b g_X4_countFalling_24
    rw [hS.1.1, k_leF (by omega) ⟨by omega, by omega⟩ ⟨by omega, by omega⟩, k_ix (by omega) (by omega), tn0, (hS.1.2.2.2 i hi).1, k_lec ⟨by omega, by omega⟩ ⟨by omega, by omega⟩]
    by_cases h : slRise lf (bs (f + i)) (bs (f + i + 1)) < 0
    · rw [if_neg (by omega), if_pos h, k_lt, k_lt]; rfl
    · rw [if_pos (by omega), if_neg h, k_lt, Int.add_zero]; rfl
theorem countAfloat_eq (hS : SD V a w f t lf bs) (hB : WB lv hv rv w) (hlv : lv ≤ 1100) (hb : BB f t lf bs) (hN : 50 ≤ N) : g_X4_countAfloat N a V = some (spSum (fun x => if slW w x (bs x) (bs (x + 1)) < slL w x (bs x) (bs (x + 1)) then 1 else 0) f (t - f), V) := by
  obtain ⟨b1, b2, b3, b4⟩ := id hb
  unfold g_X4_countAfloat
  refine sum_loop (F := fun x => if slW w x (bs x) (bs (x + 1)) < slL w x (bs x) (bs (x + 1)) then 1 else 0) (L := g_X4_countAfloat_4 N) (fun n acc => ?_) (fun n i acc hi => ?_) N 0 (by omega) (by omega)
  · unfold g_X4_countAfloat_4 g_X4_countAfloat_4_b
    rw [hS.1.1, k_leT (by omega) ⟨by omega, by omega⟩ ⟨by omega, by omega⟩]
  · have h1 := slL_b hB (x := f + i) (by omega) (b4 (f + i) (by omega) (by omega)) (b4 (f + i + 1) (by omega) (by omega))
    have h2 := slW_b hB hlv (x := f + i) (by omega) (b4 (f + i) (by omega) (by omega)) (b4 (f + i + 1) (by omega) (by omega))
    show g_X4_countAfloat_4_b N _ _ _ _ _ = _
    unfold g_X4_countAfloat_4_b g_X4_countAfloat_30
    rw [hS.1.1, k_leF (by omega) ⟨by omega, by omega⟩ ⟨by omega, by omega⟩, k_ix (by omega) (by omega), k_ix (by omega) (by omega), tn0, (hS.1.2.2.2 i hi).2.1, (hS.1.2.2.2 i hi).2.2.1, k_lec ⟨by omega, by omega⟩ ⟨by omega, by omega⟩]
    by_cases h : slW w (f + i) (bs (f + i)) (bs (f + i + 1)) < slL w (f + i) (bs (f + i)) (bs (f + i + 1))
    · rw [if_neg (by omega), if_pos h, k_lt, k_lt]; rfl
    · rw [if_pos (by omega), if_neg h, k_lt, Int.add_zero]; rfl
end Slices2
