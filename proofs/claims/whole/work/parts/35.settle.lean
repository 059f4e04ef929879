/-- row j of what is settled -/
def SR (V : sj_VV) (a : Nat) (w : sj_R) (f : Nat) (lf : Int) (bs : Nat → Int) (j : Nat) : Prop := V (a + 5) j = slS w (f + j) (bs (f + j)) (bs (f + j + 1)) ∧ V (a + 6) j = slU w lf (f + j) (bs (f + j)) (bs (f + j + 1)) ∧ V (a + 7) j = slG w lf (f + j) (bs (f + j)) (bs (f + j + 1)) ∧ V (a + 8) j = slRise lf (bs (f + j)) (bs (f + j + 1)) * w (292 + 3 * slY w (f + j) (bs (f + j)) (bs (f + j + 1)))
section SliceBounds2
variable {lv hv rv : Int} {w : sj_R} {x : Nat} {p q lf k : Int}
theorem slP_b (h : WB lv hv rv w) (hl : lv ≤ 1100) (hx : x + 1 < 41) (hp : 0 ≤ p ∧ p ≤ 100) (hq : 0 ≤ q ∧ q ≤ 100) : 0 ≤ slP w x p q ∧ slP w x p q ≤ 260000 := by
  have h1 := slW_b h hl hx hp hq
  have h2 := slL_b h hx hp hq
  unfold slP
  omega
theorem slS_b (h : WB lv hv rv w) (hl : lv ≤ 1100) (hh : hv ≤ 700) (hr : rv ≤ 2250) (hx : x + 1 < 41) (hp : 0 ≤ p ∧ p ≤ 100) (hq : 0 ≤ q ∧ q ≤ 100) : 0 ≤ slS w x p q ∧ slS w x p q ≤ 600000000 := by
  have h1 := slP_b h hl hx hp hq
  have h2 := h.2.2.2.2.2.1 (slY w x p q) (spLayer_b _ _ _)
  have h3 := h.2.1
  have m1 := mul_b (x := 2000 * w (291 + 3 * slY w x p q)) (y := w 1) (X := 1400000) (Y := 10) (by omega) (by omega) (by omega) (by omega)
  have m2 := mul_b (x := slP w x p q) (y := w (292 + 3 * slY w x p q)) (X := 260000) (Y := 2250) (by omega) (by omega) (by omega) (by omega)
  unfold slS
  omega
theorem slU_b (h : WB lv hv rv w) (hl : lv ≤ 1100) (hx : x + 1 < 41) (hp : 0 ≤ p ∧ p ≤ 100) (hq : 0 ≤ q ∧ q ≤ 100) : -27300000000 ≤ slU w lf x p q ∧ slU w lf x p q ≤ 27300000000 := by
  have h1 := slW_b h hl hx hp hq
  have h2 := slRise_b (lf := lf) hp hq
  have h3 := mul_b (x := w 2) (y := w 1) (X := 500) (Y := 10) (by have := h.2.2.1; omega) (by have := h.2.2.1; omega) (by have := h.2.1; omega) (by have := h.2.1; omega)
  have := mul_a (x := slW w x p q) (y := 1000 * slRise lf p q + w 2 * w 1) (X := 260000) (Y := 105000) (by omega) (by omega) (by omega) (by omega)
  unfold slU
  omega
theorem slG_b (h : WB lv hv rv w) (hl : lv ≤ 1100) (hh : hv ≤ 700) (hr : rv ≤ 2250) (hx : x + 1 < 41) (hp : 0 ≤ p ∧ p ≤ 100) (hq : 0 ≤ q ∧ q ≤ 100) : 0 ≤ slG w lf x p q ∧ slG w lf x p q ≤ 6060000000000 := by
  have h1 := slS_b h hl hh hr hx hp hq
  have h2 := slRise_b (lf := lf) hp hq
  have h3 := mul_b (x := w 1) (y := w 1) (X := 10) (Y := 10) (by have := h.2.1; omega) (by have := h.2.1; omega) (by have := h.2.1; omega) (by have := h.2.1; omega)
  have h4 := mul_s (y := slRise lf p q) (Y := 100) (by omega) (by omega)
  have := mul_b (x := slS w x p q) (y := w 1 * w 1 + slRise lf p q * slRise lf p q) (X := 600000000) (Y := 10100) (by omega) (by omega) (by omega) (by omega)
  unfold slG
  omega
theorem slN_b (h : WB lv hv rv w) (hr : rv ≤ 2250) (hp : 0 ≤ p ∧ p ≤ 100) (hq : 0 ≤ q ∧ q ≤ 100) : -225000 ≤ slRise lf p q * w (292 + 3 * slY w x p q) ∧ slRise lf p q * w (292 + 3 * slY w x p q) ≤ 225000 := by
  have h2 := slRise_b (lf := lf) hp hq
  have h3 := h.2.2.2.2.2.1 (slY w x p q) (spLayer_b _ _ _)
  have := mul_a (x := w (292 + 3 * slY w x p q)) (y := slRise lf p q) (X := 2250) (Y := 100) (by omega) (by omega) (by omega) (by omega)
  rw [Int.mul_comm (w (292 + 3 * slY w x p q))] at this
  omega
theorem slD_b (h : WB lv hv rv w) (hr : rv ≤ 2250) (hp : 0 ≤ p ∧ p ≤ 100) (hq : 0 ≤ q ∧ q ≤ 100) (hk : 0 ≤ k ∧ k ≤ 20001) : -1000000 ≤ slD w lf x p q k ∧ slD w lf x p q k ≤ 1000000 := by
  have h1 := slN_b (x := x) (lf := lf) h hr hp hq
  have h2 := mul_b (x := w 1) (y := k) (X := 10) (Y := 20001) (by have := h.2.1; omega) (by have := h.2.1; omega) (by omega) (by omega)
  unfold slD
  omega
theorem slGk_b (h : WB lv hv rv w) (hl : lv ≤ 1100) (hh : hv ≤ 700) (hr : rv ≤ 2250) (hx : x + 1 < 41) (hp : 0 ≤ p ∧ p ≤ 100) (hq : 0 ≤ q ∧ q ≤ 100) (hk : 0 ≤ k ∧ k ≤ 20001) : 0 ≤ slG w lf x p q * k ∧ slG w lf x p q * k ≤ 121206060000000000 := by
  have h1 := slG_b (lf := lf) h hl hh hr hx hp hq
  have := mul_b (x := slG w lf x p q) (y := k) (X := 6060000000000) (Y := 20001) (by omega) (by omega) (by omega) (by omega)
  omega
theorem slR_b (h : WB lv hv rv w) (hl : lv ≤ 1100) (hh : hv ≤ 700) (hr : rv ≤ 2250) (hx : x + 1 < 41) (hp : 0 ≤ p ∧ p ≤ 100) (hq : 0 ≤ q ∧ q ≤ 100) (hk : 0 ≤ k ∧ k ≤ 20001) (hd : 0 < slD w lf x p q k) : 0 ≤ slR w lf x p q k ∧ slR w lf x p q k ≤ 121206060000000000 := by
  have h1 := slGk_b (lf := lf) h hl hh hr hx hp hq hk
  unfold slR
  refine ⟨Int.ediv_nonneg h1.1 (by omega), Int.le_trans (Int.ediv_le_self _ h1.1) h1.2⟩
end SliceBounds2
section Settle
variable {a ga f t : Nat} {w : sj_R} {lf lv hv rv more : Int} {bs : Nat → Int} {N : Nat}
theorem press_eq {V : sj_VV} (hB : WB lv hv rv w) (hlv : lv ≤ 1100) (hb : BB f t lf bs) {i : Nat} (hi : f + i < t) (h : WR V a w f lf bs i) : g_X4_press N a i V = some (slP w (f + i) (bs (f + i)) (bs (f + i + 1)), V) := by
  obtain ⟨b1, b2, b3, b4⟩ := id hb
  have p1 := b4 (f + i) (by omega) (by omega)
  have p2 := b4 (f + i + 1) (by omega) (by omega)
  have m1 := slW_b hB hlv (x := f + i) (by omega) p1 p2
  have m2 := slL_b hB (x := f + i) (by omega) p1 p2
  unfold g_X4_press
  rw [k_ix (by omega) (by omega), k_ix (by omega) (by omega), tn0, h.2.1, h.2.2.1, k_max ⟨by omega, by omega⟩ ⟨by omega, by omega⟩]
  rfl
theorem settle_loop (hB : WB lv hv rv w) (hlv : lv ≤ 1100) (hhv : hv ≤ 700) (hrv : rv ≤ 2250) (hb : BB f t lf bs) (hd1 : ga + 14 ≤ a) : ∀ (m i : Nat) (V : sj_VV), f + i ≤ t → t - (f + i) < m → (∀ l, l < 4 → V (ga + 7) l + more = w (291 + 3 * l) ∧ V (ga + 8) l = w (292 + 3 * l)) → V ga 2 = w 2 → WD V a w f t lf bs → (∀ j, j < i → SR V a w f lf bs j) → ∃ V', g_X4_settle_2 N m a ga more i V = some ((), V') ∧ Fr (a + 5) (a + 9) V V' ∧ ∀ j, f + j < t → SR V' a w f lf bs j
  | 0, _, _, _, h, _, _, _, _ => absurd h (by omega)
  | m + 1, i, V, h1, h2, hg, hq, hW, hr => by
    obtain ⟨b1, b2, b3, b4⟩ := id hb
    unfold g_X4_settle_2 g_X4_settle_2_b
    by_cases hi : f + i = t
    · rw [hW.1, k_leT (by omega) ⟨by omega, by omega⟩ ⟨by omega, by omega⟩]
      exact ⟨V, rfl, Fr.rf, fun j hj => hr j (by omega)⟩
    · have hit : f + i < t := by omega
      have p1 := b4 (f + i) (by omega) (by omega)
      have p2 := b4 (f + i + 1) (by omega) (by omega)
      obtain ⟨w1, w2, w3, w4⟩ := id (hW.2.2.2 i hit)
      have hY := spLayer_b w (f + i) (bs (f + i) + bs (f + i + 1))
      have hYe : slY w (f + i) (bs (f + i)) (bs (f + i + 1)) = spLayer w (f + i) (bs (f + i) + bs (f + i + 1)) := rfl
      generalize hy : slY w (f + i) (bs (f + i)) (bs (f + i + 1)) = y at w4 hYe
      rw [← hYe] at hY
      obtain ⟨g1, g2⟩ := hg y hY
      have hs := hB.2.2.2.2.2.1 y hY
      have hbb := hB.2.1
      have hqq := hB.2.2.1
      have mP := slP_b hB hlv (x := f + i) (by omega) p1 p2
      have mW := slW_b hB hlv (x := f + i) (by omega) p1 p2
      have mR := slRise_b (lf := lf) p1 p2
      have mqb := mul_b (x := w 2) (y := w 1) (X := 500) (Y := 10) (by omega) (by omega) (by omega) (by omega)
      have mbb := mul_b (x := w 1) (y := w 1) (X := 10) (Y := 10) (by omega) (by omega) (by omega) (by omega)
      have mrr := mul_s (y := slRise lf (bs (f + i)) (bs (f + i + 1))) (Y := 100) (by omega) (by omega)
      rw [hW.1, k_leF (by omega) ⟨by omega, by omega⟩ ⟨by omega, by omega⟩, k_ix (by omega) (by omega), tn0, w4, k_ix (by omega) (by omega), k_lt, tn0, k_ix (by omega) (by omega), k_ix (by omega) (by omega), g1, g2, k_wid ⟨by omega, by omega⟩, hW.2.1, k_wid ⟨by omega, by omega⟩, press_eq hB hlv hb hit (hW.2.2.2 i hit), k_cs, k_wid ⟨by omega, by omega⟩, k_wid ⟨by omega, by omega⟩, k_ix (by omega) (by omega), k_lt, k_ix (by omega) (by omega)]
      have eS : 2000 * w (291 + 3 * y) * w 1 + slP w (f + i) (bs (f + i)) (bs (f + i + 1)) * w (292 + 3 * y) = slS w (f + i) (bs (f + i)) (bs (f + i + 1)) := by unfold slS; rw [hy]
      rw [eS]
      generalize hV1 : sj_up V (a + 5) i (slS w (f + i) (bs (f + i)) (bs (f + i + 1))) = V1
      have r1 : ∀ x k, x ≠ a + 5 → V1 x k = V x k := fun x k h => by rw [← hV1]; exact up_na _ _ _ _ h
      rw [r1 _ _ (by omega), w2, k_wid ⟨by omega, by omega⟩, k_ix (by omega) (by omega), r1 _ _ (by omega), w1, k_wid ⟨by omega, by omega⟩, r1 _ _ (by omega), r1 _ _ (by omega), hq, hW.2.1, k_wid ⟨by omega, by omega⟩, k_ix (by omega) (by omega), k_lt]
      have eU : slW w (f + i) (bs (f + i)) (bs (f + i + 1)) * (1000 * slRise lf (bs (f + i)) (bs (f + i + 1)) + w 2 * w 1) = slU w lf (f + i) (bs (f + i)) (bs (f + i + 1)) := rfl
      rw [eU]
      generalize hV2 : sj_up V1 (a + 6) i (slU w lf (f + i) (bs (f + i)) (bs (f + i + 1))) = V2
      have r2 : ∀ x k, x ≠ a + 6 → V2 x k = V1 x k := fun x k h => by rw [← hV2]; exact up_na _ _ _ _ h
      have e5 : V1 (a + 5) i = slS w (f + i) (bs (f + i)) (bs (f + i + 1)) := by rw [← hV1]; exact up_ss _ _ _ _
      rw [k_ix (by omega) (by omega), k_ix (by omega) (by omega), k_ix (by omega) (by omega), r2 _ _ (by omega), r1 _ _ (by omega), r2 _ _ (by omega), r1 _ _ (by omega), hW.2.1, w1, k_wid ⟨by omega, by omega⟩, k_ix (by omega) (by omega), k_lt, k_ix (by omega) (by omega), r2 _ _ (by omega), e5]
      have eG : slS w (f + i) (bs (f + i)) (bs (f + i + 1)) * (w 1 * w 1 + slRise lf (bs (f + i)) (bs (f + i + 1)) * slRise lf (bs (f + i)) (bs (f + i + 1))) = slG w lf (f + i) (bs (f + i)) (bs (f + i + 1)) := rfl
      rw [eG]
      generalize hV3 : sj_up V2 (a + 7) i (slG w lf (f + i) (bs (f + i)) (bs (f + i + 1))) = V3
      have r3 : ∀ x k, x ≠ a + 7 → V3 x k = V2 x k := fun x k h => by rw [← hV3]; exact up_na _ _ _ _ h
      rw [r3 _ _ (by omega), r2 _ _ (by omega), r1 _ _ (by omega), w1, k_wid ⟨by omega, by omega⟩, k_wid ⟨by omega, by omega⟩, k_ix (by omega) (by omega), k_lt, k_lt]
      generalize hV4 : sj_up V3 (a + 8) i (slRise lf (bs (f + i)) (bs (f + i + 1)) * w (292 + 3 * y)) = V4
      have r4 : ∀ x k, x ≠ a + 8 → V4 x k = V3 x k := fun x k h => by rw [← hV4]; exact up_na _ _ _ _ h
      have F4 : Fr (a + 5) (a + 9) V V4 := by rw [← hV4, ← hV3, ← hV2, ← hV1]; exact (((Fr.rf.up (by omega) (by omega)).up (by omega) (by omega)).up (by omega) (by omega)).up (by omega) (by omega)
      have keep : ∀ x, x < a + 5 → V4 x = V x := fun x hx => F4 x (by omega)
      have hrow : ∀ j, j < i + 1 → SR V4 a w f lf bs j := by
        intro j hj
        by_cases hji : j = i
        · subst hji
          refine ⟨?_, ?_, ?_, ?_⟩
          · rw [r4 _ _ (by omega), r3 _ _ (by omega), r2 _ _ (by omega)]; exact e5
          · rw [r4 _ _ (by omega), r3 _ _ (by omega), ← hV2, up_ss]
          · rw [r4 _ _ (by omega), ← hV3, up_ss]
          · rw [← hV4, up_ss, hy]
        · have ho := hr j (by omega)
          refine ⟨?_, ?_, ?_, ?_⟩
          · rw [r4 _ _ (by omega), r3 _ _ (by omega), r2 _ _ (by omega), ← hV1, up_nk _ _ _ hji]; exact ho.1
          · rw [r4 _ _ (by omega), r3 _ _ (by omega), ← hV2, up_nk _ _ _ hji, r1 _ _ (by omega)]; exact ho.2.1
          · rw [r4 _ _ (by omega), ← hV3, up_nk _ _ _ hji, r2 _ _ (by omega), r1 _ _ (by omega)]; exact ho.2.2.1
          · rw [← hV4, up_nk _ _ _ hji, r3 _ _ (by omega), r2 _ _ (by omega), r1 _ _ (by omega)]; exact ho.2.2.2
      have hW4 : WD V4 a w f t lf bs := by
        refine ⟨by rw [keep a (by omega)]; exact hW.1, by rw [keep a (by omega)]; exact hW.2.1, by rw [keep a (by omega)]; exact hW.2.2.1, fun j hj => ?_⟩
        have := hW.2.2.2 j hj
        unfold WR at this ⊢
        rw [keep _ (by omega), keep _ (by omega), keep _ (by omega), keep _ (by omega)]
        exact this
      obtain ⟨V', k1, k2, k3⟩ := settle_loop hB hlv hhv hrv hb hd1 m (i + 1) V4 (by omega) (by omega) (fun l hl => by rw [keep _ (by omega), keep _ (by omega)]; exact hg l hl) (by rw [keep _ (by omega)]; exact hq) hW4 hrow
      exact ⟨V', k1, F4.tr k2, k3⟩
/-- the Slices at a are settled -/
def SD (V : sj_VV) (a : Nat) (w : sj_R) (f t : Nat) (lf : Int) (bs : Nat → Int) : Prop := WD V a w f t lf bs ∧ ∀ j, f + j < t → SR V a w f lf bs j
theorem settle_eq {V : sj_VV} (hW : WD V a w f t lf bs) (hB : WB lv hv rv w) (hlv : lv ≤ 1100) (hhv : hv ≤ 700) (hrv : rv ≤ 2250) (hb : BB f t lf bs) (hd1 : ga + 14 ≤ a) (hg : ∀ l, l < 4 → V (ga + 7) l + more = w (291 + 3 * l) ∧ V (ga + 8) l = w (292 + 3 * l)) (hq : V ga 2 = w 2) (hN : 50 ≤ N) : ∃ V', g_X4_settle N a ga more V = some ((), V') ∧ Fr a (a + 9) V V' ∧ SD V' a w f t lf bs := by
  unfold g_X4_settle
  obtain ⟨V', k1, k2, k3⟩ := settle_loop (N := N) hB hlv hhv hrv hb hd1 N 0 V (by have := hb.1; omega) (by have := hb.2.1; omega) hg hq hW (fun j hj => by omega)
  have keep : ∀ x, x < a + 5 → V' x = V x := fun x hx => k2 x (by omega)
  refine ⟨V', k1, k2.wide (by omega) (by omega), ⟨by rw [keep a (by omega)]; exact hW.1, by rw [keep a (by omega)]; exact hW.2.1, by rw [keep a (by omega)]; exact hW.2.2.1, fun j hj => ?_⟩, k3⟩
  have := hW.2.2.2 j hj
  unfold WR at this ⊢
  rw [keep _ (by omega), keep _ (by omega), keep _ (by omega), keep _ (by omega)]
  exact this
end Settle
