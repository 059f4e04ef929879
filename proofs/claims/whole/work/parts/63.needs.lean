/-! NEEDS: more HOLD never makes RUBS less -/
def wHold (w : sj_R) (v : Int) : sj_R := fun j => if j = 291 ∨ j = 294 ∨ j = 297 ∨ j = 300 then w j + v else w j
theorem wHold_n (w : sj_R) (v : Int) {j : Nat} (h : j < 291 ∨ 301 ≤ j) : wHold w v j = w j := if_neg (by omega)
theorem wHold_h (w : sj_R) (v : Int) {l : Nat} (h : l < 4) : wHold w v (291 + 3 * l) = w (291 + 3 * l) + v := if_pos (by omega)
theorem wHold_o (w : sj_R) (v : Int) {l : Nat} (h : l < 4) : wHold w v (290 + 3 * l) = w (290 + 3 * l) ∧ wHold w v (292 + 3 * l) = w (292 + 3 * l) := ⟨if_neg (by omega), if_neg (by omega)⟩
section Needs
variable {V : sj_VV} {a f t : Nat} {w : sj_R} {k lf lv hv rv v u : Int} {bs : Nat → Int} {N : Nat}
theorem wHold_AC {c : Nat} (hc : c < 41) : AC w (wHold w v) c := ⟨wHold_n w v (by omega), wHold_n w v (by omega), wHold_n w v (by omega), fun l hl => wHold_n w v (by omega)⟩
theorem wHold_AS : AS w (wHold w v) := ⟨wHold_n w v (by omega), wHold_n w v (by omega), fun l hl => wHold_o w v hl⟩
theorem WB.hold (h : WB lv hv rv w) (h1 : 0 ≤ v) (h2 : hv + v ≤ u) : WB lv u rv (wHold w v) := by
  obtain ⟨a1, a2, a3, a4, a5, a6, a7⟩ := h
  have e : ∀ j, (j < 291 ∨ 301 ≤ j) → wHold w v j = w j := fun j hj => wHold_n w v hj
  refine ⟨by rw [e 0 (by omega)]; exact a1, by rw [e 1 (by omega)]; exact a2, by rw [e 2 (by omega)]; exact a3, fun d hd => by rw [e _ (by omega), e _ (by omega), e _ (by omega), e _ (by omega)]; exact a4 d hd, fun i hi => by rw [e _ (by omega)]; exact a5 i hi, fun l hl => ?_, fun i hi => by rw [e _ (by omega), e _ (by omega), e _ (by omega), e _ (by omega)]; exact a7 i hi⟩
  rw [wHold_h w v hl, (wHold_o w v hl).1, (wHold_o w v hl).2]
  have := a6 l hl
  omega
theorem wHold_pulls : spPulls (wHold w v) f t bs = spPulls w f t bs := by
  unfold spPulls
  refine spSum_congr 6 (fun j hj => ?_)
  unfold spPull spC1
  rw [wHold_n w v (j := 304 + 3 * (0 + j)) (by omega), wHold_n w v (j := 302 + 3 * (0 + j)) (by omega), wHold_n w v (j := 303 + 3 * (0 + j)) (by omega), wHold_n w v (j := 1) (by omega)]
theorem WD.hold (hb : BB f t lf bs) (h : WD V a w f t lf bs) : WD V a (wHold w v) f t lf bs := by
  obtain ⟨h1, h2, h3, h4⟩ := h
  obtain ⟨b1, b2, b3, b4⟩ := hb
  refine ⟨h1, by rw [wHold_n w v (by omega)]; exact h2, by rw [wHold_pulls]; exact h3, fun j hj => ?_⟩
  have c1 : AC w (wHold w v) (f + j) := wHold_AC (by omega)
  have c2 : AC w (wHold w v) (f + j + 1) := wHold_AC (by omega)
  obtain ⟨r1, r2, r3, r4⟩ := h4 j hj
  exact ⟨r1, by rw [c1.w2 c2 wHold_AS]; exact r2, by rw [c1.l2 c2 wHold_AS]; exact r3, by rw [c1.y2 c2]; exact r4⟩
theorem slR_mono (hB : WB lv hv rv w) (hlv : lv ≤ 1100) (hv0 : 0 ≤ v) (hvu : v ≤ u) {x : Nat} {p q : Int} (hx : x + 1 < 41) (hp : 0 ≤ p ∧ p ≤ 100) (hq : 0 ≤ q ∧ q ≤ 100) (hk : 0 ≤ k) (hd : 0 < slD w lf x p q k) : slR (wHold w v) lf x p q k ≤ slR (wHold w u) lf x p q k := by
  have c1 : ∀ z, AC w (wHold w z) x := fun z => wHold_AC (by omega)
  have c2 : ∀ z, AC w (wHold w z) (x + 1) := fun z => wHold_AC (by omega)
  unfold slR slG slS
  rw [(c1 v).d2 (c2 v) wHold_AS, (c1 u).d2 (c2 u) wHold_AS, (c1 v).y2 (c2 v), (c1 u).y2 (c2 u), (c1 v).p2 (c2 v) wHold_AS, (c1 u).p2 (c2 u) wHold_AS]
  have hy : slY w x p q < 4 := spLayer_b w x (p + q)
  rw [wHold_h w v hy, wHold_h w u hy, (wHold_o w v hy).2, (wHold_o w u hy).2, wHold_n w v (j := 1) (by omega), wHold_n w u (j := 1) (by omega)]
  have b1 := hB.2.1
  have hs := mul_s (y := slRise lf p q) (Y := 100) (slRise_b hp hq).1 (slRise_b hp hq).2
  have hbb : 0 ≤ w 1 * w 1 := Int.mul_nonneg (by omega) (by omega)
  refine Int.ediv_le_ediv hd (Int.mul_le_mul_of_nonneg_right (Int.mul_le_mul_of_nonneg_right ?_ (by omega)) hk)
  have : 2000 * (w (291 + 3 * slY w x p q) + v) * w 1 ≤ 2000 * (w (291 + 3 * slY w x p q) + u) * w 1 := Int.mul_le_mul_of_nonneg_right (by omega) (by omega)
  omega
theorem std_mono (hB : WB lv hv rv w) (hlv : lv ≤ 1100) (hb : BB f t lf bs) (hv0 : 0 ≤ v) (hvu : v ≤ u) (hk : 0 ≤ k) (P : Int) (h : spStd (wHold w v) f t lf bs P k = true) : spStd (wHold w u) f t lf bs P k = true := by
  obtain ⟨b1, b2, b3, b4⟩ := hb
  have c1 : ∀ z x, x < 41 → AC w (wHold w z) x := fun z x hx => wHold_AC hx
  have eD : ∀ z j, f + j < t → slD (wHold w z) lf (f + j) (bs (f + j)) (bs (f + j + 1)) k = slD w lf (f + j) (bs (f + j)) (bs (f + j + 1)) k := fun z j hj => (c1 z (f + j) (by omega)).d2 (c1 z (f + j + 1) (by omega)) wHold_AS
  have eU : ∀ z, spU (wHold w z) lf bs f (t - f) = spU w lf bs f (t - f) := fun z => spSum_congr (t - f) (fun j hj => (c1 z (f + j) (by omega)).u2 (c1 z (f + j + 1) (by omega)) wHold_AS)
  unfold spStd at h ⊢
  rw [decide_eq_true_iff] at h ⊢
  by_cases hn : spNF w lf bs f k (t - f)
  · right
    have h2 : k * (spU (wHold w v) lf bs f (t - f) - P) ≤ 1000 * spR (wHold w v) lf bs k f (t - f) := by
      rcases h with z | z
      · exact absurd (fun j hj => by rw [eD v j (by omega)]; exact hn j hj) z
      · exact z
    have h3 : spR (wHold w v) lf bs k f (t - f) ≤ spR (wHold w u) lf bs k f (t - f) := spSum_le (t - f) (fun j hj => slR_mono hB hlv hv0 hvu (by omega) (b4 (f + j) (by omega) (by omega)) (b4 (f + j + 1) (by omega) (by omega)) hk (hn j hj))
    rw [eU v] at h2
    rw [eU u]
    omega
  · left
    exact fun z => hn (fun j hj => by rw [← eD u j (by omega)]; exact z j hj)
end Needs
