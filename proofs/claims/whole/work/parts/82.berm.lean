/-! BERM -/
def wLoad (w : sj_R) (c d : Nat) (v : Int) : sj_R := fun j => if 126 + c ≤ j ∧ j ≤ 126 + d then w j + v else w j
def inB (c d x : Nat) : Int := if c ≤ x ∧ x ≤ d then 1 else 0
section Berm
variable {V : sj_VV} {a b f t c d x N : Nat} {w : sj_R} {k lf v p q lv hv rv : Int} {bs : Nat → Int}
theorem wLoad_n (w : sj_R) (v : Int) (hd : d ≤ 40) {j : Nat} (h : j < 126 ∨ 167 ≤ j) : wLoad w c d v j = w j := if_neg (by omega)
theorem wLoad_l (w : sj_R) (v : Int) (x : Nat) : wLoad w c d v (126 + x) = w (126 + x) + inB c d x * v := by
  unfold wLoad inB
  by_cases z : c ≤ x ∧ x ≤ d
  · rw [if_pos (by omega), if_pos z, Int.one_mul]
  · rw [if_neg (by omega), if_neg z, Int.zero_mul, Int.add_zero]
theorem wLoad_0 (w : sj_R) (c d : Nat) : wLoad w c d 0 = w := by
  funext j
  unfold wLoad
  split
  · rw [Int.add_zero]
  · rfl
theorem inB_01 (c d x : Nat) : inB c d x = 0 ∨ inB c d x = 1 := by unfold inB; split <;> simp
theorem WB.load (hB : WB 500 hv rv w) (hd : d ≤ 40) (h1 : 0 ≤ v ∧ v ≤ 501) : WB 1001 hv rv (wLoad w c d v) := by
  obtain ⟨a1, a2, a3, a4, a5, a6, a7⟩ := hB
  have e : ∀ j, (j < 126 ∨ 167 ≤ j) → wLoad w c d v j = w j := fun j hj => wLoad_n w v hd hj
  refine ⟨by rw [e 0 (by omega)]; exact a1, by rw [e 1 (by omega)]; exact a2, by rw [e 2 (by omega)]; exact a3, fun x hx => ?_, fun i hi => by rw [e _ (by omega)]; exact a5 i hi, fun l hl => by rw [e _ (by omega), e _ (by omega), e _ (by omega)]; exact a6 l hl, fun i hi => by rw [e _ (by omega), e _ (by omega), e _ (by omega), e _ (by omega)]; exact a7 i hi⟩
  obtain ⟨q1, q2, q3⟩ := a4 x hx
  rw [e (44 + x) (by omega), e (3 + x) (by omega), e (85 + x) (by omega), wLoad_l]
  refine ⟨q1, q2, ?_⟩
  rcases inB_01 c d x with z | z <;> rw [z] <;> omega
theorem wl_top (w : sj_R) (v : Int) (hd : d ≤ 40) (hx : x < 41) : ∀ l, l < 4 → spTop (wLoad w c d v) l x = spTop w l x
  | 0, _ => wLoad_n w v hd (by omega)
  | l + 1, hl => by rw [spTop, spTop, wl_top w v hd hx l (by omega), wLoad_n w v hd (by omega)]
theorem wl_thick (w : sj_R) (v : Int) (hd : d ≤ 40) (hx : x < 41) {l : Nat} (hl : l < 4) (p : Int) : spThick (wLoad w c d v) l x p = spThick w l x p := by
  unfold spThick
  rw [wl_top w v hd hx l hl]
  by_cases h3 : l = 3
  · rw [if_pos h3, if_pos h3]
  · rw [if_neg h3, if_neg h3, wl_top w v hd hx (l + 1) (by omega)]
theorem wl_on (w : sj_R) (v : Int) (hd : d ≤ 40) (hx : x < 41) (p : Int) : spOn (wLoad w c d v) x p = spOn w x p + inB c d x * v := by
  unfold spOn spSoil
  rw [wLoad_l, wl_thick w v hd hx (l := 0) (by omega), wl_thick w v hd hx (l := 1) (by omega), wl_thick w v hd hx (l := 2) (by omega), wl_thick w v hd hx (l := 3) (by omega), wLoad_n w v hd (j := 290) (by omega), wLoad_n w v hd (j := 293) (by omega), wLoad_n w v hd (j := 296) (by omega), wLoad_n w v hd (j := 299) (by omega)]
  omega
theorem wl_L (w : sj_R) (v : Int) (hd : d ≤ 40) (hx : x + 1 < 41) : slL (wLoad w c d v) x p q = slL w x p q := by
  unfold slL spHead spWater
  rw [wLoad_n w v hd (j := 1) (by omega), wLoad_n w v hd (j := 85 + x) (by omega), wLoad_n w v hd (j := 3 + x) (by omega), wLoad_n w v hd (j := 85 + (x + 1)) (by omega), wLoad_n w v hd (j := 3 + (x + 1)) (by omega)]
theorem wl_Y (w : sj_R) (v : Int) (hd : d ≤ 40) (hx : x + 1 < 41) : slY (wLoad w c d v) x p q = slY w x p q := by
  have h1 : x < 41 := by omega
  unfold slY spLayer
  rw [wl_top w v hd h1 3 (by omega), wl_top w v hd hx 3 (by omega), wl_top w v hd h1 2 (by omega), wl_top w v hd hx 2 (by omega), wl_top w v hd h1 1 (by omega), wl_top w v hd hx 1 (by omega)]
theorem wl_W (w : sj_R) (v : Int) (hd : d ≤ 40) (hx : x + 1 < 41) : slW (wLoad w c d (v + 1)) x p q = slW (wLoad w c d v) x p q + inB c d x * w 1 + inB c d (x + 1) * w 1 := by
  unfold slW
  rw [wl_on w _ hd (by omega), wl_on w _ hd hx, wl_on w _ hd (by omega), wl_on w _ hd hx, wLoad_n w _ hd (j := 1) (by omega), wLoad_n w _ hd (j := 1) (by omega)]
  rcases inB_01 c d x with z | z <;> rcases inB_01 c d (x + 1) with y | y <;> rw [z, y] <;> simp only [Int.zero_mul, Int.one_mul, Int.mul_add, Int.add_zero, Int.mul_one, Int.mul_zero] <;> omega
theorem wl_pulls (w : sj_R) (v : Int) (hd : d ≤ 40) : spPulls (wLoad w c d v) f t bs = spPulls w f t bs := by
  unfold spPulls
  refine spSum_congr 6 (fun j hj => ?_)
  unfold spPull spC1
  rw [wLoad_n w v hd (j := 304 + 3 * (0 + j)) (by omega), wLoad_n w v hd (j := 302 + 3 * (0 + j)) (by omega), wLoad_n w v hd (j := 303 + 3 * (0 + j)) (by omega), wLoad_n w v hd (j := 1) (by omega)]
theorem burden_loop (hB : WB 500 hv rv w) (hc : c ≤ 40) (hd : d ≤ 40) (hb : BB f t lf bs) (h1v : 0 ≤ v ∧ v ≤ 500) : ∀ (m i : Nat) (V : sj_VV), f + i ≤ t → t - (f + i) < m → V a 8 = (t : Int) - f → V a 9 = w 1 → (∀ j, j < i → V (a + 2) j = slW (wLoad w c d (v + 1)) (f + j) (bs (f + j)) (bs (f + j + 1))) → (∀ j, i ≤ j → f + j < t → V (a + 2) j = slW (wLoad w c d v) (f + j) (bs (f + j)) (bs (f + j + 1))) → ∃ V', g_X4_burden_3 N m a f c d i V = some ((), V') ∧ (∀ z, z ≠ a + 2 → V' z = V z) ∧ ∀ j, f + j < t → V' (a + 2) j = slW (wLoad w c d (v + 1)) (f + j) (bs (f + j)) (bs (f + j + 1))
  | 0, _, _, _, h, _, _, _, _ => absurd h (by omega)
  | m + 1, i, V, h1, h2, h8, h9, hlo, hhi => by
    obtain ⟨b1, b2, b3, b4⟩ := id hb
    unfold g_X4_burden_3 g_X4_burden_3_b
    rw [h8]
    by_cases hi : f + i = t
    · rw [k_leT (by omega) ⟨by omega, by omega⟩ ⟨by omega, by omega⟩]
      exact ⟨V, rfl, fun _ _ => rfl, fun j hj => hlo j (by omega)⟩
    · have hw : V (a + 2) i = slW (wLoad w c d v) (f + i) (bs (f + i)) (bs (f + i + 1)) := hhi i (by omega) (by omega)
      have hW := wl_W (c := c) (d := d) (p := bs (f + i)) (q := bs (f + i + 1)) w v hd (x := f + i) (by omega)
      -- the second half, from any state
      have half2 : ∀ V1 : sj_VV, (∀ z, z ≠ a + 2 → V1 z = V z) → (∀ j, j ≠ i → V1 (a + 2) j = V (a + 2) j) → V1 (a + 2) i = slW (wLoad w c d v) (f + i) (bs (f + i)) (bs (f + i + 1)) + inB c d (f + i) * w 1 → ∃ V', g_X4_burden_44 N (g_X4_burden_3 N m) a f c d i ((f : Int) + i) V1 = some ((), V') ∧ (∀ z, z ≠ a + 2 → V' z = V z) ∧ ∀ j, f + j < t → V' (a + 2) j = slW (wLoad w c d (v + 1)) (f + j) (bs (f + j)) (bs (f + j + 1)) := by
        intro V1 e1 e2 e3
        have rec_ : ∀ V2 : sj_VV, (∀ z, z ≠ a + 2 → V2 z = V z) → (∀ j, j ≠ i → V2 (a + 2) j = V (a + 2) j) → V2 (a + 2) i = slW (wLoad w c d (v + 1)) (f + i) (bs (f + i)) (bs (f + i + 1)) → ∃ V', g_X4_burden_74 N (g_X4_burden_3 N m) a f c d i V2 = some ((), V') ∧ (∀ z, z ≠ a + 2 → V' z = V z) ∧ ∀ j, f + j < t → V' (a + 2) j = slW (wLoad w c d (v + 1)) (f + j) (bs (f + j)) (bs (f + j + 1)) := by
          intro V2 g1 g2 g3
          unfold g_X4_burden_74
          rw [k_lt]
          obtain ⟨V3, r1, r2, r3⟩ := burden_loop hB hc hd hb h1v m (i + 1) V2 (by omega) (by omega) (by rw [g1 _ (by omega)]; exact h8) (by rw [g1 _ (by omega)]; exact h9) (fun j hj => by
            by_cases z : j = i
            · subst z; exact g3
            · rw [g2 j z]; exact hlo j (by omega)) (fun j j1 j2 => by rw [g2 j (by omega)]; exact hhi j (by omega) j2)
          exact ⟨V3, r1, fun z hz => (r2 z hz).trans (g1 z hz), r3⟩
        unfold g_X4_burden_44
        rw [k_ltc ⟨by omega, by omega⟩ ⟨by omega, by omega⟩]
        by_cases z1 : (f : Int) + i + 1 < c
        · rw [if_pos z1]
          have : inB c d (f + i + 1) = 0 := if_neg (by omega)
          exact rec_ V1 e1 e2 (by rw [e3, hW, this]; omega)
        · by_cases hdd : (d : Int) < f + i + 1
          · rw [if_neg z1, k_ltT hdd ⟨by omega, by omega⟩ ⟨by omega, by omega⟩]
            have : inB c d (f + i + 1) = 0 := if_neg (by omega)
            exact rec_ V1 e1 e2 (by rw [e3, hW, this]; omega)
          · have o1 : inB c d (f + i + 1) = 1 := if_pos (by omega)
            rw [if_neg z1, k_ltF hdd ⟨by omega, by omega⟩ ⟨by omega, by omega⟩, k_ix (by omega) (by omega), k_ix (by omega) (by omega), k_lt, tn0, e1 a (by omega), h9, e3]
            exact rec_ _ (fun z hz => by rw [up_row _ _ _ hz, e1 z hz]) (fun j hj => by rw [up_nk _ _ _ hj, e2 j hj]) (by rw [up_ss, hW, o1]; omega)
      rw [k_leF (by omega) ⟨by omega, by omega⟩ ⟨by omega, by omega⟩, k_lt, k_ltc ⟨by omega, by omega⟩ ⟨by omega, by omega⟩]
      by_cases z1 : (f : Int) + i < c
      · rw [if_pos z1]
        have : inB c d (f + i) = 0 := if_neg (by omega)
        exact half2 V (fun _ _ => rfl) (fun _ _ => rfl) (by rw [hw, this]; omega)
      · by_cases hdd : (d : Int) < f + i
        · rw [if_neg z1, k_ltT hdd ⟨by omega, by omega⟩ ⟨by omega, by omega⟩]
          have : inB c d (f + i) = 0 := if_neg (by omega)
          exact half2 V (fun _ _ => rfl) (fun _ _ => rfl) (by rw [hw, this]; omega)
        · have o1 : inB c d (f + i) = 1 := if_pos (by omega)
          rw [if_neg z1, k_ltF hdd ⟨by omega, by omega⟩ ⟨by omega, by omega⟩, k_ix (by omega) (by omega), k_ix (by omega) (by omega), k_lt, tn0, h9, hw]
          exact half2 _ (fun z hz => up_row _ _ _ hz) (fun j hj => up_nk _ _ _ hj) (by rw [up_ss, o1]; omega)
theorem burden_eq (hB : WB 500 hv rv w) (hc : c ≤ 40) (hd : d ≤ 40) (hb : BB f t lf bs) (h1v : 0 ≤ v ∧ v ≤ 500) (hW : WD V a (wLoad w c d v) f t lf bs) (hN : 50 ≤ N) : ∃ V', g_X4_burden N a f c d V = some ((), V') ∧ Fr a (a + 9) V V' ∧ WD V' a (wLoad w c d (v + 1)) f t lf bs := by
  obtain ⟨b1, b2, b3, b4⟩ := id hb
  obtain ⟨w1, w2, w3, w4⟩ := hW
  rw [wLoad_n w v hd (by omega)] at w2
  unfold g_X4_burden
  obtain ⟨V2, r1, r2, r3⟩ := burden_loop (N := N) (a := a) (c := c) (d := d) (v := v) hB hc hd hb h1v N 0 V (by omega) (by omega) w1 w2 (fun j hj => by omega) (fun j _ hj => (w4 j hj).2.1)
  refine ⟨V2, r1, fun z hz => r2 z (by omega), by rw [r2 a (by omega)]; exact w1, by rw [r2 a (by omega), wLoad_n w _ hd (by omega)]; exact w2, by rw [r2 a (by omega), wl_pulls w _ hd]; rw [wl_pulls w _ hd] at w3; exact w3, fun j hj => ?_⟩
  obtain ⟨q1, q2, q3, q4⟩ := w4 j hj
  refine ⟨by rw [r2 _ (by omega)]; exact q1, r3 j hj, ?_, ?_⟩
  · rw [r2 _ (by omega), q3, wl_L w _ hd (by omega), wl_L w _ hd (by omega)]
  · rw [r2 _ (by omega), q4, wl_Y w _ hd (by omega), wl_Y w _ hd (by omega)]
end Berm
