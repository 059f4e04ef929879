section Needs2
variable {V : sj_VV} {a f t : Nat} {w : sj_R} {k lf lv hv rv : Int} {bs : Nat → Int} {N : Nat}
def spNdP (w : sj_R) (f t : Nat) (lf : Int) (bs : Nat → Int) (k : Int) (v : Nat) : Bool := spStd (wHold w v) f t lf bs (spPulls w f t bs) k
def spNd (w : sj_R) (f t : Nat) (lf : Int) (bs : Nat → Int) (k : Int) : Nat := spSeek (spNdP w f t lf bs k) 501 0
theorem spNd_iff (hB : WB lv hv rv w) (hlv : lv ≤ 1100) (hb : BB f t lf bs) (hk : 0 ≤ k) {v : Nat} (hv : v ≤ 500) : spNdP w f t lf bs k v = true ↔ spNd w f t lf bs k ≤ v := by
  obtain ⟨a1, a2, a3, a4⟩ := spSeek_b (spNdP w f t lf bs k) 501 0
  have e : spSeek (spNdP w f t lf bs k) 501 0 = spNd w f t lf bs k := rfl
  rw [e] at a1 a2 a3 a4
  constructor
  · intro h
    rcases Nat.lt_or_ge v (spNd w f t lf bs k) with z | z
    · exact absurd h (a3 v (by omega) z)
    · exact z
  · intro h
    have h1 := a4 (by omega)
    exact std_mono hB hlv hb (by omega) (by omega) hk _ h1
theorem c_needs_loop (hB : WB 500 200 1500 w) (hb : BB f t lf bs) (hk : 1 ≤ k ∧ k ≤ 20000) (hN : 50 ≤ N) : ∀ (m s : Nat) (lo hi : Int) (V : sj_VV), s ≤ 15 → 15 - s < m → -1 ≤ lo → lo < hi → hi ≤ 501 → hi - lo ≤ 2 ^ (15 - s) → lo < spNd w f t lf bs k → (spNd w f t lf bs k : Int) ≤ hi → CG V (a + 1) w → WD V (a + 54) w f t lf bs → ∃ V', g_X8_needs_25 N m a k lo hi s V = some (if spNd w f t lf bs k ≤ 500 then (spNd w f t lf bs k : Int) else -1, V') ∧ Fr (a + 54) (a + 63) V V'
  | 0, _, _, _, _, _, h, _, _, _, _, _, _, _, _ => absurd h (by omega)
  | m + 1, s, lo, hi, V, h1, h2, h3, h4, h5, h6, h7, h8, hC, hW => by
    unfold g_X8_needs_25 g_X8_needs_25_b
    have hend : hi - lo ≤ 1 → g_X8_needs_85 N hi V = some (if spNd w f t lf bs k ≤ 500 then (spNd w f t lf bs k : Int) else -1, V) := by
      intro z
      unfold g_X8_needs_85
      rw [show hi = (spNd w f t lf bs k : Int) by omega, k_lec ⟨by omega, by omega⟩ ⟨by omega, by omega⟩]
      by_cases y : spNd w f t lf bs k ≤ 500
      · rw [if_pos y, if_pos (by omega)]
      · rw [if_neg y, if_neg (by omega)]
    by_cases hs : s = 15
    · subst hs
      rw [k_leT (by omega) ⟨by omega, by omega⟩ ⟨by omega, by omega⟩, hend (by simpa using h6)]
      exact ⟨V, rfl, Fr.rf⟩
    · obtain ⟨d, hd⟩ : ∃ d, 15 - s = d + 1 := ⟨14 - s, by omega⟩
      have hd2 : 15 - (s + 1) = d := by omega
      rw [k_leF (by omega) ⟨by omega, by omega⟩ ⟨by omega, by omega⟩, k_lec ⟨by omega, by omega⟩ ⟨by omega, by omega⟩]
      rw [hd, Int.pow_succ] at h6
      by_cases hg : hi - lo ≤ 1
      · rw [if_pos hg, hend hg]
        exact ⟨V, rfl, Fr.rf⟩
      · have em : (lo + hi).tdiv 2 = (lo + hi) / 2 := Int.tdiv_eq_ediv_of_nonneg (by omega)
        obtain ⟨v, hv⟩ : ∃ v : Nat, (lo + hi) / 2 = v := ⟨((lo + hi) / 2).toNat, by omega⟩
        have hB2 : WB 500 700 1500 (wHold w v) := hB.hold (by omega) (by omega)
        obtain ⟨V2, r1, r2, r3⟩ := settle_eq (N := N) (more := (v : Int)) (ga := a + 1) (hW.hold (v := (v : Int)) hb) hB2 (by omega) (by omega) (by omega) hb (by omega) (fun l hl => by
          have := hC.2.2.2.1 l hl
          rw [wHold_h w v hl, (wHold_o w v hl).2]
          omega) (by rw [wHold_n w v (by omega)]; exact hC.1.2.2) hN
        have hC2 : CG V2 (a + 1) w := hC.fr r2 (by omega)
        have hW2 : WD V2 (a + 54) w f t lf bs := by
          have c1 : ∀ x, x < 41 → AC w (wHold w (v : Int)) x := fun x hx => wHold_AC hx
          obtain ⟨b1, b2, b3, b4⟩ := hb
          obtain ⟨g1, g2, g3, g4⟩ := r3.1
          refine ⟨g1, by rw [wHold_n w v (by omega)] at g2; exact g2, by rw [wHold_pulls] at g3; exact g3, fun j hj => ?_⟩
          obtain ⟨q1, q2, q3, q4⟩ := g4 j hj
          have d1 := c1 (f + j) (by omega)
          have d2 := c1 (f + j + 1) (by omega)
          rw [d1.w2 d2 wHold_AS] at q2
          rw [d1.l2 d2 wHold_AS] at q3
          rw [d1.y2 d2] at q4
          exact ⟨q1, q2, q3, q4⟩
        have hiff := spNd_iff hB (by omega) hb (k := k) (by omega) (v := v) (by omega)
        have eP : spNdP w f t lf bs k v = spStd (wHold w v) f t lf bs (spPulls (wHold w v) f t bs) k := by unfold spNdP; rw [wHold_pulls]
        rw [if_neg hg, k_dI ⟨by omega, by omega⟩ ⟨by omega, by omega⟩ (by omega), em, hv, r1, k_cs, hold_eq r3 hB2 (by omega) (by omega) (by omega) hb (by omega) hN, k_cs, ← eP]
        unfold g_X8_needs_79
        by_cases hT : spNd w f t lf bs k ≤ v
        · rw [if_pos (hiff.mpr hT), k_eqF (by omega) ⟨by omega, by omega⟩ ⟨by omega, by omega⟩, k_lt]
          obtain ⟨V3, s1, s2⟩ := c_needs_loop hB hb hk hN m (s + 1) lo v V2 (by omega) (by omega) h3 (by omega) (by omega) (by rw [hd2]; omega) h7 (by omega) hC2 hW2
          exact ⟨V3, s1, r2.tr s2⟩
        · rw [if_neg (fun z => hT (hiff.mp z)), k_eqT rfl, k_lt]
          obtain ⟨V3, s1, s2⟩ := c_needs_loop hB hb hk hN m (s + 1) v hi V2 (by omega) (by omega) (by omega) (by omega) h5 (by rw [hd2]; omega) (by omega) h8 hC2 hW2
          exact ⟨V3, s1, r2.tr s2⟩
end Needs2
