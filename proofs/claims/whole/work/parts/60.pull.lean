/-! PULL as it is asked: the least more, in closed form -/
section PullAsk
variable {V : sj_VV} {a f t : Nat} {w : sj_R} {k lf lv hv rv : Int} {bs : Nat → Int} {N : Nat}
def spLeast (w : sj_R) (f t : Nat) (lf : Int) (bs : Nat → Int) (k : Int) : Int := if spLack w f t lf bs (spPulls w f t bs) k ≤ 0 then 0 else (spLack w f t lf bs (spPulls w f t bs) k + 2000 * w 1 * k - 1) / (2000 * w 1 * k)
theorem spLeast_iff (hB : WB lv hv rv w) (hlv : lv ≤ 1100) (hhv : hv ≤ 700) (hrv : rv ≤ 2250) (hb : BB f t lf bs) (hk : 1 ≤ k ∧ k ≤ 20000) {m : Int} (hm : 0 ≤ m) : spStd w f t lf bs (spPulls w f t bs + 2000 * w 1 * m) k = true ↔ spLeast w f t lf bs k ≤ m := by
  have hP := spPulls_b hB (f := f) (t := t) (bs := bs)
  have h1 := hB.2.1
  have hone : 0 < 2000 * w 1 * k := Int.mul_pos (by omega) (by omega)
  have hum : 0 ≤ 2000 * w 1 * m := Int.mul_nonneg (by omega) hm
  have hL := (spLack_b hB hlv hhv hrv hb (k := k) (by omega) (P := spPulls w f t bs) ⟨hP.1, by omega⟩).2
  have hkm : k * (2000 * w 1 * m) = m * (2000 * w 1 * k) := by rw [Int.mul_comm k, Int.mul_assoc, Int.mul_comm m k, ← Int.mul_assoc, Int.mul_comm m]
  have hk2 : 0 ≤ k * (2000 * w 1 * m) := Int.mul_nonneg (by omega) hum
  have ed : k * (spU w lf bs f (t - f) - (spPulls w f t bs + 2000 * w 1 * m)) = k * (spU w lf bs f (t - f) - spPulls w f t bs) - k * (2000 * w 1 * m) := by rw [← Int.mul_sub]; congr 1; omega
  unfold spLeast
  by_cases hl : spLack w f t lf bs (spPulls w f t bs) k ≤ 0
  · rw [if_pos hl]
    refine ⟨fun _ => hm, fun _ => ?_⟩
    have := hL.mp hl
    unfold spStd at this ⊢
    rw [decide_eq_true_iff] at this ⊢
    rcases this with z | z
    · exact Or.inl z
    · exact Or.inr (by rw [ed]; omega)
  · rw [if_neg hl]
    have hL2 : spLack w f t lf bs (spPulls w f t bs) k = k * (spU w lf bs f (t - f) - spPulls w f t bs) - 1000 * spR w lf bs k f (t - f) ∧ spNF w lf bs f k (t - f) := by
      unfold spLack at hl ⊢
      by_cases z : spNF w lf bs f k (t - f)
      · rw [if_pos z] at hl ⊢
        by_cases y : spR w lf bs k f (t - f) ≤ 1000000000000000
        · rw [if_pos y]; exact ⟨rfl, z⟩
        · rw [if_neg y] at hl; omega
      · rw [if_neg z] at hl; omega
    have e1 : (spLack w f t lf bs (spPulls w f t bs) k + 2000 * w 1 * k - 1) / (2000 * w 1 * k) ≤ m ↔ spLack w f t lf bs (spPulls w f t bs) k ≤ m * (2000 * w 1 * k) := by
      have := Int.ediv_lt_iff_lt_mul (a := spLack w f t lf bs (spPulls w f t bs) k + 2000 * w 1 * k - 1) (b := m + 1) hone
      rw [Int.add_mul, Int.one_mul] at this
      omega
    rw [e1]
    unfold spStd
    rw [decide_eq_true_iff, ed, hL2.1]
    constructor
    · intro z
      rcases z with z | z
      · exact absurd hL2.2 z
      · omega
    · intro z
      exact Or.inr (by omega)
theorem m_pull_loop (hB : WB lv hv rv w) (hlv : lv ≤ 1100) (hhv : hv ≤ 700) (hrv : rv ≤ 2250) (hN : 50 ≤ N) (hb : BB f t lf bs) (hk : 1 ≤ k ∧ k ≤ 20000) : ∀ (m n : Nat) (lo hi : Int) (V : sj_VV), n < m → -1 ≤ lo → lo < hi → hi ≤ 20000 → hi - lo ≤ 2 ^ n → lo < spLeast w f t lf bs k → spLeast w f t lf bs k ≤ hi → V (a + 1) = w → SM V a f t lf bs → ∃ V', g_X9_pull_45 N m a k lo hi V = some (spLeast w f t lf bs k, V') ∧ Fm a V V'
  | 0, _, _, _, _, h, _, _, _, _, _, _, _, _ => absurd h (by omega)
  | m + 1, n, lo, hi, V, h1, h2, h3, h4, h5, h6, h7, hw, hS => by
    unfold g_X9_pull_45 g_X9_pull_45_b
    rw [k_lec ⟨by omega, by omega⟩ ⟨by omega, by omega⟩]
    by_cases hg : hi - lo ≤ 1
    · rw [if_pos hg, show hi = spLeast w f t lf bs k by omega]
      exact ⟨V, rfl, Fm.rf⟩
    · cases n with
      | zero => exact absurd h5 (by simpa using hg)
      | succ n =>
        rw [Int.pow_succ] at h5
        have b1 := hB.2.1
        have em : (lo + hi).tdiv 2 = (lo + hi) / 2 := Int.tdiv_eq_ediv_of_nonneg (by omega)
        have hmb := mul_b (x := 2000 * w 1) (y := (lo + hi) / 2) (X := 20000) (Y := 20000) (by omega) (by omega) (by omega) (by omega)
        obtain ⟨V2, q1, q2⟩ := m_standsWith (N := N) (k := k) hw hB hlv hhv hrv hN hS hb (by omega) (P := 2000 * w 1 * ((lo + hi) / 2)) (by omega)
        have hiff := spLeast_iff hB hlv hhv hrv hb hk (m := (lo + hi) / 2) (by omega)
        rw [if_neg hg, k_dI ⟨by omega, by omega⟩ ⟨by omega, by omega⟩ (by omega), em, k_ix (by omega) (by omega), hw, show (1 : Int).toNat = 1 from rfl, k_wid ⟨by omega, by omega⟩, k_wid ⟨by omega, by omega⟩, q1, k_cs]
        unfold g_X9_pull_91
        by_cases hT : spLeast w f t lf bs k ≤ (lo + hi) / 2
        · rw [if_pos (hiff.mpr hT), k_eqF (by omega) ⟨by omega, by omega⟩ ⟨by omega, by omega⟩]
          obtain ⟨V3, r1, r2⟩ := m_pull_loop hB hlv hhv hrv hN hb hk m n lo ((lo + hi) / 2) V2 (by omega) h2 (by omega) (by omega) (by omega) h6 hT ((q2.w 0).trans hw) (hS.fm q2)
          exact ⟨V3, r1, q2.tr r2⟩
        · rw [if_neg (fun z => hT (hiff.mp z)), k_eqT rfl]
          obtain ⟨V3, r1, r2⟩ := m_pull_loop hB hlv hhv hrv hN hb hk m n ((lo + hi) / 2) hi V2 (by omega) (by omega) (by omega) h4 (by omega) (by omega) h7 ((q2.w 0).trans hw) (hS.fm q2)
          exact ⟨V3, r1, q2.tr r2⟩
end PullAsk
