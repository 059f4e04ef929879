section Berm2
variable {V : sj_VV} {a b f t c d N : Nat} {w : sj_R} {k lf x1 x2 : Int} {bs : Nat → Int}
def spBmP (w : sj_R) (f t : Nat) (lf : Int) (bs : Nat → Int) (c d : Nat) (k : Int) (v : Nat) : Bool := spStd (wLoad w c d v) f t lf bs (spPulls w f t bs) k
def spBm (w : sj_R) (f t : Nat) (lf : Int) (bs : Nat → Int) (c d : Nat) (k : Int) : Nat := spSeek (spBmP w f t lf bs c d k) 501 0
def spBmA (n : Nat) : Int := if n ≤ 500 then (n : Int) else -1
theorem c_berm_loop (hB : WB 500 200 1500 w) (hc : c ≤ 40) (hd : d ≤ 40) (hb : BB f t lf bs) (hk : 1 ≤ k ∧ k ≤ 20000) (hN : 50 ≤ N) : ∀ (m v : Nat) (V : sj_VV), v ≤ 501 → 501 - v < m → CG V (a + 1) w → V (a + 1 + 12) 1 = (f : Nat) → SD V (a + 54) (wLoad w c d v) f t lf bs → spSeek (spBmP w f t lf bs c d k) (501 - v) v = spBm w f t lf bs c d k → ∃ V', g_X8_berm_46 N m a c d k v V = some (spBmA (spBm w f t lf bs c d k), V') ∧ Fr (a + 54) (a + 63) V V'
  | 0, _, _, _, h, _, _, _, _ => absurd h (by omega)
  | m + 1, v, V, h1, h2, hC, hf, hS, hq => by
    obtain ⟨b1, b2, b3, b4⟩ := id hb
    unfold g_X8_berm_46 g_X8_berm_46_b
    by_cases hv : v = 501
    · subst hv
      rw [k_ltT (by omega) ⟨by omega, by omega⟩ ⟨by omega, by omega⟩, ← hq, Nat.sub_self, spSeek]
      exact ⟨V, rfl, Fr.rf⟩
    · have hB2 : WB 1001 200 1500 (wLoad w c d v) := hB.load hd (by omega)
      have eP : spStd (wLoad w c d v) f t lf bs (spPulls (wLoad w c d v) f t bs) k = spBmP w f t lf bs c d k v := by unfold spBmP; rw [wl_pulls w _ hd]
      rw [show 501 - v = 500 + 1 - v by omega, spSeek_s _ (by omega)] at hq
      rw [k_ltF (by omega) ⟨by omega, by omega⟩ ⟨by omega, by omega⟩, hold_eq hS hB2 (by omega) (by omega) (by omega) hb (by omega) hN, k_cs, eP]
      by_cases hp : spBmP w f t lf bs c d k v = true
      · rw [if_pos hp] at hq
        rw [if_pos hp, k_eqF (by omega) ⟨by omega, by omega⟩ ⟨by omega, by omega⟩, ← hq]
        refine ⟨V, ?_, Fr.rf⟩
        unfold spBmA
        rw [if_pos (by omega)]
      · rw [if_neg hp] at hq
        obtain ⟨V1, r1, r2, r3⟩ := burden_eq (N := N) (v := (v : Int)) hB hc hd hb ⟨by omega, by omega⟩ hS.1 hN
        have hB3 : WB 1001 200 1500 (wLoad w c d ((v : Int) + 1)) := hB.load hd (by omega)
        have hC1 : CG V1 (a + 1) w := hC.fr r2 (by omega)
        obtain ⟨V2, s1, s2, s3⟩ := settle_eq (N := N) (more := 0) (ga := a + 1) r3 hB3 (by omega) (by omega) (by omega) hb (by omega) (fun l hl => by
          have := hC1.2.2.2.1 l hl
          rw [wLoad_n w _ hd (by omega), wLoad_n w _ hd (by omega)]
          omega) (by rw [wLoad_n w _ hd (by omega)]; exact hC1.1.2.2) hN
        rw [if_neg hp, k_eqT rfl, hf, r1, k_cs, s1, k_cs, k_lt]
        obtain ⟨V3, t1, t2⟩ := c_berm_loop hB hc hd hb hk hN m (v + 1) V2 (by omega) (by omega) (hC1.fr s2 (by omega)) (by rw [s2 _ (by omega), r2 _ (by omega)]; exact hf) s3 (by rw [← hq])
        exact ⟨V3, t1, (r2.tr s2).tr t2⟩
end Berm2
