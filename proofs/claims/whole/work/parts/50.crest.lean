section Crest
variable {V : sj_VV} {a f t : Nat} {w : sj_R} {k lf lv hv rv : Int} {bs : Nat → Int} {N : Nat}
/-- the first greatest of S 0 .. S n -/
def spCr (S : Nat → Int) : Nat → Nat
  | 0 => 0
  | n + 1 => if S (spCr S n) < S (n + 1) then n + 1 else spCr S n
theorem spCr_le (S : Nat → Int) : ∀ n, spCr S n ≤ n
  | 0 => Nat.le_refl _
  | n + 1 => by
    have := spCr_le S n
    rw [spCr]
    split <;> omega
/-- all that is thrust on behind slice j -/
def slTs (w : sj_R) (lf : Int) (bs : Nat → Int) (k : Int) (f j : Nat) : Int := spSum (slT w lf bs k) f (j + 1)
theorem c_crest_loop (hS : SD V (a + 54) w f t lf bs) (hB : WB lv hv rv w) (hlv : lv ≤ 1100) (hhv : hv ≤ 700) (hrv : rv ≤ 2250) (hb : BB f t lf bs) (hk : 0 ≤ k ∧ k ≤ 20001) : ∀ (m j : Nat), f + j + 1 ≤ t → t - (f + j) < m → spNF w lf bs f k (j + 1) → g_X8_crest_27 N m a k (slTs w lf bs k f j) (slTs w lf bs k f (spCr (slTs w lf bs k f) j)) (spCr (slTs w lf bs k f) j) ((j + 1 : Nat) : Int) V = some (if spNF w lf bs f k (t - f) then (spCr (slTs w lf bs k f) (t - f - 1) : Int) else -1, V)
  | 0, _, _, h, _ => absurd h (by omega)
  | m + 1, j, h1, h2, hn => by
    obtain ⟨b1, b2, b3, b4⟩ := id hb
    unfold g_X8_crest_27 g_X8_crest_27_b
    by_cases hj : f + j + 1 = t
    · have e1 : t - f = j + 1 := by omega
      rw [hS.1.1, k_leT (by omega) ⟨by omega, by omega⟩ ⟨by omega, by omega⟩, e1, if_pos hn]
      rfl
    · have hc := spCr_le (slTs w lf bs k f) j
      rw [hS.1.1, k_leF (by omega) ⟨by omega, by omega⟩ ⟨by omega, by omega⟩, isFast_eq hS hB hrv hb hk (by omega), k_cs]
      by_cases hd : 0 < slD w lf (f + (j + 1)) (bs (f + (j + 1))) (bs (f + (j + 1) + 1)) k
      · have hn2 := spNF_s hn hd
        have bA := sumT_b hB hlv hhv hrv hb hk (j + 2) (by omega) hn2
        have bC := sumT_b hB hlv hhv hrv hb hk (spCr (slTs w lf bs k f) j + 1) (by omega) (fun z hz => hn z (by omega))
        have ih := c_crest_loop hS hB hlv hhv hrv hb hk m (j + 1) (by omega) (by omega) hn2
        have eS : slTs w lf bs k f (j + 1) = slTs w lf bs k f j + slT w lf bs k (f + (j + 1)) := rfl
        have eA : slTs w lf bs k f (j + 1) = spSum (slT w lf bs k) f (j + 2) := rfl
        have eC : slTs w lf bs k f (spCr (slTs w lf bs k f) j) = spSum (slT w lf bs k) f (spCr (slTs w lf bs k f) j + 1) := rfl
        rw [if_pos hd, k_eqT rfl, thrustOf_eq hS hB hlv hhv hrv hb hk (by omega) hd, k_cs, k_lt, ← eS, k_eqF (by omega) ⟨by omega, by omega⟩ ⟨by omega, by omega⟩, k_llec ⟨by omega, by omega⟩ ⟨by omega, by omega⟩]
        unfold g_X8_crest_80 g_X8_crest_87
        rw [spCr] at ih
        by_cases hg : slTs w lf bs k f (j + 1) ≤ slTs w lf bs k f (spCr (slTs w lf bs k f) j)
        · rw [if_neg (by omega)] at ih
          rw [if_pos hg, k_lt]
          exact ih
        · rw [if_pos (by omega)] at ih
          rw [if_neg hg, k_lt]
          exact ih
      · rw [if_neg hd, k_eqF (by omega) ⟨by omega, by omega⟩ ⟨by omega, by omega⟩, if_neg (fun z => hd (z (j + 1) (by omega)))]
def spCrest (w : sj_R) (k : Int) : Int := if 1 ≤ k ∧ k ≤ 20000 then if w 320 = -1 then -1 else if spNF w (w 322) (wb w) (wf w) k (wt w - wf w) then (spCr (slTs w (w 322) (wb w) k (wf w)) (wt w - wf w - 1) : Int) else -1 else -1
theorem c_crest (hR : RG V (a + 1) w) (hk : sj_i32 k) (hN : 50 ≤ N) : ∃ V', g_X8_crest N a k V = some (spCrest w k, V') ∧ Fr (a + 54) (a + 63) V V' := by
  unfold g_X8_crest spCrest
  rw [isK_eq hk, k_cs]
  by_cases hK : 1 ≤ k ∧ k ≤ 20000
  · rw [if_pos hK, if_pos hK, k_eqF (by omega) ⟨by omega, by omega⟩ ⟨by omega, by omega⟩]
    by_cases h0 : w 320 = -1
    · rw [cutUp_0 hR h0, k_cs, k_eqT rfl, if_pos h0]
      exact ⟨V, rfl, Fr.rf⟩
    · obtain ⟨V2, r1, r2, r3⟩ := cutUp_1 (N := N) hR h0 hN
      have hb := (hR.2.1.bb h0).2
      obtain ⟨b1, b2, b3, b4⟩ := id hb
      rw [r1, k_cs, k_eqF (by omega) ⟨by omega, by omega⟩ ⟨by omega, by omega⟩, if_neg h0]
      refine ⟨V2, ?_, r2⟩
      obtain ⟨M, rfl⟩ : ∃ M, N = M + 1 := ⟨N - 1, by omega⟩
      unfold g_X8_crest_27 g_X8_crest_27_b
      have e1 : g_X4_isFast (M + 1) (a + 54) 0 k V2 = _ := isFast_eq (N := M + 1) r3 hR.1 (by omega) hb (k := k) (by omega) (i := 0) (by omega)
      rw [r3.1.1, k_leF (by omega) ⟨by omega, by omega⟩ ⟨by omega, by omega⟩, e1, k_cs]
      by_cases hd : 0 < slD w (w 322) (wf w + 0) (wb w (wf w + 0)) (wb w (wf w + 0 + 1)) k
      · have hn : spNF w (w 322) (wb w) (wf w) k (0 + 1) := spNF_s (fun z hz => by omega) hd
        have key := c_crest_loop (N := M + 1) r3 hR.1 (by omega) (by omega) (by omega) hb (k := k) (by omega) M 0 (by omega) (by omega) hn
        have e2 : g_X4_thrustOf (M + 1) (a + 54) 0 k V2 = _ := thrustOf_eq (N := M + 1) (k := k) (i := 0) r3 hR.1 (by omega) (by omega) (by omega) hb (by omega) (by omega) hd
        rw [if_pos hd, k_eqT rfl, e2, k_cs, k_lt, k_eqT rfl]
        unfold g_X8_crest_80 g_X8_crest_87
        rw [k_lt]
        exact key
      · rw [if_neg hd, k_eqF (by omega) ⟨by omega, by omega⟩ ⟨by omega, by omega⟩, if_neg (fun z => hd (z 0 (by omega)))]
  · rw [if_neg hK, if_neg hK, k_eqT rfl]
    exact ⟨V, rfl, Fr.rf⟩
theorem m_crest_loop (hB : WB lv hv rv w) (hlv : lv ≤ 1100) (hhv : hv ≤ 700) (hrv : rv ≤ 2250) (hN : 50 ≤ N) (hb : BB f t lf bs) (hk : 0 ≤ k ∧ k ≤ 20001) (hn : spNF w lf bs f k (t - f)) : ∀ (m j : Nat) (V : sj_VV), f + j + 1 ≤ t → t - (f + j) < m → V (a + 1) = w → SM V a f t lf bs → ∃ V', g_X9_crest_42 N m a k ((f + spCr (slTs w lf bs k f) j : Nat) : Int) ((f + (j + 1) : Nat) : Int) V = some ((spCr (slTs w lf bs k f) (t - f - 1) : Int), V') ∧ Fm a V V'
  | 0, _, _, _, h, _, _ => absurd h (by omega)
  | m + 1, j, V, h1, h2, hw, hS => by
    obtain ⟨b1, b2, b3, b4⟩ := id hb
    unfold g_X9_crest_42 g_X9_crest_42_b
    have hc := spCr_le (slTs w lf bs k f) j
    by_cases hj : f + j + 1 = t
    · have e1 : t - f - 1 = j := by omega
      rw [hS.2.1, k_leT (by omega) ⟨by omega, by omega⟩ ⟨by omega, by omega⟩, hS.1, e1, show ((f + spCr (slTs w lf bs k f) j : Nat) : Int) - (f : Int) = (spCr (slTs w lf bs k f) j : Nat) by omega]
      exact ⟨V, rfl, Fm.rf⟩
    · obtain ⟨V2, r1, r2⟩ := m_thrustOf (N := N) (k := k) hw hB hlv hhv hrv hN hS hb hk (i := j + 1) (by omega) (fun z hz => hn z (by omega))
      have w2 := (r2.w 0).trans hw
      have hS2 := hS.fm r2
      obtain ⟨V3, s1, s2⟩ := m_thrustOf (N := N) (k := k) w2 hB hlv hhv hrv hN hS2 hb hk (i := spCr (slTs w lf bs k f) j) (by omega) (fun z hz => hn z (by omega))
      have w3 := (s2.w 0).trans w2
      have hS3 := hS2.fm s2
      have bA := sumT_b hB hlv hhv hrv hb hk (j + 1 + 1) (by omega) (fun z hz => hn z (by omega))
      have bC := sumT_b hB hlv hhv hrv hb hk (spCr (slTs w lf bs k f) j + 1) (by omega) (fun z hz => hn z (by omega))
      rw [hS.2.1, k_leF (by omega) ⟨by omega, by omega⟩ ⟨by omega, by omega⟩, r1, k_cs, s1, k_cs, k_llec ⟨by omega, by omega⟩ ⟨by omega, by omega⟩]
      unfold g_X9_crest_68
      obtain ⟨V4, q1, q2⟩ := m_crest_loop hB hlv hhv hrv hN hb hk hn m (j + 1) V3 (by omega) (by omega) w3 hS3
      refine ⟨V4, ?_, r2.tr (s2.tr q2)⟩
      rw [spCr] at q1
      have eA : slTs w lf bs k f (j + 1) = spSum (slT w lf bs k) f (j + 1 + 1) := rfl
      have eC : slTs w lf bs k f (spCr (slTs w lf bs k f) j) = spSum (slT w lf bs k) f (spCr (slTs w lf bs k f) j + 1) := rfl
      by_cases hg : spSum (slT w lf bs k) f (j + 1 + 1) ≤ spSum (slT w lf bs k) f (spCr (slTs w lf bs k f) j + 1)
      · rw [if_neg (by omega)] at q1
        rw [if_pos hg, k_lt]
        exact q1
      · rw [if_pos (by omega)] at q1
        rw [if_neg hg, k_lt]
        exact q1
theorem m_crest (hw : V (a + 1) = w) (hB : WB 500 200 1500 w) (hP : SP w) (hk : sj_i32 k) (hN : 50 ≤ N) : ∃ V', g_X9_crest N a k V = some (spCrest w k, V') ∧ Fc a V V' := by
  unfold g_X9_crest spCrest
  rw [m_isK hk, k_cs]
  by_cases hK : 1 ≤ k ∧ k ≤ 20000
  · rw [if_pos hK, if_pos hK, k_eqF (by omega) ⟨by omega, by omega⟩ ⟨by omega, by omega⟩]
    obtain ⟨V2, r1, r2, r3⟩ := m_takesSlip (N := N) hw hB hP hN
    rw [r1, k_cs]
    by_cases h0 : w 320 = -1
    · rw [if_pos h0, k_eqT rfl, if_pos h0]
      exact ⟨V2, rfl, r2⟩
    · have hb := (hP.bb h0).2
      obtain ⟨b1, b2, b3, b4⟩ := id hb
      have hS := r3 h0
      have w2 := r2.w.trans hw
      obtain ⟨V3, s1, s2⟩ := m_hasFast (N := N) (k := k) w2 hB (by omega) (by omega) (by omega) hN hS hb (by omega) (i := wt w - wf w - 1) (by omega)
      have w3 := (s2.w 0).trans w2
      have hS3 := hS.fm s2
      rw [show wt w - wf w - 1 + 1 = wt w - wf w by omega] at s1
      rw [if_neg h0, k_eqF (by omega) ⟨by omega, by omega⟩ ⟨by omega, by omega⟩, hS.2.1, show ((wt w : Nat) : Int) - 1 = ((wf w + (wt w - wf w - 1) : Nat) : Int) by omega, s1, k_cs, if_neg h0]
      by_cases hn : spNF w (w 322) (wb w) (wf w) k (wt w - wf w)
      · rw [if_pos hn, if_pos hn, k_eqT rfl, k_lt, k_lt, hS3.1]
        obtain ⟨V4, q1, q2⟩ := m_crest_loop (N := N) (a := a) hB (by omega) (by omega) (by omega) hN hb (k := k) (by omega) hn N 0 V3 (by omega) (by omega) w3 hS3
        exact ⟨V4, q1, r2.tr (s2.tr q2).c⟩
      · rw [if_neg hn, if_neg hn, k_eqF (by omega) ⟨by omega, by omega⟩ ⟨by omega, by omega⟩]
        exact ⟨V3, rfl, r2.tr s2.c⟩
  · rw [if_neg hK, if_neg hK, k_eqT rfl]
    exact ⟨V, rfl, Fc.rf⟩
end Crest
