section Bears2
variable {V : sj_VV} {a ga f t n : Nat} {w : sj_R} {k lf lv hv rv : Int} {bs : Nat → Int} {N : Nat}
theorem raise_loop {v : Int} (hn : n ≤ 40) (hB : WB lv hv rv w) (hv0 : 0 ≤ v ∧ v ≤ 1000) : ∀ (m c : Nat) (V : sj_VV), c ≤ n + 1 → n + 1 - c < m → V ga 0 = (n : Nat) → (∀ d, d < c → V (ga + 3) d = min 100 (w (85 + d) + (v + 1))) → (∀ d, c ≤ d → d ≤ n → V (ga + 3) d = min 100 (w (85 + d) + v)) → ∃ V', g_X0_raiseWater_2 N m ga c V = some ((), V') ∧ (∀ z, z ≠ ga + 3 → V' z = V z) ∧ (∀ d, d ≤ n → V' (ga + 3) d = min 100 (w (85 + d) + (v + 1))) ∧ ∀ d, n < d → V' (ga + 3) d = V (ga + 3) d
  | 0, _, _, _, h, _, _, _ => absurd h (by omega)
  | m + 1, c, V, h1, h2, hz, hb, hc => by
    unfold g_X0_raiseWater_2 g_X0_raiseWater_2_b
    rw [hz]
    by_cases hi : c = n + 1
    · subst hi
      rw [k_ltT (by omega) ⟨by omega, by omega⟩ ⟨by omega, by omega⟩]
      exact ⟨V, rfl, fun _ _ => rfl, fun d hd => hb d (by omega), fun _ _ => rfl⟩
    · have q := (hB.2.2.2.1 c (by omega)).2.1
      rw [k_ltF (by omega) ⟨by omega, by omega⟩ ⟨by omega, by omega⟩, k_ix (by omega) (by omega), tn0, hc c (by omega) (by omega), k_min ⟨by omega, by omega⟩ ⟨by omega, by omega⟩, k_ix (by omega) (by omega), k_lt, k_lt, show min (min 100 (w (85 + c) + v) + 1) 100 = min 100 (w (85 + c) + (v + 1)) by omega]
      obtain ⟨V2, r1, r2, r3, r4⟩ := raise_loop hn hB hv0 m (c + 1) (sj_up V (ga + 3) c (min 100 (w (85 + c) + (v + 1)))) (by omega) (by omega) (by rw [up_na _ _ _ _ (by omega)]; exact hz) (fun d hd => by
        by_cases z : d = c
        · subst z; rw [up_ss]
        · rw [up_nk _ _ _ z]; exact hb d (by omega)) (fun d d1 d2 => by rw [up_nk _ _ _ (by omega)]; exact hc d (by omega) d2)
      exact ⟨V2, r1, fun z hz => (r2 z hz).trans (up_row _ _ _ hz), r3, fun d hd => by rw [r4 d hd, up_nk _ _ _ (by omega)]⟩
theorem raise_eq {v : Int} (hn : w 0 = (n : Nat)) (hB : WB lv hv rv w) (hv0 : 0 ≤ v ∧ v ≤ 1000) (hC : CG V ga (wWat w n v)) (hN : 50 ≤ N) : ∃ V', g_X0_raiseWater N ga V = some ((), V') ∧ (∀ z, z ≠ ga + 3 → V' z = V z) ∧ CG V' ga (wWat w n (v + 1)) := by
  have h0 := hB.1
  obtain ⟨a1, a2, a3, a4, a5⟩ := hC
  unfold g_X0_raiseWater
  obtain ⟨V2, r1, r2, r3, r4⟩ := raise_loop (N := N) (ga := ga) (n := n) (by omega) hB hv0 N 0 V (by omega) (by omega) (by rw [a1.1, wWat_n w n v (by omega)]; exact hn) (fun d hd => by omega) (fun d _ hd => by rw [(a2 d (by omega)).2.2.1, wWat_s w v hd (by omega)])
  refine ⟨V2, r1, r2, ?_⟩
  have e : ∀ j, (j < 85 ∨ 126 ≤ j) → wWat w n (v + 1) j = wWat w n v j := fun j hj => by rw [wWat_n w n _ hj, wWat_n w n _ hj]
  refine ⟨by rw [r2 _ (by omega), e 0 (by omega), e 1 (by omega), e 2 (by omega)]; exact a1, fun d hd => ?_, fun i hi => by rw [r2 _ (by omega), e _ (by omega)]; exact a3 i hi, fun l hl => by rw [r2 (ga + 6) (by omega), r2 (ga + 7) (by omega), r2 (ga + 8) (by omega), e _ (by omega), e _ (by omega), e _ (by omega)]; exact a4 l hl, fun i hi => by rw [r2 (ga + 9) (by omega), r2 (ga + 10) (by omega), r2 (ga + 11) (by omega), e _ (by omega), e _ (by omega), e _ (by omega)]; exact a5 i hi⟩
  have b := a2 d hd
  rw [r2 (ga + 1) (by omega), r2 (ga + 2) (by omega), r2 (ga + 4) (by omega), e (3 + d) (by omega), e (44 + d) (by omega), e (126 + d) (by omega)]
  refine ⟨b.1, b.2.1, ?_, b.2.2.2⟩
  rcases Nat.lt_or_ge n d with z | z
  · rw [r4 d z, b.2.2.1, wWat_o w _ z hd, wWat_o w _ z hd]
  · rw [r3 d z, wWat_s w _ z hd]
def spBeP (w : sj_R) (f t : Nat) (lf : Int) (bs : Nat → Int) (k : Int) (v : Nat) : Bool := !spStd (wWat w 40 v) f t lf bs (spPulls w f t bs) k
def spBe (w : sj_R) (f t : Nat) (lf : Int) (bs : Nat → Int) (k : Int) : Nat := spSeek (spBeP w f t lf bs k) 101 0
theorem c_bears_loop (hB : WB 500 200 1500 w) (hn : w 0 = (n : Nat)) (hb : BB f t lf bs) (ht : t ≤ n) (hk : 1 ≤ k ∧ k ≤ 20000) (hN : 50 ≤ N) : ∀ (m v : Nat) (V : sj_VV), v ≤ 101 → 101 - v < m → CG V (a + 15) (wWat w n v) → SL V (a + 1 + 12) f t lf bs → spSeek (spBeP w f t lf bs k) (101 - v) v = spBe w f t lf bs k → ∃ V', g_X8_bears_37 N m a k ((v : Int) - 1) v V = some ((spBe w f t lf bs k : Int) - 1, V') ∧ ∀ z, ¬ (a + 15 ≤ z ∧ z < a + 27) → ¬ (a + 54 ≤ z ∧ z < a + 63) → V' z = V z
  | 0, _, _, _, h, _, _, _ => absurd h (by omega)
  | m + 1, v, V, h1, h2, hC, hL, hq => by
    have h0 := hB.1
    unfold g_X8_bears_37 g_X8_bears_37_b
    by_cases hv : v = 101
    · subst hv
      rw [k_ltT (by omega) ⟨by omega, by omega⟩ ⟨by omega, by omega⟩, ← hq, Nat.sub_self, spSeek]
      exact ⟨V, rfl, fun _ _ _ => rfl⟩
    · have hB2 : WB 500 200 1500 (wWat w n v) := hB.wat (by omega)
      obtain ⟨V2, r1, r2, r3⟩ := weigh_eq (N := N) (a := a + 54) hC hB2 (by omega) hL hb (by omega) (by omega) hN
      have hC2 : CG V2 (a + 15) (wWat w n v) := hC.fr r2 (by omega)
      obtain ⟨V3, t1, t2, t3⟩ := settle_eq (N := N) (more := 0) (ga := a + 15) r3 hB2 (by omega) (by omega) (by omega) hb (by omega) (fun l hl => by
        have := hC2.2.2.2.1 l hl
        omega) hC2.1.2.2 hN
      have hC3 : CG V3 (a + 15) (wWat w n v) := hC2.fr t2 (by omega)
      have hL3 := (hL.fr r2 (by omega)).fr t2 (by omega)
      have eP : spStd (wWat w n v) f t lf bs (spPulls (wWat w n v) f t bs) k = !spBeP w f t lf bs k v := by unfold spBeP; rw [wWat_pulls, Bool.not_not]; exact wWat_std w v ht (by omega) (by omega) _
      rw [show 101 - v = 100 + 1 - v by omega, spSeek_s _ (by omega)] at hq
      rw [k_ltF (by omega) ⟨by omega, by omega⟩ ⟨by omega, by omega⟩, r1, k_cs, t1, k_cs, hold_eq t3 hB2 (by omega) (by omega) (by omega) hb (by omega) hN, k_cs, eP]
      have hfr : ∀ z, ¬ (a + 54 ≤ z ∧ z < a + 63) → V3 z = V z := fun z hz => by rw [t2 z (by omega), r2 z (by omega)]
      by_cases hp : spBeP w f t lf bs k v = true
      · rw [if_pos hp] at hq
        rw [hp, if_neg (by simp), k_eqT rfl, ← hq]
        exact ⟨V3, rfl, fun z _ hz => hfr z hz⟩
      · rw [if_neg hp] at hq
        rw [if_pos (by simpa using hp), k_eqF (by omega) ⟨by omega, by omega⟩ ⟨by omega, by omega⟩]
        obtain ⟨V4, u1, u2, u3⟩ := raise_eq (N := N) hn hB ⟨by omega, by omega⟩ hC3 hN
        obtain ⟨V5, q1, q2⟩ := c_bears_loop hB hn hb ht hk hN m (v + 1) V4 (by omega) (by omega) u3 (hL3.fr (lo := a + 18) (hi := a + 19) (fun z hz => u2 z (by omega)) (by omega)) (by rw [← hq])
        rw [u1, k_cs, k_lt]
        rw [show ((v + 1 : Nat) : Int) - 1 = v by omega] at q1
        exact ⟨V5, q1, fun z z1 z2 => by rw [q2 z z1 z2, u2 z (by omega), hfr z z2]⟩
def spBears (w : sj_R) (k : Int) : Int := if 1 ≤ k ∧ k ≤ 20000 then if w 320 = -1 then -1 else (spBe w (wf w) (wt w) (w 322) (wb w) k : Int) - 1 else -1
theorem c_bears (hR : RG V (a + 1) w) (hk : sj_i32 k) (hN : 1000 ≤ N) : ∃ V', g_X8_bears N a k V = some (spBears w k, V') ∧ TL a V V' ∧ ∀ z, ¬ (a + 15 ≤ z ∧ z < a + 29) → ¬ (a + 54 ≤ z ∧ z < a + 63) → V' z = V z := by
  unfold g_X8_bears spBears
  rw [isK_eq hk, k_cs]
  by_cases hK : 1 ≤ k ∧ k ≤ 20000
  · rw [if_pos hK, if_pos hK, k_eqF (by omega) ⟨by omega, by omega⟩ ⟨by omega, by omega⟩]
    by_cases h0 : w 320 = -1
    · rw [isNone_T hR.2.2.2 h0, k_cs, k_eqF (by omega) ⟨by omega, by omega⟩ ⟨by omega, by omega⟩, if_pos h0]
      exact ⟨V, rfl, id, fun _ _ _ => rfl⟩
    · have hb := hR.2.1.bb h0
      have hL := hR.2.2.2.2.2 h0
      have hn := hR.1.1
      obtain ⟨V2, r1, r2, r3⟩ := copy_eq (N := N) (a := a + 15) (b := a + 1) (by omega) hR
      obtain ⟨V3, s1, s2⟩ := c_bears_loop (N := N) (a := a) (n := (w 0).toNat) (f := wf w) (t := wt w) (lf := w 322) (bs := wb w) hR.1 (by omega) hb.2 (by omega) hK (by omega) N 0 V2 (by omega) (by omega) (by rw [show ((0 : Nat) : Int) = 0 from rfl, wWat_0 hR.1]; exact r3.2.2.1) (hL.fr r2 (by omega)) rfl
      rw [isNone_eq hL hb.2, k_cs, k_eqT rfl, r1, k_cs, if_neg h0]
      exact ⟨V3, s1, fun _ => by rw [s2 _ (by omega) (by omega)]; exact r3.2.2.2.1, fun z z1 z2 => by rw [s2 z (by omega) z2, r2 z (by omega)]⟩
  · rw [if_neg hK, if_neg hK, k_eqT rfl]
    exact ⟨V, rfl, id, fun _ _ _ => rfl⟩
theorem m_wat_loop {v : Int} (hB : WB 500 200 1500 w) (hv0 : 0 ≤ v ∧ v ≤ 1000) (K : Nat → Int → Int → sj_VV → Option (Int × sj_VV)) : ∀ (m c : Nat) (V : sj_VV), c ≤ 41 → 41 - c < m → (∀ d, d < c → V (a + 1) (85 + d) = min 100 (w (85 + d) + v)) → (∀ j, (j < 85 ∨ 126 ≤ j) → V (a + 1) j = w j) → (∀ d, d < 390 → V (a + 2) d = w d) → ∃ V', g_X9_bears_41 N K m a k v c V = K a k v V' ∧ V' (a + 1) = wWat w 40 v ∧ ∀ z, z ≠ a + 1 → V' z = V z
  | 0, _, _, _, h, _, _, _ => absurd h (by omega)
  | m + 1, c, V, h1, h2, hh, hw, ha => by
    unfold g_X9_bears_41 g_X9_bears_41_b
    by_cases hl : c = 41
    · subst hl
      rw [k_leT (by omega) ⟨by omega, by omega⟩ ⟨by omega, by omega⟩]
      refine ⟨V, rfl, funext fun j => ?_, fun _ _ => rfl⟩
      by_cases hj : 85 ≤ j ∧ j < 126
      · have := hh (j - 85) (by omega)
        rw [show 85 + (j - 85) = j by omega] at this
        rw [this]
        exact (if_pos (by omega)).symm
      · rw [hw j (by omega), wWat_n w 40 v (by omega)]
    · have q := (hB.2.2.2.1 c (by omega)).2.1
      rw [k_leF (by omega) ⟨by omega, by omega⟩ ⟨by omega, by omega⟩, k_ix (by omega) (by omega), show (85 + (c : Int)).toNat = 85 + c by omega, ha _ (by omega), m_least ⟨by omega, by omega⟩ ⟨by omega, by omega⟩, k_cs, k_ix (by omega) (by omega), k_lt, k_lt]
      obtain ⟨V2, r1, r2, r3⟩ := m_wat_loop hB hv0 K m (c + 1) (sj_up V (a + 1) (85 + c) (min 100 (w (85 + c) + v))) (by omega) (by omega) (fun d hd => by
        by_cases z : d = c
        · subst z; rw [up_ss]
        · rw [up_nk _ _ _ (by omega)]; exact hh d (by omega)) (fun j hj => by rw [up_nk _ _ _ (by omega)]; exact hw j hj) (fun d hd => by rw [up_row _ _ _ (by omega)]; exact ha d hd)
      exact ⟨V2, r1, r2, fun z hz => (r3 z hz).trans (up_row _ _ _ hz)⟩
theorem m_bears_loop (hB : WB 500 200 1500 w) (hb : BB f t lf bs) (hk : 1 ≤ k ∧ k ≤ 20000) (hN : 1000 ≤ N) : ∀ (m v : Nat) (V : sj_VV), v ≤ 101 → 101 - v < m → V (a + 1) = wWat w 40 v → (∀ d, d < 390 → V (a + 2) d = w d) → SM V a f t lf bs → spSeek (spBeP w f t lf bs k) (101 - v) v = spBe w f t lf bs k → ∃ V', g_X9_bears_22 N m a k v V = some ((spBe w f t lf bs k : Int) - 1, V') ∧ V' (a + 1) = w ∧ (∀ z, z ≠ a → z ≠ a + 1 → V' z = V z) ∧ ∀ j, (j < 6 ∨ 13 ≤ j) → V' a j = V a j
  | 0, _, _, _, h, _, _, _, _ => absurd h (by omega)
  | m + 1, v, V, h1, h2, hw, ha, hS, hq => by
    unfold g_X9_bears_22 g_X9_bears_22_b
    have hend : ∀ V1 : sj_VV, V1 (a + 1) = wWat w 40 v → (∀ d, d < 390 → V1 (a + 2) d = w d) → v = spBe w f t lf bs k → ∃ V', g_X9_bears_81 N a v V1 = some ((spBe w f t lf bs k : Int) - 1, V') ∧ V' (a + 1) = w ∧ ∀ z, z ≠ a + 1 → V' z = V1 z := by
      intro V1 w1 a1 e
      obtain ⟨V3, s1, s2, s3⟩ := m_back (N := N) (a := a) (V := V1) (w := w) hN a1 (fun d hd => by rw [w1]; exact wWat_n w 40 v (by omega))
      unfold g_X9_bears_81
      rw [s1, k_cs, ← e]
      exact ⟨V3, rfl, s3, s2⟩
    by_cases hv : v = 101
    · subst hv
      rw [k_ltT (by omega) ⟨by omega, by omega⟩ ⟨by omega, by omega⟩]
      obtain ⟨V3, s1, s2, s3⟩ := hend V hw ha (by rw [← hq, Nat.sub_self, spSeek])
      exact ⟨V3, s1, s2, fun z _ z2 => s3 z z2, fun j _ => by rw [s3 a (by omega)]⟩
    · have hB2 : WB 500 200 1500 (wWat w 40 v) := hB.wat (by omega)
      obtain ⟨V2, r1, r2⟩ := m_isStanding (N := N) (k := k) hw hB2 (by omega) (by omega) (by omega) (by omega) hS hb (by omega)
      have w2 := (r2.w 0).trans hw
      have a2 : ∀ d, d < 390 → V2 (a + 2) d = w d := fun d hd => by rw [r2.w 1]; exact ha d hd
      have eP : spStd (wWat w 40 v) f t lf bs (spPulls (wWat w 40 v) f t bs) k = !spBeP w f t lf bs k v := by unfold spBeP; rw [wWat_pulls, Bool.not_not]
      rw [show 101 - v = 100 + 1 - v by omega, spSeek_s _ (by omega)] at hq
      rw [k_ltF (by omega) ⟨by omega, by omega⟩ ⟨by omega, by omega⟩, r1, k_cs, eP]
      by_cases hp : spBeP w f t lf bs k v = true
      · rw [if_pos hp] at hq
        rw [hp, if_neg (by simp), k_eqT rfl]
        obtain ⟨V3, s1, s2, s3⟩ := hend V2 w2 a2 hq
        exact ⟨V3, s1, s2, fun z z1 z2 => (s3 z z2).trans (r2.1 z z1), fun j hj => by rw [s3 a (by omega)]; exact r2.2 j hj⟩
      · rw [if_neg hp] at hq
        rw [if_pos (by simpa using hp), k_eqF (by omega) ⟨by omega, by omega⟩ ⟨by omega, by omega⟩, k_lt]
        obtain ⟨V3, s1, s2, s3⟩ := m_wat_loop (N := N) (a := a) (w := w) (k := k) (v := (v : Int) + 1) hB ⟨by omega, by omega⟩ (g_X9_bears_22 N m) N 0 V2 (by omega) (by omega) (fun d hd => by omega) (fun j hj => by rw [w2, wWat_n w 40 v hj]) a2
        obtain ⟨V4, t1, t2, t3, t4⟩ := m_bears_loop hB hb hk hN m (v + 1) V3 (by omega) (by omega) s2 (fun d hd => by rw [s3 _ (by omega)]; exact a2 d hd) (by
          have hS2 := hS.fm r2
          exact ⟨by rw [s3 _ (by omega)]; exact hS2.1, by rw [s3 _ (by omega)]; exact hS2.2.1, by rw [s3 _ (by omega)]; exact hS2.2.2.1, fun d d1 d2 => by rw [s3 _ (by omega)]; exact hS2.2.2.2 d d1 d2⟩) (by rw [← hq])
        refine ⟨V4, s1.trans t1, t2, fun z z1 z2 => by rw [t3 z z1 z2, s3 z z2, r2.1 z z1], fun j hj => by rw [t4 j hj, s3 a (by omega), r2.2 j hj]⟩
theorem m_bears (hw : V (a + 1) = w) (hB : WB 500 200 1500 w) (hP : SP w) (hk : sj_i32 k) (hN : 1000 ≤ N) : ∃ V', g_X9_bears N a k V = some (spBears w k, V') ∧ V' (a + 1) = w ∧ Fa a V V' := by
  unfold g_X9_bears spBears
  rw [m_isK hk, k_cs]
  by_cases hK : 1 ≤ k ∧ k ≤ 20000
  · rw [if_pos hK, if_pos hK, k_eqF (by omega) ⟨by omega, by omega⟩ ⟨by omega, by omega⟩]
    by_cases h0 : w 320 = -1
    · obtain ⟨V2, r1, r2, r3⟩ := m_takesSlip (N := N) hw hB hP (by omega)
      rw [r1, k_cs, if_pos h0, k_eqT rfl, if_pos h0]
      exact ⟨V2, rfl, r2.w.trans hw, r2.s.asd⟩
    · obtain ⟨V1, V2, r1, r2, r3, r4, r5, r6, r7⟩ := m_lay (N := N) hw hB hP hN h0
      have hb := (hP.bb h0).2
      obtain ⟨V3, s1, s2, s3, s4⟩ := m_bears_loop (N := N) (a := a) hB hb hK hN N 0 V2 (by omega) (by omega) (by rw [r3]; exact (wWat_0 hB 40).symm) r4 r5 rfl
      rw [r1, k_cs, k_eqF (by omega) ⟨by omega, by omega⟩ ⟨by omega, by omega⟩, r2, k_cs, if_neg h0]
      refine ⟨V3, s1, s2, fun z z1 z2 z3 => ?_, fun j hj => ?_⟩
      · by_cases z4 : z = a + 1
        · rw [z4, s2, hw]
        · rw [s3 z z1 z4, r6 z z1 z2 z3]
      · rw [s4 j (by omega), r7 j (by omega)]
  · rw [if_neg hK, if_neg hK, k_eqT rfl]
    exact ⟨V, rfl, hw, Fs.rf.asd⟩
end Bears2
