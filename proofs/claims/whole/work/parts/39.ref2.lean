section Ref2
variable {V : sj_VV} {a f t : Nat} {w : sj_R} {lf lv hv rv k : Int} {bs : Nat → Int} {N : Nat}
theorem m_isIn {x lo hi : Int} (hx : sj_i64 x) (h1 : sj_i64 lo) (h2 : sj_i64 hi) : g_X9_isIn N x lo hi V = some (if lo ≤ x ∧ x ≤ hi then 1 else 0, V) := by
  unfold g_X9_isIn
  rw [k_lltc hx h1]
  by_cases c1 : x < lo
  · rw [if_pos c1, k_zs (Or.inl rfl), if_neg (by omega)]
  · rw [if_neg c1, k_lltc h2 hx]
    by_cases c2 : hi < x
    · rw [if_pos c2, k_zs (Or.inl rfl), if_neg (by omega)]
    · rw [if_neg c2, k_zs (Or.inr rfl), if_pos (by omega)]
theorem m_laysAt (hw : V (a + 1) = w) (hB : WB lv hv rv w) (hlv : lv ≤ 1100) (hhv : hv ≤ 700) (hrv : rv ≤ 2250) (hN : 50 ≤ N) (hS : SM V a f t lf bs) (hb : BB f t lf bs) {x : Nat} (h1 : f ≤ x) (h2 : x < t) : ∃ V', g_X9_laysAt N a x V = some ((), V') ∧ Fm a V V' ∧ LaS V' a w lf x (bs x) (bs (x + 1)) := by
  obtain ⟨b1, b2, b3, b4⟩ := hb
  obtain ⟨s1, s2, s3, s4⟩ := hS
  unfold g_X9_laysAt
  have e1 := s4 x h1 (by omega)
  have e2 := s4 (x + 1) (by omega) (by omega)
  obtain ⟨V3, r1, r2, r3⟩ := m_laysSlice (N := N) (lf := lf) hw hB hlv hhv hrv hN (x := x) (by omega) (b4 x h1 (by omega)) (b4 (x + 1) (by omega) (by omega)) b3
  refine ⟨V3, ?_, r2, r3⟩
  rw [k_ix (by omega) (by omega), k_ix (by omega) (by omega), tn0, show ((x : Int) + 1).toNat = x + 1 by omega, e1, e2, s3, r1, k_cs]
theorem m_rubsOf (hw : V (a + 1) = w) (hB : WB lv hv rv w) (hlv : lv ≤ 1100) (hhv : hv ≤ 700) (hrv : rv ≤ 2250) {x : Nat} (hx : x + 1 < 41) {p q : Int} (hp : 0 ≤ p ∧ p ≤ 100) (hq : 0 ≤ q ∧ q ≤ 100) (hL : LaS V a w lf x p q) (hk : 0 ≤ k ∧ k ≤ 20001) : g_X9_rubsOf N a k V = some (if 0 < slD w lf x p q k then slR w lf x p q k else -1, V) := by
  unfold g_X9_rubsOf
  have hy : slY w x p q < 4 := spLayer_b w x (p + q)
  have hs := hB.2.2.2.2.2.1 (slY w x p q) hy
  have hr := slRise_b (lf := lf) hp hq
  have hdb := slD_b (x := x) (lf := lf) hB hrv hp hq hk
  have hgk := slGk_b (x := x) (lf := lf) hB hlv hhv hrv hx hp hq hk
  have b1 := hB.2.1
  rw [k_ix (by omega) (by omega), hw, show (1 : Int).toNat = 1 from rfl, k_wid ⟨by omega, by omega⟩, k_wid ⟨by omega, by omega⟩, hL.1, k_wid ⟨by omega, by omega⟩, hL.2.1, k_ix (by omega) (by omega), show (290 + 3 * (slY w x p q : Int) + 2).toNat = 292 + 3 * slY w x p q by omega, k_wid ⟨by omega, by omega⟩, k_lt]
  have eD : w 1 * k + slRise lf p q * w (292 + 3 * slY w x p q) = slD w lf x p q k := rfl
  rw [eD, k_lltc ⟨by omega, by omega⟩ ⟨by omega, by omega⟩]
  by_cases hd : 0 < slD w lf x p q k
  · rw [if_pos hd, if_pos hd, k_ix (by omega) (by omega), k_wid ⟨by omega, by omega⟩, k_ix (by omega) (by omega), k_wid ⟨by omega, by omega⟩, k_wid ⟨by omega, by omega⟩, k_wid ⟨by omega, by omega⟩, k_wid ⟨by omega, by omega⟩, hL.2.2.2.2.2.1]
    have eG : slS w x p q * (w 1 * w 1 + slRise lf p q * slRise lf p q) * k = slG w lf x p q * k := rfl
    rw [eG, k_dJ ⟨by omega, by omega⟩ ⟨by omega, by omega⟩ (by omega), Int.tdiv_eq_ediv_of_nonneg hgk.1]
    rfl
  · rw [if_neg hd, if_neg hd]
theorem m_isCounting (hw : V (a + 1) = w) (hB : WB lv hv rv w) (hS : SM V a f t lf bs) (hb : BB f t lf bs) {i : Nat} (hi : i < 6) : g_X9_isCounting N a i V = some (spC1 w f t bs i, V) := by
  unfold g_X9_isCounting
  have hq := hB.2.2.2.2.2.2 i hi
  have hn := hB.1
  obtain ⟨b1, b2, b3, b4⟩ := hb
  obtain ⟨s1, s2, s3, s4⟩ := hS
  rw [k_ix (by omega) (by omega), k_lt, k_ix (by omega) (by omega), hw, show (302 + 3 * (i : Int) + 2).toNat = 304 + 3 * i by omega, show (302 + 3 * (i : Int)).toNat = 302 + 3 * i by omega]
  unfold spC1
  by_cases hp : w (304 + 3 * i) ≤ 0
  · rw [k_leT hp ⟨by omega, by omega⟩ ⟨by omega, by omega⟩, k_zs (Or.inl rfl), if_neg (by omega)]
  · obtain ⟨w1, w2⟩ := hq.2 (by omega)
    rw [k_leF hp ⟨by omega, by omega⟩ ⟨by omega, by omega⟩, k_wid ⟨by omega, by omega⟩, s1, k_wid ⟨by omega, by omega⟩, s2, k_wid ⟨by omega, by omega⟩, m_isIn ⟨by omega, by omega⟩ ⟨by omega, by omega⟩ ⟨by omega, by omega⟩, k_cs]
    by_cases h1 : (f : Int) ≤ w (302 + 3 * i) ∧ w (302 + 3 * i) ≤ (t : Int) - 1
    · have e := s4 (w (302 + 3 * i)).toNat (by omega) (by omega)
      have e2 := b4 (w (302 + 3 * i)).toNat (by omega) (by omega)
      rw [if_pos h1, k_eqF (by omega) ⟨by omega, by omega⟩ ⟨by omega, by omega⟩, k_ix (by omega) (by omega), k_ix (by omega) (by omega), e, show (302 + 3 * (i : Int) + 1).toNat = 303 + 3 * i by omega, hw]
      by_cases h3 : w (303 + 3 * i) ≤ bs (w (302 + 3 * i)).toNat
      · rw [k_leT h3 ⟨by omega, by omega⟩ ⟨by omega, by omega⟩, k_zs (Or.inl rfl), if_neg (by omega)]
      · rw [k_leF h3 ⟨by omega, by omega⟩ ⟨by omega, by omega⟩, k_zs (Or.inr rfl), if_pos (by omega)]
    · rw [if_neg h1, k_eqT rfl, k_zs (Or.inl rfl), if_neg (by omega)]
theorem m_pulls_loop (hw : V (a + 1) = w) (hB : WB lv hv rv w) (hS : SM V a f t lf bs) (hb : BB f t lf bs) : ∀ (m i : Nat), i ≤ 6 → 6 - i < m → g_X9_pulls_4 N m a (spSum (spPull w f t bs) 0 i) i V = some (spPulls w f t bs, V)
  | 0, _, _, h => absurd h (by omega)
  | m + 1, i, h1, h2 => by
    unfold g_X9_pulls_4 g_X9_pulls_4_b
    by_cases h6 : i = 6
    · subst h6
      rw [k_leT (by omega) ⟨by omega, by omega⟩ ⟨by omega, by omega⟩]; rfl
    · have hi : i < 6 := by omega
      have hp := (hB.2.2.2.2.2.2 i hi).1
      have hn := hB.2.1
      rw [k_leF (by omega) ⟨by omega, by omega⟩ ⟨by omega, by omega⟩, m_isCounting hw hB hS hb hi, k_cs]
      have ih := m_pulls_loop hw hB hS hb m (i + 1) (by omega) (by omega)
      rw [spSum, Nat.zero_add] at ih
      unfold g_X9_pulls_50
      rcases spC1_01 w f t bs i with e | e
      · rw [k_eqT e, k_lt, k_lt]
        rw [show spPull w f t bs i = 0 by unfold spPull; rw [if_neg (by omega)]] at ih
        exact ih
      · rw [e, k_eqF (by omega) ⟨by omega, by omega⟩ ⟨by omega, by omega⟩, k_ix (by omega) (by omega), hw, show (1 : Int).toNat = 1 from rfl, k_wid ⟨by omega, by omega⟩, k_ix (by omega) (by omega), show (302 + 3 * (i : Int) + 2).toNat = 304 + 3 * i by omega, k_wid ⟨by omega, by omega⟩, k_lt, k_lt]
        rw [show spPull w f t bs i = 2000 * w 1 * w (304 + 3 * i) by unfold spPull; rw [if_pos e]] at ih
        exact ih
theorem m_pulls (hw : V (a + 1) = w) (hB : WB lv hv rv w) (hS : SM V a f t lf bs) (hb : BB f t lf bs) (hN : 50 ≤ N) : g_X9_pulls N a V = some (spPulls w f t bs, V) := by
  unfold g_X9_pulls
  exact m_pulls_loop hw hB hS hb N 0 (by omega) (by omega)
theorem m_up1000 {x : Int} (hx : -1000000000000000000 ≤ x ∧ x ≤ 1000000000000000000) : g_X9_upwards N x 1000 V = some (-((-x) / 1000), V) := by
  unfold g_X9_upwards
  rw [k_lltc ⟨by omega, by omega⟩ ⟨by omega, by omega⟩]
  by_cases h : x < 0
  · rw [if_pos h, k_dJ ⟨by omega, by omega⟩ ⟨by omega, by omega⟩ (by omega), Int.tdiv_eq_ediv_of_nonneg (by omega)]
  · rw [if_neg h, k_dJ ⟨by omega, by omega⟩ ⟨by omega, by omega⟩ (by omega), Int.tdiv_eq_ediv_of_nonneg (by omega)]
    congr 2
    omega
theorem m_stands_loop (hB : WB lv hv rv w) (hlv : lv ≤ 1100) (hhv : hv ≤ 700) (hrv : rv ≤ 2250) (hN : 50 ≤ N) (hb : BB f t lf bs) {P : Int} (hP : 0 ≤ P ∧ P ≤ 1000000000000) (hk : 0 ≤ k ∧ k ≤ 20001) : ∀ (m i : Nat) (V : sj_VV), f + i ≤ t → t - (f + i) < m → V (a + 1) = w → SM V a f t lf bs → spNF w lf bs f k i → ∃ V', g_X9_standsWith_18 N m a k (spR w lf bs k f i) (-P + spU w lf bs f i) ((f + i : Nat) : Int) V = some (if spStd w f t lf bs P k = true then 1 else 0, V') ∧ Fm a V V'
  | 0, _, _, _, h, _, _, _ => absurd h (by omega)
  | m + 1, i, V, h1, h2, hw, hS, hn => by
    obtain ⟨b1, b2, b3, b4⟩ := id hb
    unfold g_X9_standsWith_18 g_X9_standsWith_18_b
    have hRb := spR_b hB hlv hhv hrv hb hk i h1 hn
    by_cases hi : f + i = t
    · have ei : i = t - f := by omega
      have hU := spU_b hB hlv hb i (by omega)
      have hkU := mul_kb (x := -P + spU w lf bs f i) (X := 2200000000000) hk (by omega) (by omega)
      rw [hS.2.1, k_leT (by omega) ⟨by omega, by omega⟩ ⟨by omega, by omega⟩, k_wid ⟨by omega, by omega⟩, m_up1000 (by omega), k_cs, k_lltc ⟨by omega, by omega⟩ ⟨by omega, by omega⟩]
      have eS : spStd w f t lf bs P k = true ↔ k * (-P + spU w lf bs f i) ≤ 1000 * spR w lf bs k f i := by
        unfold spStd
        rw [decide_eq_true_iff, ← ei, show spU w lf bs f i - P = -P + spU w lf bs f i by omega]
        exact ⟨fun z => z.elim (fun y => absurd hn y) id, Or.inr⟩
      by_cases hc : k * (-P + spU w lf bs f i) ≤ 1000 * spR w lf bs k f i
      · rw [if_neg (by omega), if_pos (eS.mpr hc), k_zs (Or.inr rfl)]
        exact ⟨V, rfl, Fm.rf⟩
      · rw [if_pos (by omega), if_neg (fun z => hc (eS.mp z)), k_zs (Or.inl rfl)]
        exact ⟨V, rfl, Fm.rf⟩
    · have hit : f + i < t := by omega
      have p1 := b4 (f + i) (by omega) (by omega)
      have p2 := b4 (f + i + 1) (by omega) (by omega)
      obtain ⟨V3, r1, r2, r3⟩ := m_laysAt hw hB hlv hhv hrv hN hS hb (x := f + i) (by omega) hit
      have w3 : V3 (a + 1) = w := (r2.w 0).trans hw
      rw [hS.2.1, k_leF (by omega) ⟨by omega, by omega⟩ ⟨by omega, by omega⟩, r1, k_cs, m_rubsOf w3 hB hlv hhv hrv (by omega) p1 p2 r3 hk, k_cs]
      by_cases hd : 0 < slD w lf (f + i) (bs (f + i)) (bs (f + i + 1)) k
      · have hr := slR_b (lf := lf) hB hlv hhv hrv (x := f + i) (by omega) p1 p2 hk hd
        rw [if_pos hd, k_leqF (by omega) ⟨by omega, by omega⟩ ⟨by omega, by omega⟩, k_lt, k_lt, k_lt, r3.2.2.2.2.2.2]
        obtain ⟨V4, q1, q2⟩ := m_stands_loop hB hlv hhv hrv hN hb hP hk m (i + 1) V3 (by omega) (by omega) w3 (hS.fm r2) (fun j hj => by
          by_cases hji : j = i
          · subst hji; exact hd
          · exact hn j (by omega))
        rw [spR, spSum, spU, spSum, ← Int.add_assoc] at q1
        exact ⟨V4, q1, r2.tr q2⟩
      · rw [if_neg hd, k_leqT rfl, k_zs (Or.inr rfl), if_pos (by unfold spStd; rw [decide_eq_true_iff]; exact Or.inl (fun z => hd (z i (by omega))))]
        exact ⟨V3, rfl, r2⟩
theorem m_standsWith (hw : V (a + 1) = w) (hB : WB lv hv rv w) (hlv : lv ≤ 1100) (hhv : hv ≤ 700) (hrv : rv ≤ 2250) (hN : 50 ≤ N) (hS : SM V a f t lf bs) (hb : BB f t lf bs) (hk : 0 ≤ k ∧ k ≤ 20001) {P : Int} (hP : 0 ≤ P ∧ P ≤ 900000000000) : ∃ V', g_X9_standsWith N a k P V = some (if spStd w f t lf bs (spPulls w f t bs + P) k = true then 1 else 0, V') ∧ Fm a V V' := by
  unfold g_X9_standsWith
  have h1 := spPulls_b hB (f := f) (t := t) (bs := bs)
  rw [m_pulls hw hB hS hb hN, k_cs, k_lt, k_lt, hS.1]
  obtain ⟨V4, q1, q2⟩ := m_stands_loop (N := N) (a := a) hB hlv hhv hrv hN hb (P := spPulls w f t bs + P) (by omega) hk N 0 V (by have := hb.1; omega) (by have := hb.2.1; omega) hw hS (fun j hj => by omega)
  rw [spR, spSum, spU, spSum, Int.add_zero, Nat.add_zero, Int.neg_add] at q1
  exact ⟨V4, q1, q2⟩
theorem m_isStanding (hw : V (a + 1) = w) (hB : WB lv hv rv w) (hlv : lv ≤ 1100) (hhv : hv ≤ 700) (hrv : rv ≤ 2250) (hN : 50 ≤ N) (hS : SM V a f t lf bs) (hb : BB f t lf bs) (hk : 0 ≤ k ∧ k ≤ 20001) : ∃ V', g_X9_isStanding N a k V = some (if spStd w f t lf bs (spPulls w f t bs) k = true then 1 else 0, V') ∧ Fm a V V' := by
  unfold g_X9_isStanding
  obtain ⟨V4, q1, q2⟩ := m_standsWith hw hB hlv hhv hrv hN hS hb hk (P := 0) (by omega)
  rw [Int.add_zero] at q1
  refine ⟨V4, ?_, q2⟩
  rw [q1, k_cs, k_zs (by split <;> omega)]
theorem m_factor_loop (hB : WB lv hv rv w) (hlv : lv ≤ 1100) (hhv : hv ≤ 700) (hrv : rv ≤ 2250) (hN : 50 ≤ N) (hb : BB f t lf bs) : ∀ (m n : Nat) (lo hi : Int) (V : sj_VV), n < m → 0 ≤ lo → lo < hi → hi ≤ 20001 → hi - lo ≤ 2 ^ n → V (a + 1) = w → SM V a f t lf bs → ∃ V', g_X9_factorOf_6 N m a lo hi V = some (spFac (spStd w f t lf bs (spPulls w f t bs)) n lo hi, V') ∧ Fm a V V'
  | 0, _, _, _, _, h, _, _, _, _, _, _ => absurd h (by omega)
  | m + 1, n, lo, hi, V, h1, h2, h3, h4, h5, hw, hS => by
    unfold g_X9_factorOf_6 g_X9_factorOf_6_b
    rw [k_lec ⟨by omega, by omega⟩ ⟨by omega, by omega⟩]
    cases n with
    | zero =>
      rw [if_pos (by simpa using h5)]
      exact ⟨V, rfl, Fm.rf⟩
    | succ n =>
      rw [Int.pow_succ] at h5
      rw [spFac]
      by_cases hg : hi - lo ≤ 1
      · rw [if_pos hg, if_pos hg]
        exact ⟨V, rfl, Fm.rf⟩
      · have em : (lo + hi).tdiv 2 = (lo + hi) / 2 := Int.tdiv_eq_ediv_of_nonneg (by omega)
        obtain ⟨V2, q1, q2⟩ := m_isStanding hw hB hlv hhv hrv hN hS hb (k := (lo + hi) / 2) (by omega)
        rw [if_neg hg, if_neg hg, k_dI ⟨by omega, by omega⟩ ⟨by omega, by omega⟩ (by omega), em, q1, k_cs]
        unfold g_X9_factorOf_34
        by_cases hP : spStd w f t lf bs (spPulls w f t bs) ((lo + hi) / 2) = true
        · rw [if_pos hP, k_eqF (by omega) ⟨by omega, by omega⟩ ⟨by omega, by omega⟩, if_pos hP]
          obtain ⟨V3, r1, r2⟩ := m_factor_loop hB hlv hhv hrv hN hb m n ((lo + hi) / 2) hi V2 (by omega) (by omega) (by omega) (by omega) (by omega) ((q2.w 0).trans hw) (hS.fm q2)
          exact ⟨V3, r1, q2.tr r2⟩
        · rw [if_neg hP, k_eqT rfl, if_neg hP]
          obtain ⟨V3, r1, r2⟩ := m_factor_loop hB hlv hhv hrv hN hb m n lo ((lo + hi) / 2) V2 (by omega) (by omega) (by omega) (by omega) (by omega) ((q2.w 0).trans hw) (hS.fm q2)
          exact ⟨V3, r1, q2.tr r2⟩
theorem m_factorOf (hw : V (a + 1) = w) (hB : WB lv hv rv w) (hlv : lv ≤ 1100) (hhv : hv ≤ 700) (hrv : rv ≤ 2250) (hN : 50 ≤ N) (hS : SM V a f t lf bs) (hb : BB f t lf bs) : ∃ V', g_X9_factorOf N a V = some (spF w f t lf bs, V') ∧ Fm a V V' := by
  unfold g_X9_factorOf
  exact m_factor_loop hB hlv hhv hrv hN hb N 15 0 20001 V (by omega) (by omega) (by omega) (by omega) (by decide) hw hS
end Ref2
