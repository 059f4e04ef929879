/-! THRUST and CREST as they are asked -/
theorem xorl_nn {x y : Int} (hx : sj_i64 x) (hy : sj_i64 y) : 0 ≤ sj_xorl x y ↔ (x < 0 ↔ y < 0) := by
  have key : ∀ a b : Int64, 0 ≤ (a ^^^ b).toInt ↔ (a.toInt < 0 ↔ b.toInt < 0) := by
    intro a b
    have h : (a ^^^ b).toBitVec.msb = (a.toBitVec.msb ^^ b.toBitVec.msb) := by rw [Int64.toBitVec_xor, BitVec.msb_xor]
    rw [BitVec.msb_eq_toInt, BitVec.msb_eq_toInt, BitVec.msb_eq_toInt] at h
    have e : ∀ c : Int64, c.toBitVec.toInt = c.toInt := fun _ => rfl
    rw [e, e, e] at h
    by_cases h1 : a.toInt < 0 <;> by_cases h2 : b.toInt < 0 <;> by_cases h3 : (a ^^^ b).toInt < 0 <;> simp [h1, h2, h3] at h ⊢ <;> omega
  have h := key (Int64.ofInt x) (Int64.ofInt y)
  rw [sj_t64 hx, sj_t64 hy] at h
  exact h
section Thrust
variable {V : sj_VV} {a f t : Nat} {w : sj_R} {k i lf lv hv rv : Int} {bs : Nat → Int} {N : Nat}
theorem floor1000 {x : Int} (hx : -1000000000000000000 ≤ x ∧ x ≤ 1000000000000000000) : g_J9_floorDiv_f86c9 N x 1000 V = some (x / 1000, V) := by
  unfold g_J9_floorDiv_f86c9
  rw [k_dJ ⟨by omega, by omega⟩ ⟨by omega, by omega⟩ (by omega)]
  have hxx := xorl_nn (x := x) (y := 1000) ⟨by omega, by omega⟩ ⟨by omega, by omega⟩
  have hxr : sj_i64 (sj_xorl x 1000) := by
    unfold sj_xorl
    have h1 := Int64.toInt_lt (Int64.ofInt x ^^^ Int64.ofInt 1000)
    have h2 := Int64.le_toInt (Int64.ofInt x ^^^ Int64.ofInt 1000)
    exact ⟨by omega, by omega⟩
  rw [k_llec ⟨by omega, by omega⟩ hxr]
  by_cases h0 : 0 ≤ x
  · rw [if_pos (hxx.mpr (by omega)), Int.tdiv_eq_ediv_of_nonneg h0]
  · rw [if_neg (fun z => by have := hxx.mp z; omega)]
    have et : x.tdiv 1000 = -((-x) / 1000) := by
      rw [show x = -(-x) by omega, Int.neg_tdiv, Int.tdiv_eq_ediv_of_nonneg (by omega)]
      omega
    rw [et, k_leqc ⟨by omega, by omega⟩ ⟨by omega, by omega⟩]
    by_cases h1 : -((-x) / 1000) * 1000 = x
    · rw [if_pos h1]; congr 2; omega
    · rw [if_neg h1]; congr 2; omega
theorem m_down1000 {x : Int} (hx : -1000000000000000000 ≤ x ∧ x ≤ 1000000000000000000) : g_X9_downwards N x 1000 V = some (x / 1000, V) := by
  unfold g_X9_downwards
  rw [k_lltc ⟨by omega, by omega⟩ ⟨by omega, by omega⟩]
  by_cases h : x < 0
  · rw [if_pos h, k_dJ ⟨by omega, by omega⟩ ⟨by omega, by omega⟩ (by omega), Int.tdiv_eq_ediv_of_nonneg (by omega)]
    congr 2; omega
  · rw [if_neg h, k_dJ ⟨by omega, by omega⟩ ⟨by omega, by omega⟩ (by omega), Int.tdiv_eq_ediv_of_nonneg (by omega)]
/-- what slice x thrusts on -/
def slT (w : sj_R) (lf : Int) (bs : Nat → Int) (k : Int) (x : Nat) : Int := k * slU w lf x (bs x) (bs (x + 1)) / 1000 - slR w lf x (bs x) (bs (x + 1)) k
theorem kU_b (hB : WB lv hv rv w) (hlv : lv ≤ 1100) {x : Nat} {p q : Int} (hx : x + 1 < 41) (hp : 0 ≤ p ∧ p ≤ 100) (hq : 0 ≤ q ∧ q ≤ 100) (hk : 0 ≤ k ∧ k ≤ 20001) : -600000000000000 ≤ k * slU w lf x p q ∧ k * slU w lf x p q ≤ 600000000000000 := by
  have h1 := slU_b (lf := lf) hB hlv hx hp hq
  have := mul_kb (x := slU w lf x p q) (X := 27300000000) hk (by omega) (by omega)
  omega
theorem slT_b (hB : WB lv hv rv w) (hlv : lv ≤ 1100) (hhv : hv ≤ 700) (hrv : rv ≤ 2250) (hb : BB f t lf bs) (hk : 0 ≤ k ∧ k ≤ 20001) {x : Nat} (h1 : f ≤ x) (h2 : x < t) (hd : 0 < slD w lf x (bs x) (bs (x + 1)) k) : -130000000000000000 ≤ slT w lf bs k x ∧ slT w lf bs k x ≤ 130000000000000000 := by
  obtain ⟨b1, b2, b3, b4⟩ := id hb
  have p1 := b4 x h1 (by omega)
  have p2 := b4 (x + 1) (by omega) (by omega)
  have := kU_b (lf := lf) hB hlv (x := x) (by omega) p1 p2 hk
  have := slR_b (lf := lf) hB hlv hhv hrv (x := x) (by omega) p1 p2 hk hd
  unfold slT
  omega
theorem sumT_b (hB : WB lv hv rv w) (hlv : lv ≤ 1100) (hhv : hv ≤ 700) (hrv : rv ≤ 2250) (hb : BB f t lf bs) (hk : 0 ≤ k ∧ k ≤ 20001) : ∀ n, f + n ≤ t → spNF w lf bs f k n → -(n * 130000000000000000) ≤ spSum (slT w lf bs k) f n ∧ spSum (slT w lf bs k) f n ≤ n * 130000000000000000
  | 0, _, _ => by simp [spSum]
  | n + 1, h1, h2 => by
    have ih := sumT_b hB hlv hhv hrv hb hk n (by omega) (fun j hj => h2 j (by omega))
    have := slT_b hB hlv hhv hrv hb hk (x := f + n) (by omega) (by omega) (h2 n (by omega))
    rw [spSum]
    omega
theorem thrustOf_eq (hS : SD V a w f t lf bs) (hB : WB lv hv rv w) (hlv : lv ≤ 1100) (hhv : hv ≤ 700) (hrv : rv ≤ 2250) (hb : BB f t lf bs) (hk : 0 ≤ k ∧ k ≤ 20001) {i : Nat} (hi : f + i < t) (hd : 0 < slD w lf (f + i) (bs (f + i)) (bs (f + i + 1)) k) : g_X4_thrustOf N a i k V = some (slT w lf bs k (f + i), V) := by
  obtain ⟨b1, b2, b3, b4⟩ := id hb
  have p1 := b4 (f + i) (by omega) (by omega)
  have p2 := b4 (f + i + 1) (by omega) (by omega)
  have hu := kU_b (lf := lf) hB hlv (x := f + i) (by omega) p1 p2 hk
  unfold g_X4_thrustOf
  rw [k_wid ⟨by omega, by omega⟩, k_ix (by omega) (by omega), tn0, (hS.2 i hi).2.1, floor1000 (by omega), k_cs, rubsOf_eq hS hB hlv hhv hrv hb hk hi, k_cs, if_pos hd]
  rfl
theorem spNF_s {n : Nat} (h : spNF w lf bs f k n) (hd : 0 < slD w lf (f + n) (bs (f + n)) (bs (f + n + 1)) k) : spNF w lf bs f k (n + 1) := fun j hj => by
  by_cases hji : j = n
  · subst hji; exact hd
  · exact h j (by omega)
theorem c_thrust_loop (hS : SD V (a + 54) w f t lf bs) (hB : WB lv hv rv w) (hlv : lv ≤ 1100) (hhv : hv ≤ 700) (hrv : rv ≤ 2250) (hb : BB f t lf bs) (hk : 0 ≤ k ∧ k ≤ 20001) {i : Nat} (hi : f + i < t) : ∀ (m j : Nat), j ≤ i + 1 → i + 1 - j < m → spNF w lf bs f k j → g_X8_thrust_41 N m a i k (spSum (slT w lf bs k) f j) j V = some (if spNF w lf bs f k (i + 1) then spSum (slT w lf bs k) f (i + 1) else -10000000000000000, V)
  | 0, _, _, h, _ => absurd h (by omega)
  | m + 1, j, h1, h2, hn => by
    obtain ⟨b1, b2, b3, b4⟩ := id hb
    unfold g_X8_thrust_41 g_X8_thrust_41_b
    by_cases hj : j = i + 1
    · subst hj
      rw [k_ltT (by omega) ⟨by omega, by omega⟩ ⟨by omega, by omega⟩, if_pos hn]
    · rw [k_ltF (by omega) ⟨by omega, by omega⟩ ⟨by omega, by omega⟩, isFast_eq hS hB hrv hb hk (by omega), k_cs]
      by_cases hd : 0 < slD w lf (f + j) (bs (f + j)) (bs (f + j + 1)) k
      · rw [if_pos hd, k_eqT rfl, thrustOf_eq hS hB hlv hhv hrv hb hk (by omega) hd, k_cs, k_lt, k_lt]
        exact c_thrust_loop hS hB hlv hhv hrv hb hk hi m (j + 1) (by omega) (by omega) (spNF_s hn hd)
      · rw [if_neg hd, k_eqF (by omega) ⟨by omega, by omega⟩ ⟨by omega, by omega⟩, if_neg (fun z => hd (z j (by omega)))]
def spThrust (w : sj_R) (i k : Int) : Int := if spHasI w i then if 1 ≤ k ∧ k ≤ 20000 then if spNF w (w 322) (wb w) (wf w) k (i.toNat + 1) then spSum (slT w (w 322) (wb w) k) (wf w) (i.toNat + 1) else -10000000000000000 else -10000000000000000 else -10000000000000000
theorem c_thrust (hR : RG V (a + 1) w) (hi : sj_i32 i) (hk : sj_i32 k) (hN : 50 ≤ N) : ∃ V', g_X8_thrust N a i k V = some (spThrust w i k, V') ∧ Fr (a + 54) (a + 63) V V' := by
  rw [c_hasI (x := -10000000000000000) (K := fun V1 => _) hR hi (g_X8_thrust N a i k V) rfl]
  unfold spThrust
  by_cases hI : spHasI w i
  · have h0 := hI.1
    have hb := hR.2.1.bb h0
    have hb3 := hb.2.2.1
    obtain ⟨i1, i2, i3⟩ := id hI
    rw [if_pos hI, if_pos hI, isK_eq hk, k_cs]
    by_cases hK : 1 ≤ k ∧ k ≤ 20000
    · obtain ⟨V2, r1, r2, r3⟩ := cutUp_1 (N := N) hR h0 hN
      obtain ⟨j, rfl⟩ : ∃ j : Nat, i = j := ⟨i.toNat, by omega⟩
      have hj : wf w + j < wt w := by omega
      rw [if_pos hK, if_pos hK, k_eqF (by omega) ⟨by omega, by omega⟩ ⟨by omega, by omega⟩, r1, k_cs, k_eqF (by omega) ⟨by omega, by omega⟩ ⟨by omega, by omega⟩]
      have key := c_thrust_loop (N := N) r3 hR.1 (by omega) (by omega) (by omega) hb.2 (k := k) (by omega) hj N 0 (by omega) (by omega) (fun z hz => by omega)
      exact ⟨V2, key, r2⟩
    · rw [if_neg hK, if_neg hK, k_eqT rfl]
      exact ⟨V, rfl, Fr.rf⟩
  · rw [if_neg hI, if_neg hI]
    exact ⟨V, rfl, Fr.rf⟩
theorem m_hasFast_loop (hB : WB lv hv rv w) (hlv : lv ≤ 1100) (hhv : hv ≤ 700) (hrv : rv ≤ 2250) (hN : 50 ≤ N) (hb : BB f t lf bs) (hk : 0 ≤ k ∧ k ≤ 20001) {i : Nat} (hi : f + i < t) : ∀ (m j : Nat) (V : sj_VV), j ≤ i + 1 → i + 1 - j < m → V (a + 1) = w → SM V a f t lf bs → spNF w lf bs f k j → ∃ V', g_X9_hasFast_5 N m a ((f + i : Nat) : Int) k ((f + j : Nat) : Int) V = some (if spNF w lf bs f k (i + 1) then 0 else 1, V') ∧ Fm a V V'
  | 0, _, _, _, h, _, _, _ => absurd h (by omega)
  | m + 1, j, V, h1, h2, hw, hS, hn => by
    obtain ⟨b1, b2, b3, b4⟩ := id hb
    unfold g_X9_hasFast_5 g_X9_hasFast_5_b
    by_cases hj : j = i + 1
    · subst hj
      rw [k_ltT (by omega) ⟨by omega, by omega⟩ ⟨by omega, by omega⟩, if_pos hn, k_zs (Or.inl rfl)]
      exact ⟨V, rfl, Fm.rf⟩
    · have p1 := b4 (f + j) (by omega) (by omega)
      have p2 := b4 (f + j + 1) (by omega) (by omega)
      obtain ⟨V3, r1, r2, r3⟩ := m_laysAt hw hB hlv hhv hrv hN hS hb (x := f + j) (by omega) (by omega)
      have w3 : V3 (a + 1) = w := (r2.w 0).trans hw
      rw [k_ltF (by omega) ⟨by omega, by omega⟩ ⟨by omega, by omega⟩, r1, k_cs, m_rubsOf w3 hB hlv hhv hrv (by omega) p1 p2 r3 hk, k_cs]
      by_cases hd : 0 < slD w lf (f + j) (bs (f + j)) (bs (f + j + 1)) k
      · have hr := slR_b (lf := lf) hB hlv hhv hrv (x := f + j) (by omega) p1 p2 hk hd
        rw [if_pos hd, k_leqF (by omega) ⟨by omega, by omega⟩ ⟨by omega, by omega⟩, k_lt]
        obtain ⟨V4, q1, q2⟩ := m_hasFast_loop hB hlv hhv hrv hN hb hk hi m (j + 1) V3 (by omega) (by omega) w3 (hS.fm r2) (spNF_s hn hd)
        exact ⟨V4, q1, r2.tr q2⟩
      · rw [if_neg hd, k_leqT rfl, k_zs (Or.inr rfl), if_neg (fun z => hd (z j (by omega)))]
        exact ⟨V3, rfl, r2⟩
theorem m_hasFast (hw : V (a + 1) = w) (hB : WB lv hv rv w) (hlv : lv ≤ 1100) (hhv : hv ≤ 700) (hrv : rv ≤ 2250) (hN : 50 ≤ N) (hS : SM V a f t lf bs) (hb : BB f t lf bs) (hk : 0 ≤ k ∧ k ≤ 20001) {i : Nat} (hi : f + i < t) : ∃ V', g_X9_hasFast N a ((f + i : Nat) : Int) k V = some (if spNF w lf bs f k (i + 1) then 0 else 1, V') ∧ Fm a V V' := by
  unfold g_X9_hasFast
  rw [k_lt, hS.1]
  exact m_hasFast_loop (N := N) (a := a) hB hlv hhv hrv hN hb hk hi N 0 V (by omega) (by have := hb.2.1; omega) hw hS (fun z hz => by omega)
theorem m_thrustOf_loop (hB : WB lv hv rv w) (hlv : lv ≤ 1100) (hhv : hv ≤ 700) (hrv : rv ≤ 2250) (hN : 50 ≤ N) (hb : BB f t lf bs) (hk : 0 ≤ k ∧ k ≤ 20001) {i : Nat} (hi : f + i < t) (hn : spNF w lf bs f k (i + 1)) : ∀ (m j : Nat) (V : sj_VV), j ≤ i + 1 → i + 1 - j < m → V (a + 1) = w → SM V a f t lf bs → ∃ V', g_X9_thrustOf_8 N m a ((f + i : Nat) : Int) k (spSum (slT w lf bs k) f j) ((f + j : Nat) : Int) V = some (spSum (slT w lf bs k) f (i + 1), V') ∧ Fm a V V'
  | 0, _, _, _, h, _, _ => absurd h (by omega)
  | m + 1, j, V, h1, h2, hw, hS => by
    obtain ⟨b1, b2, b3, b4⟩ := id hb
    unfold g_X9_thrustOf_8 g_X9_thrustOf_8_b
    by_cases hj : j = i + 1
    · subst hj
      rw [k_ltT (by omega) ⟨by omega, by omega⟩ ⟨by omega, by omega⟩]
      exact ⟨V, rfl, Fm.rf⟩
    · have p1 := b4 (f + j) (by omega) (by omega)
      have p2 := b4 (f + j + 1) (by omega) (by omega)
      have hu := kU_b (lf := lf) hB hlv (x := f + j) (by omega) p1 p2 hk
      have hd := hn j (by omega)
      obtain ⟨V3, r1, r2, r3⟩ := m_laysAt hw hB hlv hhv hrv hN hS hb (x := f + j) (by omega) (by omega)
      have w3 : V3 (a + 1) = w := (r2.w 0).trans hw
      rw [k_ltF (by omega) ⟨by omega, by omega⟩ ⟨by omega, by omega⟩, r1, k_cs, k_wid ⟨by omega, by omega⟩, r3.2.2.2.2.2.2, m_down1000 (by omega), k_cs, m_rubsOf w3 hB hlv hhv hrv (by omega) p1 p2 r3 hk, k_cs, if_pos hd, k_lt, k_lt]
      obtain ⟨V4, q1, q2⟩ := m_thrustOf_loop hB hlv hhv hrv hN hb hk hi hn m (j + 1) V3 (by omega) (by omega) w3 (hS.fm r2)
      exact ⟨V4, q1, r2.tr q2⟩
theorem m_thrustOf (hw : V (a + 1) = w) (hB : WB lv hv rv w) (hlv : lv ≤ 1100) (hhv : hv ≤ 700) (hrv : rv ≤ 2250) (hN : 50 ≤ N) (hS : SM V a f t lf bs) (hb : BB f t lf bs) (hk : 0 ≤ k ∧ k ≤ 20001) {i : Nat} (hi : f + i < t) (hn : spNF w lf bs f k (i + 1)) : ∃ V', g_X9_thrustOf N a ((f + i : Nat) : Int) k V = some (spSum (slT w lf bs k) f (i + 1), V') ∧ Fm a V V' := by
  unfold g_X9_thrustOf
  rw [k_lt, hS.1]
  exact m_thrustOf_loop (N := N) (a := a) hB hlv hhv hrv hN hb hk hi hn N 0 V (by omega) (by have := hb.2.1; omega) hw hS
theorem m_thrust (hw : V (a + 1) = w) (hB : WB 500 200 1500 w) (hP : SP w) (hi : sj_i32 i) (hk : sj_i32 k) (hN : 50 ≤ N) : ∃ V', g_X9_thrust N a i k V = some (spThrust w i k, V') ∧ Fc a V V' := by
  unfold g_X9_thrust spThrust
  obtain ⟨V2, r1, r2, r3⟩ := m_isSlice (N := N) hw hB hP hi hN
  rw [r1, k_cs]
  by_cases hI : spHasI w i
  · have h0 := hI.1
    have hb := hP.bb h0
    obtain ⟨i1, i2, i3⟩ := id hI
    have hS := r3 h0
    rw [if_pos hI, if_pos hI, k_eqF (by omega) ⟨by omega, by omega⟩ ⟨by omega, by omega⟩, m_isK hk, k_cs]
    by_cases hK : 1 ≤ k ∧ k ≤ 20000
    · obtain ⟨j, rfl⟩ : ∃ j : Nat, i = j := ⟨i.toNat, by omega⟩
      have hj : wf w + j < wt w := by omega
      have w2 := r2.w.trans hw
      obtain ⟨V3, s1, s2⟩ := m_hasFast (N := N) (k := k) w2 hB (by omega) (by omega) (by omega) hN hS hb.2 (by omega) hj
      have w3 := (s2.w 0).trans w2
      have ef : ((wf w : Nat) : Int) + (j : Int) = ((wf w + j : Nat) : Int) := by omega
      rw [if_pos hK, if_pos hK, k_eqF (by omega) ⟨by omega, by omega⟩ ⟨by omega, by omega⟩, hS.1, ef, s1, k_cs, tn0]
      by_cases hn : spNF w (w 322) (wb w) (wf w) k (j + 1)
      · obtain ⟨V4, t1, t2⟩ := m_thrustOf (N := N) (k := k) w3 hB (by omega) (by omega) (by omega) hN (hS.fm s2) hb.2 (by omega) hj hn
        rw [if_pos hn, if_pos hn, k_eqT rfl, (hS.fm s2).1, ef, t1, k_cs]
        exact ⟨V4, rfl, r2.tr (s2.tr t2).c⟩
      · rw [if_neg hn, if_neg hn, k_eqF (by omega) ⟨by omega, by omega⟩ ⟨by omega, by omega⟩]
        exact ⟨V3, rfl, r2.tr s2.c⟩
    · rw [if_neg hK, if_neg hK, k_eqT rfl]
      exact ⟨V2, rfl, r2⟩
  · rw [if_neg hI, if_neg hI, k_eqT rfl]
    exact ⟨V2, rfl, r2⟩
end Thrust
