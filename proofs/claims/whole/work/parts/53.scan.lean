section Scan
variable {V : sj_VV} {a : Nat} {w : sj_R} {k x y r st lf what : Int} {N : Nat}
def spO2 (x st o : Int) : Int := x + st * (o - 2)
theorem spO2_b {x st o : Int} (hx : -50 ≤ x ∧ x ≤ 500) (hs : 0 ≤ st ∧ st ≤ 64) (ho : 0 ≤ o ∧ o ≤ 4) : -200 ≤ spO2 x st o ∧ spO2 x st o ≤ 700 := by
  have := mul_a (x := st) (y := o - 2) (X := 64) (Y := 2) (by omega) (by omega) (by omega) (by omega)
  unfold spO2
  omega
def spSF (w : sj_R) (lf x y r st : Int) (i : Nat) : Int := spFBy w (spO2 x st ((i : Int) / 25)) (spO2 y st ((i : Int) / 5 % 5)) (spO2 r st ((i : Int) % 5)) lf
def spG0 (w : sj_R) (lf x y r st : Int) (i : Nat) : Int := if spSF w lf x y r st i = -1 then 0 else 1
def spG1 (w : sj_R) (lf x y r st k : Int) (i : Nat) : Int := if spSF w lf x y r st i = -1 then 0 else if k ≤ spSF w lf x y r st i then 0 else 1
def spScan (w : sj_R) (lf x y r st k what : Int) : Int := if what = 0 then spSum (spG0 w lf x y r st) 0 125 else spSum (spG1 w lf x y r st k) 0 125
theorem c_scan_loop (hB : WB 500 200 1500 w) (hlf : lf = 0 ∨ lf = 1) (hci : spCirc x y r) (hst : 1 ≤ st ∧ st ≤ 64) (hk : 1 ≤ k ∧ k ≤ 20000) (hwh : what = 0 ∨ what = 1) (hN : 1000 ≤ N) : ∀ (m i : Nat) (b : Int) (V : sj_VV), i ≤ 125 → 125 - i < m → CG V (a + 1) w → (what = 1 → b = spSum (spG1 w lf x y r st k) 0 i) → ∃ V', g_X8_scan_52 N m a x y r st lf k what (spSum (spG0 w lf x y r st) 0 i) b i V = some (spScan w lf x y r st k what, V') ∧ Fr (a + 63) (a + 75) V V'
  | 0, _, _, _, _, h, _, _ => absurd h (by omega)
  | m + 1, i, b, V, h1, h2, hC, hbb => by
    unfold g_X8_scan_52 g_X8_scan_52_b
    by_cases hi : i = 125
    · subst hi
      rw [k_leT (by omega) ⟨by omega, by omega⟩ ⟨by omega, by omega⟩, k_eq ⟨by omega, by omega⟩ ⟨by omega, by omega⟩]
      refine ⟨V, ?_, Fr.rf⟩
      unfold spScan
      by_cases h0 : what = 0
      · rw [if_pos h0, if_pos h0]
      · rw [if_neg h0, if_neg h0, hbb (by omega)]
    · obtain ⟨q1, q2, q3⟩ := id hci
      have o1 := spO2_b (x := x) (st := st) (o := (i : Int) / 25) (by omega) (by omega) (by omega)
      have o2 := spO2_b (x := y) (st := st) (o := (i : Int) / 5 % 5) (by omega) (by omega) (by omega)
      have o3 := spO2_b (x := r) (st := st) (o := (i : Int) % 5) (by omega) (by omega) (by omega)
      rw [k_leF (by omega) ⟨by omega, by omega⟩ ⟨by omega, by omega⟩, k_dI ⟨by omega, by omega⟩ ⟨by omega, by omega⟩ (by omega), show ((i : Int).tdiv 25) = (i : Int) / 25 from td9 i 25, k_dI ⟨by omega, by omega⟩ ⟨by omega, by omega⟩ (by omega), show ((i : Int).tdiv 5) = (i : Int) / 5 from td9 i 5, k_rI ⟨by omega, by omega⟩ ⟨by omega, by omega⟩ (by omega), show ((i : Int) / 5).tmod 5 = (i : Int) / 5 % 5 from tm3 (by omega) 5, k_rI ⟨by omega, by omega⟩ ⟨by omega, by omega⟩ (by omega), show (i : Int).tmod 5 = (i : Int) % 5 from tm3 (by omega) 5, show x + ((i : Int) / 25 - 2) * st = spO2 x st ((i : Int) / 25) by unfold spO2; rw [Int.mul_comm], show y + ((i : Int) / 5 % 5 - 2) * st = spO2 y st ((i : Int) / 5 % 5) by unfold spO2; rw [Int.mul_comm], show r + ((i : Int) % 5 - 2) * st = spO2 r st ((i : Int) % 5) by unfold spO2; rw [Int.mul_comm]]
      have eA : spSF w lf x y r st i = spFBy w (spO2 x st ((i : Int) / 25)) (spO2 y st ((i : Int) / 5 % 5)) (spO2 r st ((i : Int) % 5)) lf := rfl
      have cA := spFBy_b w (spO2 x st ((i : Int) / 25)) (spO2 y st ((i : Int) / 5 % 5)) (spO2 r st ((i : Int) % 5)) lf
      rw [← eA] at cA
      have main : ∀ lim : Int, (lim = 0 ∧ what = 0) ∨ (lim = k ∧ what = 1) → ∃ V', g_X8_scan_116 N (g_X8_scan_52 N m) a x y r st lf k what (spSum (spG0 w lf x y r st) 0 i) b i lim lf (spO2 r st ((i : Int) % 5)) (spO2 y st ((i : Int) / 5 % 5)) (spO2 x st ((i : Int) / 25)) (a + 1) (a + 63) V = some (spScan w lf x y r st k what, V') ∧ Fr (a + 63) (a + 75) V V' := by
        intro lim hlim
        obtain ⟨q, V1, a1, a2, a3, a4⟩ := ask_eq (N := N) (s := a + 63) (lim := lim) hC (by omega) hB (by omega) (by omega) (by omega) (cx := spO2 x st ((i : Int) / 25)) (cy := spO2 y st ((i : Int) / 5 % 5)) (r := spO2 r st ((i : Int) % 5)) ⟨by omega, by omega⟩ ⟨by omega, by omega⟩ ⟨by omega, by omega⟩ hlf (by omega) hN
        rw [← eA] at a3 a4
        have f1 : Fr (a + 63) (a + 75) V V1 := a2.wide (by omega) (by omega)
        have hC1 : CG V1 (a + 1) w := hC.fr f1 (by omega)
        unfold g_X8_scan_116 g_X8_scan_140
        rw [a1, k_cs]
        have e0 : spSum (spG0 w lf x y r st) 0 (i + 1) = spSum (spG0 w lf x y r st) 0 i + spG0 w lf x y r st i := by rw [spSum, Nat.zero_add]
        have e1 : spSum (spG1 w lf x y r st k) 0 (i + 1) = spSum (spG1 w lf x y r st k) 0 i + spG1 w lf x y r st k i := by rw [spSum, Nat.zero_add]
        have key := c_scan_loop hB hlf hci hst hk hwh hN m (i + 1)
        by_cases hA : spSF w lf x y r st i = -1
        · have g0 : spG0 w lf x y r st i = 0 := by unfold spG0; rw [if_pos hA]
          have g1 : spG1 w lf x y r st k i = 0 := by unfold spG1; rw [if_pos hA]
          rw [g0, Int.add_zero] at e0
          rw [g1, Int.add_zero] at e1
          rw [e0, e1] at key
          rw [a3 hA, k_eqT rfl, k_lt]
          obtain ⟨V2, b1, b2⟩ := key b V1 (by omega) (by omega) hC1 hbb
          exact ⟨V2, b1, f1.tr b2⟩
        · obtain ⟨l1, l2, l3, l4⟩ := a4 hA
          have g0 : spG0 w lf x y r st i = 1 := by unfold spG0; rw [if_neg hA]
          rw [g0] at e0
          rw [e0, e1] at key
          rw [k_eqF (by omega) ⟨by omega, by omega⟩ ⟨by omega, by omega⟩, k_lt, k_lec ⟨by omega, by omega⟩ ⟨by omega, by omega⟩]
          by_cases hq : k ≤ q
          · rw [if_pos hq, k_lt]
            obtain ⟨V2, b1, b2⟩ := key b V1 (by omega) (by omega) hC1 (fun z => by
              have hF : k ≤ spSF w lf x y r st i := by
                rcases Int.lt_or_le (spSF w lf x y r st i) k with u | u
                · have := l1 (by omega); omega
                · exact u
              rw [hbb z, show spG1 w lf x y r st k i = 0 by unfold spG1; rw [if_neg hA, if_pos hF]]; omega)
            exact ⟨V2, b1, f1.tr b2⟩
          · rw [if_neg hq, k_lt, k_lt]
            obtain ⟨V2, b1, b2⟩ := key (b + 1) V1 (by omega) (by omega) hC1 (fun z => by
              have hF : ¬ k ≤ spSF w lf x y r st i := by
                intro u
                have := l2 (by omega); omega
              rw [hbb z, show spG1 w lf x y r st k i = 1 by unfold spG1; rw [if_neg hA, if_neg hF]])
            exact ⟨V2, b1, f1.tr b2⟩
      rw [k_eq ⟨by omega, by omega⟩ ⟨by omega, by omega⟩]
      by_cases h0 : what = 0
      · rw [if_pos h0]
        exact main 0 (Or.inl ⟨rfl, h0⟩)
      · rw [if_neg h0]
        exact main k (Or.inr ⟨rfl, by omega⟩)
abbrev spScanOk (x y r st k what : Int) : Prop := spCirc x y r ∧ (1 ≤ st ∧ st ≤ 64) ∧ (1 ≤ k ∧ k ≤ 20000) ∧ 0 ≤ what ∧ what ≤ 1
def spScanA (w : sj_R) (x y r st lf k what : Int) : Int := if spScanOk x y r st k what then spScan w lf x y r st k what else -1
theorem c_scan (hR : RG V (a + 1) w) (h1 : sj_i32 x) (h2 : sj_i32 y) (h3 : sj_i32 r) (h4 : sj_i32 st) (h5 : sj_i32 k) (h6 : sj_i32 what) (hlf : lf = 0 ∨ lf = 1) (hN : 1000 ≤ N) : ∃ V', g_X8_scan N a x y r st lf k what V = some (spScanA w x y r st lf k what, V') ∧ Fr (a + 63) (a + 75) V V' := by
  unfold g_X8_scan spScanA
  rw [isCircle_eq h1 h2 h3, k_cs]
  by_cases c1 : spCirc x y r
  · rw [if_pos c1, k_eqF (by omega) ⟨by omega, by omega⟩ ⟨by omega, by omega⟩, k_ltc h4 ⟨by omega, by omega⟩, k_ltc ⟨by omega, by omega⟩ h4, isK_eq h5, k_cs]
    by_cases d1 : st < 1
    · rw [if_pos d1, if_neg (fun z => by have := z.2.1; omega)]
      exact ⟨V, rfl, Fr.rf⟩
    · rw [if_neg d1]
      by_cases d2 : 64 < st
      · rw [if_pos d2, if_neg (fun z => by have := z.2.1; omega)]
        exact ⟨V, rfl, Fr.rf⟩
      · rw [if_neg d2]
        by_cases d3 : 1 ≤ k ∧ k ≤ 20000
        · rw [if_pos d3, k_eqF (by omega) ⟨by omega, by omega⟩ ⟨by omega, by omega⟩, k_ltc h6 ⟨by omega, by omega⟩, k_lec h6 ⟨by omega, by omega⟩]
          by_cases d4 : what < 0
          · rw [if_pos d4, if_neg (fun z => by have := z.2.2.2; omega)]
            exact ⟨V, rfl, Fr.rf⟩
          · rw [if_neg d4]
            by_cases d5 : what ≤ 1
            · rw [if_pos d5, if_pos ⟨c1, by omega, by omega, by omega, by omega⟩]
              exact c_scan_loop (N := N) (a := a) hR.1 hlf c1 (by omega) (by omega) (by omega) hN N 0 0 V (by omega) (by omega) hR.2.2.1 (fun _ => rfl)
            · rw [if_neg d5, if_neg (fun z => by have := z.2.2.2; omega)]
              exact ⟨V, rfl, Fr.rf⟩
        · rw [if_neg d3, k_eqT rfl, if_neg (fun z => d3 z.2.2.1)]
          exact ⟨V, rfl, Fr.rf⟩
  · rw [if_neg c1, k_eqT rfl, if_neg (fun z => c1 z.1)]
    exact ⟨V, rfl, Fr.rf⟩
theorem m_scan_loop (hB : WB 500 200 1500 w) (hlf : lf = 0 ∨ lf = 1) (hci : spCirc x y r) (hst : 1 ≤ st ∧ st ≤ 64) (hk : 1 ≤ k ∧ k ≤ 20000) (hwh : what = 0 ∨ what = 1) (hN : 1000 ≤ N) : ∀ (m i : Nat) (V : sj_VV), i ≤ 125 → 125 - i < m → V (a + 1) = w → ∃ V', g_X9_scan_52 N m a x y r st lf k what (spSum (spG0 w lf x y r st) 0 i) (spSum (spG1 w lf x y r st k) 0 i) i V = some (spScan w lf x y r st k what, V') ∧ Fc a V V'
  | 0, _, _, _, h, _ => absurd h (by omega)
  | m + 1, i, V, h1, h2, hw => by
    unfold g_X9_scan_52 g_X9_scan_52_b
    by_cases hi : i = 125
    · subst hi
      rw [k_leT (by omega) ⟨by omega, by omega⟩ ⟨by omega, by omega⟩, k_eq ⟨by omega, by omega⟩ ⟨by omega, by omega⟩]
      refine ⟨V, ?_, Fc.rf⟩
      unfold spScan
      by_cases h0 : what = 0
      · rw [if_pos h0, if_pos h0]
      · rw [if_neg h0, if_neg h0]
    · obtain ⟨q1, q2, q3⟩ := id hci
      have o1 := spO2_b (x := x) (st := st) (o := (i : Int) / 25) (by omega) (by omega) (by omega)
      have o2 := spO2_b (x := y) (st := st) (o := (i : Int) / 5 % 5) (by omega) (by omega) (by omega)
      have o3 := spO2_b (x := r) (st := st) (o := (i : Int) % 5) (by omega) (by omega) (by omega)
      rw [k_leF (by omega) ⟨by omega, by omega⟩ ⟨by omega, by omega⟩, k_dI ⟨by omega, by omega⟩ ⟨by omega, by omega⟩ (by omega), show ((i : Int).tdiv 25) = (i : Int) / 25 from td9 i 25, k_dI ⟨by omega, by omega⟩ ⟨by omega, by omega⟩ (by omega), show ((i : Int).tdiv 5) = (i : Int) / 5 from td9 i 5, k_rI ⟨by omega, by omega⟩ ⟨by omega, by omega⟩ (by omega), show ((i : Int) / 5).tmod 5 = (i : Int) / 5 % 5 from tm3 (by omega) 5, k_rI ⟨by omega, by omega⟩ ⟨by omega, by omega⟩ (by omega), show (i : Int).tmod 5 = (i : Int) % 5 from tm3 (by omega) 5, show x + st * ((i : Int) / 25 - 2) = spO2 x st ((i : Int) / 25) from rfl, show y + st * ((i : Int) / 5 % 5 - 2) = spO2 y st ((i : Int) / 5 % 5) from rfl, show r + st * ((i : Int) % 5 - 2) = spO2 r st ((i : Int) % 5) from rfl]
      obtain ⟨V1, a1, a2⟩ := m_factorBy (N := N) (a := a) hw hB (by omega) (by omega) (by omega) (cx := spO2 x st ((i : Int) / 25)) (cy := spO2 y st ((i : Int) / 5 % 5)) (r := spO2 r st ((i : Int) % 5)) ⟨by omega, by omega⟩ ⟨by omega, by omega⟩ ⟨by omega, by omega⟩ hlf hN
      have eA : spSF w lf x y r st i = spFBy w (spO2 x st ((i : Int) / 25)) (spO2 y st ((i : Int) / 5 % 5)) (spO2 r st ((i : Int) % 5)) lf := rfl
      have cA := spFBy_b w (spO2 x st ((i : Int) / 25)) (spO2 y st ((i : Int) / 5 % 5)) (spO2 r st ((i : Int) % 5)) lf
      rw [← eA] at cA a1
      obtain ⟨V2, b1, b2⟩ := m_scan_loop hB hlf hci hst hk hwh hN m (i + 1) V1 (by omega) (by omega) (a2.w.trans hw)
      refine ⟨V2, ?_, a2.tr b2⟩
      rw [a1, k_cs, ← b1, spSum, spSum, Nat.zero_add]
      unfold g_X9_scan_116 g_X9_scan_138 g_X9_scan_139 spG0 spG1
      by_cases hA : spSF w lf x y r st i = -1
      · rw [k_eqT hA, k_lt, k_eqT hA, k_lt, k_lt, if_pos hA, if_pos hA]
        rfl
      · rw [k_eqF hA ⟨by omega, by omega⟩ ⟨by omega, by omega⟩, k_lt, k_eqF hA ⟨by omega, by omega⟩ ⟨by omega, by omega⟩, k_lec ⟨by omega, by omega⟩ ⟨by omega, by omega⟩, if_neg hA, if_neg hA]
        by_cases hF : k ≤ spSF w lf x y r st i
        · rw [if_pos hF, k_lt, k_lt, if_pos hF]
          rfl
        · rw [if_neg hF, k_lt, k_lt, if_neg hF]
          rfl
theorem m_scan (hw : V (a + 1) = w) (hB : WB 500 200 1500 w) (h1 : sj_i32 x) (h2 : sj_i32 y) (h3 : sj_i32 r) (h4 : sj_i32 st) (h5 : sj_i32 k) (h6 : sj_i32 what) (hlf : lf = 0 ∨ lf = 1) (hN : 1000 ≤ N) : ∃ V', g_X9_scan N a x y r st lf k what V = some (spScanA w x y r st lf k what, V') ∧ Fc a V V' := by
  unfold g_X9_scan spScanA
  rw [m_isCircle h1 h2 h3, k_cs]
  by_cases c1 : spCirc x y r
  · rw [if_pos c1, k_eqF (by omega) ⟨by omega, by omega⟩ ⟨by omega, by omega⟩, k_wid h4, m_isIn (sj_i64_of h4) ⟨by omega, by omega⟩ ⟨by omega, by omega⟩, k_cs]
    by_cases c2 : 1 ≤ st ∧ st ≤ 64
    · rw [if_pos c2, k_eqF (by omega) ⟨by omega, by omega⟩ ⟨by omega, by omega⟩, m_isK h5, k_cs]
      by_cases c3 : 1 ≤ k ∧ k ≤ 20000
      · rw [if_pos c3, k_eqF (by omega) ⟨by omega, by omega⟩ ⟨by omega, by omega⟩, k_wid h6, m_isIn (sj_i64_of h6) ⟨by omega, by omega⟩ ⟨by omega, by omega⟩, k_cs]
        by_cases c4 : 0 ≤ what ∧ what ≤ 1
        · rw [if_pos c4, k_eqF (by omega) ⟨by omega, by omega⟩ ⟨by omega, by omega⟩, if_pos ⟨c1, c2, c3, c4⟩]
          exact m_scan_loop (N := N) (a := a) hB hlf c1 c2 c3 (by omega) hN N 0 V (by omega) (by omega) hw
        · rw [if_neg c4, k_eqT rfl, if_neg (fun z => c4 z.2.2.2)]
          exact ⟨V, rfl, Fc.rf⟩
      · rw [if_neg c3, k_eqT rfl, if_neg (fun z => c3 z.2.2.1)]
        exact ⟨V, rfl, Fc.rf⟩
    · rw [if_neg c2, k_eqT rfl, if_neg (fun z => c2 z.2.1)]
      exact ⟨V, rfl, Fc.rf⟩
  · rw [if_neg c1, k_eqT rfl, if_neg (fun z => c1 z.1)]
    exact ⟨V, rfl, Fc.rf⟩
end Scan
