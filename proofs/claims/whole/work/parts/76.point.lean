/-! POINT, FEED -/
section Point
variable {V V1 V2 : sj_VV} {a b t N : Nat} {x1 x2 x3 x4 x5 : Int} {w w' : sj_R}
theorem INV.held (hI : INV V a b) (hab : b = a + 189) (f1 : ∀ z, (z < a + 43 ∨ a + 46 ≤ z) → V1 z = V z) (f2 : ∀ z, z ≠ b + 1 → V2 z = V1 z) (hw : V2 (b + 1) = w') (h3 : ∀ j, j < 364 → w' j = V (b + 1) j) (hH : HE V1 (a + 43) w') : INV V2 a b := by
  obtain ⟨i1, i2, i3, i4, i5, i6⟩ := hI
  have e : ∀ z, (z < a + 43 ∨ a + 46 ≤ z) → z ≠ b + 1 → V2 z = V z := fun z z1 z2 => by rw [f2 z z2, f1 z z1]
  refine ⟨?_, ?_, ?_, ?_, ?_, ?_⟩
  · rw [hw]; exact (i1.eq (fun z z1 z2 => e z (by omega) (by omega))).row h3
  · rw [hw]; exact hH.eq (fun z z1 z2 => f2 z (by omega)) (fun _ _ _ => rfl)
  · exact i3.eq (by rw [e _ (by omega) (by omega)]) (by rw [e _ (by omega) (by omega)]) (by rw [e _ (by omega) (by omega)]) (e _ (by omega) (by omega)) (fun z z1 z2 => e z (by omega) (by omega))
  · exact i4.eq (by rw [e _ (by omega) (by omega)]) (by rw [e _ (by omega) (by omega)]) (e _ (by omega) (by omega)) (fun z z1 z2 => e z (by omega) (by omega)) (fun z z1 z2 => e z (by omega) (by omega)) (TL.of (e _ (by omega) (by omega)))
  · exact i5.eq (e _ (by omega) (by omega)) (e _ (by omega) (by omega)) (fun j j1 j2 => by rw [e _ (by omega) (by omega)]) (e _ (by omega) (by omega))
  · exact i6.eq (e _ (by omega) (by omega)) (e _ (by omega) (by omega)) (by rw [e _ (by omega) (by omega)]) (e _ (by omega) (by omega))
theorem s_point (hI : INV V a b) (hab : b = a + 189) (h1 : sj_i32 x1) (h2 : sj_i32 x2) : ST a b (g_X8_point N a x1 x2) (g_X9_point N b x1 x2) V := by
  have hR := hI.1
  obtain ⟨⟨p1, p2⟩, p3, p4, p5, p6⟩ := id hI.2.1
  have hn := hR.1.1
  unfold ST g_X8_point g_X9_point
  by_cases z0 : x1 = -1
  · rw [k_eqT z0, k_lt]
    obtain ⟨V1, d1⟩ : ∃ V1, V1 = sj_up V (a + 43) 2 0 := ⟨_, rfl⟩
    rw [← d1]
    have u1 : ∀ z, z ≠ a + 43 → V1 z = V z := fun z hz => by rw [d1, up_row _ _ _ hz]
    refine ⟨_, V1, sj_up V1 (b + 1) 364 0, rfl, ?_, ?_⟩
    · rw [k_eqT z0, k_ix (by omega) (by omega), k_lt]; rfl
    · refine hI.held hab (fun z hz => u1 z (by omega)) (fun z hz => up_row _ _ _ hz) (up_wUp (u1 _ (by omega)) _ _) (fun j hj => wUp_n _ _ (by omega)) ⟨⟨?_, ?_⟩, ?_, fun i hi => ?_, fun i hi => ?_, fun i hi => ?_⟩
      · rw [d1, up_ss, wUp_s]
      · rw [d1, up_nk _ _ _ (by omega), wUp_n _ _ (by omega)]; exact p2
      · rw [wUp_s]; omega
      · rw [u1 _ (by omega), u1 _ (by omega), wUp_n _ _ (by omega), wUp_n _ _ (by omega)]; exact p4 i hi
      · rw [wUp_s] at hi; omega
      · rw [wUp_s] at hi; omega
  · rw [k_eqF z0 h1 ⟨by omega, by omega⟩]
    obtain ⟨n, hn2⟩ : ∃ n : Nat, V (b + 1) 364 = n := ⟨(V (b + 1) 364).toNat, by omega⟩
    -- the class's last column
    obtain ⟨last, hl1, hl2⟩ : ∃ last : Int, (last = if n = 0 then -1 else V (b + 1) (365 + (n - 1))) ∧ (e_ieq (V (a + 43) 2) 0 (g_X8_point_46 N a x1 x2 (-1) V) (e_ix 12 (V (a + 43) 2 - 1) fun _ => g_X8_point_46 N a x1 x2 (V (a + 43 + 1) (V (a + 43) 2 - 1).toNat) V)) = g_X8_point_46 N a x1 x2 last V := by
      refine ⟨_, rfl, ?_⟩
      rw [p1, hn2]
      by_cases y : n = 0
      · rw [k_eqT (by omega), if_pos y]
      · rw [k_eqF (by omega) ⟨by omega, by omega⟩ ⟨by omega, by omega⟩, k_ix (by omega) (by omega), if_neg y, show ((n : Int) - 1).toNat = n - 1 by omega, (p4 (n - 1) (by omega)).1]
    have hlast : -1 ≤ last ∧ last ≤ 40 := by
      rw [hl1]
      split
      · omega
      · have := (p5 (n - 1) (by omega)).1; omega
    rw [hl2]
    unfold g_X8_point_46
    rw [c_col hR h1, k_cs]
    by_cases c1 : spCol (V (b + 1)) x1
    · rw [if_pos c1, k_eqF (by omega) ⟨by omega, by omega⟩ ⟨by omega, by omega⟩, k_lec h1 ⟨by omega, by omega⟩, k_ltc h2 ⟨by omega, by omega⟩, k_ltc ⟨by omega, by omega⟩ h2, p1, hn2, k_ltc ⟨by omega, by omega⟩ ⟨by omega, by omega⟩]
      by_cases c2 : 0 ≤ x2 ∧ x2 ≤ 100
      · by_cases c3 : n = 12
        · subst c3
          refine ⟨-1, V, V, ?_, ?_, hI⟩
          · by_cases y : x1 ≤ last
            · rw [if_pos y]
            · rw [if_neg y, if_neg (by omega), if_neg (by omega), if_neg (by omega)]
          · rw [k_eqF z0 h1 ⟨by omega, by omega⟩, k_ix (by omega) (by omega), k_lt, m_isColumn rfl hR.1 h1, k_cs, if_pos c1, k_eqF (by omega) ⟨by omega, by omega⟩ ⟨by omega, by omega⟩, k_wid h2, m_in h2 ⟨by omega, by omega⟩ ⟨by omega, by omega⟩, k_cs, if_pos c2, k_eqF (by omega) ⟨by omega, by omega⟩ ⟨by omega, by omega⟩, show (364 : Int).toNat = 364 from rfl, k_eqT (show V (b + 1) 364 = 12 from hn2)]
        · have mh : ∀ V1 : sj_VV, V1 (b + 1) = V (b + 1) → (e_ieq x1 (-1) (e_ix 390 364 fun _ => e_lt (sj_up V1 (b + 1) (364 : Int).toNat 0) fun V7 => some ((0 : Int), V7)) (e_ix 390 364 fun _ => e_lt (V1 (b + 1) (364 : Int).toNat) fun v1 => e_cs (g_X9_isColumn N b x1 V1) fun v3 V2 => e_ieq v3 0 (some (-1, V2)) (e_wid x2 fun v4 => e_cs (g_X9_isIn N v4 0 100 V2) fun v6 V5 => e_ieq v6 0 (some (-1, V5)) (e_ieq v1 12 (some (-1, V5)) (e_ile v1 0 (g_X9_point_73 N b x1 x2 v1 V5) (e_ix 390 (365 + v1 - 1) fun _ => e_ilt (V5 (b + 1) (365 + v1 - 1).toNat) x1 (g_X9_point_73 N b x1 x2 v1 V5) (some (-1, V5)))))))) = if x1 ≤ last then some (-1, V1) else g_X9_point_73 N b x1 x2 n V1 := by
            intro V1 e
            rw [k_eqF z0 h1 ⟨by omega, by omega⟩, k_ix (by omega) (by omega), k_lt, m_isColumn e hR.1 h1, k_cs, if_pos c1, k_eqF (by omega) ⟨by omega, by omega⟩ ⟨by omega, by omega⟩, k_wid h2, m_in h2 ⟨by omega, by omega⟩ ⟨by omega, by omega⟩, k_cs, if_pos c2, k_eqF (by omega) ⟨by omega, by omega⟩ ⟨by omega, by omega⟩, show (364 : Int).toNat = 364 from rfl, e, hn2, k_eqF (by omega) ⟨by omega, by omega⟩ ⟨by omega, by omega⟩, k_lec ⟨by omega, by omega⟩ ⟨by omega, by omega⟩]
            by_cases y : n = 0
            · rw [if_pos (by omega), if_neg]
              rw [hl1, if_pos y]; omega
            · rw [if_neg (by omega), k_ix (by omega) (by omega), show (365 + (n : Int) - 1).toNat = 365 + (n - 1) by omega]
              rw [if_neg y] at hl1
              rw [← hl1, k_ltc ⟨by omega, by omega⟩ h1]
              by_cases q : x1 ≤ last
              · rw [if_pos q, if_neg (by omega)]
              · rw [if_neg q, if_pos (by omega)]
          by_cases y : x1 ≤ last
          · rw [if_pos y]
            refine ⟨_, V, V, rfl, ?_, hI⟩
            rw [mh V rfl, if_pos y]
          · obtain ⟨c, hc⟩ : ∃ c : Nat, x1 = c := ⟨x1.toNat, by omega⟩
            subst hc
            rw [if_neg y, if_neg (by omega), if_neg (by omega), if_pos (by omega), k_ix (by omega) (by omega), k_lt, tn0, up_na _ _ _ _ (by omega), p1, hn2, k_ix (by omega) (by omega), k_lt, tn0, up_na _ _ _ _ (by omega), up_na _ _ _ _ (by omega), p1, hn2, k_lt, up_ss]
            obtain ⟨V1, d1⟩ : ∃ V1, V1 = sj_up (sj_up (sj_up V (a + 43 + 1) n c) (a + 43 + 2) n x2) (a + 43) 2 ((n : Int) + 1) := ⟨_, rfl⟩
            rw [← d1]
            have u1 : ∀ z, (z < a + 43 ∨ a + 46 ≤ z) → V1 z = V z := fun z hz => by rw [d1, up_row _ _ _ (by omega), up_row _ _ _ (by omega), up_row _ _ _ (by omega)]
            have w1 : V1 (b + 1) = V (b + 1) := u1 _ (by omega)
            obtain ⟨V2, d2⟩ : ∃ V2, V2 = sj_up (sj_up (sj_up V1 (b + 1) (365 + n) c) (b + 1) (377 + n) x2) (b + 1) 364 ((n : Int) + 1) := ⟨_, rfl⟩
            have w2 : V2 (b + 1) = wUp (wUp (wUp (V (b + 1)) (365 + n) c) (377 + n) x2) 364 ((n : Int) + 1) := by rw [d2]; exact up_wUp (up_wUp (up_wUp w1 _ _) _ _) _ _
            have e : ∀ j, j ≠ 364 → j ≠ 365 + n → j ≠ 377 + n → wUp (wUp (wUp (V (b + 1)) (365 + n) c) (377 + n) x2) 364 ((n : Int) + 1) j = V (b + 1) j := fun j j1 j2 j3 => by rw [wUp_n _ _ j1, wUp_n _ _ j3, wUp_n _ _ j2]
            have s1 : wUp (wUp (wUp (V (b + 1)) (365 + n) c) (377 + n) x2) 364 ((n : Int) + 1) (365 + n) = c := by rw [wUp_n _ _ (by omega), wUp_n _ _ (by omega), wUp_s]
            have s2 : wUp (wUp (wUp (V (b + 1)) (365 + n) c) (377 + n) x2) 364 ((n : Int) + 1) (377 + n) = x2 := by rw [wUp_n _ _ (by omega), wUp_s]
            refine ⟨_, V1, V2, rfl, ?_, ?_⟩
            · rw [mh V1 w1, if_neg y]
              unfold g_X9_point_73
              rw [k_ix (by omega) (by omega), k_lt, k_ix (by omega) (by omega), k_lt, k_ix (by omega) (by omega), k_ix (by omega) (by omega), k_lt, k_ix (by omega) (by omega), show (365 + (n : Int)).toNat = 365 + n by omega, show (377 + (n : Int)).toNat = 377 + n by omega, show (364 : Int).toNat = 364 from rfl, up_ss, up_nk _ _ _ (by omega), up_nk _ _ _ (by omega), w1, hn2, ← d2]
            · refine hI.held hab u1 (fun z hz => by rw [d2, up_row _ _ _ hz, up_row _ _ _ hz, up_row _ _ _ hz]) w2 (fun j hj => e j (by omega) (by omega) (by omega)) ⟨⟨?_, ?_⟩, ?_, fun i hi => ?_, fun i hi => ?_, fun i hi => ?_⟩
              · rw [d1, up_ss, wUp_s]
              · rw [d1, up_nk _ _ _ (by omega), up_row _ _ _ (by omega), up_row _ _ _ (by omega), e _ (by omega) (by omega) (by omega)]; exact p2
              · rw [wUp_s]; omega
              · by_cases q : i = n
                · subst q
                  rw [s1, s2, d1, up_row _ _ _ (by omega), up_row _ _ _ (by omega), up_ss, up_row _ _ _ (by omega), up_ss]
                  exact ⟨rfl, rfl⟩
                · rw [e _ (by omega) (by omega) (by omega), e _ (by omega) (by omega) (by omega), d1, up_row _ _ _ (by omega), up_row _ _ _ (by omega), up_nk _ _ _ q, up_row _ _ _ (by omega), up_nk _ _ _ q, up_row _ _ _ (by omega)]
                  exact p4 i hi
              · rw [wUp_s] at hi
                by_cases q : i = n
                · subst q
                  rw [s1, s2]; omega
                · rw [e _ (by omega) (by omega) (by omega), e _ (by omega) (by omega) (by omega)]
                  exact p5 i (by omega)
              · rw [wUp_s] at hi
                by_cases q : i + 1 = n
                · rw [q, s1, e _ (by omega) (by omega) (by omega)]
                  rw [if_neg (by omega), show n - 1 = i by omega] at hl1
                  omega
                · rw [e _ (by omega) (by omega) (by omega), e _ (by omega) (by omega) (by omega)]
                  exact p6 i (by omega)
      · refine ⟨-1, V, V, ?_, ?_, hI⟩
        · by_cases y : x1 ≤ last
          · rw [if_pos y]
          · rw [if_neg y]
            by_cases y2 : x2 < 0
            · rw [if_pos y2]
            · rw [if_neg y2, if_pos (by omega)]
        · rw [k_eqF z0 h1 ⟨by omega, by omega⟩, k_ix (by omega) (by omega), k_lt, m_isColumn rfl hR.1 h1, k_cs, if_pos c1, k_eqF (by omega) ⟨by omega, by omega⟩ ⟨by omega, by omega⟩, k_wid h2, m_in h2 ⟨by omega, by omega⟩ ⟨by omega, by omega⟩, k_cs, if_neg c2, k_eqT rfl]
    · rw [if_neg c1, k_eqT rfl]
      refine ⟨_, V, V, rfl, ?_, hI⟩
      rw [k_eqF z0 h1 ⟨by omega, by omega⟩, k_ix (by omega) (by omega), k_lt, m_isColumn rfl hR.1 h1, k_cs, if_neg c1, k_eqT rfl]
end Point
