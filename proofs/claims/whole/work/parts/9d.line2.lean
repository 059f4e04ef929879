section Line2
variable {V V1 W W1 : sj_VV} {t ga b N L p q : Nat} {B : Nat → Int} {w w0 : sj_R}
/-- ground, rock, water, load: a row -/
theorem line_row {k pl : Nat} {most : Int} (hr : RP2 (k + 1) 0 pl most) (hk : k ≤ 3) (hX : RX V W t ga b B L w0 p) (hd : ga + 14 ≤ t) (f1 : Fct t V V1) (h2 : V1 t 2 = (sk B L (we B L p) : Nat)) (h5 : V1 t 5 = (p : Nat)) (h3 : V1 t 3 = V t 3) (h4 : V1 t 4 = V t 4) (hN : 1000 ≤ N) (hM : ∀ (W3 : sj_VV) (v : Int), g_X9_wordEnd N b W3 = some (v, W3) → W3 b 32 = 0 → g_X9_line_39 N b k W3 = e_cs (g_X9_runs N b pl most (sj_up W3 b 29 v)) fun _u V4 => g_X9_line_216 N b V4) : LE t ga b B L w0 V W (e_cs (g_X7_isNew N t k V1) fun v5 V4 => e_ieq v5 0 (e_zs 0 V4) (e_cs (g_X7_readRow N t (ga + (k + 1)) 41 0 (V4 ga 0) most V4) fun v7 V6 => e_ieq v7 0 (e_zs 0 V6) (e_zs 1 V6))) (e_cs (g_X9_tells N b k (p : Nat) W) fun _u V4 => g_X9_line_39 N b k V4) := by
  have n40 := hX.2.2.2.2.2.1.1
  have hpl := hX.2.2.1.2.1
  have hwe := we_in (B := B) hpl
  obtain ⟨r, V2, W1, r1, r2, r3, r4, r5, r6, r7, r8⟩ := hX.wnew (N := N) (k := k) hd f1 h2 h5 h3 h4 (by omega)
  have e : ((tdB k : Nat) : Int) = (k : Int) := by unfold tdB; rw [if_pos (by omega)]
  rw [e] at r1
  have p29 : W1 b 29 = (p : Nat) := by rw [r6]; exact hX.2.2.1.1
  have ewe := m_wordEnd (N := N) r7 hpl p29 hN
  rw [r1, k_cs, r2, k_cs]
  rcases r8 with ⟨s1, s2, s3⟩ | ⟨s1, s2, s3⟩
  · obtain ⟨n, hn⟩ : ∃ n : Nat, W (b + 1) 0 = n := ⟨(W (b + 1) 0).toNat, by omega⟩
    have hn2 : sj_up W1 b 29 (we B L p : Nat) (b + 1) 0 = (n : Nat) := by rw [up_row _ _ _ (by omega), r5]; exact hn
    have eg : V2 ga 0 = (n : Nat) := by rw [s3.2.2.2.2.1.1.1]; exact hn2
    obtain ⟨r', V3, W3, g1, g2, g3, g4, g5⟩ := LE.row (N := N) (n1 := 41) hr (by omega) (by omega) hd s3 hn2 hN
    rw [hM W1 _ ewe s2, s1, k_eqF (by omega) ⟨by omega, by omega⟩ ⟨by omega, by omega⟩, eg]
    have r01 : r' = 0 ∨ r' = 1 := by rcases g5 with z | z; exact Or.inr z.1; exact Or.inl z.1
    have g1' : (e_cs (g_X7_readRow N t (ga + (k + 1)) 41 0 n most V2) fun v7 V6 => e_ieq v7 0 (e_zs 0 V6) (e_zs 1 V6)) = some (r', V3) := by
      obtain ⟨rr, Vr, Wr, Wr', a1, a2, a3, a4, a5, a6⟩ := row_eq (N := N) (n1 := 41) hr (by omega) (by omega) hd s3 hn2 hN
      have a1' : g_X7_readRow N t (ga + (k + 1)) 41 0 n most V2 = some (rr, Vr) := a1
      have g1a : (e_cs (g_X7_readRow N t (ga + (k + 1)) 41 0 n most V2) fun v V1 => e_zs v V1) = some (r', V3) := g1
      rw [a1', k_cs] at g1a ⊢
      rw [zs_01 _ _ (by rcases a6 with z | z; exact Or.inr z.1; exact Or.inl z.1)]
      exact g1a
    rw [g1', g2]
    refine ⟨r', V3, W3, rfl, rfl, (f1.r.tr r3).tr g3, r4.tr g4, ?_⟩
    rcases g5 with ⟨y1, y2, y3⟩ | y
    · exact Or.inl ⟨y1, y2, by rw [up_ss] at y3; rw [hX.2.2.1.1]; omega⟩
    · exact Or.inr y
  · have e39 : g_X9_line_39 N b k W1 = some ((), sj_up W1 b 29 (we B L p : Nat)) := by
      unfold g_X9_line_39
      rw [ewe, k_cs, k_lt, up_nk _ _ _ (by omega), s2, k_eqF (by omega) ⟨by omega, by omega⟩ ⟨by omega, by omega⟩]
    rw [s1, k_eqT rfl, k_zs (Or.inl rfl), e39]
    exact LE.bad (f1.r.tr r3) r4 s3
theorem j_line (hX : RX V W t ga b B L w0 p) (hp : sk B L p = p) (hd : ga + 14 ≤ t) (hN : 1000 ≤ N) : LE t ga b B L w0 V W (g_X7_readLine N t ga V) (g_X9_line N b W) := by
  obtain ⟨a1, a2, ⟨a31, a32, a33⟩, ⟨⟨a41, a42⟩, a43, a44, a45⟩, _⟩ := id hX
  rw [hp] at a33
  have hwe := we_in (B := B) a32
  obtain ⟨V1, c1, c2, c3, c4, c5, c6, c7⟩ := c_readWord (N := N) a1 a32 a33 hN
  obtain ⟨k, k1, k2, k3⟩ := j_kind (N := N) (a1.c c2) a32 c5 c4 a31 hN
  have ewe := m_wordEnd (N := N) a1 a32 a31 hN
  -- what stands once the word is read
  have fu : Fmt b W (sj_up W b 29 (we B L p : Nat)) := Fmt.rf.up (by omega) (by omega)
  have hX2 : RX V1 (sj_up W b 29 (we B L p : Nat)) t ga b B L w0 (we B L p) := hX.step hd c2 fu (up_ss _ _ _ _) hwe.2 c3 ⟨c6, c7⟩ ⟨by rw [up_nk _ _ _ (by omega)]; exact a43, by rw [up_nk _ _ _ (by omega)], by rw [up_nk _ _ _ (by omega)]⟩
  have w32 : sj_up W b 29 ((we B L p : Nat) : Int) b 32 = 0 := by rw [up_nk _ _ _ (by omega)]; exact a43
  unfold g_X7_readLine g_X9_line g_X9_line_21
  rw [c1, k_cs, k2, k_cs, k_lt, a31, k3, k_cs]
  rcases (show k = 0 ∨ k = 1 ∨ k = 2 ∨ k = 3 ∨ k = 4 ∨ k = 5 ∨ k = 6 ∨ k = 7 ∨ k = 8 by omega) with z | z | z | z | z | z | z | z | z
  · subst z
    rw [show ckL 0 = 0 from rfl, show mkL 0 = 0 from rfl, k_sw ⟨by omega, by omega⟩, if_pos rfl, k_eqF (by omega) ⟨by omega, by omega⟩ ⟨by omega, by omega⟩, k_wid ⟨by omega, by omega⟩, m_in ⟨by omega, by omega⟩ ⟨by omega, by omega⟩ ⟨by omega, by omega⟩, k_cs, if_pos (by omega), k_eqF (by omega) ⟨by omega, by omega⟩ ⟨by omega, by omega⟩]
    refine line_row (N := N) (k := 0) RP2.g (by omega) hX hd c2 c3 c5 c6 c7 hN (fun W3 v h h' => ?_)
    show g_X9_line_39 N b 0 W3 = _
    unfold g_X9_line_39
    rw [h, k_cs, k_lt, k_eqT (by rw [up_nk _ _ _ (by omega)]; exact h'), k_sw ⟨by omega, by omega⟩, if_pos rfl]
    rfl
  · subst z
    rw [show ckL 1 = 1 from rfl, show mkL 1 = 1 from rfl, k_sw ⟨by omega, by omega⟩, if_neg (by omega), if_pos rfl, k_eqF (by omega) ⟨by omega, by omega⟩ ⟨by omega, by omega⟩, k_wid ⟨by omega, by omega⟩, m_in ⟨by omega, by omega⟩ ⟨by omega, by omega⟩ ⟨by omega, by omega⟩, k_cs, if_pos (by omega), k_eqF (by omega) ⟨by omega, by omega⟩ ⟨by omega, by omega⟩]
    refine line_row (N := N) (k := 1) RP2.k (by omega) hX hd c2 c3 c5 c6 c7 hN (fun W3 v h h' => ?_)
    show g_X9_line_39 N b 1 W3 = _
    unfold g_X9_line_39
    rw [h, k_cs, k_lt, k_eqT (by rw [up_nk _ _ _ (by omega)]; exact h'), k_sw ⟨by omega, by omega⟩, if_neg (by omega), if_pos rfl]
    rfl
  · subst z
    rw [show ckL 2 = 2 from rfl, show mkL 2 = 2 from rfl, k_sw ⟨by omega, by omega⟩, if_neg (by omega), if_neg (by omega), if_pos rfl, k_eqF (by omega) ⟨by omega, by omega⟩ ⟨by omega, by omega⟩, k_wid ⟨by omega, by omega⟩, m_in ⟨by omega, by omega⟩ ⟨by omega, by omega⟩ ⟨by omega, by omega⟩, k_cs, if_pos (by omega), k_eqF (by omega) ⟨by omega, by omega⟩ ⟨by omega, by omega⟩]
    refine line_row (N := N) (k := 2) RP2.wa (by omega) hX hd c2 c3 c5 c6 c7 hN (fun W3 v h h' => ?_)
    show g_X9_line_39 N b 2 W3 = _
    unfold g_X9_line_39
    rw [h, k_cs, k_lt, k_eqT (by rw [up_nk _ _ _ (by omega)]; exact h'), k_sw ⟨by omega, by omega⟩, if_neg (by omega), if_neg (by omega), if_pos rfl]
    rfl
  · subst z
    rw [show ckL 3 = 3 from rfl, show mkL 3 = 3 from rfl, k_sw ⟨by omega, by omega⟩, if_neg (by omega), if_neg (by omega), if_neg (by omega), if_pos rfl, k_eqF (by omega) ⟨by omega, by omega⟩ ⟨by omega, by omega⟩, k_wid ⟨by omega, by omega⟩, m_in ⟨by omega, by omega⟩ ⟨by omega, by omega⟩ ⟨by omega, by omega⟩, k_cs, if_pos (by omega), k_eqF (by omega) ⟨by omega, by omega⟩ ⟨by omega, by omega⟩]
    refine line_row (N := N) (k := 3) RP2.l (by omega) hX hd c2 c3 c5 c6 c7 hN (fun W3 v h h' => ?_)
    show g_X9_line_39 N b 3 W3 = _
    unfold g_X9_line_39
    rw [h, k_cs, k_lt, k_eqT (by rw [up_nk _ _ _ (by omega)]; exact h'), k_sw ⟨by omega, by omega⟩, if_neg (by omega), if_neg (by omega), if_neg (by omega), if_pos rfl]
    rfl
  · subst z
    obtain ⟨r, V2, W1, r1, r2, r3, r4, r5, r6, r7, r8⟩ := hX.wnew (N := N) (k := 4) hd c2 c3 c5 c6 c7 (by omega)
    have r1' : g_X7_isNew N t 4 V1 = some (r, V2) := r1
    have r2' : g_X9_tells N b 4 (p : Nat) W = some ((), W1) := r2
    have ewe1 := m_wordEnd (N := N) r7 a32 (by rw [r6]; exact a31) hN
    rw [show ckL 4 = 4 from rfl, show mkL 4 = 4 from rfl, k_sw ⟨by omega, by omega⟩, if_neg (by omega), if_neg (by omega), if_neg (by omega), if_neg (by omega), if_pos rfl, k_eqF (by omega) ⟨by omega, by omega⟩ ⟨by omega, by omega⟩, k_wid ⟨by omega, by omega⟩, m_in ⟨by omega, by omega⟩ ⟨by omega, by omega⟩ ⟨by omega, by omega⟩, k_cs, if_pos (by omega), k_eqF (by omega) ⟨by omega, by omega⟩ ⟨by omega, by omega⟩, r1', k_cs, r2', k_cs]
    unfold g_X9_line_39
    rw [ewe1, k_cs, k_lt]
    rcases r8 with ⟨s1, s2, s3⟩ | ⟨s1, s2, s3⟩
    · rw [s1, k_eqF (by omega) ⟨by omega, by omega⟩ ⟨by omega, by omega⟩, k_eqT (by rw [up_nk _ _ _ (by omega)]; exact s2), k_sw ⟨by omega, by omega⟩, if_neg (by omega), if_neg (by omega), if_neg (by omega), if_neg (by omega), if_pos rfl]
      obtain ⟨r', V3, W3, g1, g2, g3, g4, g5⟩ := (LE.quake (N := N) s3 hd hN)
      rw [g1, k_cs, g2]
      refine ⟨r', V3, W3, ?_, rfl, (c2.r.tr r3).tr g3, r4.tr g4, by
        rcases g5 with ⟨y1, y2, y3⟩ | y
        · exact Or.inl ⟨y1, y2, by rw [up_ss] at y3; rw [a31]; omega⟩
        · exact Or.inr y⟩
      rcases g5 with y | y
      · rw [y.1, k_eqF (by omega) ⟨by omega, by omega⟩ ⟨by omega, by omega⟩, k_zs (Or.inr rfl)]
      · rw [y.1, k_eqT rfl, k_zs (Or.inl rfl)]
    · rw [s1, k_eqT rfl, k_zs (Or.inl rfl), up_nk _ _ _ (by omega), s2, k_eqF (by omega) ⟨by omega, by omega⟩ ⟨by omega, by omega⟩]
      exact LE.bad (c2.r.tr r3) r4 s3
  · subst z
    rw [show ckL 5 = 5 from rfl, show mkL 5 = 5 from rfl, k_sw ⟨by omega, by omega⟩, if_neg (by omega), if_neg (by omega), if_neg (by omega), if_neg (by omega), if_neg (by omega), if_pos rfl, k_eqF (by omega) ⟨by omega, by omega⟩ ⟨by omega, by omega⟩, k_wid ⟨by omega, by omega⟩, m_in ⟨by omega, by omega⟩ ⟨by omega, by omega⟩ ⟨by omega, by omega⟩, k_cs, if_neg (by omega), k_eqT rfl]
    unfold g_X9_line_39
    rw [ewe, k_cs, k_lt, k_eqT w32, k_sw ⟨by omega, by omega⟩, if_neg (by omega), if_neg (by omega), if_neg (by omega), if_neg (by omega), if_neg (by omega), if_pos rfl]
    exact (LE.zs (LE.top (N := N) hX2 hd hN)).pre c2.r fu.r (by rw [up_ss, a31]; omega)
  · subst z
    rw [show ckL 6 = 9 from rfl, show mkL 6 = 6 from rfl, k_sw ⟨by omega, by omega⟩, if_neg (by omega), if_neg (by omega), if_neg (by omega), if_neg (by omega), if_neg (by omega), if_neg (by omega), if_neg (by omega), if_neg (by omega), if_neg (by omega), if_pos rfl, k_eqF (by omega) ⟨by omega, by omega⟩ ⟨by omega, by omega⟩, k_wid ⟨by omega, by omega⟩, m_in ⟨by omega, by omega⟩ ⟨by omega, by omega⟩ ⟨by omega, by omega⟩, k_cs, if_neg (by omega), k_eqT rfl]
    unfold g_X9_line_39
    rw [ewe, k_cs, k_lt, k_eqT w32, k_sw ⟨by omega, by omega⟩, if_neg (by omega), if_neg (by omega), if_neg (by omega), if_neg (by omega), if_neg (by omega), if_neg (by omega), if_pos rfl]
    exact (LE.zs (LE.soil (N := N) hX2 hd hN)).pre c2.r fu.r (by rw [up_ss, a31]; omega)
  · subst z
    rw [show ckL 7 = 13 from rfl, show mkL 7 = 7 from rfl, k_sw ⟨by omega, by omega⟩, if_neg (by omega), if_neg (by omega), if_neg (by omega), if_neg (by omega), if_neg (by omega), if_neg (by omega), if_neg (by omega), if_neg (by omega), if_neg (by omega), if_neg (by omega), if_neg (by omega), if_neg (by omega), if_neg (by omega), if_pos rfl, k_eqF (by omega) ⟨by omega, by omega⟩ ⟨by omega, by omega⟩, k_wid ⟨by omega, by omega⟩, m_in ⟨by omega, by omega⟩ ⟨by omega, by omega⟩ ⟨by omega, by omega⟩, k_cs, if_neg (by omega), k_eqT rfl]
    unfold g_X9_line_39
    rw [ewe, k_cs, k_lt, k_eqT w32, k_sw ⟨by omega, by omega⟩, if_neg (by omega), if_neg (by omega), if_neg (by omega), if_neg (by omega), if_neg (by omega), if_neg (by omega), if_neg (by omega)]
    exact (LE.zs (LE.anchor (N := N) hX2 hd hN)).pre c2.r fu.r (by rw [up_ss, a31]; omega)
  · subst z
    have fw : Fmt b W (sj_up (sj_up (sj_up W b 32 1) b 30 1) b 31 p) := ((Fmt.rf.up (by omega) (by omega)).up (by omega) (by omega)).up (by omega) (by omega)
    have ewe1 := m_wordEnd (N := N) (p := p) (a1.m fw) a32 (by rw [up_nk _ _ _ (by omega), up_nk _ _ _ (by omega), up_nk _ _ _ (by omega)]; exact a31) hN
    rw [show ckL 8 = -1 from rfl, show mkL 8 = -1 from rfl, k_sw ⟨by omega, by omega⟩, if_neg (by omega), if_neg (by omega), if_neg (by omega), if_neg (by omega), if_neg (by omega), if_neg (by omega), if_neg (by omega), if_neg (by omega), if_neg (by omega), if_neg (by omega), if_neg (by omega), if_neg (by omega), if_neg (by omega), if_neg (by omega), fail_eq, k_cs, k_zs (Or.inl rfl), c5, k_eqT rfl, m_wrong a43, k_cs, k_wid ⟨by omega, by omega⟩, m_in ⟨by omega, by omega⟩ ⟨by omega, by omega⟩ ⟨by omega, by omega⟩, k_cs, if_neg (by omega), k_eqT rfl]
    unfold g_X9_line_39
    rw [ewe1, k_cs, k_lt, up_nk _ _ _ (by omega), up_nk _ _ _ (by omega), up_nk _ _ _ (by omega), up_ss, k_eqF (by omega) ⟨by omega, by omega⟩ ⟨by omega, by omega⟩]
    refine LE.bad (c2.tr ((Fct.rf.up (by omega) (by omega)).up (by omega) (by omega))).r (fw.up (by omega) (by omega)).r ⟨?_, ?_, ?_, _, hwe.2, up_ss _ _ _ _⟩
    · rw [up_nk _ _ _ (by omega), up_ss, up_nk _ _ _ (by omega), up_nk _ _ _ (by omega), up_ss]
    · rw [up_ss, up_nk _ _ _ (by omega), up_ss]
    · rw [up_nk _ _ _ (by omega), up_nk _ _ _ (by omega), up_nk _ _ _ (by omega), up_ss]
end Line2
