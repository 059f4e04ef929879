section Read2
variable {V V1 W W1 : sj_VV} {t ga b N L p q : Nat} {B : Nat → Int} {w w0 : sj_R}
def Fm0 (b : Nat) (W W' : sj_VV) : Prop := (∀ z, z ≠ b → z ≠ b + 1 → z ≠ b + 11 → W' z = W z) ∧ (∀ j, (j < 29 ∨ 34 ≤ j) → W' b j = W b j) ∧ ∀ j, 390 ≤ j → W' (b + 1) j = W (b + 1) j
theorem Fm0.tr {W2 : sj_VV} (h : Fm0 b W W1) (h2 : Fm0 b W1 W2) : Fm0 b W W2 := ⟨fun z z1 z2 z3 => (h2.1 z z1 z2 z3).trans (h.1 z z1 z2 z3), fun j hj => (h2.2.1 j hj).trans (h.2.1 j hj), fun j hj => (h2.2.2 j hj).trans (h.2.2 j hj)⟩
theorem Fmr.m0 (h : Fmr b W W1) : Fm0 b W W1 := ⟨h.1, h.2.1, fun j hj => h.2.2 j (by omega)⟩
theorem Fmt.m0 (h : Fmt b W W1) : Fm0 b W W1 := h.r.m0
theorem TB.beg (w : sj_R) {n d : Int} (hn : 4 ≤ n ∧ n ≤ 40) (hd : 1 ≤ d ∧ d ≤ 10) : TB (wBeg w n d) := by
  refine ⟨hn, hd, by rw [wBeg_z _ _ _ (by omega)]; omega, fun c hc => ?_, fun i hi => by rw [wBeg_z _ _ _ (by omega)]; omega, fun l hl => ?_, fun i hi => ?_⟩
  · rw [wBeg_z _ _ _ (by omega), wBeg_g _ _ _ (by omega), wBeg_z _ _ _ (by omega), wBeg_z _ _ _ (by omega)]
    exact ⟨by omega, by omega, by omega, by omega, fun _ => ⟨rfl, rfl⟩⟩
  · obtain ⟨h1, h2, h3⟩ := wBeg_s w n d hl
    rw [h1, h2, h3]; omega
  · rw [wBeg_z _ _ _ (by omega)]
    exact ⟨by omega, fun h => absurd h (by omega)⟩
/-- the reference in fault: the rest of its first line -/
theorem m_reads50 (hT : TX V W t b B L) (hB : BX V W t b L) (hN : 1000 ≤ N) : ∃ W', (e_cs (g_X9_must N b 59 W) fun _u V5 => e_ieq (V5 b 32) 0 (e_cs (g_X9_begins N b 4 1 V5) fun _u V6 => e_cs (g_X9_blanks N b V6) fun _u V7 => g_X9_reads_93 N N b 1 V7) (some ((0 : Int), V5))) = some (0, W') ∧ Fmt b W W' ∧ BX V W' t b L := by
  obtain ⟨W', r1, r2, r3⟩ := m_must1 (N := N) hT hB hN
  rw [r1, k_cs, r3.2.2.1, k_eqF (by omega) ⟨by omega, by omega⟩ ⟨by omega, by omega⟩]
  exact ⟨W', rfl, r2, r3⟩
theorem m_r50 {n d : Int} (hT : TX V W t b B L) (hB : BX V W t b L) (hN : 1000 ≤ N) : ∃ W', (e_cs (g_X9_must N b 59 W) fun _u V5 => e_ieq (V5 b 32) 0 (e_cs (g_X9_begins N b n d V5) fun _u V6 => e_cs (g_X9_blanks N b V6) fun _u V7 => g_X9_reads_93 N N b 1 V7) (some ((0 : Int), V5))) = some (0, W') ∧ Fmt b W W' ∧ BX V W' t b L := by
  obtain ⟨W', r1, r2, r3⟩ := m_must1 (N := N) hT hB hN
  rw [r1, k_cs, r3.2.2.1, k_eqF (by omega) ⟨by omega, by omega⟩ ⟨by omega, by omega⟩]
  exact ⟨W', rfl, r2, r3⟩
theorem j_read (hT : TX V W t b B L) (h29 : W b 29 = 0) (h32 : W b 32 = 0) (h30 : W b 30 = 0) (h31 : W b 31 = -1) (hIs : ∀ k, k < 18 → W (b + 11) k = 0) (hb3 : V (ga + 12) 3 = 0 ∨ V (ga + 12) 3 = 1) (hd : ga + 14 ≤ t) (hN : 1000 ≤ N) : ∃ r V' r2 W', g_X7_read N t ga V = some (r, V') ∧ g_X9_reads N b W = some (r2, W') ∧ Fcr t ga V V' ∧ Fm0 b W W' ∧ ((r = r2 ∧ (1 ≤ r ∧ r ≤ 1000) ∧ DN V' W' t ga b (W (b + 1))) ∨ (r = -1 ∧ BX V' W' t b L)) := by
  have hL := hT.2.2.1
  unfold g_X7_read g_X9_reads
  rw [k_lt, k_lt, k_lt, k_lt]
  obtain ⟨V1, d1⟩ : ∃ V1, V1 = sj_up (sj_up (sj_up (sj_up V t 2 0) t 3 0) t 4 (-1)) t 7 0 := ⟨_, rfl⟩
  rw [← d1]
  have u1 : ∀ z, z ≠ t → V1 z = V z := fun z hz => by rw [d1, up_row _ _ _ hz, up_row _ _ _ hz, up_row _ _ _ hz, up_row _ _ _ hz]
  have x2 : V1 t 2 = 0 := by rw [d1, up_nk _ _ _ (by omega), up_nk _ _ _ (by omega), up_nk _ _ _ (by omega), up_ss]
  have x3 : V1 t 3 = 0 := by rw [d1, up_nk _ _ _ (by omega), up_nk _ _ _ (by omega), up_ss]
  have x4 : V1 t 4 = -1 := by rw [d1, up_nk _ _ _ (by omega), up_ss]
  have x7 : V1 t 7 = 0 := by rw [d1, up_ss]
  have xj : ∀ j, (j < 2 ∨ 8 ≤ j) → V1 t j = V t j := fun j hj => by rw [d1, up_nk _ _ _ (by omega), up_nk _ _ _ (by omega), up_nk _ _ _ (by omega), up_nk _ _ _ (by omega)]
  have F1 : Fcr t ga V V1 := ⟨fun z z1 _ => u1 z z1, xj, fun q => by rw [u1 _ q]⟩
  have hT1 : TX V1 W t b B L := ⟨by rw [xj 1 (by omega)]; exact hT.1, hT.2.1, hT.2.2.1, fun i hi => by rw [u1 _ (by omega)]; exact hT.2.2.2.1 i hi, hT.2.2.2.2⟩
  obtain ⟨V2, s1, s2, s3, s4⟩ := c_skip (N := N) hT1 (p := 0) (by omega) x2 hN
  have F2 : Fct t V1 V2 := ⟨s3, fun j hj => s4 j (by omega)⟩
  obtain ⟨W1, m1, m2, m3, m4⟩ := m_blanks (N := N) hT1 (p := 0) (by omega) h29 hN
  have G1 : Fmt b W W1 := ⟨m3, fun j hj => m4 j (by omega)⟩
  have hsk := sk_in (B := B) (L := L) (p := 0) (by omega)
  obtain ⟨p, hp⟩ : ∃ p, p = sk B L 0 := ⟨_, rfl⟩
  rw [← hp] at s2 m2 hsk
  have hT2 := (hT1.c F2).m G1
  have w32 : W1 b 32 = 0 := by rw [m4 32 (by omega)]; exact h32
  obtain ⟨V3, c1, c2, c3, c4, c5, c6, c7⟩ := c_readWord (N := N) hT2 hsk.2 s2 hN
  have hT3 := hT2.c c2
  obtain ⟨rw_, j1, j2, j3, j4⟩ := jw (N := N) hT3 0 (by omega) [99, 111, 108, 117, 109, 110, 115] rfl (by decide) (by decide) (by decide) hsk.2 c5 c4 m2 hN
  have j2' : g_X9_spells N b 7 99 111 108 117 109 110 115 W1 = some (rw_, W1) := j2
  have FC3 := F1.tr (F2.tr c2).r
  have hwe := we_in (B := B) hsk.2
  unfold g_X7_readColumns g_X9_reads_50
  rw [s1, k_cs, c1, k_cs, j1, k_cs, m1, k_cs, j2', k_cs]
  rcases j3 with z | z
  · -- not the word
    have fw : Fmt b W1 (sj_up (sj_up (sj_up W1 b 32 1) b 30 1) b 31 p) := ((Fmt.rf.up (by omega) (by omega)).up (by omega) (by omega)).up (by omega) (by omega)
    obtain ⟨W2, e2⟩ : ∃ W2, W2 = sj_up (sj_up (sj_up W1 b 32 1) b 30 1) b 31 p := ⟨_, rfl⟩
    have y32 : W2 b 32 = 1 := by rw [e2, up_nk _ _ _ (by omega), up_nk _ _ _ (by omega), up_ss]
    rw [← e2] at fw
    have fc4 : Fct t V3 (sj_up (sj_up V3 t 3 1) t 4 p) := (Fct.rf.up (by omega) (by omega)).up (by omega) (by omega)
    have hBX : BX (sj_up (sj_up V3 t 3 1) t 4 p) W2 t b L := ⟨by rw [up_nk _ _ _ (by omega), up_ss, e2, up_nk _ _ _ (by omega), up_ss], by rw [up_ss, e2, up_ss], y32, p, hsk.2, by rw [e2, up_nk _ _ _ (by omega), up_nk _ _ _ (by omega), up_nk _ _ _ (by omega)]; exact m2⟩
    obtain ⟨W3, q1, q2, q3⟩ := m_r50 (N := N) (n := 4) (d := 1) ((hT3.c fc4).m fw) hBX hN
    rw [k_eqT z, fail_eq, k_cs, k_zs (Or.inl rfl), k_cs, k_eqT rfl, k_eqT z, m2, m_wrong w32, k_cs, ← e2, m_numW y32, k_cs, m_numW y32, k_cs, q1, c5]
    exact ⟨_, _, _, W3, rfl, rfl, FC3.tr fc4.r, (G1.m0.tr fw.m0).tr q2.m0, Or.inr ⟨rfl, q3⟩⟩
  · have ewe : we B L p = p + 7 := j4 z
    obtain ⟨W2, e2⟩ : ∃ W2, W2 = sj_up W1 b 29 ((p : Int) + 7) := ⟨_, rfl⟩
    have G2 : Fmt b W1 W2 := by rw [e2]; exact Fmt.rf.up (by omega) (by omega)
    have P0 : PX V3 W2 t b B L (we B L p) := ⟨hT3.m G2, ⟨by rw [e2, up_ss, ewe]; omega, hwe.2, c3⟩, ⟨⟨by rw [c6, s4 3 (by omega)]; exact x3, by rw [c7, s4 4 (by omega)]; exact x4⟩, by rw [e2, up_nk _ _ _ (by omega)]; exact w32, by rw [e2, up_nk _ _ _ (by omega), m4 30 (by omega)]; exact h30, by rw [e2, up_nk _ _ _ (by omega), m4 31 (by omega)]; exact h31⟩⟩
    rw [z, k_eqF (by omega) ⟨by omega, by omega⟩ ⟨by omega, by omega⟩, k_eqF (by omega) ⟨by omega, by omega⟩ ⟨by omega, by omega⟩, m2, k_lt, ← e2]
    obtain ⟨V4, W3, f4, g3, o3⟩ := P0.num (N := N) (lo := 4) (hi := 40) (by omega) (by omega) hN
    rcases o3 with ⟨n, q3, a1, b1, nb, P3, _⟩ | ⟨a1, b1, B3, T3⟩
    · rw [a1, k_cs, k_eqF (by omega) ⟨by omega, by omega⟩ ⟨by omega, by omega⟩, b1, k_cs]
      obtain ⟨V5, W4, f5, g4, o4⟩ := P3.num (N := N) (lo := 1) (hi := 10) (by omega) (by omega) hN
      rcases o4 with ⟨d, q4, a2, b2, db, P4, _⟩ | ⟨a2, b2, B4, T4⟩
      · rw [a2, k_cs, k_eqF (by omega) ⟨by omega, by omega⟩ ⟨by omega, by omega⟩, b2, k_cs]
        obtain ⟨V6, i1, i2, i3, i4, i5, i6⟩ := c_begin (N := N) (ga := ga) (n := n) (d := d) (V := V5) (W (b + 1)) (by omega)
        obtain ⟨y1, ⟨y21, y22, y23⟩, ⟨⟨y31, y32⟩, y33, y34, y35⟩⟩ := id P4
        have et : V6 t = V5 t := i2 _ (by omega)
        have et1 : V6 (t + 1) = V5 (t + 1) := i2 _ (by omega)
        have T6 : TX V6 W4 t b B L := ⟨by rw [et]; exact y1.1, y1.2.1, y1.2.2.1, fun i hi => by rw [et1]; exact y1.2.2.2.1 i hi, y1.2.2.2.2⟩
        have hs4 := sk_in (B := B) y22
        obtain ⟨r, V7, e1, e3, e4, e5⟩ := c_readEnd (N := N) T6 hs4.2 (by rw [et]; exact y23) hN
        obtain ⟨W5, k1, k2, k3, k4, k5, k6⟩ := m_must (N := N) T6 y22 y21 rfl (Or.inl y33) hN
        have FC6 : Fcr t ga V5 V6 := ⟨fun z _ z2 => i2 z z2, fun j _ => by rw [et], fun _ => i6⟩
        have FC := ((FC3.tr (f4.tr f5).r).tr FC6).tr e3.r
        have GM := (((G1.tr G2).tr g3).tr g4).tr k2
        rw [i1, k_cs, e1, k_cs, k1, k_cs]
        by_cases u : endK B L (sk B L q4)
        · obtain ⟨z1, z2, z3, z4⟩ := e4 u
          obtain ⟨o1, o2, o3, o4⟩ := k3 y33 u
          have uu := u.1
          obtain ⟨W6, p1, p2, p3⟩ := m_begins (N := N) (b := b) (n := n) (d := d) (V := W5) (by omega)
          have eW5 : W5 (b + 1) = W (b + 1) := GM.1 _ (by omega)
          rw [eW5] at p3
          have T7 : TX V7 W6 t b B L := by
            have T6' := (T6.c e3).m k2
            exact ⟨T6'.1, by rw [p2 _ (by omega)]; exact T6'.2.1, T6'.2.2.1, T6'.2.2.2.1, fun i hi => by rw [p2 _ (by omega)]; exact T6'.2.2.2.2 i hi⟩
          obtain ⟨W7, n1, n2, n3, n4⟩ := m_blanks (N := N) T7 (p := sk B L q4 + 1) (by omega) (by rw [p2 _ (by omega)]; exact o1) hN
          have GB : Fmt b W6 W7 := ⟨n3, fun j hj => n4 j (by omega)⟩
          have hs7 := sk_in (B := B) (L := L) (p := sk B L q4 + 1) (by omega)
          have r7 : W7 (b + 1) = wBeg (W (b + 1)) n d := by rw [n3 _ (by omega)]; exact p3
          have v12 : V7 (ga + 12) = V6 (ga + 12) := e3.1 _ (by omega)
          have v5 : V5 (ga + 12) 3 = V (ga + 12) 3 := by rw [(f4.tr f5).1 _ (by omega), (F2.tr c2).1 _ (by omega), u1 _ (by omega)]
          have hX7 : RX V7 W7 t ga b B L (W (b + 1)) (sk B L (sk B L q4 + 1)) := by
            refine ⟨T7.m GB, ⟨0, by omega, ?_, fun k hk => ?_⟩, ⟨n2, hs7.2, ?_⟩, ⟨⟨by rw [z3, et]; exact y31, by rw [z4, et]; exact y32⟩, by rw [n4 32 (by omega), p2 _ (by omega)]; exact o2, by rw [n4 30 (by omega), p2 _ (by omega), o3]; exact y34, by rw [n4 31 (by omega), p2 _ (by omega), o4]; exact y35⟩, ?_, by rw [r7]; exact TB.beg _ nb db, ?_, ?_, fun j hj => by rw [r7, wBeg_o _ _ _ hj]⟩
            · rw [e3.2 7 (by omega), et, (f4.tr f5).2 7 (by omega), (F2.tr c2).2 7 (by omega)]; exact x7
            · have : W7 (b + 11) k = 0 := by rw [n3 _ (by omega), p2 _ (by omega), GM.1 _ (by omega)]; exact hIs k hk
              rw [this]
              exact ⟨Or.inl rfl, fun h => by omega, fun h => by simp at h⟩
            · rw [sk_sk (by omega)]; exact z2
            · rw [r7]
              exact i3.fr (lo := t) (hi := t + 1) (fun z hz => e3.1 z (by omega)) (by omega)
            · rw [v12]
              exact ⟨i4, i5, by rw [i6, v5]; exact hb3⟩
            · rw [r7]
              exact ⟨wBeg_f _ _ _, wBeg_z _ _ _ (by omega)⟩
          rw [z1, k_zs (Or.inr rfl), k_cs, k_eqF (by omega) ⟨by omega, by omega⟩ ⟨by omega, by omega⟩, k_eqT o2, p1, k_cs, n1, k_cs]
          obtain ⟨r', V8, r2, W8, l1, l2, l3, l4, l5⟩ := lines_loop (N := N) hd hN N (sk B L (sk B L q4 + 1)) 1 V7 W7 hX7 (sk_sk (by omega)) (by omega) (by omega) (by omega)
          have l1' : g_X7_read_36 N N t ga 1 V7 = some (r', V8) := l1
          have l2' : g_X9_reads_93 N N b 1 W7 = some (r2, W8) := l2
          rw [l1', l2']
          have gB : Fm0 b W5 W6 := ⟨fun z z1 z2 z3 => p2 z z2, fun j _ => by rw [p2 _ (by omega)], fun j hj => by rw [p3, wBeg_o _ _ _ (by omega), ← eW5]⟩
          exact ⟨r', V8, r2, W8, rfl, rfl, FC.tr l3, ((GM.m0.tr gB).tr GB.m0).tr l4.m0, l5⟩
        · obtain ⟨z1, z2, z3⟩ := e5 u
          obtain ⟨o1, o2, o3⟩ := k4 y33 u
          rw [z1, k_zs (Or.inl rfl), k_cs, k_eqT rfl, o1, k_eqF (by omega) ⟨by omega, by omega⟩ ⟨by omega, by omega⟩]
          exact ⟨_, V7, _, W5, rfl, rfl, FC, GM.m0, Or.inr ⟨rfl, by rw [z2, o2], by rw [z3, o3], o1, k6⟩⟩
      · obtain ⟨W5, q1, q2, q3⟩ := m_r50 (N := N) (n := n) (d := 1) T4 B4 hN
        rw [a2, k_cs, k_eqT rfl, k_zs (Or.inl rfl), k_cs, k_eqT rfl, b2, k_cs, q1]
        exact ⟨_, V5, _, W5, rfl, rfl, FC3.tr (f4.tr f5).r, (((G1.tr G2).tr g3).tr g4).m0.tr q2.m0, Or.inr ⟨rfl, q3⟩⟩
    · obtain ⟨W5, q1, q2, q3⟩ := m_r50 (N := N) (n := 4) (d := 1) T3 B3 hN
      rw [a1, k_cs, k_eqT rfl, k_zs (Or.inl rfl), k_cs, k_eqT rfl, b1, k_cs, m_numW B3.2.2.1, k_cs, q1]
      exact ⟨_, V4, _, W5, rfl, rfl, FC3.tr f4.r, ((G1.tr G2).tr g3).m0.tr q2.m0, Or.inr ⟨rfl, q3⟩⟩
end Read2
