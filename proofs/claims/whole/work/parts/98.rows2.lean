section Rows2
variable {V V1 W W1 : sj_VV} {t ga b N L : Nat} {B : Nat → Int} {w0 : sj_R}
/-- what a row, and the end of its line, comes to -/
def RowE (t ga b : Nat) (B : Nat → Int) (L : Nat) (w0 : sj_R) (V W : sj_VV) (A : Option (Int × sj_VV)) (C : Option (Unit × sj_VV)) (M : sj_VV → Option (Unit × sj_VV)) : Prop := ∃ r V' W1 W', A = some (r, V') ∧ C = some ((), W1) ∧ M W1 = some ((), W') ∧ Fcr t ga V V' ∧ Fmr b W W' ∧ ((r = 1 ∧ ∃ q', RX V' W' t ga b B L w0 q' ∧ W' (b + 1) 0 = W (b + 1) 0 ∧ W b 29 < W' b 29) ∨ (r = 0 ∧ BX V' W' t b L))
theorem Fcr.upN {x k : Nat} {v : Int} (hd : ga + 14 ≤ t) (hx : ga ≤ x) (hx2 : x < ga + 12) (i : Nat) : Fcr t ga V (upN V x k v i) := ⟨fun z _ z2 => upN_row V k v (by omega) i, fun j _ => by rw [upN_row V k v (by omega) i], fun _ => by rw [upN_row V k v (by omega) i]⟩
theorem row_loop {k off pl n1 n : Nat} {most : Int} (hr : RP2 k off pl most) (hn1 : n1 ≤ 123) (ho : off + 41 ≤ n1) (hd : ga + 14 ≤ t) (hN : 1000 ≤ N) : ∀ (m c q : Nat) (V W : sj_VV), c ≤ n → n + 1 - c ≤ m → W (b + 1) 0 = (n : Nat) → RX V W t ga b B L w0 q → RowE t ga b B L w0 V W (g_X7_readRow_3 N (m + 1) t (ga + k) n1 off n most c V) (g_X9_runs_20 N (g_X9_runs_2 N m) b pl most c W) (g_X9_must N b 59)
  | 0, _, _, _, _, h1, h2, _, _ => absurd h2 (by omega)
  | m + 1, c, q, V, W, h1, h2, hn, hX => by
    obtain ⟨a1, a2, ⟨a31, a32, a33⟩, ⟨⟨a41, a42⟩, a43, a44, a45⟩, a5, a6, a7, a8, a9⟩ := id hX
    obtain ⟨r1, r2, r3, r4, r5, r6, r7⟩ := id hr
    have hL := a1.2.2.1
    have n40 := a6.1
    have hsk := sk_in (B := B) a32
    obtain ⟨p, hp⟩ : ∃ p, p = sk B L q := ⟨_, rfl⟩
    rw [← hp] at a33 hsk
    obtain ⟨V1, c1, c2, c3, c4, c5⟩ := c_num (N := N) (lo := 0) (hi := most) a1 ⟨by omega, by omega⟩ ⟨by omega, by omega⟩ hsk.2 a33 hN
    obtain ⟨W1, m1, m2, m3, m4, m5, m6⟩ := m_num (N := N) (lo := 0) (hi := most) a1 ⟨by omega, by omega⟩ ⟨by omega, by omega⟩ (by omega) a32 a31 a43 hp.symm hN
    have hde := de_in (B := B) hsk.2
    -- the rest, once a run is read
    have fin : ∀ (times qa : Nat) (Va Wa : sj_VV) (v : Int), 1 ≤ times → c + times ≤ n + 1 → 0 ≤ v ∧ v ≤ most → RX Va Wa t ga b B L w0 qa → Wa (b + 1) 0 = (n : Nat) → RowE t ga b B L w0 Va Wa (g_X7_readRow_43 N (g_X7_readRow_3 N (m + 1)) N t (ga + k) n1 off n most c v times 0 Va) (g_X9_runs_94 N (g_X9_runs_2 N (m + 1)) b pl most c v times Wa) (g_X9_must N b 59) := by
      intro times qa Va Wa v t1 t2 hv hXa hna
      obtain ⟨b1, b2, ⟨b31, b32, b33⟩, ⟨⟨b41, b42⟩, b43, b44, b45⟩, b5, b6, b7, b8, b9⟩ := id hXa
      have ef := c_fill (N := N) (V := Va) (v := v) (t := t) (x1 := ga + k) (n1 := n1) (off := off) (n := n) (times := times) (most := most) (c := c) (g_X7_readRow_3 N (m + 1)) (by omega) hn1 N 0 (by omega) (by omega)
      have ef' : g_X7_readRow_43 N (g_X7_readRow_3 N (m + 1)) N t (ga + k) n1 off n most c v times 0 Va = _ := ef
      have eg := m_fill (N := N) (W := Wa) (v := v) (b := b) (pl := pl) (times := times) (most := most) (c := c) (g_X9_runs_2 N (m + 1)) (by omega) N 0 (by omega) (by omega)
      have eg' : g_X9_runs_105 N (g_X9_runs_2 N (m + 1)) N b pl most c v times 0 Wa = _ := eg
      obtain ⟨Vb, hVb⟩ : ∃ Vb, Vb = upN Va (ga + k) (off + c) v times := ⟨_, rfl⟩
      obtain ⟨Wb, hWb⟩ : ∃ Wb, Wb = upN Wa (b + 1) (pl + c) v times := ⟨_, rfl⟩
      rw [← hVb] at ef'
      rw [← hWb] at eg'
      have ub : ∀ z, z ≠ b + 1 → Wb z = Wa z := fun z hz => by rw [hWb]; exact upN_row Wa _ _ hz _
      have uc : ∀ z, z ≠ ga + k → Vb z = Va z := fun z hz => by rw [hVb]; exact upN_row Va _ _ hz _
      have wb : Wb (b + 1) = wUpN (Wa (b + 1)) (pl + c) v times := by rw [hWb]; exact upN_wUpN rfl v times
      have fC := Fcr.upN (V := Va) (t := t) (x := ga + k) (k := off + c) (v := v) hd (by omega) (by omega) times
      rw [← hVb] at fC
      have fM : Fmr b Wa Wb := ⟨fun z z1 z2 z3 => ub z z2, fun j _ => by rw [ub _ (by omega)], fun j hj => by rw [wb, wUpN_n _ _ _ (by omega)]⟩
      obtain ⟨g1, g2, g3⟩ := fill_CG (ga := ga) (c := c) (v := v) hr b5 b6 hv times (by rw [hna]; omega)
      rw [← hVb] at g1
      rw [← wb] at g1 g2 g3
      have hXb : RX Vb Wb t ga b B L w0 qa := by
        refine ⟨⟨by rw [uc _ (by omega)]; exact b1.1, by rw [ub _ (by omega)]; exact b1.2.1, b1.2.2.1, fun i hi => by rw [uc _ (by omega)]; exact b1.2.2.2.1 i hi, fun i hi => by rw [ub _ (by omega)]; exact b1.2.2.2.2 i hi⟩, b2.fr (by rw [uc _ (by omega)]) (ub _ (by omega)), ⟨by rw [ub _ (by omega)]; exact b31, b32, by rw [uc _ (by omega)]; exact b33⟩, ⟨⟨by rw [uc _ (by omega)]; exact b41, by rw [uc _ (by omega)]; exact b42⟩, by rw [ub _ (by omega)]; exact b43, by rw [ub _ (by omega)]; exact b44, by rw [ub _ (by omega)]; exact b45⟩, g1, g2, by rw [uc _ (by omega)]; exact b7, ?_, fun j hj => ?_⟩
        · rw [wb, wUpN_n _ _ _ (by omega), wUpN_n _ _ _ (by omega)]; exact b8
        · rw [wb, wUpN_n _ _ _ (by omega)]; exact b9 j hj
      have nb : Wb (b + 1) 0 = (n : Nat) := by rw [g3]; exact hna
      obtain ⟨d1, d2, ⟨d31, d32, d33⟩, ⟨⟨d41, d42⟩, d43, d44, d45⟩, _⟩ := id hXb
      have hsa := sk_in (B := B) d32
      obtain ⟨pa, hpa⟩ : ∃ pa, pa = sk B L qa := ⟨_, rfl⟩
      rw [← hpa] at d33 hsa
      obtain ⟨Wc, i1, i2, i3, i4⟩ := m_isDigitNext (N := N) d1 d32 d31 hN
      rw [← hpa] at i1 i2
      have fc : Fmt b Wb Wc := ⟨i3, fun j hj => i4 j (by omega)⟩
      have hTc := d1.m fc
      have hXc : RX Vb Wc t ga b B L w0 pa := hXb.step hd Fct.rf fc i2 hsa.2 (by rw [hpa, sk_sk d32, ← hpa]; exact d33) ⟨rfl, rfl⟩ ⟨by rw [i4 32 (by omega)]; exact d43, i4 30 (by omega), i4 31 (by omega)⟩
      have skp : sk B L pa = pa := by rw [hpa]; exact sk_sk d32
      have nc : Wc (b + 1) 0 = (n : Nat) := by rw [i3 _ (by omega)]; exact nb
      -- class and reference after the run
      have eC : g_X7_readRow_43 N (g_X7_readRow_3 N (m + 1)) N t (ga + k) n1 off n most c v times 0 Va = if n < c + times then g_X7_readRow_91 N t n ((c + times : Nat) : Int) Vb else (if pa < L ∧ 48 ≤ B pa ∧ B pa ≤ 57 then g_X7_readRow_3 N (m + 1) t (ga + k) n1 off n most ((c + times : Nat) : Int) Vb else g_X7_readRow_91 N t n ((c + times : Nat) : Int) Vb) := by
        rw [ef']
        unfold g_X7_readRow_43_b
        rw [k_leT (by omega) ⟨by omega, by omega⟩ ⟨by omega, by omega⟩, k_lt, show (c : Int) + (times : Int) = ((c + times : Nat) : Int) by omega, k_ltc ⟨by omega, by omega⟩ ⟨by omega, by omega⟩, c_seesFrom d1 hsa.2 d33 ⟨by omega, by omega⟩ ⟨by omega, by omega⟩, k_cs]
        by_cases y : n < c + times
        · rw [if_pos y, if_pos (by omega)]
        · rw [if_neg y, if_neg (by omega)]
          by_cases y2 : pa < L ∧ 48 ≤ B pa ∧ B pa ≤ 57
          · rw [if_pos y2, if_pos y2, k_eqF (by omega) ⟨by omega, by omega⟩ ⟨by omega, by omega⟩]
          · rw [if_neg y2, if_neg y2, k_eqT rfl]
      have eM : g_X9_runs_94 N (g_X9_runs_2 N (m + 1)) b pl most c v times Wa = if pa < L ∧ 48 ≤ B pa ∧ B pa ≤ 57 then g_X9_runs_20 N (g_X9_runs_2 N m) b pl most ((c + times : Nat) : Int) Wc else g_X9_runs_139 N b ((c + times : Nat) : Int) Wc := by
        unfold g_X9_runs_94
        rw [k_eqT b43, eg']
        show g_X9_runs_2_b N (g_X9_runs_2 N m) b pl most ((c + times : Nat) : Int) Wb = _
        unfold g_X9_runs_2_b
        rw [k_eqT d43, k_eqF (by omega) ⟨by omega, by omega⟩ ⟨by omega, by omega⟩, i1, k_cs]
        by_cases y2 : pa < L ∧ 48 ≤ B pa ∧ B pa ≤ 57
        · rw [if_pos y2, if_pos y2, k_eqF (by omega) ⟨by omega, by omega⟩ ⟨by omega, by omega⟩]
        · rw [if_neg y2, if_neg y2, k_eqT rfl]
      have fMc : Fmr b Wa Wc := fM.tr fc.r
      obtain ⟨y1, V9, e1, e2, e3, e4⟩ := c_readEnd (N := N) d1 hsa.2 d33 hN
      rw [eC, eM]
      unfold RowE
      by_cases hcn : n < c + times
      · -- the row is full
        rw [if_pos hcn]
        have e91 : g_X7_readRow_91 N t n ((c + times : Nat) : Int) Vb = some (y1, V9) := by
          unfold g_X7_readRow_91 g_X7_readRow_118
          rw [k_ltT (by omega) ⟨by omega, by omega⟩ ⟨by omega, by omega⟩, e1, k_cs, k_zs (by
            by_cases u : endK B L pa
            · exact Or.inr (e3 u).1
            · exact Or.inl (e4 u).1)]
        by_cases y2 : pa < L ∧ 48 ≤ B pa ∧ B pa ≤ 57
        · have ne : ¬ endK B L pa := fun u => by have := u.2; omega
          obtain ⟨z1, z2, z3⟩ := e4 ne
          have er : g_X9_runs_20 N (g_X9_runs_2 N m) b pl most ((c + times : Nat) : Int) Wc = some ((), sj_up (sj_up (sj_up Wc b 32 1) b 30 1) b 31 pa) := by
            unfold g_X9_runs_20
            rw [k_ix (by omega) (by omega), show (0 : Int).toNat = 0 from rfl, nc, k_leF (by omega) ⟨by omega, by omega⟩ ⟨by omega, by omega⟩, i2, m_wrong (by rw [i4 32 (by omega)]; exact d43), k_cs]
          have fw : Fmt b Wc (sj_up (sj_up (sj_up Wc b 32 1) b 30 1) b 31 pa) := ((Fmt.rf.up (by omega) (by omega)).up (by omega) (by omega)).up (by omega) (by omega)
          have hBX : BX V9 (sj_up (sj_up (sj_up Wc b 32 1) b 30 1) b 31 pa) t b L := ⟨by rw [z2, up_nk _ _ _ (by omega), up_ss], by rw [z3, up_ss], by rw [up_nk _ _ _ (by omega), up_nk _ _ _ (by omega), up_ss], pa, hsa.2, by rw [up_nk _ _ _ (by omega), up_nk _ _ _ (by omega), up_nk _ _ _ (by omega)]; exact i2⟩
          obtain ⟨W', u1, u2, u3⟩ := m_must1 (N := N) ((hTc.c e2).m fw) hBX hN
          rw [if_pos y2, e91, er]
          exact ⟨y1, V9, _, W', rfl, rfl, u1, fC.tr e2.r, (fMc.tr fw.r).tr u2.r, Or.inr ⟨z1, u3⟩⟩
        · have er : g_X9_runs_139 N b ((c + times : Nat) : Int) Wc = some ((), Wc) := by
            unfold g_X9_runs_139
            rw [k_eqT (by rw [i4 32 (by omega)]; exact d43), k_ix (by omega) (by omega), show (0 : Int).toNat = 0 from rfl, nc, k_ltT (by omega) ⟨by omega, by omega⟩ ⟨by omega, by omega⟩]
          obtain ⟨W', u1, u2, u3, u4, u5, u6⟩ := m_must (N := N) hTc hsa.2 i2 skp (Or.inl (by rw [i4 32 (by omega)]; exact d43)) hN
          have w32 : Wc b 32 = 0 := by rw [i4 32 (by omega)]; exact d43
          rw [if_neg y2, e91, er]
          refine ⟨y1, V9, _, W', rfl, rfl, u1, fC.tr e2.r, fMc.tr u2.r, ?_⟩
          by_cases u : endK B L pa
          · obtain ⟨z1, z2, z3, z4⟩ := e3 u
            obtain ⟨x1, x2, x3, x4⟩ := u3 w32 u
            have := u.1
            exact Or.inl ⟨z1, pa + 1, hXc.step hd e2 u2 x1 (by omega) z2 ⟨z3, z4⟩ ⟨x2, x3, x4⟩, by rw [u2.1 _ (by omega), nc, hna], by rw [x1, b31]; omega⟩
          · obtain ⟨z1, z2, z3⟩ := e4 u
            obtain ⟨x1, x2, x3⟩ := u4 w32 u
            exact Or.inr ⟨z1, by rw [z2, x2], by rw [z3, x3], x1, u6⟩
      · rw [if_neg hcn]
        by_cases y2 : pa < L ∧ 48 ≤ B pa ∧ B pa ≤ 57
        · rw [if_pos y2, if_pos y2]
          obtain ⟨r, V', X1, X', s1, s2, s3, s4, s5, s6⟩ := row_loop hr hn1 ho hd hN m (c + times) pa Vb Wc (by omega) (by omega) nc hXc
          refine ⟨r, V', X1, X', s1, s2, s3, fC.tr s4, fMc.tr s5, ?_⟩
          rcases s6 with ⟨s7, q', s8, s9, s10⟩ | s7
          · exact Or.inl ⟨s7, q', s8, by rw [s9, nc, hna], by rw [i2] at s10; rw [b31]; omega⟩
          · exact Or.inr s7
        · rw [if_neg y2, if_neg y2]
          obtain ⟨Wd, j1, j2, j3, j4⟩ := m_isNext (N := N) hTc hsa.2 i2 (ch := 59) (by omega) hN
          rw [skp] at j1 j2
          have fd : Fmt b Wc Wd := ⟨j3, fun j hj => j4 j (by omega)⟩
          have w32 : Wc b 32 = 0 := by rw [i4 32 (by omega)]; exact d43
          -- the kind of fault
          obtain ⟨kk, hkk⟩ : ∃ kk : Int, kk = if pa < L ∧ B pa = 59 then 2 else 1 := ⟨_, rfl⟩
          have er : g_X9_runs_139 N b ((c + times : Nat) : Int) Wc = some ((), sj_up (sj_up (sj_up Wd b 32 1) b 30 kk) b 31 pa) := by
            unfold g_X9_runs_139 g_X9_runs_171
            rw [k_eqT w32, k_ix (by omega) (by omega), show (0 : Int).toNat = 0 from rfl, nc, k_ltF (by omega) ⟨by omega, by omega⟩ ⟨by omega, by omega⟩, j1, k_cs, j2, m_wrong (by rw [j4 32 (by omega)]; exact w32), m_wrong (by rw [j4 32 (by omega)]; exact w32), k_cs, k_cs, hkk]
            by_cases u : pa < L ∧ B pa = 59
            · rw [if_pos u, if_pos u, k_eqF (by omega) ⟨by omega, by omega⟩ ⟨by omega, by omega⟩]
            · rw [if_neg u, if_neg u, k_eqT rfl]
          have e91 : ∃ V8, g_X7_readRow_91 N t n ((c + times : Nat) : Int) Vb = some (0, V8) ∧ Fct t Vb V8 ∧ V8 t 3 = kk ∧ V8 t 4 = (pa : Nat) := by
            unfold g_X7_readRow_91 g_X7_readRow_118
            rw [k_ltF (by omega) ⟨by omega, by omega⟩ ⟨by omega, by omega⟩, c_sees d1 hsa.2 d33 (by omega), k_cs, hkk]
            by_cases u : pa < L ∧ B pa = 59
            · rw [if_pos u, if_pos u, k_eqF (by omega) ⟨by omega, by omega⟩ ⟨by omega, by omega⟩, fail_eq, k_cs, k_zs (Or.inl rfl), d33]
              exact ⟨_, rfl, (Fct.rf.up (by omega) (by omega)).up (by omega) (by omega), by rw [up_nk _ _ _ (by omega), up_ss], up_ss _ _ _ _⟩
            · obtain ⟨z1, z2, z3⟩ := e4 u
              rw [if_neg u, if_neg u, k_eqT rfl, e1, k_cs, z1, k_zs (Or.inl rfl)]
              exact ⟨V9, rfl, e2, z2, z3⟩
          obtain ⟨V8, q1, q2, q3, q4⟩ := e91
          have fw : Fmt b Wd (sj_up (sj_up (sj_up Wd b 32 1) b 30 kk) b 31 pa) := ((Fmt.rf.up (by omega) (by omega)).up (by omega) (by omega)).up (by omega) (by omega)
          have hBX : BX V8 (sj_up (sj_up (sj_up Wd b 32 1) b 30 kk) b 31 pa) t b L := ⟨by rw [q3, up_nk _ _ _ (by omega), up_ss], by rw [q4, up_ss], by rw [up_nk _ _ _ (by omega), up_nk _ _ _ (by omega), up_ss], pa, hsa.2, by rw [up_nk _ _ _ (by omega), up_nk _ _ _ (by omega), up_nk _ _ _ (by omega)]; exact j2⟩
          obtain ⟨W', u1, u2, u3⟩ := m_must1 (N := N) (((hTc.m fd).m fw).c q2) hBX hN
          rw [q1, er]
          exact ⟨0, V8, _, W', rfl, rfl, u1, fC.tr q2.r, ((fMc.tr fd.r).tr fw.r).tr u2.r, Or.inr ⟨rfl, u3⟩⟩
    -- a fault of a number: the reference goes on, and nothing comes of it
    have badR : ∀ (V2 W2 W3 : sj_VV) (C : Option (Unit × sj_VV)), C = some ((), W3) → Fcr t ga V V2 → Fmr b W W3 → TX V2 W3 t b B L → BX V2 W3 t b L → RowE t ga b B L w0 V W (some (0, V2)) C (g_X9_must N b 59) := by
      intro V2 W2 W3 C hC f1 f2 hT hBX
      obtain ⟨W', u1, u2, u3⟩ := m_must1 (N := N) hT hBX hN
      exact ⟨0, V2, W3, W', rfl, hC, u1, f1, f2.tr u2.r, Or.inr ⟨rfl, u3⟩⟩
    show RowE t ga b B L w0 V W (g_X7_readRow_3_b N (g_X7_readRow_3 N (m + 1)) t (ga + k) n1 off n most c V) _ _
    unfold g_X7_readRow_3_b g_X9_runs_20
    rw [k_ix (by omega) (by omega), show (0 : Int).toNat = 0 from rfl, hn, k_leT (by omega) ⟨by omega, by omega⟩ ⟨by omega, by omega⟩, c1, k_cs, m1, k_cs]
    by_cases ek : nmK B L 0 most p = 0
    · obtain ⟨v1, v2⟩ := nm_ok ek
      obtain ⟨k1, k2, k3⟩ := c4 ek
      obtain ⟨l1, l2, l3⟩ := m5 ek
      have hp2 := sk_in (B := B) hde.2
      obtain ⟨p2, hp2e⟩ : ∃ p2, p2 = sk B L (de B L p) := ⟨_, rfl⟩
      rw [← hp2e] at k1 hp2
      have hT1 := (a1.c c2).m m2
      obtain ⟨W2, j1, j2, j3, j4⟩ := m_isNext (N := N) hT1 hde.2 m3 (ch := 42) (by omega) hN
      rw [← hp2e] at j1 j2
      have f2 : Fmt b W1 W2 := ⟨j3, fun j hj => j4 j (by omega)⟩
      have skp2 : sk B L p2 = p2 := by rw [hp2e]; exact sk_sk hde.2
      have hX2 : RX V1 W2 t ga b B L w0 p2 := hX.step hd c2 (m2.tr f2) j2 hp2.2 (by rw [skp2]; exact k1) ⟨k2, k3⟩ ⟨by rw [j4 32 (by omega)]; exact l1, by rw [j4 30 (by omega)]; exact l2, by rw [j4 31 (by omega)]; exact l3⟩
      have n2 : W2 (b + 1) 0 = (n : Nat) := by rw [j3 _ (by omega), m2.1 _ (by omega)]; exact hn
      rw [if_pos ek, if_pos ek, k_eqF (by omega) ⟨by omega, by omega⟩ ⟨by omega, by omega⟩, k_eqT l1, j1, k_cs]
      unfold g_X7_readTimes
      rw [c_sees (a1.c c2) hp2.2 k1 (by omega), k_cs]
      by_cases st : p2 < L ∧ B p2 = 42
      · have hTs := hX2.1
        have fc3 : Fct t V1 (sj_up V1 t 2 ((p2 : Int) + 1)) := Fct.rf.up (by omega) (by omega)
        have fm3 : Fmt b W2 (sj_up W2 b 29 ((p2 : Int) + 1)) := Fmt.rf.up (by omega) (by omega)
        obtain ⟨V3, s1, s2, s3, s4⟩ := c_skip (N := N) (hTs.c fc3) (p := p2 + 1) (by omega) (up_ss _ _ _ _) hN
        have fc4 : Fct t V1 V3 := fc3.tr ⟨s3, fun j hj => s4 j (by omega)⟩
        have hp3 := sk_in (B := B) (L := L) (p := p2 + 1) (by omega)
        obtain ⟨p3, hp3e⟩ : ∃ p3, p3 = sk B L (p2 + 1) := ⟨_, rfl⟩
        rw [← hp3e] at s2 hp3
        have hT3 := (hTs.c fc4).m fm3
        obtain ⟨V4, x1, x2, x3, x4, x5⟩ := c_num (N := N) (lo := 1) (hi := (n : Int) + 1 - c) hT3 ⟨by omega, by omega⟩ ⟨by omega, by omega⟩ hp3.2 s2 hN
        obtain ⟨W4, y1, y2, y3, y4, y5, y6⟩ := m_num (N := N) (lo := 1) (hi := (n : Int) + 1 - c) hT3 ⟨by omega, by omega⟩ ⟨by omega, by omega⟩ (by omega) (q := p2 + 1) (by omega) (up_ss _ _ _ _) (by rw [up_nk _ _ _ (by omega)]; exact hX2.2.2.2.1.2.1) hp3e.symm hN
        have hde3 := de_in (B := B) hp3.2
        rw [if_pos st, k_eqF (by omega) ⟨by omega, by omega⟩ ⟨by omega, by omega⟩, k_eqF (by omega) ⟨by omega, by omega⟩ ⟨by omega, by omega⟩, k1, k_lt, s1, k_cs, x1, k_cs, k_cs, j2, k_lt, k_ix (by omega) (by omega), up_row _ _ _ (by omega), n2, y1, k_cs]
        by_cases ek3 : nmK B L 1 ((n : Int) + 1 - c) p3 = 0
        · obtain ⟨g1, g2⟩ := nm_ok ek3
          obtain ⟨h1', h2', h3'⟩ := x4 ek3
          obtain ⟨o1, o2, o3⟩ := y5 ek3
          obtain ⟨times, htm⟩ : ∃ times : Nat, nmV B L p3 = times := ⟨(nmV B L p3).toNat, by omega⟩
          rw [if_pos ek3, if_pos ek3, htm, k_eqF (by omega) ⟨by omega, by omega⟩ ⟨by omega, by omega⟩]
          have hX4 : RX V4 W4 t ga b B L w0 (de B L p3) := hX2.step hd (fc4.tr x2) (fm3.tr y2) y3 hde3.2 h1' ⟨by rw [h2', s4 3 (by omega), up_nk _ _ _ (by omega)], by rw [h3', s4 4 (by omega), up_nk _ _ _ (by omega)]⟩ ⟨o1, by rw [o2, up_nk _ _ _ (by omega)], by rw [o3, up_nk _ _ _ (by omega)]⟩
          have n4 : W4 (b + 1) 0 = (n : Nat) := by rw [y2.1 _ (by omega), up_row _ _ _ (by omega)]; exact n2
          obtain ⟨r, V', X1, X', s1', s2', s3', s4', s5', s6'⟩ := fin times (de B L p3) V4 W4 (nmV B L p) (by omega) (by omega) ⟨v1, v2⟩ hX4 n4
          refine ⟨r, V', X1, X', s1', s2', s3', ((c2.tr fc4).tr x2).r.tr s4', (((m2.tr f2).tr fm3).tr y2).r.tr s5', ?_⟩
          rcases s6' with ⟨z1, q', z2, z3, z4⟩ | z1
          · exact Or.inl ⟨z1, q', z2, by rw [z3, n4, hn], by rw [y3] at z4; rw [a31]; omega⟩
          · exact Or.inr z1
        · obtain ⟨h1', h2'⟩ := x5 ek3
          obtain ⟨o1, o2, o3⟩ := y6 ek3
          rw [if_neg ek3, if_neg ek3, k_eqT rfl, k_zs (Or.inl rfl)]
          refine badR V4 W4 W4 _ ?_ ((c2.tr fc4).tr x2).r (((m2.tr f2).tr fm3).tr y2).r ((hT3.c x2).m y2) ⟨by rw [h1', o2], by rw [h2', o3], o1, _, hde3.2, y3⟩
          unfold g_X9_runs_94
          rw [o1, k_eqF (by omega) ⟨by omega, by omega⟩ ⟨by omega, by omega⟩]
      · rw [if_neg st, k_eqT rfl, k_eqT rfl, k_cs, k_eqF (by omega) ⟨by omega, by omega⟩ ⟨by omega, by omega⟩]
        obtain ⟨r, V', X1, X', s1', s2', s3', s4', s5', s6'⟩ := fin 1 p2 V1 W2 (nmV B L p) (by omega) (by omega) ⟨v1, v2⟩ hX2 n2
        refine ⟨r, V', X1, X', s1', s2', s3', c2.r.tr s4', (m2.tr f2).r.tr s5', ?_⟩
        rcases s6' with ⟨z1, q', z2, z3, z4⟩ | z1
        · exact Or.inl ⟨z1, q', z2, by rw [z3, n2, hn], by rw [j2] at z4; rw [a31]; omega⟩
        · exact Or.inr z1
    · obtain ⟨h1', h2'⟩ := c5 ek
      obtain ⟨o1, o2, o3⟩ := m6 ek
      rw [if_neg ek, if_neg ek, k_eqT rfl, k_zs (Or.inl rfl), o1, k_eqF (by omega) ⟨by omega, by omega⟩ ⟨by omega, by omega⟩]
      refine badR V1 W1 W1 _ ?_ c2.r m2.r ((a1.c c2).m m2) ⟨by rw [h1', o2], by rw [h2', o3], o1, _, hde.2, m3⟩
      unfold g_X9_runs_94
      rw [o1, k_eqF (by omega) ⟨by omega, by omega⟩ ⟨by omega, by omega⟩]
theorem row_eq {k off pl n1 n q : Nat} {most : Int} (hr : RP2 k off pl most) (hn1 : n1 ≤ 123) (ho : off + 41 ≤ n1) (hd : ga + 14 ≤ t) (hX : RX V W t ga b B L w0 q) (hn : W (b + 1) 0 = (n : Nat)) (hN : 1000 ≤ N) : RowE t ga b B L w0 V W (g_X7_readRow N t (ga + k) n1 off n most V) (g_X9_runs N b pl most W) (g_X9_must N b 59) := by
  have n40 := hX.2.2.2.2.2.1.1
  obtain ⟨m, hm⟩ : ∃ m, N = m + 1 := ⟨N - 1, by omega⟩
  have h := row_loop (N := N) (n := n) hr hn1 ho hd hN m 0 q V W (by omega) (by omega) hn hX
  unfold g_X7_readRow g_X9_runs
  have e1 : g_X7_readRow_3 N N t (ga + k) n1 off n most 0 V = g_X7_readRow_3 N (m + 1) t (ga + k) n1 off n most ((0 : Nat) : Int) V := by rw [← hm]; rfl
  have e2 : g_X9_runs_2 N N b pl most 0 W = g_X9_runs_20 N (g_X9_runs_2 N m) b pl most ((0 : Nat) : Int) W := by
    have : g_X9_runs_2 N N b pl most 0 W = g_X9_runs_2 N (m + 1) b pl most 0 W := by rw [← hm]
    rw [this]
    show g_X9_runs_2_b N (g_X9_runs_2 N m) b pl most 0 W = _
    unfold g_X9_runs_2_b
    rw [k_eqT hX.2.2.2.1.2.1, k_eqT rfl]
    rfl
  rw [e1, e2]
  exact h
end Rows2
