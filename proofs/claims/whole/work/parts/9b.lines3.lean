section Lines3
variable {V V1 W W1 : sj_VV} {t ga b N L q : Nat} {B : Nat → Int} {w w0 : sj_R}
/-- after three numbers, the cells and the end -/
theorem LE.three {l1 h1 l2 h2 l3 h3 : Int} {i j1 k1 n1 : Nat} (hX : RX V W t ga b B L w0 q) (hd : ga + 14 ≤ t) (hj0 : 0 < j1) (hj : j1 + 2 < 320) (hi : i < n1) (hn1 : n1 ≤ 6) (hk : k1 + 2 < 12) (b1 : 0 ≤ l1 ∧ l1 ≤ 100) (b2 : 0 ≤ h1 ∧ h1 ≤ 2000) (b3 : 0 ≤ l2 ∧ l2 ≤ 100) (b4 : 0 ≤ h2 ∧ h2 ≤ 2000) (b5 : 0 ≤ l3 ∧ l3 ≤ 100) (b6 : 0 ≤ h3 ∧ h3 ≤ 2000) (hup : ∀ (V2 : sj_VV) (w : sj_R) (v1 v2 v3 : Int), CG V2 ga w → TB w → w = W (b + 1) → l1 ≤ v1 ∧ v1 ≤ h1 → l2 ≤ v2 ∧ v2 ≤ h2 → l3 ≤ v3 ∧ v3 ≤ h3 → CG (sj_up (sj_up (sj_up V2 (ga + k1) i v1) (ga + k1 + 1) i v2) (ga + k1 + 2) i v3) ga (wUp (wUp (wUp w j1 v1) (j1 + 1) v2) (j1 + 2) v3) ∧ TB (wUp (wUp (wUp w j1 v1) (j1 + 1) v2) (j1 + 2) v3)) (hN : 1000 ≤ N) : LE t ga b B L w0 V W (e_cs (g_X7_readNumber N t l1 h1 V) fun v6 V5 => e_ieq v6 (-1) (e_zs 0 V5) (e_cs (g_X7_readNumber N t l2 h2 V5) fun v8 V7 => e_ieq v8 (-1) (e_zs 0 V7) (e_cs (g_X7_readNumber N t l3 h3 V7) fun v10 V9 => e_ix n1 i fun _ => e_lt (sj_up V9 (ga + k1) (i : Int).toNat v6) fun V11 => e_ix n1 i fun _ => e_lt (sj_up V11 (ga + k1 + 1) (i : Int).toNat v8) fun V12 => e_ix n1 i fun _ => e_lt (sj_up V12 (ga + k1 + 2) (i : Int).toNat v10) fun V13 => e_ieq v10 (-1) (e_zs 0 V13) (e_cs (g_X7_readEnd N t V13) fun v15 V14 => e_ieq v15 0 (e_zs 0 V14) (e_zs 1 V14))))) (e_cs (trio N b l1 h1 l2 h2 l3 h3 (j1 : Nat) ((j1 + 1 : Nat) : Int) ((j1 + 2 : Nat) : Int) W) fun _u V15 => g_X9_line_216 N b V15) := by
  obtain ⟨W', t1, t2, t3, t4⟩ := trio_eq (N := N) (j1 := j1) (j2 := j1 + 1) (j3 := j1 + 2) hX.px (by omega) (by omega) (by omega) b1 b2 b3 b4 b5 b6 hN
  rw [t1, k_cs]
  rcases t4 with ⟨V1, c1, f1, B1, T1⟩ | ⟨v1, V1, c1, f1, d1, t4⟩
  · rw [c1, k_cs, k_eqT rfl, k_zs (Or.inl rfl)]
    exact LE.bad2 f1.r t2 B1 T1 hN
  rw [c1, k_cs, k_eqF (by omega) ⟨by omega, by omega⟩ ⟨by omega, by omega⟩]
  rcases t4 with ⟨V2, c2, f2, B2, T2⟩ | ⟨v2, V2, c2, f2, d2, t4⟩
  · rw [c2, k_cs, k_eqT rfl, k_zs (Or.inl rfl)]
    exact LE.bad2 (f1.tr f2).r t2 B2 T2 hN
  rw [c2, k_cs, k_eqF (by omega) ⟨by omega, by omega⟩ ⟨by omega, by omega⟩]
  rcases t4 with ⟨V3, c3, f3, B3, T3⟩ | ⟨v3, V3, q3, c3, f3, d3, X3, e3, e4⟩
  · rw [c3, k_cs, k_ix (by omega) (by omega), k_lt, k_ix (by omega) (by omega), k_lt, k_ix (by omega) (by omega), k_lt, k_eqT rfl, k_zs (Or.inl rfl), tn0]
    have fv : ∀ z, (z < ga + k1 ∨ ga + k1 + 3 ≤ z) → sj_up (sj_up (sj_up V3 (ga + k1) i v1) (ga + k1 + 1) i v2) (ga + k1 + 2) i (-1) z = V3 z := fun z hz => by rw [up_row _ _ _ (by omega), up_row _ _ _ (by omega), up_row _ _ _ (by omega)]
    have f4 : Fcr t ga V3 (sj_up (sj_up (sj_up V3 (ga + k1) i v1) (ga + k1 + 1) i v2) (ga + k1 + 2) i (-1)) := ⟨fun z _ z2 => fv z (by omega), fun j _ => by rw [fv _ (by omega)], fun _ => by rw [fv _ (by omega)]⟩
    refine LE.bad2 (((f1.tr f2).tr f3).r.tr f4) t2 (B3.fr (fun j _ => by rw [fv _ (by omega)]) ⟨B3.2.2.1, rfl, rfl⟩ B3.2.2.2) ?_ hN
    exact ⟨by rw [fv _ (by omega)]; exact T3.1, T3.2.1, T3.2.2.1, fun i hi => by rw [fv _ (by omega)]; exact T3.2.2.2.1 i hi, T3.2.2.2.2⟩
  · rw [c3, k_cs, k_ix (by omega) (by omega), k_lt, k_ix (by omega) (by omega), k_lt, k_ix (by omega) (by omega), k_lt, k_eqF (by omega) ⟨by omega, by omega⟩ ⟨by omega, by omega⟩, tn0]
    obtain ⟨V4, d4⟩ : ∃ V4, V4 = sj_up (sj_up (sj_up V3 (ga + k1) i v1) (ga + k1 + 1) i v2) (ga + k1 + 2) i v3 := ⟨_, rfl⟩
    rw [← d4]
    have fv : ∀ z, (z < ga + k1 ∨ ga + k1 + 3 ≤ z) → V4 z = V3 z := fun z hz => by rw [d4, up_row _ _ _ (by omega), up_row _ _ _ (by omega), up_row _ _ _ (by omega)]
    have f4 : Fcr t ga V3 V4 := ⟨fun z _ z2 => fv z (by omega), fun j _ => by rw [fv _ (by omega)], fun _ => by rw [fv _ (by omega)]⟩
    have f123 := (f1.tr f2).tr f3
    have hC3 : CG V3 ga (W (b + 1)) := hX.2.2.2.2.1.fr (lo := t) (hi := t + 1) (fun z hz => f123.1 z (by omega)) (by omega)
    obtain ⟨u1, u2⟩ := hup V3 (W (b + 1)) v1 v2 v3 hC3 hX.2.2.2.2.2.1 rfl d1 d2 d3
    rw [← d4, ← e3] at u1
    rw [← e3] at u2
    have P4 : PX V4 W' t b B L q3 := by
      obtain ⟨x1, x2, x3⟩ := X3
      have et : V4 t = V3 t := fv _ (by omega)
      exact ⟨⟨by rw [et]; exact x1.1, x1.2.1, x1.2.2.1, fun i hi => by rw [fv _ (by omega)]; exact x1.2.2.2.1 i hi, x1.2.2.2.2⟩, by rw [et]; exact x2, by rw [et]; exact x3⟩
    have hX4 : RX V4 W' t ga b B L w0 q3 := hX.of P4 (by rw [fv _ (by omega), f123.2 7 (by omega)]) t3 u1 u2 (by rw [fv _ (by omega), f123.1 _ (by omega)]) (fun j hj => by rw [e3, wUp_n _ _ (by omega), wUp_n _ _ (by omega), wUp_n _ _ (by omega)])
    obtain ⟨r, V5, W5, g1, g2, g3, g4, g5⟩ := hX4.fin (N := N) hd hN
    unfold g_X9_line_216
    rw [g1, k_cs, g2, k_cs]
    rcases g5 with ⟨s1, s2, s3⟩ | ⟨s1, s2⟩
    · rw [s1, k_eqF (by omega) ⟨by omega, by omega⟩ ⟨by omega, by omega⟩, k_zs (Or.inr rfl)]
      exact ⟨1, V5, W5, rfl, rfl, (f123.r.tr f4).tr g3.r, t2.tr g4.r, Or.inl ⟨rfl, s2, by omega⟩⟩
    · rw [s1, k_eqT rfl, k_zs (Or.inl rfl)]
      exact LE.bad ((f123.r.tr f4).tr g3.r) (t2.tr g4.r) s2
theorem LE.zs {A : Option (Int × sj_VV)} {C : Option (Unit × sj_VV)} (h : LE t ga b B L w0 V W A C) : LE t ga b B L w0 V W (e_cs A fun v V1 => e_zs v V1) C := by
  obtain ⟨r, V', W', h1, h2, h3, h4, h5⟩ := h
  rw [h1, k_cs, k_zs (by rcases h5 with z | z; exact Or.inr z.1; exact Or.inl z.1)]
  exact ⟨r, V', W', rfl, h2, h3, h4, h5⟩
theorem LE.soil (hX : RX V W t ga b B L w0 q) (hd : ga + 14 ≤ t) (hN : 1000 ≤ N) : LE t ga b B L w0 V W (g_X7_readSoil N t ga V) (e_cs (g_X9_soilLine N b W) fun _u V15 => g_X9_line_216 N b V15) := by
  obtain ⟨V1, W1, f1, g1, o1⟩ := hX.num (N := N) (lo := 0) (hi := 3) hd (by omega) (by omega) hN
  have eM : ∀ (l : Nat) (W1 W2 : sj_VV), g_X9_number N b 0 3 W = some ((l : Int), W1) → g_X9_tells N b (8 + (l : Int)) (W1 b 33) W1 = some ((), W2) → g_X9_soilLine N b W = trio N b 1 30 0 200 0 1500 ((290 + 3 * l : Nat) : Int) ((290 + 3 * l + 1 : Nat) : Int) ((290 + 3 * l + 2 : Nat) : Int) W2 := fun l W1 W2 h1 h2 => by
    unfold g_X9_soilLine trio
    rw [h1, k_cs, h2, k_cs, show 290 + 3 * (l : Int) = ((290 + 3 * l : Nat) : Int) by omega, show ((290 + 3 * l : Nat) : Int) + 1 = ((290 + 3 * l + 1 : Nat) : Int) by omega, show ((290 + 3 * l : Nat) : Int) + 2 = ((290 + 3 * l + 2 : Nat) : Int) by omega]
  unfold g_X7_readSoil
  rcases o1 with ⟨v, q1, p, c1, m1, d1, X1, p5, p33, p29⟩ | ⟨c1, m1, B1, T1⟩
  · obtain ⟨l, hl⟩ : ∃ l : Nat, v = l := ⟨v.toNat, by omega⟩
    subst hl
    obtain ⟨r, V2, W2, n1, n2, n3, n4, n5, n6, n8, n7⟩ := X1.new (N := N) (k := 8 + l) hd (by omega) p5
    have e9 : 9 + (l : Int) = ((tdB (8 + l) : Nat) : Int) := by unfold tdB; rw [if_neg (by omega)]; omega
    have n2' : g_X9_tells N b (8 + (l : Int)) (W1 b 33) W1 = some ((), W2) := by rw [p33, show 8 + (l : Int) = ((8 + l : Nat) : Int) by omega]; exact n2
    rw [eM l W1 W2 m1 n2', c1, k_cs, k_eqF (by omega) ⟨by omega, by omega⟩ ⟨by omega, by omega⟩, e9, n1, k_cs]
    rcases n7 with ⟨s1, s2⟩ | ⟨s1, s2⟩
    · rw [s1, k_eqF (by omega) ⟨by omega, by omega⟩ ⟨by omega, by omega⟩]
      refine LE.pre (V1 := V2) (W1 := W2) ?_ (f1.r.tr n3) (g1.r.tr n4) (by rw [n8]; exact p29)
      exact LE.three (N := N) (i := l) (j1 := 290 + 3 * l) (k1 := 6) (n1 := 4) s2 hd (by omega) (by omega) (by omega) (by omega) (by omega) (by omega) (by omega) (by omega) (by omega) (by omega) (by omega) (fun Va wa x1 x2 x3 hC hB he y1 y2 y3 => by
        have cm1 : CM 6 l (290 + 3 * l) := by unfold CM; omega
        have cm2 : CM 7 l (290 + 3 * l + 1) := by unfold CM; omega
        have cm3 : CM 8 l (290 + 3 * l + 2) := by unfold CM; omega
        have tb1 : TB (wUp wa (290 + 3 * l) x1) := hB.up1 (by unfold TBB; omega)
        have tb2 : TB (wUp (wUp wa (290 + 3 * l) x1) (290 + 3 * l + 1) x2) := tb1.up1 (by unfold TBB; omega)
        exact ⟨CG.up1 (CG.up1 (CG.up1 hC cm1) cm2) cm3, tb2.up1 (by unfold TBB; omega)⟩) hN
    · obtain ⟨W3, u1, u2⟩ := trio1 (N := N) (W := W2) (b := b) (l1 := 1) (h1 := 30) (l2 := 0) (h2 := 200) (l3 := 0) (h3 := 1500) (j1 := 290 + 3 * l) (j2 := 290 + 3 * l + 1) (j3 := 290 + 3 * l + 2) s2.2.2.1 (by omega) (by omega) (by omega)
      rw [s1, k_eqT rfl, k_zs (Or.inl rfl), u1, k_cs]
      exact LE.bad2 (f1.r.tr n3) ((g1.r.tr n4).tr u2.mr) (s2.row u2) (n6.row u2) hN
  · have hw := B1.2.2.1
    obtain ⟨W3, u1, u2⟩ := trio1 (N := N) (W := W1) (b := b) (l1 := 1) (h1 := 30) (l2 := 0) (h2 := 200) (l3 := 0) (h3 := 1500) (j1 := 290 + 3 * 0) (j2 := 290 + 3 * 0 + 1) (j3 := 290 + 3 * 0 + 2) hw (by omega) (by omega) (by omega)
    rw [eM 0 W1 W1 m1 (m_tells1 hw), u1, k_cs, c1, k_cs, k_eqT rfl, k_zs (Or.inl rfl)]
    exact LE.bad2 f1.r (g1.r.tr u2.mr) (B1.row u2) (T1.row u2) hN
theorem LE.anchor (hX : RX V W t ga b B L w0 q) (hd : ga + 14 ≤ t) (hN : 1000 ≤ N) : LE t ga b B L w0 V W (g_X7_readAnchor N t ga V) (e_cs (g_X9_anchorLine N b W) fun _u V15 => g_X9_line_216 N b V15) := by
  have n40 := hX.2.2.2.2.2.1.1
  obtain ⟨V1, W1, f1, g1, o1⟩ := hX.num (N := N) (lo := 0) (hi := 5) hd (by omega) (by omega) hN
  have eM : ∀ (l : Nat) (W1 W2 : sj_VV), g_X9_number N b 0 5 W = some ((l : Int), W1) → g_X9_tells N b (12 + (l : Int)) (W1 b 33) W1 = some ((), W2) → W2 (b + 1) = W (b + 1) → g_X9_anchorLine N b W = trio N b 0 (W (b + 1) 0) 0 100 1 500 ((302 + 3 * l : Nat) : Int) ((302 + 3 * l + 1 : Nat) : Int) ((302 + 3 * l + 2 : Nat) : Int) W2 := fun l W1 W2 h1 h2 h3 => by
    unfold g_X9_anchorLine trio
    rw [h1, k_cs, h2, k_cs, k_ix (by omega) (by omega), show (0 : Int).toNat = 0 from rfl, h3, show 302 + 3 * (l : Int) = ((302 + 3 * l : Nat) : Int) by omega, show ((302 + 3 * l : Nat) : Int) + 1 = ((302 + 3 * l + 1 : Nat) : Int) by omega, show ((302 + 3 * l : Nat) : Int) + 2 = ((302 + 3 * l + 2 : Nat) : Int) by omega]
  unfold g_X7_readAnchor
  rcases o1 with ⟨v, q1, p, c1, m1, d1, X1, p5, p33, p29⟩ | ⟨c1, m1, B1, T1⟩
  · obtain ⟨l, hl⟩ : ∃ l : Nat, v = l := ⟨v.toNat, by omega⟩
    subst hl
    obtain ⟨r, V2, W2, n1, n2, n3, n4, n5, n6, n8, n7⟩ := X1.new (N := N) (k := 12 + l) hd (by omega) p5
    have e9 : 13 + (l : Int) = ((tdB (12 + l) : Nat) : Int) := by unfold tdB; rw [if_neg (by omega)]; omega
    have n2' : g_X9_tells N b (12 + (l : Int)) (W1 b 33) W1 = some ((), W2) := by rw [p33, show 12 + (l : Int) = ((12 + l : Nat) : Int) by omega]; exact n2
    have ew : W2 (b + 1) = W (b + 1) := by rw [n5, g1.1 _ (by omega)]
    rw [eM l W1 W2 m1 n2' ew, c1, k_cs, k_eqF (by omega) ⟨by omega, by omega⟩ ⟨by omega, by omega⟩, e9, n1, k_cs]
    rcases n7 with ⟨s1, s2⟩ | ⟨s1, s2⟩
    · have eg : V2 ga 0 = W (b + 1) 0 := by rw [s2.2.2.2.2.1.1.1, ew]
      rw [s1, k_eqF (by omega) ⟨by omega, by omega⟩ ⟨by omega, by omega⟩, eg]
      refine LE.pre (V1 := V2) (W1 := W2) ?_ (f1.r.tr n3) (g1.r.tr n4) (by rw [n8]; exact p29)
      exact LE.three (N := N) (i := l) (j1 := 302 + 3 * l) (k1 := 9) (n1 := 6) s2 hd (by omega) (by omega) (by omega) (by omega) (by omega) (by omega) (by omega) (by omega) (by omega) (by omega) (by omega) (fun Va wa x1 x2 x3 hC hB he y1 y2 y3 => by
        rw [show 302 + 3 * l + 1 = 303 + 3 * l by omega, show 302 + 3 * l + 2 = 304 + 3 * l by omega]
        exact ⟨CG.anchor hC (by omega), hB.anchor (by omega) (by rw [he, ew]; exact y1) y2 (by omega)⟩) hN
    · obtain ⟨W3, u1, u2⟩ := trio1 (N := N) (W := W2) (b := b) (l1 := 0) (h1 := W (b + 1) 0) (l2 := 0) (h2 := 100) (l3 := 1) (h3 := 500) (j1 := 302 + 3 * l) (j2 := 302 + 3 * l + 1) (j3 := 302 + 3 * l + 2) s2.2.2.1 (by omega) (by omega) (by omega)
      rw [s1, k_eqT rfl, k_zs (Or.inl rfl), u1, k_cs]
      exact LE.bad2 (f1.r.tr n3) ((g1.r.tr n4).tr u2.mr) (s2.row u2) (n6.row u2) hN
  · have hw := B1.2.2.1
    obtain ⟨W3, u1, u2⟩ := trio1 (N := N) (W := W1) (b := b) (l1 := 0) (h1 := W (b + 1) 0) (l2 := 0) (h2 := 100) (l3 := 1) (h3 := 500) (j1 := 302 + 3 * 0) (j2 := 302 + 3 * 0 + 1) (j3 := 302 + 3 * 0 + 2) hw (by omega) (by omega) (by omega)
    rw [eM 0 W1 W1 m1 (m_tells1 hw) (g1.1 _ (by omega)), u1, k_cs, c1, k_cs, k_eqT rfl, k_zs (Or.inl rfl)]
    exact LE.bad2 f1.r (g1.r.tr u2.mr) (B1.row u2) (T1.row u2) hN
theorem LE.quake (hX : RX V W t ga b B L w0 q) (hd : ga + 14 ≤ t) (hN : 1000 ≤ N) : LE t ga b B L w0 V W (g_X7_readQuake N t ga V) (e_cs (g_X9_number N b 0 500 W) fun v9 V8 => e_ix 390 2 fun _ => e_lt (sj_up V8 (b + 1) (2 : Int).toNat v9) fun V10 => g_X9_line_216 N b V10) := by
  obtain ⟨V1, W1, f1, g1, o1⟩ := hX.num (N := N) (lo := 0) (hi := 500) hd (by omega) (by omega) hN
  unfold g_X7_readQuake
  rcases o1 with ⟨v, q1, p, c1, m1, d1, X1, _, _, p29⟩ | ⟨c1, m1, B1, T1⟩
  · rw [c1, k_cs, k_lt, m1, k_cs, k_ix (by omega) (by omega), k_lt, k_eqF (by omega) ⟨by omega, by omega⟩ ⟨by omega, by omega⟩, show (2 : Int).toNat = 2 from rfl]
    have cm : CM 0 2 2 := by unfold CM; omega
    have hX2 : RX (sj_up V1 ga 2 v) (sj_up W1 (b + 1) 2 v) t ga b B L w0 q1 := X1.cell hd (fun z hz => up_row _ _ _ (by omega)) (fun z hz => up_row _ _ _ hz) (up_wUp rfl _ _) (CG.up1 (k := 0) X1.2.2.2.2.1 cm) (X1.2.2.2.2.2.1.up1 (by unfold TBB; omega)) (fun j hj => wUp_n _ _ (by omega))
    obtain ⟨r, V5, W5, s1, s2, s3, s4, s5⟩ := hX2.fin (N := N) hd hN
    have fc : Fcr t ga V1 (sj_up V1 ga 2 v) := ⟨fun z _ z2 => up_row _ _ _ (by omega), fun j _ => by rw [up_row _ _ _ (by omega)], fun _ => by rw [up_row _ _ _ (by omega)]⟩
    unfold g_X9_line_216
    rw [s1, k_cs, s2, k_cs]
    rcases s5 with ⟨x1, x2, x3⟩ | ⟨x1, x2⟩
    · rw [x1, k_eqF (by omega) ⟨by omega, by omega⟩ ⟨by omega, by omega⟩, k_zs (Or.inr rfl)]
      exact ⟨1, V5, W5, rfl, rfl, (f1.r.tr fc).tr s3.r, (g1.r.tr (Fro.rf.up (by omega)).mr).tr s4.r, Or.inl ⟨rfl, x2, by rw [up_na _ _ _ _ (by omega)] at x3; omega⟩⟩
    · rw [x1, k_eqT rfl, k_zs (Or.inl rfl)]
      exact LE.bad ((f1.r.tr fc).tr s3.r) ((g1.r.tr (Fro.rf.up (by omega)).mr).tr s4.r) x2
  · have fr : Fro b W1 (sj_up W1 (b + 1) 2 0) := Fro.rf.up (by omega)
    rw [c1, k_cs, k_lt, m1, k_cs, k_ix (by omega) (by omega), k_lt, k_eqT rfl, k_zs (Or.inl rfl), show (2 : Int).toNat = 2 from rfl]
    have fc : Fcr t ga V1 (sj_up V1 ga 2 (-1)) := ⟨fun z _ z2 => up_row _ _ _ (by omega), fun j _ => by rw [up_row _ _ _ (by omega)], fun _ => by rw [up_row _ _ _ (by omega)]⟩
    refine LE.bad2 (f1.r.tr fc) (g1.r.tr fr.mr) ((B1.row fr).fr (fun j _ => by rw [up_row _ _ _ (by omega)]) ⟨(B1.row fr).2.2.1, rfl, rfl⟩ (B1.row fr).2.2.2) ?_ hN
    have T2 := T1.row fr
    exact ⟨by rw [up_row _ _ _ (by omega)]; exact T2.1, T2.2.1, T2.2.2.1, fun i hi => by rw [up_row _ _ _ (by omega)]; exact T2.2.2.2.1 i hi, T2.2.2.2.2⟩
theorem LE.top (hX : RX V W t ga b B L w0 q) (hd : ga + 14 ≤ t) (hN : 1000 ≤ N) : LE t ga b B L w0 V W (g_X7_readTop N t ga V) (e_cs (g_X9_number N b 1 3 W) fun v12 V11 => e_cs (g_X9_tells N b (4 + v12) (V11 b 33) V11) fun _u V13 => e_ieq (V13 b 32) 0 (e_cs (g_X9_runs N b (167 + 41 * (v12 - 1)) 100 V13) fun _u V14 => g_X9_line_216 N b V14) (g_X9_line_216 N b V13)) := by
  have n40 := hX.2.2.2.2.2.1.1
  obtain ⟨V1, W1, f1, g1, o1⟩ := hX.num (N := N) (lo := 1) (hi := 3) hd (by omega) (by omega) hN
  unfold g_X7_readTop
  rcases o1 with ⟨v, q1, p, c1, m1, d1, X1, p5, p33, p29⟩ | ⟨c1, m1, B1, T1⟩
  · obtain ⟨l, hl⟩ : ∃ l : Nat, v = (l : Int) + 1 := ⟨(v - 1).toNat, by omega⟩
    subst hl
    obtain ⟨r, V2, W2, n1, n2, n3, n4, n5, n6, n8, n7⟩ := X1.new (N := N) (k := 5 + l) hd (by omega) p5
    have e9 : 5 + ((l : Int) + 1) = ((tdB (5 + l) : Nat) : Int) := by unfold tdB; rw [if_neg (by omega)]; omega
    have n2' : g_X9_tells N b (4 + ((l : Int) + 1)) (W1 b 33) W1 = some ((), W2) := by rw [p33, show 4 + ((l : Int) + 1) = ((5 + l : Nat) : Int) by omega]; exact n2
    have ew : W2 (b + 1) = W (b + 1) := by rw [n5, g1.1 _ (by omega)]
    rw [c1, k_cs, k_eqF (by omega) ⟨by omega, by omega⟩ ⟨by omega, by omega⟩, e9, n1, k_cs, m1, k_cs, n2', k_cs]
    rcases n7 with ⟨s1, s2⟩ | ⟨s1, s2⟩
    · obtain ⟨n, hn⟩ : ∃ n : Nat, W2 (b + 1) 0 = n := ⟨(W2 (b + 1) 0).toNat, by rw [ew]; omega⟩
      have eg : V2 ga 0 = (n : Nat) := by rw [s2.2.2.2.2.1.1.1]; exact hn
      rw [s1, k_eqF (by omega) ⟨by omega, by omega⟩ ⟨by omega, by omega⟩, topPlace_eq, k_cs, eg, k_eqT s2.2.2.2.1.2.1, show ((l : Int) + 1 - 1) * 41 + 0 = ((41 * l : Nat) : Int) by omega, show 167 + 41 * ((l : Int) + 1 - 1) = ((167 + 41 * l : Nat) : Int) by omega]
      refine LE.pre (V1 := V2) (W1 := W2) ?_ (f1.r.tr n3) (g1.r.tr n4) (by rw [n8]; exact p29)
      exact LE.row (N := N) (RP2.top (l := l) (by omega)) (by omega) (by omega) hd s2 hn hN
    · rw [s1, k_eqT rfl, k_zs (Or.inl rfl), s2.2.2.1, k_eqF (by omega) ⟨by omega, by omega⟩ ⟨by omega, by omega⟩]
      exact LE.bad2 (f1.r.tr n3) (g1.r.tr n4) s2 n6 hN
  · have hw := B1.2.2.1
    rw [c1, k_cs, k_eqT rfl, k_zs (Or.inl rfl), m1, k_cs, m_tells1 hw, k_cs, hw, k_eqF (by omega) ⟨by omega, by omega⟩ ⟨by omega, by omega⟩]
    exact LE.bad2 f1.r g1.r B1 T1 hN
end Lines3
