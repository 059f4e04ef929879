/-! TEXT: lines -/
section Lines
variable {V V1 W W1 : sj_VV} {t ga b N L q : Nat} {B : Nat → Int} {w w0 : sj_R} {lo hi v : Int}
def TBB (w : sj_R) (j : Nat) (v : Int) : Prop := (3 ≤ j ∧ j < 44 ∧ (0 ≤ v ∧ v ≤ 100) ∧ (j : Int) - 3 ≤ w 0) ∨ (44 ≤ j ∧ j < 85 ∧ (0 ≤ v ∧ v ≤ 100) ∧ (j : Int) - 44 ≤ w 0) ∨ (85 ≤ j ∧ j < 126 ∧ 0 ≤ v ∧ v ≤ 100) ∨ (126 ≤ j ∧ j < 167 ∧ 0 ≤ v ∧ v ≤ 500) ∨ (167 ≤ j ∧ j < 290 ∧ 0 ≤ v ∧ v ≤ 100) ∨ (j = 2 ∧ 0 ≤ v ∧ v ≤ 500) ∨ (290 ≤ j ∧ j < 302 ∧ j % 3 = 2 ∧ 1 ≤ v ∧ v ≤ 30) ∨ (290 ≤ j ∧ j < 302 ∧ j % 3 = 0 ∧ 0 ≤ v ∧ v ≤ 200) ∨ (290 ≤ j ∧ j < 302 ∧ j % 3 = 1 ∧ 0 ≤ v ∧ v ≤ 1500)
theorem TB.up1 {j : Nat} (hB : TB w) (hb : TBB w j v) : TB (wUp w j v) := by
  obtain ⟨a1, a2, a3, a4, a5, a6, a7⟩ := hB
  have e : ∀ i, i ≠ j → wUp w j v i = w i := fun i hi => wUp_n _ _ hi
  have s : ∀ i, i = j → wUp w j v i = v := fun i hi => by subst hi; exact wUp_s _ _ _
  unfold TBB at hb
  refine ⟨by rw [e 0 (by omega)]; exact a1, by rw [e 1 (by omega)]; exact a2, ?_, fun d hd => ?_, fun i hi => ?_, fun l hl => ?_, fun i hi => by rw [e (304 + 3 * i) (by omega), e (302 + 3 * i) (by omega), e (303 + 3 * i) (by omega), e 0 (by omega)]; exact a7 i hi⟩
  · by_cases z : 2 = j
    · rw [s 2 z]; omega
    · rw [e 2 z]; exact a3
  · obtain ⟨q1, q2, q3, q4, q5⟩ := a4 d hd
    rw [e 0 (by omega)]
    refine ⟨?_, ?_, ?_, ?_, fun h => ?_⟩
    · by_cases z : 44 + d = j
      · rw [s _ z]; omega
      · rw [e _ z]; exact q1
    · by_cases z : 3 + d = j
      · rw [s _ z]; omega
      · rw [e _ z]; exact q2
    · by_cases z : 85 + d = j
      · rw [s _ z]; omega
      · rw [e _ z]; exact q3
    · by_cases z : 126 + d = j
      · rw [s _ z]; omega
      · rw [e _ z]; exact q4
    · rw [e (44 + d) (by omega), e (3 + d) (by omega)]; exact q5 h
  · by_cases z : 167 + i = j
    · rw [s _ z]; omega
    · rw [e _ z]; exact a5 i hi
  · obtain ⟨q1, q2, q3⟩ := a6 l hl
    refine ⟨?_, ?_, ?_⟩
    · by_cases z : 290 + 3 * l = j
      · rw [s _ z]; omega
      · rw [e _ z]; exact q1
    · by_cases z : 291 + 3 * l = j
      · rw [s _ z]; omega
      · rw [e _ z]; exact q2
    · by_cases z : 292 + 3 * l = j
      · rw [s _ z]; omega
      · rw [e _ z]; exact q3
theorem TB.anchor {i : Nat} {c h p : Int} (hB : TB w) (hi : i < 6) (hc : 0 ≤ c ∧ c ≤ w 0) (hh : 0 ≤ h ∧ h ≤ 100) (hp : 0 ≤ p ∧ p ≤ 500) : TB (wUp (wUp (wUp w (302 + 3 * i) c) (303 + 3 * i) h) (304 + 3 * i) p) := by
  obtain ⟨a1, a2, a3, a4, a5, a6, a7⟩ := hB
  have e : ∀ j, (j < 302 + 3 * i ∨ 305 + 3 * i ≤ j) → wUp (wUp (wUp w (302 + 3 * i) c) (303 + 3 * i) h) (304 + 3 * i) p j = w j := fun j hj => by rw [wUp_n _ _ (by omega), wUp_n _ _ (by omega), wUp_n _ _ (by omega)]
  refine ⟨by rw [e 0 (by omega)]; exact a1, by rw [e 1 (by omega)]; exact a2, by rw [e 2 (by omega)]; exact a3, fun d hd => by rw [e (3 + d) (by omega), e (44 + d) (by omega), e (85 + d) (by omega), e (126 + d) (by omega), e 0 (by omega)]; exact a4 d hd, fun j hj => by rw [e _ (by omega)]; exact a5 j hj, fun l hl => by rw [e (290 + 3 * l) (by omega), e (291 + 3 * l) (by omega), e (292 + 3 * l) (by omega)]; exact a6 l hl, fun j hj => ?_⟩
  rw [e 0 (by omega)]
  by_cases z : j = i
  · subst z
    rw [wUp_s, wUp_n _ _ (show 302 + 3 * j ≠ 304 + 3 * j by omega), wUp_n _ _ (show 302 + 3 * j ≠ 303 + 3 * j by omega), wUp_s, wUp_n _ _ (show 303 + 3 * j ≠ 304 + 3 * j by omega), wUp_s]
    exact ⟨hp, fun _ => ⟨hc, hh⟩⟩
  · rw [e (304 + 3 * j) (by omega), e (302 + 3 * j) (by omega), e (303 + 3 * j) (by omega)]
    exact a7 j hj
theorem RP2.g : RP2 1 0 3 100 := ⟨fun i hi => by unfold CM; omega, by omega, by omega, by omega, by omega, by omega, fun w i v h1 h2 h3 => h1.up1 (by have := h1.1; unfold TBB; omega)⟩
theorem RP2.k : RP2 2 0 44 100 := ⟨fun i hi => by unfold CM; omega, by omega, by omega, by omega, by omega, by omega, fun w i v h1 h2 h3 => h1.up1 (by have := h1.1; unfold TBB; omega)⟩
theorem RP2.wa : RP2 3 0 85 100 := ⟨fun i hi => by unfold CM; omega, by omega, by omega, by omega, by omega, by omega, fun w i v h1 h2 h3 => h1.up1 (by have := h1.1; unfold TBB; omega)⟩
theorem RP2.l : RP2 4 0 126 500 := ⟨fun i hi => by unfold CM; omega, by omega, by omega, by omega, by omega, by omega, fun w i v h1 h2 h3 => h1.up1 (by have := h1.1; unfold TBB; omega)⟩
theorem RP2.top {l : Nat} (hl : l < 3) : RP2 5 (41 * l) (167 + 41 * l) 100 := ⟨fun i hi => by unfold CM; omega, by omega, by omega, by omega, by omega, by omega, fun w i v h1 h2 h3 => h1.up1 (by have := h1.1; unfold TBB; omega)⟩
theorem RX.num (hX : RX V W t ga b B L w0 q) (hd : ga + 14 ≤ t) (hlo : 0 ≤ lo ∧ lo ≤ 100) (hhi : 0 ≤ hi ∧ hi ≤ 2000) (hN : 1000 ≤ N) : ∃ V1 W1, Fct t V V1 ∧ Fmt b W W1 ∧ ((∃ (v : Int) (q1 p : Nat), g_X7_readNumber N t lo hi V = some (v, V1) ∧ g_X9_number N b lo hi W = some (v, W1) ∧ (lo ≤ v ∧ v ≤ hi) ∧ RX V1 W1 t ga b B L w0 q1 ∧ V1 t 5 = (p : Nat) ∧ W1 b 33 = (p : Nat) ∧ W b 29 ≤ W1 b 29) ∨ (g_X7_readNumber N t lo hi V = some (-1, V1) ∧ g_X9_number N b lo hi W = some (lo, W1) ∧ BX V1 W1 t b L ∧ TX V1 W1 t b B L)) := by
  obtain ⟨a1, a2, ⟨a31, a32, a33⟩, ⟨⟨a41, a42⟩, a43, a44, a45⟩, _⟩ := id hX
  have hsk := sk_in (B := B) a32
  obtain ⟨V1, c1, c2, c3, c4, c5⟩ := c_num (N := N) (lo := lo) (hi := hi) a1 ⟨by omega, by omega⟩ ⟨by omega, by omega⟩ hsk.2 a33 hN
  obtain ⟨W1, m1, m2, m3, m4, m5, m6⟩ := m_num (N := N) (lo := lo) (hi := hi) a1 ⟨by omega, by omega⟩ ⟨by omega, by omega⟩ (by omega) a32 a31 a43 rfl hN
  have hde := de_in (B := B) hsk.2
  refine ⟨V1, W1, c2, m2, ?_⟩
  by_cases ek : nmK B L lo hi (sk B L q) = 0
  · obtain ⟨k1, k2, k3⟩ := c4 ek
    rw [if_pos ek] at c1 m1
    exact Or.inl ⟨_, _, _, c1, m1, nm_ok ek, hX.step hd c2 m2 m3 hde.2 k1 ⟨k2, k3⟩ (m5 ek), c3, m4, by rw [m3, a31]; omega⟩
  · obtain ⟨k1, k2⟩ := c5 ek
    obtain ⟨l1, l2, l3⟩ := m6 ek
    rw [if_neg ek] at c1 m1
    exact Or.inr ⟨c1, m1, ⟨by rw [k1, l2], by rw [k2, l3], l1, _, hde.2, m3⟩, (a1.c c2).m m2⟩
theorem RX.fin (hX : RX V W t ga b B L w0 q) (hd : ga + 14 ≤ t) (hN : 1000 ≤ N) : ∃ r V1 W1, g_X7_readEnd N t V = some (r, V1) ∧ g_X9_must N b 59 W = some ((), W1) ∧ Fct t V V1 ∧ Fmt b W W1 ∧ ((r = 1 ∧ (∃ q', RX V1 W1 t ga b B L w0 q') ∧ W b 29 < W1 b 29) ∨ (r = 0 ∧ BX V1 W1 t b L)) := by
  obtain ⟨a1, a2, ⟨a31, a32, a33⟩, ⟨⟨a41, a42⟩, a43, a44, a45⟩, _⟩ := id hX
  have hsk := sk_in (B := B) a32
  obtain ⟨r, V1, c1, c2, c3, c4⟩ := c_readEnd (N := N) a1 hsk.2 a33 hN
  obtain ⟨W1, m1, m2, m3, m4, m5, m6⟩ := m_must (N := N) a1 a32 a31 rfl (Or.inl a43) hN
  refine ⟨r, V1, W1, c1, m1, c2, m2, ?_⟩
  by_cases u : endK B L (sk B L q)
  · obtain ⟨z1, z2, z3, z4⟩ := c3 u
    obtain ⟨x1, x2, x3, x4⟩ := m3 a43 u
    have := u.1
    exact Or.inl ⟨z1, ⟨_, hX.step hd c2 m2 x1 (by omega) z2 ⟨z3, z4⟩ ⟨x2, x3, x4⟩⟩, by rw [x1, a31]; omega⟩
  · obtain ⟨z1, z2, z3⟩ := c4 u
    obtain ⟨x1, x2, x3⟩ := m4 a43 u
    exact Or.inr ⟨z1, by rw [z2, x2], by rw [z3, x3], x1, m6⟩
theorem m_tells1 {k x : Int} (h : W b 32 = 1) : g_X9_tells N b k x W = some ((), W) := by
  unfold g_X9_tells
  rw [h, k_eqF (by omega) ⟨by omega, by omega⟩ ⟨by omega, by omega⟩]
theorem RX.new {k p : Nat} (hX : RX V W t ga b B L w0 q) (hd : ga + 14 ≤ t) (hk : k < 18) (h5 : V t 5 = (p : Nat)) : ∃ r V1 W1, g_X7_isNew N t ((tdB k : Nat) : Int) V = some (r, V1) ∧ g_X9_tells N b k (p : Nat) W = some ((), W1) ∧ Fcr t ga V V1 ∧ Fmr b W W1 ∧ W1 (b + 1) = W (b + 1) ∧ TX V1 W1 t b B L ∧ W1 b 29 = W b 29 ∧ ((r = 1 ∧ RX V1 W1 t ga b B L w0 q) ∨ (r = 0 ∧ BX V1 W1 t b L)) := by
  obtain ⟨a1, a2, ⟨a31, a32, a33⟩, ⟨⟨a41, a42⟩, a43, a44, a45⟩, a5, a6, a7, a8, a9⟩ := id hX
  obtain ⟨r, V1, W1, r1, r2, ⟨r3, r4⟩, ⟨r5, r6⟩, r7⟩ := a2.new (N := N) hk h5 a43
  have ew : W1 (b + 1) = W (b + 1) := r5 _ (by omega) (by omega)
  have hT : TX V1 W1 t b B L := ⟨by rw [r4 1 (by omega) (by omega) (by omega)]; exact a1.1, by rw [r6 28 (by omega)]; exact a1.2.1, a1.2.2.1, fun i hi => by rw [r3 _ (by omega)]; exact a1.2.2.2.1 i hi, fun i hi => by rw [r5 _ (by omega) (by omega)]; exact a1.2.2.2.2 i hi⟩
  refine ⟨r, V1, W1, r1, r2, ⟨fun z z1 _ => r3 z z1, fun j hj => r4 j (by omega) (by omega) (by omega), fun q => by rw [r3 _ q]⟩, ⟨fun z z1 _ z3 => r5 z z1 z3, fun j hj => r6 j (by omega), fun j _ => by rw [ew]⟩, ew, hT, r6 29 (by omega), ?_⟩
  rcases r7 with ⟨s1, s2, s3, s4, s5, s6, s7⟩ | ⟨s1, s2, s3, s4, s5, s6⟩
  · refine Or.inl ⟨s1, hT, s2, ⟨by rw [r6 29 (by omega)]; exact a31, a32, by rw [r4 2 (by omega) (by omega) (by omega)]; exact a33⟩, ⟨⟨by rw [s3]; exact a41, by rw [s4]; exact a42⟩, s5, by rw [s6]; exact a44, by rw [s7]; exact a45⟩, ?_, by rw [ew]; exact a6, by rw [r3 _ (by omega)]; exact a7, by rw [ew]; exact a8, by rw [ew]; exact a9⟩
    rw [ew]
    exact a5.fr (lo := t) (hi := t + 1) (fun z hz => r3 z (by omega)) (by omega)
  · exact Or.inr ⟨s1, by rw [s2, s5], by rw [s3, s6], s4, q, a32, by rw [r6 29 (by omega)]; exact a31⟩
theorem RX.cell (hX : RX V W t ga b B L w0 q) (hd : ga + 14 ≤ t) {V1 W1 : sj_VV} {w' : sj_R} (hV : ∀ z, (z < ga ∨ ga + 12 ≤ z) → V1 z = V z) (hW : ∀ z, z ≠ b + 1 → W1 z = W z) (hw : W1 (b + 1) = w') (hC : CG V1 ga w') (hB : TB w') (h3 : ∀ j, 320 ≤ j → w' j = W (b + 1) j) : RX V1 W1 t ga b B L w0 q := by
  obtain ⟨a1, a2, ⟨a31, a32, a33⟩, ⟨⟨a41, a42⟩, a43, a44, a45⟩, a5, a6, a7, a8, a9⟩ := id hX
  exact ⟨⟨by rw [hV _ (by omega)]; exact a1.1, by rw [hW _ (by omega)]; exact a1.2.1, a1.2.2.1, fun i hi => by rw [hV _ (by omega)]; exact a1.2.2.2.1 i hi, fun i hi => by rw [hW _ (by omega)]; exact a1.2.2.2.2 i hi⟩, a2.fr (by rw [hV _ (by omega)]) (hW _ (by omega)), ⟨by rw [hW _ (by omega)]; exact a31, a32, by rw [hV _ (by omega)]; exact a33⟩, ⟨⟨by rw [hV _ (by omega)]; exact a41, by rw [hV _ (by omega)]; exact a42⟩, by rw [hW _ (by omega)]; exact a43, by rw [hW _ (by omega)]; exact a44, by rw [hW _ (by omega)]; exact a45⟩, by rw [hw]; exact hC, by rw [hw]; exact hB, by rw [hV _ (by omega)]; exact a7, by rw [hw, h3 _ (by omega), h3 _ (by omega)]; exact a8, fun j hj => by rw [hw, h3 j (by omega)]; exact a9 j hj⟩
/-- what a line comes to -/
def LE (t ga b : Nat) (B : Nat → Int) (L : Nat) (w0 : sj_R) (V W : sj_VV) (A : Option (Int × sj_VV)) (C : Option (Unit × sj_VV)) : Prop := ∃ r V' W', A = some (r, V') ∧ C = some ((), W') ∧ Fcr t ga V V' ∧ Fmr b W W' ∧ ((r = 1 ∧ (∃ q', RX V' W' t ga b B L w0 q') ∧ W b 29 < W' b 29) ∨ (r = 0 ∧ BX V' W' t b L))
theorem LE.pre {A : Option (Int × sj_VV)} {C : Option (Unit × sj_VV)} (h : LE t ga b B L w0 V1 W1 A C) (f1 : Fcr t ga V V1) (f2 : Fmr b W W1) (hq : W b 29 ≤ W1 b 29) : LE t ga b B L w0 V W A C := by
  obtain ⟨r, V', W', h1, h2, h3, h4, h5⟩ := h
  refine ⟨r, V', W', h1, h2, f1.tr h3, f2.tr h4, ?_⟩
  rcases h5 with ⟨s1, s2, s3⟩ | s1
  · exact Or.inl ⟨s1, s2, by omega⟩
  · exact Or.inr s1
theorem LE.bad {V' W' : sj_VV} (f1 : Fcr t ga V V') (f2 : Fmr b W W') (hB : BX V' W' t b L) : LE t ga b B L w0 V W (some (0, V')) (some ((), W')) := ⟨0, V', W', rfl, rfl, f1, f2, Or.inr ⟨rfl, hB⟩⟩
/-- a fault, and the end of the line after it -/
theorem LE.bad2 {V' W' : sj_VV} (f1 : Fcr t ga V V') (f2 : Fmr b W W') (hB : BX V' W' t b L) (hT : TX V' W' t b B L) (hN : 1000 ≤ N) : LE t ga b B L w0 V W (some (0, V')) (g_X9_line_216 N b W') := by
  obtain ⟨W2, r1, r2, r3⟩ := m_must1 (N := N) hT hB hN
  unfold g_X9_line_216
  rw [r1, k_cs]
  exact LE.bad f1 (f2.tr r2.r) r3
theorem LE.row {k off pl n1 n : Nat} {most : Int} (hr : RP2 k off pl most) (hn1 : n1 ≤ 123) (ho : off + 41 ≤ n1) (hd : ga + 14 ≤ t) (hX : RX V W t ga b B L w0 q) (hn : W (b + 1) 0 = (n : Nat)) (hN : 1000 ≤ N) : LE t ga b B L w0 V W (e_cs (g_X7_readRow N t (ga + k) n1 off n most V) fun v V1 => e_zs v V1) (e_cs (g_X9_runs N b pl most W) fun _u V4 => g_X9_line_216 N b V4) := by
  obtain ⟨r, V', W1, W', h1, h2, h3, h4, h5, h6⟩ := row_eq (N := N) hr hn1 ho hd hX hn hN
  unfold g_X9_line_216
  rw [h1, k_cs, h2, k_cs, h3, k_cs]
  rcases h6 with ⟨s1, q', s2, _, s4⟩ | ⟨s1, s2⟩
  · rw [s1, k_zs (Or.inr rfl)]; exact ⟨1, V', W', rfl, rfl, h4, h5, Or.inl ⟨rfl, ⟨q', s2⟩, s4⟩⟩
  · rw [s1, k_zs (Or.inl rfl)]; exact ⟨0, V', W', rfl, rfl, h4, h5, Or.inr ⟨rfl, s2⟩⟩
/-- the same, as the class writes it for ground, rock, water, load -/
theorem zs_01 (r : Int) (V : sj_VV) (h : r = 0 ∨ r = 1) : e_ieq r 0 (e_zs 0 V) (e_zs 1 V) = e_zs r V := by
  rcases h with z | z
  · rw [k_eqT z, z]
  · rw [z, k_eqF (by omega) ⟨by omega, by omega⟩ ⟨by omega, by omega⟩]
end Lines
