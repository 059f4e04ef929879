/-! CHANCE -/
def nxS (s : Int) : Int := 1664525 * s + 1013904223
def drw (s m : Int) : Int := (nxS s % 4294967296 / 256) % m
def itS : Nat → Int → Int
  | 0, s => s
  | n + 1, s => nxS (itS n s)
def cvS (x wd s : Int) : Int := x * (100 - wd + drw s (2 * wd + 1)) / 100
/-- the row of a trial -/
def wCh (w : sj_R) (wd s : Int) : sj_R := fun j => if 291 ≤ j ∧ j < 302 ∧ j % 3 = 0 then cvS (w j) wd (itS (2 * ((j - 291) / 3)) s) else if 292 ≤ j ∧ j < 302 ∧ j % 3 = 1 then cvS (w j) wd (itS (2 * ((j - 292) / 3) + 1) s) else w j
section Chance
variable {V : sj_VV} {a b f t N : Nat} {w w' : sj_R} {wd s k lf p q lv hv rv : Int} {bs : Nat → Int} {x : Nat}
theorem wCh_h (w : sj_R) (wd s : Int) {l : Nat} (hl : l < 4) : wCh w wd s (291 + 3 * l) = cvS (w (291 + 3 * l)) wd (itS (2 * l) s) := by
  unfold wCh
  rw [if_pos (by omega), show (291 + 3 * l - 291) / 3 = l by omega]
theorem wCh_r (w : sj_R) (wd s : Int) {l : Nat} (hl : l < 4) : wCh w wd s (292 + 3 * l) = cvS (w (292 + 3 * l)) wd (itS (2 * l + 1) s) := by
  unfold wCh
  rw [if_neg (by omega), if_pos (by omega), show (292 + 3 * l - 292) / 3 = l by omega]
theorem wCh_n (w : sj_R) (wd s : Int) {j : Nat} (h : j < 291 ∨ 302 ≤ j ∨ j % 3 = 2) : wCh w wd s j = w j := by
  unfold wCh
  rw [if_neg (by omega), if_neg (by omega)]
theorem drw_b (s : Int) {m : Int} (hm : 1 ≤ m) : 0 ≤ drw s m ∧ drw s m < m := ⟨Int.emod_nonneg _ (by omega), Int.emod_lt_of_pos _ (by omega)⟩
theorem cvS_b {x X : Int} (hx : 0 ≤ x ∧ x ≤ X) (hw : 0 ≤ wd ∧ wd ≤ 50) : 0 ≤ cvS x wd s ∧ cvS x wd s ≤ X * 150 / 100 := by
  have h1 := drw_b s (m := 2 * wd + 1) (by omega)
  have h2 := mul_b (x := x) (y := 100 - wd + drw s (2 * wd + 1)) (X := X) (Y := 150) hx.1 hx.2 (by omega) (by omega)
  unfold cvS
  omega
theorem WB.chance (hB : WB 500 200 1500 w) (hw : 0 ≤ wd ∧ wd ≤ 50) : WB 500 300 2250 (wCh w wd s) := by
  obtain ⟨a1, a2, a3, a4, a5, a6, a7⟩ := hB
  have e : ∀ j, (j < 291 ∨ 302 ≤ j ∨ j % 3 = 2) → wCh w wd s j = w j := fun j hj => wCh_n w wd s hj
  refine ⟨by rw [e 0 (by omega)]; exact a1, by rw [e 1 (by omega)]; exact a2, by rw [e 2 (by omega)]; exact a3, fun d hd => by rw [e _ (by omega), e _ (by omega), e _ (by omega), e _ (by omega)]; exact a4 d hd, fun i hi => by rw [e _ (by omega)]; exact a5 i hi, fun l hl => ?_, fun i hi => by rw [e _ (by omega), e _ (by omega), e _ (by omega), e _ (by omega)]; exact a7 i hi⟩
  obtain ⟨q1, q2, q3⟩ := a6 l hl
  rw [e (290 + 3 * l) (by omega), wCh_h w wd s hl, wCh_r w wd s hl]
  have c1 := cvS_b (s := itS (2 * l) s) q2 hw
  have c2 := cvS_b (s := itS (2 * l + 1) s) q3 hw
  omega
/-- rows that agree on what weighs -/
def AW (w w' : sj_R) : Prop := (∀ j, j < 290 → w' j = w j) ∧ (∀ l, l < 4 → w' (290 + 3 * l) = w (290 + 3 * l)) ∧ ∀ j, 302 ≤ j → j < 320 → w' j = w j
theorem AW.top (h : AW w w') (hx : x < 41) : ∀ l, l < 4 → spTop w' l x = spTop w l x
  | 0, _ => h.1 _ (by omega)
  | l + 1, hl => by rw [spTop, spTop, AW.top h hx l (by omega), h.1 _ (by omega)]
theorem AW.on (h : AW w w') (hx : x < 41) (p : Int) : spOn w' x p = spOn w x p := by
  have tk : ∀ l, l < 4 → spThick w' l x p = spThick w l x p := fun l hl => by
    unfold spThick
    rw [h.top hx l hl]
    by_cases h3 : l = 3
    · rw [if_pos h3, if_pos h3]
    · rw [if_neg h3, if_neg h3, h.top hx (l + 1) (by omega)]
  have e0 := h.2.1 0 (by omega)
  have e1 := h.2.1 1 (by omega)
  have e2 := h.2.1 2 (by omega)
  have e3 := h.2.1 3 (by omega)
  simp only [Nat.mul_zero, Nat.add_zero, Nat.mul_one, Nat.reduceMul, Nat.reduceAdd] at e0 e1 e2 e3
  unfold spOn spSoil
  rw [h.1 _ (by omega), tk 0 (by omega), tk 1 (by omega), tk 2 (by omega), tk 3 (by omega), e0, e1, e2, e3]
theorem AW.wgh (h : AW w w') (hb : BB f t lf bs) (hW : WD V a w f t lf bs) : WD V a w' f t lf bs := by
  obtain ⟨w1, w2, w3, w4⟩ := hW
  obtain ⟨b1, b2, b3, b4⟩ := hb
  have eP : spPulls w' f t bs = spPulls w f t bs := by
    unfold spPulls
    refine spSum_congr 6 (fun j hj => ?_)
    unfold spPull spC1
    rw [h.2.2 (304 + 3 * (0 + j)) (by omega) (by omega), h.2.2 (302 + 3 * (0 + j)) (by omega) (by omega), h.2.2 (303 + 3 * (0 + j)) (by omega) (by omega), h.1 1 (by omega)]
  refine ⟨w1, by rw [h.1 1 (by omega)]; exact w2, by rw [eP]; exact w3, fun j hj => ?_⟩
  obtain ⟨q1, q2, q3, q4⟩ := w4 j hj
  refine ⟨q1, ?_, ?_, ?_⟩
  · rw [q2]; unfold slW; rw [h.on (by omega), h.on (by omega), h.1 1 (by omega)]
  · rw [q3]; unfold slL spHead spWater
    rw [h.1 1 (by omega), h.1 (85 + (f + j)) (by omega), h.1 (3 + (f + j)) (by omega), h.1 (85 + (f + j + 1)) (by omega), h.1 (3 + (f + j + 1)) (by omega)]
  · rw [q4]; unfold slY spLayer
    rw [h.top (x := f + j) (by omega) 3 (by omega), h.top (x := f + j + 1) (by omega) 3 (by omega), h.top (x := f + j) (by omega) 2 (by omega), h.top (x := f + j + 1) (by omega) 2 (by omega), h.top (x := f + j) (by omega) 1 (by omega), h.top (x := f + j + 1) (by omega) 1 (by omega)]
theorem AW.ch (w : sj_R) (wd s : Int) : AW w (wCh w wd s) := ⟨fun j hj => wCh_n w wd s (by omega), fun l hl => wCh_n w wd s (by omega), fun j j1 j2 => wCh_n w wd s (by omega)⟩
theorem AW.symm (h : AW w w') : AW w' w := ⟨fun j hj => (h.1 j hj).symm, fun l hl => (h.2.1 l hl).symm, fun j j1 j2 => (h.2.2 j j1 j2).symm⟩
theorem ch_pulls (w : sj_R) (wd s : Int) : spPulls (wCh w wd s) f t bs = spPulls w f t bs := by
  have h := AW.ch w wd s
  unfold spPulls
  refine spSum_congr 6 (fun j hj => ?_)
  unfold spPull spC1
  rw [h.2.2 (304 + 3 * (0 + j)) (by omega) (by omega), h.2.2 (302 + 3 * (0 + j)) (by omega) (by omega), h.2.2 (303 + 3 * (0 + j)) (by omega) (by omega), h.1 1 (by omega)]
/-- one trial: 1 if it falls -/
def spFal (w : sj_R) (f t : Nat) (lf : Int) (bs : Nat → Int) (wd k s : Int) : Int := if spStd (wCh w wd s) f t lf bs (spPulls w f t bs) k = true then 0 else 1
def spChN (w : sj_R) (f t : Nat) (lf : Int) (bs : Nat → Int) (wd k : Int) : Nat → Int → Int
  | 0, _ => 0
  | n + 1, s => spFal w f t lf bs wd k s + spChN w f t lf bs wd k n (itS 8 s)
def sEnd : Nat → Int → Int
  | 0, s => s
  | n + 1, s => sEnd n (itS 8 s)
theorem c_draw {h : Nat} {m : Int} (hm : 1 ≤ m ∧ m ≤ 1000) : g_X1_draw N h m V = some (drw (V h 3) m, sj_up V h 3 (nxS (V h 3))) := by
  unfold g_X1_draw
  have e : sj_up V h 3 (1664525 * V h 3 + 1013904223) h 3 = nxS (V h 3) := up_ss _ _ _ _
  have hb : 0 ≤ nxS (V h 3) % 4294967296 / 2 ^ (8 : Int).toNat ∧ nxS (V h 3) % 4294967296 / 2 ^ (8 : Int).toNat ≤ 16777216 := by
    have : (2 : Int) ^ (8 : Int).toNat = 256 := rfl
    rw [this]; omega
  rw [k_lt, k_ltT (by omega) ⟨by omega, by omega⟩ ⟨by omega, by omega⟩, e, k_ush (by omega), k_rI ⟨by omega, by omega⟩ ⟨by omega, by omega⟩ (by omega), tm10 hb.1]
  rfl
theorem m_draw {m : Int} (hm : 1 ≤ m ∧ m ≤ 1000) : g_X9_draw N b m V = some (drw (V (b + 1) 389) m, sj_up V (b + 1) 389 (nxS (V (b + 1) 389))) := by
  unfold g_X9_draw
  have e : sj_up V (b + 1) (389 : Int).toNat (1664525 * V (b + 1) (389 : Int).toNat + 1013904223) (b + 1) (389 : Int).toNat = nxS (V (b + 1) 389) := up_ss _ _ _ _
  have hb : 0 ≤ nxS (V (b + 1) 389) % 4294967296 / 2 ^ (8 : Int).toNat ∧ nxS (V (b + 1) 389) % 4294967296 / 2 ^ (8 : Int).toNat ≤ 16777216 := by
    have : (2 : Int) ^ (8 : Int).toNat = 256 := rfl
    rw [this]; omega
  rw [k_ix (by omega) (by omega), k_ix (by omega) (by omega), k_lt, k_ix (by omega) (by omega), e, k_ush (by omega), k_rI ⟨by omega, by omega⟩ ⟨by omega, by omega⟩ (by omega), tm10 hb.1]
  rfl
/-- what a trial of the class may touch -/
def Fch (a : Nat) (V V' : sj_VV) : Prop := (∀ z, z ≠ a + 15 + 7 → z ≠ a + 15 + 8 → z ≠ a + 43 → (z < a + 54 ∨ a + 63 ≤ z) → V' z = V z) ∧ ∀ j, j ≠ 3 → V' (a + 43) j = V (a + 43) j
theorem Fch.rf : Fch a V V := ⟨fun _ _ _ _ _ => rfl, fun _ _ => rfl⟩
theorem Fch.tr {V1 V2 : sj_VV} (h : Fch a V V1) (h2 : Fch a V1 V2) : Fch a V V2 := ⟨fun z z1 z2 z3 z4 => (h2.1 z z1 z2 z3 z4).trans (h.1 z z1 z2 z3 z4), fun j hj => (h2.2 j hj).trans (h.2 j hj)⟩
theorem fr_sl {V2 V3 : sj_VV} {l : Nat} {A B C D : Int} (g2 : V2 = sj_up (sj_up V (a + 43) 3 A) (a + 15 + 7) l B) (g3 : V3 = sj_up (sj_up V2 (a + 43) 3 C) (a + 15 + 8) l D) (z : Nat) (hz : a + 54 ≤ z) : V3 z = V z := by
  rw [g3, up_row _ _ _ (by omega), up_row _ _ _ (by omega), g2, up_row _ _ _ (by omega), up_row _ _ _ (by omega)]
theorem c_ch63 {n : Int} {i : Int} {F : Int} (hB : WB 500 200 1500 w) (hb : BB f t lf bs) (hk : 1 ≤ k ∧ k ≤ 20000) (hwd : 0 ≤ wd ∧ wd ≤ 50) (hN : 50 ≤ N) (K : Nat → Int → Int → Int → Int → Int → sj_VV → Option (Int × sj_VV)) : ∀ (m l : Nat) (V : sj_VV), l ≤ 4 → 4 - l < m → V (a + 43) 3 = itS (2 * l) s → (∀ j, j < l → V (a + 15 + 7) j = cvS (w (291 + 3 * j)) wd (itS (2 * j) s) ∧ V (a + 15 + 8) j = cvS (w (292 + 3 * j)) wd (itS (2 * j + 1) s)) → CG V (a + 1) w → V (a + 15) 2 = w 2 → WD V (a + 54) w f t lf bs → ∃ V1, g_X8_chance_63 N K m a n wd k F i l V = K a n wd k (F + spFal w f t lf bs wd k s) (i + 1) V1 ∧ V1 (a + 43) 3 = itS 8 s ∧ Fch a V V1 ∧ WD V1 (a + 54) w f t lf bs
  | 0, _, _, _, h, _, _, _, _, _ => absurd h (by omega)
  | m + 1, l, V, h1, h2, h3, hd, hC, hq, hW => by
    unfold g_X8_chance_63 g_X8_chance_63_b
    by_cases hl : l = 4
    · subst hl
      have hB2 : WB 500 300 2250 (wCh w wd s) := hB.chance hwd
      obtain ⟨V2, r1, r2, r3⟩ := settle_eq (N := N) (V := V) (a := a + 54) (more := 0) (ga := a + 15) ((AW.ch w wd s).wgh hb hW) hB2 (by omega) (by omega) (by omega) hb (by omega) (fun l hl => by
        obtain ⟨d1, d2⟩ := hd l hl
        rw [wCh_h w wd s hl, wCh_r w wd s hl, d1, d2]
        exact ⟨by omega, rfl⟩) (by rw [wCh_n w wd s (by omega)]; exact hq) hN
      have eP : spStd (wCh w wd s) f t lf bs (spPulls (wCh w wd s) f t bs) k = spStd (wCh w wd s) f t lf bs (spPulls w f t bs) k := by rw [ch_pulls]
      rw [k_leT (by omega) ⟨by omega, by omega⟩ ⟨by omega, by omega⟩, r1, k_cs, hold_eq r3 hB2 (by omega) (by omega) (by omega) hb (by omega) hN, k_cs, eP]
      unfold g_X8_chance_183 spFal
      have fr : Fch a V V2 := ⟨fun z _ _ _ z4 => r2 z (by omega), fun j _ => by rw [r2 _ (by omega)]⟩
      have hW2 := (AW.ch w wd s).symm.wgh hb r3.1
      have s3 : V2 (a + 43) 3 = itS 8 s := by rw [r2 _ (by omega)]; exact h3
      by_cases hp : spStd (wCh w wd s) f t lf bs (spPulls w f t bs) k = true
      · rw [if_pos hp, if_pos hp, k_eqF (by omega) ⟨by omega, by omega⟩ ⟨by omega, by omega⟩, k_lt, Int.add_zero]
        exact ⟨V2, rfl, s3, fr, hW2⟩
      · rw [if_neg hp, if_neg hp, k_eqT rfl, k_lt, k_lt]
        exact ⟨V2, rfl, s3, fr, hW2⟩
    · have c4 := hC.2.2.2.1 l (by omega)
      have q6 := hB.2.2.2.2.2.1 l (by omega)
      have d1 := drw_b (itS (2 * l) s) (m := 2 * wd + 1) (by omega)
      have d2 := drw_b (itS (2 * l + 1) s) (m := 2 * wd + 1) (by omega)
      have e1 := mul_b (x := w (291 + 3 * l)) (y := 100 - wd + drw (itS (2 * l) s) (2 * wd + 1)) (X := 200) (Y := 150) (by omega) (by omega) (by omega) (by omega)
      have e2 := mul_b (x := w (292 + 3 * l)) (y := 100 - wd + drw (itS (2 * l + 1) s) (2 * wd + 1)) (X := 1500) (Y := 150) (by omega) (by omega) (by omega) (by omega)
      rw [k_leF (by omega) ⟨by omega, by omega⟩ ⟨by omega, by omega⟩, k_ix (by omega) (by omega), c_draw (by omega), k_cs, h3, tn0, c4.2.1, k_dI ⟨by omega, by omega⟩ ⟨by omega, by omega⟩ (by omega), td10 e1.1, k_ix (by omega) (by omega), k_lt, k_ix (by omega) (by omega), c_draw (by omega), k_cs]
      obtain ⟨V2, g2⟩ : ∃ V2, V2 = sj_up (sj_up V (a + 43) 3 (nxS (itS (2 * l) s))) (a + 15 + 7) l (w (291 + 3 * l) * (100 - wd + drw (itS (2 * l) s) (2 * wd + 1)) / 100) := ⟨_, rfl⟩
      rw [← g2]
      have y1 : V2 (a + 43) 3 = itS (2 * l + 1) s := by rw [g2, up_row _ _ _ (by omega), up_ss]; rfl
      have y2 : V2 (a + 1 + 8) l = w (292 + 3 * l) := by rw [g2, up_row _ _ _ (by omega), up_row _ _ _ (by omega)]; exact c4.2.2
      rw [y1, y2, k_dI ⟨by omega, by omega⟩ ⟨by omega, by omega⟩ (by omega), td10 e2.1, k_ix (by omega) (by omega), k_lt, k_lt]
      obtain ⟨V3, g3⟩ : ∃ V3, V3 = sj_up (sj_up V2 (a + 43) 3 (nxS (itS (2 * l + 1) s))) (a + 15 + 8) l (w (292 + 3 * l) * (100 - wd + drw (itS (2 * l + 1) s) (2 * wd + 1)) / 100) := ⟨_, rfl⟩
      rw [← g3]
      have fr : Fch a V V3 := ⟨fun z z1 z2 z3 _ => by rw [g3, up_row _ _ _ z2, up_row _ _ _ z3, g2, up_row _ _ _ z1, up_row _ _ _ z3], fun j hj => by rw [g3, up_row _ _ _ (by omega), up_nk _ _ _ hj, g2, up_row _ _ _ (by omega), up_nk _ _ _ hj]⟩
      have z3 : V3 (a + 43) 3 = itS (2 * (l + 1)) s := by rw [g3, up_row _ _ _ (by omega), up_ss]; rfl
      have p7 : ∀ j, j ≠ l → V3 (a + 15 + 7) j = V (a + 15 + 7) j := fun j hj => by rw [g3, up_row _ _ _ (by omega), up_row _ _ _ (by omega), g2, up_nk _ _ _ hj, up_row _ _ _ (by omega)]
      have p8 : ∀ j, j ≠ l → V3 (a + 15 + 8) j = V (a + 15 + 8) j := fun j hj => by rw [g3, up_nk _ _ _ hj, up_row _ _ _ (by omega), g2, up_row _ _ _ (by omega), up_row _ _ _ (by omega)]
      have n7 : V3 (a + 15 + 7) l = cvS (w (291 + 3 * l)) wd (itS (2 * l) s) := by rw [g3, up_row _ _ _ (by omega), up_row _ _ _ (by omega), g2, up_ss]; rfl
      have n8 : V3 (a + 15 + 8) l = cvS (w (292 + 3 * l)) wd (itS (2 * l + 1) s) := by rw [g3, up_ss]; rfl
      obtain ⟨V4, t1, t2, t3, t4⟩ := c_ch63 (n := n) (i := i) (F := F) hB hb hk hwd hN K m (l + 1) V3 (by omega) (by omega) z3 (fun j hj => by
        by_cases z : j = l
        · subst z; exact ⟨n7, n8⟩
        · rw [p7 j z, p8 j z]; exact hd j (by omega)) (hC.fr (lo := a + 15) (hi := a + 63) (fun z hz => fr.1 z (by omega) (by omega) (by omega) (by omega)) (by omega)) (by rw [fr.1 _ (by omega) (by omega) (by omega) (by omega)]; exact hq) (by
        obtain ⟨w1, w2, w3, w4⟩ := hW
        refine ⟨by rw [fr_sl (a := a) g2 g3 (a + 54) (by omega)]; exact w1, by rw [fr_sl (a := a) g2 g3 (a + 54) (by omega)]; exact w2, by rw [fr_sl (a := a) g2 g3 (a + 54) (by omega)]; exact w3, fun j hj => ?_⟩
        obtain ⟨v1, v2, v3, v4⟩ := w4 j hj
        exact ⟨by rw [fr_sl (a := a) g2 g3 _ (by omega)]; exact v1, by rw [fr_sl (a := a) g2 g3 _ (by omega)]; exact v2, by rw [fr_sl (a := a) g2 g3 _ (by omega)]; exact v3, by rw [fr_sl (a := a) g2 g3 _ (by omega)]; exact v4⟩)
      exact ⟨V4, t1, t2, fr.tr t3, t4⟩
end Chance
