/-! one number told -/
/-- cell i of array k of a Ground is place j of the row -/
def CM (k i j : Nat) : Prop := (k = 2 ∧ i < 41 ∧ j = 44 + i) ∨ (k = 3 ∧ i < 41 ∧ j = 85 + i) ∨ (k = 4 ∧ i < 41 ∧ j = 126 + i) ∨ (k = 5 ∧ i < 123 ∧ j = 167 + i) ∨ (k = 6 ∧ i < 4 ∧ j = 290 + 3 * i) ∨ (k = 7 ∧ i < 4 ∧ j = 291 + 3 * i) ∨ (k = 8 ∧ i < 4 ∧ j = 292 + 3 * i) ∨ (k = 0 ∧ i = 2 ∧ j = 2) ∨ (k = 1 ∧ i < 41 ∧ j = 3 + i)
section Tell
variable {V V' V1 V2 : sj_VV} {a b ga k i j : Nat} {w w' : sj_R} {v lv hv rv : Int} {N : Nat}
theorem CG.up1 (hC : CG V ga w) (hm : CM k i j) : CG (sj_up V (ga + k) i v) ga (wUp w j v) := by
  obtain ⟨⟨b0, b1, b2⟩, a2, a3, a4, a5⟩ := hC
  unfold CM at hm
  rcases hm with ⟨m1, m2, m3⟩ | ⟨m1, m2, m3⟩ | ⟨m1, m2, m3⟩ | ⟨m1, m2, m3⟩ | ⟨m1, m2, m3⟩ | ⟨m1, m2, m3⟩ | ⟨m1, m2, m3⟩ | ⟨m1, m2, m3⟩ | ⟨m1, m2, m3⟩
  all_goals
   subst m1 m3
   refine ⟨⟨by have q := b0; simp only [sj_up, wUp, true_and]; split <;> split <;> omega, by have q := b1; simp only [sj_up, wUp, true_and]; split <;> split <;> omega, by have q := b2; first | (simp only [sj_up, wUp, true_and]; split <;> split <;> omega) | simp [sj_up, wUp, m2]⟩, fun c hc => ⟨by have q := (a2 c hc).1; simp only [sj_up, wUp, true_and]; split <;> split <;> omega, by have q := (a2 c hc).2.1; simp only [sj_up, wUp, true_and]; split <;> split <;> omega, by have q := (a2 c hc).2.2.1; simp only [sj_up, wUp, true_and]; split <;> split <;> omega, by have q := (a2 c hc).2.2.2; simp only [sj_up, wUp, true_and]; split <;> split <;> omega⟩, fun c hc => by have q := a3 c hc; simp only [sj_up, wUp, true_and]; split <;> split <;> omega, fun l hl => ⟨by have q := (a4 l hl).1; simp only [sj_up, wUp, true_and]; split <;> split <;> omega, by have q := (a4 l hl).2.1; simp only [sj_up, wUp, true_and]; split <;> split <;> omega, by have q := (a4 l hl).2.2; simp only [sj_up, wUp, true_and]; split <;> split <;> omega⟩, fun c hc => ⟨by have q := (a5 c hc).1; simp only [sj_up, wUp, true_and]; split <;> split <;> omega, fun h => ?_⟩⟩
   have q := (a5 c hc).2 (by simp only [wUp] at h; split at h <;> omega)
   exact ⟨by have q := q.1; simp only [sj_up, wUp, true_and]; split <;> split <;> omega, by have q := q.2; simp only [sj_up, wUp, true_and]; split <;> split <;> omega⟩
/-- bounds of one number -/
def CB (lv hv rv : Int) (w : sj_R) (j : Nat) (v : Int) : Prop := (44 ≤ j ∧ j < 85 ∧ 0 ≤ v ∧ v ≤ w (j - 41)) ∨ (85 ≤ j ∧ j < 126 ∧ 0 ≤ v ∧ v ≤ 100) ∨ (126 ≤ j ∧ j < 167 ∧ 0 ≤ v ∧ v ≤ lv) ∨ (167 ≤ j ∧ j < 290 ∧ 0 ≤ v ∧ v ≤ 100) ∨ (j = 2 ∧ 0 ≤ v ∧ v ≤ 500) ∨ (290 ≤ j ∧ j < 302 ∧ j % 3 = 2 ∧ 1 ≤ v ∧ v ≤ 30) ∨ (290 ≤ j ∧ j < 302 ∧ j % 3 = 0 ∧ 0 ≤ v ∧ v ≤ hv) ∨ (290 ≤ j ∧ j < 302 ∧ j % 3 = 1 ∧ 0 ≤ v ∧ v ≤ rv)
theorem WB.up1 (hB : WB lv hv rv w) (hb : CB lv hv rv w j v) : WB lv hv rv (wUp w j v) := by
  obtain ⟨a1, a2, a3, a4, a5, a6, a7⟩ := hB
  have e : ∀ i, i ≠ j → wUp w j v i = w i := fun i hi => wUp_n _ _ hi
  have s : ∀ i, i = j → wUp w j v i = v := fun i hi => by subst hi; exact wUp_s _ _ _
  unfold CB at hb
  refine ⟨by rw [e 0 (by omega)]; exact a1, by rw [e 1 (by omega)]; exact a2, ?_, fun d hd => ?_, fun i hi => ?_, fun l hl => ?_, fun i hi => by rw [e (304 + 3 * i) (by omega), e (302 + 3 * i) (by omega), e (303 + 3 * i) (by omega), e 0 (by omega)]; exact a7 i hi⟩
  · by_cases z : 2 = j
    · rw [s 2 z]; omega
    · rw [e 2 z]; exact a3
  · obtain ⟨q1, q2, q3⟩ := a4 d hd
    rw [e (3 + d) (by omega)]
    refine ⟨?_, ?_, ?_⟩
    · by_cases z : 44 + d = j
      · rw [s _ z]
        rw [show j - 41 = 3 + d by omega] at hb
        omega
      · rw [e _ z]; exact q1
    · by_cases z : 85 + d = j
      · rw [s _ z]; omega
      · rw [e _ z]; exact q2
    · by_cases z : 126 + d = j
      · rw [s _ z]; omega
      · rw [e _ z]; exact q3
  · by_cases z : 167 + i = j
    · rw [s _ z]; omega
    · rw [e _ z]; exact a5 i hi
  · obtain ⟨q1, q2, q3⟩ := a6 l hl
    refine ⟨?_, ?_, ?_⟩
    · by_cases z : 290 + 3 * l = j
      · rw [s _ z]; omega
      · rw [e _ z]; exact q1
    · by_cases z : 291 + 3 * l = j
      · rw [s _ z]; omega
      · rw [e _ z]; exact q2
    · by_cases z : 292 + 3 * l = j
      · rw [s _ z]; omega
      · rw [e _ z]; exact q3
theorem RG.sl (hR : RG V ga w) (hB : WB 500 200 1500 w') (hC : CG V' ga w') (h0 : w' 0 = w 0) (hw : ∀ j, 320 ≤ j → j < 364 → w' j = w j) (h1 : V' (ga + 12) = V (ga + 12)) (h2 : V' (ga + 13) = V (ga + 13)) : RG V' ga w' := by
  obtain ⟨_, hP, _, s1, s2, s3⟩ := hR
  have ef : wf w' = wf w := by unfold wf; rw [hw _ (by omega) (by omega)]
  have et : wt w' = wt w := by unfold wt; rw [hw _ (by omega) (by omega)]
  refine ⟨hB, ⟨by rw [hw _ (by omega) (by omega)]; exact hP.1, ?_⟩, hC, by rw [h1]; exact s1, fun z => by rw [h1]; exact s2 (by rw [← hw 320 (by omega) (by omega)]; exact z), fun z => ?_⟩
  · rw [ef, et, hw 320 (by omega) (by omega), hw 321 (by omega) (by omega), hw 322 (by omega) (by omega), h0]
    rcases hP.2 with z | ⟨z1, z2, z3, y1, y2, y3, y4⟩
    · exact Or.inl z
    · exact Or.inr ⟨z1, z2, z3, y1, y2, y3, fun c c1 c2 => by show 0 ≤ w' (323 + c) ∧ w' (323 + c) ≤ 100; rw [hw _ (by omega) (by omega)]; exact y4 c c1 c2⟩
  · have z0 : w 320 ≠ -1 := by rw [← hw 320 (by omega) (by omega)]; exact z
    obtain ⟨q1, q2, q3, q4⟩ := s3 z0
    have hb := (hP.bb z0).2
    rw [ef, et, hw 322 (by omega) (by omega)]
    exact ⟨by rw [h1]; exact q1, by rw [h1]; exact q2, by rw [h1]; exact q3, fun c c1 c2 => by show V' (ga + 13) c = w' (323 + c); rw [hw _ (by omega) (by have := hb.2.1; omega), h2]; exact q4 c c1 c2⟩
theorem RG.up1 (hR : RG V ga w) (hm : CM k i j) (hb : CB 500 200 1500 w j v) : RG (sj_up V (ga + k) i v) ga (wUp w j v) := by
  have hj : j ≠ 0 ∧ j < 302 := by unfold CB at hb; omega
  have hk : k ≤ 8 := by unfold CM at hm; omega
  exact hR.sl (hR.1.up1 hb) (CG.up1 hR.2.2.1 hm) (wUp_n _ _ (by omega)) (fun q q1 q2 => wUp_n _ _ (by omega)) (up_row _ _ _ (by omega)) (up_row _ _ _ (by omega))
theorem drop_eq : g_X5_drop N a V = some ((), sj_up (sj_up V a 1 (-1)) a 2 (-1)) := rfl
theorem RG.drop (hR : RG V ga w) : RG (sj_up (sj_up V (ga + 12) 1 (-1)) (ga + 12) 2 (-1)) ga (wUp w 320 (-1)) := by
  obtain ⟨hB, hP, hC, s1, s2, s3⟩ := hR
  have he : ∀ j, j < 320 → wUp w 320 (-1) j = w j := fun j hj => wUp_n _ _ (by omega)
  have u : ∀ z, z ≠ ga + 12 → sj_up (sj_up V (ga + 12) 1 (-1)) (ga + 12) 2 (-1) z = V z := fun z hz => by rw [up_row _ _ _ hz, up_row _ _ _ hz]
  refine ⟨hB.row he, ⟨by rw [wUp_n _ _ (by omega)]; exact hP.1, Or.inl (wUp_s _ _ _)⟩, ?_, ?_, fun _ => ⟨by rw [up_nk _ _ _ (by omega), up_ss], up_ss _ _ _ _⟩, fun z => absurd (wUp_s w 320 (-1)) z⟩
  · exact (hC.fr (lo := ga + 12) (hi := ga + 13) (fun z hz => u z (by omega)) (by omega)).row he
  · rw [up_nk _ _ _ (by omega), up_nk _ _ _ (by omega)]; exact s1
theorem INV.told (hI : INV V a b) (hab : b = a + 189) (f1 : Kt a V V1) (hR : RG V1 (a + 1) w') (f2 : ∀ z, z ≠ b + 1 → V2 z = V1 z) (hw : V2 (b + 1) = w') (h3 : ∀ j, 364 ≤ j → j < 390 → w' j = V (b + 1) j) : INV V2 a b := by
  refine hI.now hab f1 (Kn.r1 f2) ?_ (fun j j1 j2 => by rw [hw]; exact h3 j j1 j2)
  rw [hw]
  exact hR.eq (fun z z1 z2 => f2 z (by omega))
theorem Kt.up {p q : Nat} (h : Kt a V V1) (h1 : a + 1 ≤ p) (h2 : p < a + 15) : Kt a V (sj_up V1 p q v) := fun z z1 z2 z3 => by rw [up_row _ _ _ (by omega)]; exact h z z1 z2 z3
theorem Kt.rf : Kt a V V := fun _ _ _ _ => rfl
end Tell
section Steps2
variable {V : sj_VV} {a b N : Nat} {x1 x2 x3 x4 : Int}
theorem m_in {V : sj_VV} {x lo hi : Int} (hx : sj_i32 x) (h1 : sj_i32 lo) (h2 : sj_i32 hi) : g_X9_isIn N x lo hi V = some (if lo ≤ x ∧ x ≤ hi then 1 else 0, V) := m_isIn (sj_i64_of hx) (sj_i64_of h1) (sj_i64_of h2)
theorem s_quake (hI : INV V a b) (hab : b = a + 189) (h1 : sj_i32 x1) : ST a b (g_X8_quake N a x1) (g_X9_quake N b x1) V := by
  unfold ST g_X8_quake g_X9_quake
  rw [k_ltc h1 ⟨by omega, by omega⟩, k_lec h1 ⟨by omega, by omega⟩]
  by_cases hq : 0 ≤ x1 ∧ x1 ≤ 500
  · rw [if_neg (by omega), if_pos hq.2, k_lt, k_zs (Or.inr rfl)]
    refine ⟨_, _, sj_up (sj_up V (a + 1) 2 x1) (b + 1) 2 x1, rfl, ?_, ?_⟩
    · rw [k_wid h1, m_in h1 ⟨by omega, by omega⟩ ⟨by omega, by omega⟩, k_cs, if_pos hq, k_eqF (by omega) ⟨by omega, by omega⟩ ⟨by omega, by omega⟩, k_ix (by omega) (by omega), k_lt, k_zs (Or.inr rfl)]
      rfl
    · exact hI.told hab (Kt.rf.up (by omega) (by omega)) (hI.1.up1 (k := 0) (i := 2) (j := 2) (v := x1) (by unfold CM; omega) (by unfold CB; omega)) (fun z hz => up_row _ _ _ hz) (up_wUp (up_row _ _ _ (by omega)) _ _) (fun j j1 j2 => wUp_n _ _ (by omega))
  · have hz : (if x1 < 0 then e_zs 0 V else if x1 ≤ 500 then e_lt (sj_up V (a + 1) 2 x1) fun V1 => e_zs 1 V1 else e_zs 0 V) = some (0, V) := by
      by_cases z1 : x1 < 0
      · rw [if_pos z1]; rfl
      · rw [if_neg z1, if_neg (by omega)]; rfl
    rw [hz]
    refine ⟨0, V, V, rfl, ?_, hI⟩
    rw [k_wid h1, m_in h1 ⟨by omega, by omega⟩ ⟨by omega, by omega⟩, k_cs, if_neg hq, k_eqT rfl, k_zs (Or.inl rfl)]
theorem s_soil (hI : INV V a b) (hab : b = a + 189) (h1 : sj_i32 x1) (h2 : sj_i32 x2) (h3 : sj_i32 x3) (h4 : sj_i32 x4) : ST a b (g_X8_soil N a x1 x2 x3 x4) (g_X9_soil N b x1 x2 x3 x4) V := by
  unfold ST g_X8_soil g_X9_soil
  rw [k_ltc h1 ⟨by omega, by omega⟩, k_lec ⟨by omega, by omega⟩ h1, k_ltc h2 ⟨by omega, by omega⟩, k_ltc ⟨by omega, by omega⟩ h2, k_ltc h3 ⟨by omega, by omega⟩, k_ltc ⟨by omega, by omega⟩ h3, k_ltc h4 ⟨by omega, by omega⟩, k_lec h4 ⟨by omega, by omega⟩]
  by_cases q1 : 0 ≤ x1 ∧ x1 ≤ 3
  · by_cases q2 : 1 ≤ x2 ∧ x2 ≤ 30
    · by_cases q3 : 0 ≤ x3 ∧ x3 ≤ 200
      · by_cases q4 : 0 ≤ x4 ∧ x4 ≤ 1500
        · obtain ⟨l, hl⟩ : ∃ l : Nat, x1 = l := ⟨x1.toNat, by omega⟩
          subst hl
          rw [if_neg (by omega), if_neg (by omega), if_neg (by omega), if_neg (by omega), if_neg (by omega), if_neg (by omega), if_neg (by omega), if_pos (by omega), k_ix (by omega) (by omega), k_lt, k_ix (by omega) (by omega), k_lt, k_ix (by omega) (by omega), k_lt, k_zs (Or.inr rfl), tn0]
          obtain ⟨V1, e1⟩ : ∃ V1, V1 = sj_up (sj_up (sj_up V (a + 1 + 6) l x2) (a + 1 + 7) l x3) (a + 1 + 8) l x4 := ⟨_, rfl⟩
          rw [← e1]
          have hR : RG V1 (a + 1) (wUp (wUp (wUp (V (b + 1)) (290 + 3 * l) x2) (291 + 3 * l) x3) (292 + 3 * l) x4) := by
            rw [e1]
            exact ((hI.1.up1 (k := 6) (i := l) (j := 290 + 3 * l) (v := x2) (by unfold CM; omega) (by unfold CB; omega)).up1 (k := 7) (i := l) (j := 291 + 3 * l) (v := x3) (by unfold CM; omega) (by unfold CB; omega)).up1 (k := 8) (i := l) (j := 292 + 3 * l) (v := x4) (by unfold CM; omega) (by unfold CB; omega)
          have f1 : Kt a V V1 := by rw [e1]; exact ((Kt.rf.up (by omega) (by omega)).up (by omega) (by omega)).up (by omega) (by omega)
          have w1 : V1 (b + 1) = V (b + 1) := f1 _ (by omega) (by omega) (by omega)
          refine ⟨_, V1, sj_up (sj_up (sj_up V1 (b + 1) (290 + 3 * l) x2) (b + 1) (291 + 3 * l) x3) (b + 1) (292 + 3 * l) x4, rfl, ?_, ?_⟩
          · rw [k_wid h1, m_in h1 ⟨by omega, by omega⟩ ⟨by omega, by omega⟩, k_cs, if_pos q1, k_eqF (by omega) ⟨by omega, by omega⟩ ⟨by omega, by omega⟩, k_wid h2, m_in h2 ⟨by omega, by omega⟩ ⟨by omega, by omega⟩, k_cs, if_pos q2, k_eqF (by omega) ⟨by omega, by omega⟩ ⟨by omega, by omega⟩, k_wid h3, m_in h3 ⟨by omega, by omega⟩ ⟨by omega, by omega⟩, k_cs, if_pos q3, k_eqF (by omega) ⟨by omega, by omega⟩ ⟨by omega, by omega⟩, k_wid h4, m_in h4 ⟨by omega, by omega⟩ ⟨by omega, by omega⟩, k_cs, if_pos q4, k_eqF (by omega) ⟨by omega, by omega⟩ ⟨by omega, by omega⟩, k_ix (by omega) (by omega), k_lt, k_ix (by omega) (by omega), k_lt, k_ix (by omega) (by omega), k_lt, k_zs (Or.inr rfl), show (290 + 3 * (l : Int)).toNat = 290 + 3 * l by omega, show (290 + 3 * (l : Int) + 1).toNat = 291 + 3 * l by omega, show (290 + 3 * (l : Int) + 2).toNat = 292 + 3 * l by omega]
          · exact hI.told hab f1 hR (fun z hz => by rw [up_row _ _ _ hz, up_row _ _ _ hz, up_row _ _ _ hz]) (up_wUp (up_wUp (up_wUp w1 _ _) _ _) _ _) (fun j j1 j2 => by rw [wUp_n _ _ (by omega), wUp_n _ _ (by omega), wUp_n _ _ (by omega)])
        · refine ⟨0, V, V, ?_, ?_, hI⟩
          · rw [if_neg (by omega), if_neg (by omega), if_neg (by omega), if_neg (by omega), if_neg (by omega), if_neg (by omega)]
            by_cases z : x4 < 0
            · rw [if_pos z]; rfl
            · rw [if_neg z, if_neg (by omega)]; rfl
          · rw [k_wid h1, m_in h1 ⟨by omega, by omega⟩ ⟨by omega, by omega⟩, k_cs, if_pos q1, k_eqF (by omega) ⟨by omega, by omega⟩ ⟨by omega, by omega⟩, k_wid h2, m_in h2 ⟨by omega, by omega⟩ ⟨by omega, by omega⟩, k_cs, if_pos q2, k_eqF (by omega) ⟨by omega, by omega⟩ ⟨by omega, by omega⟩, k_wid h3, m_in h3 ⟨by omega, by omega⟩ ⟨by omega, by omega⟩, k_cs, if_pos q3, k_eqF (by omega) ⟨by omega, by omega⟩ ⟨by omega, by omega⟩, k_wid h4, m_in h4 ⟨by omega, by omega⟩ ⟨by omega, by omega⟩, k_cs, if_neg q4, k_eqT rfl, k_zs (Or.inl rfl)]
      · refine ⟨0, V, V, ?_, ?_, hI⟩
        · rw [if_neg (by omega), if_neg (by omega), if_neg (by omega), if_neg (by omega)]
          by_cases z : x3 < 0
          · rw [if_pos z]; rfl
          · rw [if_neg z, if_pos (by omega)]; rfl
        · rw [k_wid h1, m_in h1 ⟨by omega, by omega⟩ ⟨by omega, by omega⟩, k_cs, if_pos q1, k_eqF (by omega) ⟨by omega, by omega⟩ ⟨by omega, by omega⟩, k_wid h2, m_in h2 ⟨by omega, by omega⟩ ⟨by omega, by omega⟩, k_cs, if_pos q2, k_eqF (by omega) ⟨by omega, by omega⟩ ⟨by omega, by omega⟩, k_wid h3, m_in h3 ⟨by omega, by omega⟩ ⟨by omega, by omega⟩, k_cs, if_neg q3, k_eqT rfl, k_zs (Or.inl rfl)]
    · refine ⟨0, V, V, ?_, ?_, hI⟩
      · rw [if_neg (by omega), if_neg (by omega)]
        by_cases z : x2 < 1
        · rw [if_pos z]; rfl
        · rw [if_neg z, if_pos (by omega)]; rfl
      · rw [k_wid h1, m_in h1 ⟨by omega, by omega⟩ ⟨by omega, by omega⟩, k_cs, if_pos q1, k_eqF (by omega) ⟨by omega, by omega⟩ ⟨by omega, by omega⟩, k_wid h2, m_in h2 ⟨by omega, by omega⟩ ⟨by omega, by omega⟩, k_cs, if_neg q2, k_eqT rfl, k_zs (Or.inl rfl)]
  · refine ⟨0, V, V, ?_, ?_, hI⟩
    · by_cases z : x1 < 0
      · rw [if_pos z]; rfl
      · rw [if_neg z, if_pos (by omega)]; rfl
    · rw [k_wid h1, m_in h1 ⟨by omega, by omega⟩ ⟨by omega, by omega⟩, k_cs, if_neg q1, k_eqT rfl, k_zs (Or.inl rfl)]
end Steps2
