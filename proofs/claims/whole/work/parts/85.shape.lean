/-! SHAPE -/
def spT (w : sj_R) (bs : Nat → Int) (c : Nat) : Int := w (3 + c) - bs c
def spDp (T : Nat → Int) : Nat → Nat → Nat → Nat
  | 0, q, _ => q
  | n + 1, q, c => spDp T n (if T q < T c then c else q) (c + 1)
def spMi (bs : Nat → Int) : Nat → Int → Nat → Int
  | 0, x, _ => x
  | n + 1, x, c => spMi bs n (min x (bs c)) (c + 1)
def spFl (w : sj_R) (lf lifted : Int) (bs : Nat → Int) (x : Nat) : Int := if lifted = 0 then (if slRise lf (bs x) (bs (x + 1)) < 0 then 1 else 0) else if slW w x (bs x) (bs (x + 1)) < slL w x (bs x) (bs (x + 1)) then 1 else 0
section Shape
variable {V : sj_VV} {a b ga f t N : Nat} {w : sj_R} {lf x1 : Int} {bs : Nat → Int}
theorem spDp_b (T : Nat → Int) : ∀ n q c, f ≤ q → q ≤ t → f ≤ c → c + n ≤ t + 1 → f ≤ spDp T n q c ∧ spDp T n q c ≤ t
  | 0, q, c, h1, h2, _, _ => ⟨h1, h2⟩
  | n + 1, q, c, h1, h2, h3, h4 => by
    rw [spDp]
    split
    · exact spDp_b T n c (c + 1) h3 (by omega) (by omega) (by omega)
    · exact spDp_b T n q (c + 1) h1 h2 (by omega) (by omega)
theorem thickAt_eq (hC : CG V ga w) (hL : SL V (ga + 12) f t lf bs) (hb : BB f t lf bs) {c : Nat} (h1 : f ≤ c) (h2 : c ≤ t) : g_X0_thickAt N ga c V = some (spT w bs c, V) := by
  have b2 := hb.2.1
  unfold g_X0_thickAt
  rw [k_ltF (by omega) ⟨by omega, by omega⟩ ⟨by omega, by omega⟩, isNone_eq hL hb, k_cs, k_eqT rfl, k_ix (by omega) (by omega), k_ix (by omega) (by omega), tn0, (hC.2.1 c (by omega)).1, hL.2.2.2 c h1 h2]
  rfl
theorem spT_b (hB : WB 500 200 1500 w) (hb : BB f t lf bs) {c : Nat} (h1 : f ≤ c) (h2 : c ≤ t) : -100 ≤ spT w bs c ∧ spT w bs c ≤ 100 := by
  have g := (hB.2.2.2.1 c (by have := hb.2.1; omega)).1
  have q := hb.2.2.2 c h1 h2
  unfold spT
  omega
theorem area_loop (hC : CG V ga w) (hL : SL V (ga + 12) f t lf bs) (hb : BB f t lf bs) : ∀ (m i : Nat) (acc : Int), f + i ≤ t → t - (f + i) < m → acc = w 1 * spSum (fun x => spT w bs x + spT w bs (x + 1)) f i → g_X0_slipArea_14 N m ga acc ((f + i : Nat) : Int) V = some (w 1 * spSum (fun x => spT w bs x + spT w bs (x + 1)) f (t - f), V)
  | 0, _, _, _, h, _ => absurd h (by omega)
  | m + 1, i, acc, h1, h2, ha => by
    obtain ⟨b1, b2, b3, b4⟩ := id hb
    unfold g_X0_slipArea_14 g_X0_slipArea_14_b
    rw [hL.2.1]
    by_cases hi : f + i = t
    · rw [k_leT (by omega) ⟨by omega, by omega⟩ ⟨by omega, by omega⟩, ha, show i = t - f by omega]
    · have e2 : g_X0_thickAt N ga (((f + i : Nat) : Int) + 1) V = some (spT w bs (f + i + 1), V) := thickAt_eq (c := f + i + 1) hC hL hb (by omega) (by omega)
      rw [k_leF (by omega) ⟨by omega, by omega⟩ ⟨by omega, by omega⟩, thickAt_eq hC hL hb (by omega) (by omega), k_cs, e2, k_cs, k_lt, k_lt, hC.1.2.1]
      exact area_loop hC hL hb m (i + 1) _ (by omega) (by omega) (by rw [spSum, ha, ← Int.mul_add])
theorem deep_loop0 (hC : CG V ga w) (hB : WB 500 200 1500 w) (hL : SL V (ga + 12) f t lf bs) (hb : BB f t lf bs) : ∀ (m i q : Nat), i ≤ t + 1 → t + 1 - i < m → f ≤ i → f ≤ q → q ≤ t → g_X0_thickest_20 N m ga q i V = some (((spDp (spT w bs) (t + 1 - i) q i : Nat) : Int), V)
  | 0, _, _, _, h, _, _, _ => absurd h (by omega)
  | m + 1, i, q, h1, h2, h3, h4, h5 => by
    obtain ⟨b1, b2, b3, b4⟩ := id hb
    unfold g_X0_thickest_20 g_X0_thickest_20_b g_X0_thickest_46
    rw [hL.2.1]
    by_cases hi : i = t + 1
    · subst hi
      rw [k_ltT (by omega) ⟨by omega, by omega⟩ ⟨by omega, by omega⟩, Nat.sub_self, spDp]
    · have g1 := spT_b hB hb (c := i) h3 (by omega)
      have g2 := spT_b hB hb (c := q) h4 h5
      rw [k_ltF (by omega) ⟨by omega, by omega⟩ ⟨by omega, by omega⟩, thickAt_eq hC hL hb h3 (by omega), k_cs, thickAt_eq hC hL hb h4 h5, k_cs, k_lec ⟨by omega, by omega⟩ ⟨by omega, by omega⟩, k_lt, show t + 1 - i = (t + 1 - (i + 1)) + 1 by omega, spDp]
      by_cases z : spT w bs i ≤ spT w bs q
      · rw [if_pos z, if_neg (by omega)]
        exact deep_loop0 hC hB hL hb m (i + 1) q (by omega) (by omega) (by omega) h4 h5
      · rw [if_neg z, if_pos (by omega)]
        exact deep_loop0 hC hB hL hb m (i + 1) i (by omega) (by omega) (by omega) h3 (by omega)
theorem thickest_eq (hC : CG V ga w) (hB : WB 500 200 1500 w) (hL : SL V (ga + 12) f t lf bs) (hb : BB f t lf bs) (hN : 50 ≤ N) : g_X0_thickest N ga V = some (((spDp (spT w bs) (t + 1 - f) f f : Nat) : Int), V) := by
  obtain ⟨b1, b2, b3, b4⟩ := id hb
  unfold g_X0_thickest
  rw [k_lt, hL.1, k_max ⟨by omega, by omega⟩ ⟨by omega, by omega⟩, show max (f : Int) 0 = f by omega]
  exact deep_loop0 hC hB hL hb N f f (by omega) (by omega) (by omega) (by omega) (by omega)
theorem min_loop {sa : Nat} (hL : SL V sa f t lf bs) (hb : BB f t lf bs) : ∀ (m i : Nat) (x : Int), i ≤ t + 1 → t + 1 - i < m → f ≤ i → 0 ≤ x ∧ x ≤ 100 → g_X5_leastBase_12 N m sa x i V = some (spMi bs (t + 1 - i) x i, V)
  | 0, _, _, _, h, _, _ => absurd h (by omega)
  | m + 1, i, x, h1, h2, h3, hx => by
    obtain ⟨b1, b2, b3, b4⟩ := id hb
    unfold g_X5_leastBase_12 g_X5_leastBase_12_b
    rw [hL.2.1]
    by_cases hi : i = t + 1
    · subst hi
      rw [k_ltT (by omega) ⟨by omega, by omega⟩ ⟨by omega, by omega⟩, Nat.sub_self, spMi]
    · have g := b4 i h3 (by omega)
      rw [k_ltF (by omega) ⟨by omega, by omega⟩ ⟨by omega, by omega⟩, k_ix (by omega) (by omega), tn0, hL.2.2.2 i h3 (by omega), k_min ⟨by omega, by omega⟩ ⟨by omega, by omega⟩, k_lt, show t + 1 - i = (t + 1 - (i + 1)) + 1 by omega, spMi]
      exact min_loop hL hb m (i + 1) _ (by omega) (by omega) (by omega) (by omega)
theorem m_area_loop (hw : V (a + 1) = w) (hS : SM V a f t lf bs) (hb : BB f t lf bs) : ∀ (m i : Nat), f + i ≤ t → t - (f + i) < m → g_X9_bodyOf_7 N m a (spSum (fun x => spT w bs x + spT w bs (x + 1)) f i) ((f + i : Nat) : Int) V = some (w 1 * spSum (fun x => spT w bs x + spT w bs (x + 1)) f (t - f), V)
  | 0, _, _, h => absurd h (by omega)
  | m + 1, i, h1, h2 => by
    obtain ⟨b1, b2, b3, b4⟩ := id hb
    unfold g_X9_bodyOf_7 g_X9_bodyOf_7_b
    rw [hS.2.1]
    by_cases hi : f + i = t
    · rw [k_leT (by omega) ⟨by omega, by omega⟩ ⟨by omega, by omega⟩, k_ix (by omega) (by omega), hw, show i = t - f by omega]
      rfl
    · rw [k_leF (by omega) ⟨by omega, by omega⟩ ⟨by omega, by omega⟩, k_ix (by omega) (by omega), k_ix (by omega) (by omega), k_ix (by omega) (by omega), k_ix (by omega) (by omega), k_lt, k_lt, hw, tn0, show (3 + ((f + i : Nat) : Int)).toNat = 3 + (f + i) by omega, show (3 + ((f + i : Nat) : Int) + 1).toNat = 3 + (f + i + 1) by omega, show (((f + i : Nat) : Int) + 1).toNat = f + i + 1 by omega, hS.2.2.2 (f + i) (by omega) (by omega), hS.2.2.2 (f + i + 1) (by omega) (by omega)]
      have e : spSum (fun x => spT w bs x + spT w bs (x + 1)) f i + (w (3 + (f + i)) - bs (f + i) + w (3 + (f + i + 1)) - bs (f + i + 1)) = spSum (fun x => spT w bs x + spT w bs (x + 1)) f (i + 1) := by
        rw [spSum]; unfold spT; omega
      rw [e]
      exact m_area_loop hw hS hb m (i + 1) (by omega) (by omega)
theorem m_deep_loop0 (hw : V (a + 1) = w) (hB : WB 500 200 1500 w) (hS : SM V a f t lf bs) (hb : BB f t lf bs) : ∀ (m i q : Nat), i ≤ t + 1 → t + 1 - i < m → f ≤ i → f ≤ q → q ≤ t → g_X9_deepest_10 N m a q i V = some (((spDp (spT w bs) (t + 1 - i) q i : Nat) : Int), V)
  | 0, _, _, _, h, _, _, _ => absurd h (by omega)
  | m + 1, i, q, h1, h2, h3, h4, h5 => by
    obtain ⟨b1, b2, b3, b4⟩ := id hb
    unfold g_X9_deepest_10 g_X9_deepest_10_b g_X9_deepest_53
    rw [hS.2.1]
    by_cases hi : i = t + 1
    · subst hi
      rw [k_ltT (by omega) ⟨by omega, by omega⟩ ⟨by omega, by omega⟩, Nat.sub_self, spDp]
    · have g1 := spT_b hB hb (c := i) h3 (by omega)
      have g2 := spT_b hB hb (c := q) h4 h5
      have e1 : w (3 + i) - bs i = spT w bs i := rfl
      have e2 : w (3 + q) - bs q = spT w bs q := rfl
      rw [k_ltF (by omega) ⟨by omega, by omega⟩ ⟨by omega, by omega⟩, k_ix (by omega) (by omega), k_ix (by omega) (by omega), k_ix (by omega) (by omega), k_ix (by omega) (by omega), hw, tn0, tn0, show (3 + (i : Int)).toNat = 3 + i by omega, show (3 + (q : Int)).toNat = 3 + q by omega, hS.2.2.2 i h3 (by omega), hS.2.2.2 q h4 h5, e1, e2, k_lec ⟨by omega, by omega⟩ ⟨by omega, by omega⟩, k_lt, show t + 1 - i = (t + 1 - (i + 1)) + 1 by omega, spDp]
      by_cases z : spT w bs i ≤ spT w bs q
      · rw [if_pos z, if_neg (by omega)]
        exact m_deep_loop0 hw hB hS hb m (i + 1) q (by omega) (by omega) (by omega) h4 h5
      · rw [if_neg z, if_pos (by omega)]
        exact m_deep_loop0 hw hB hS hb m (i + 1) i (by omega) (by omega) (by omega) h3 (by omega)
theorem m_deepest (hw : V (a + 1) = w) (hB : WB 500 200 1500 w) (hS : SM V a f t lf bs) (hb : BB f t lf bs) (hN : 50 ≤ N) : g_X9_deepest N a V = some (((spDp (spT w bs) (t + 1 - f) f f : Nat) : Int), V) := by
  obtain ⟨b1, b2, b3, b4⟩ := id hb
  unfold g_X9_deepest
  rw [k_lt, k_lt, hS.1]
  exact m_deep_loop0 hw hB hS hb N f f (by omega) (by omega) (by omega) (by omega) (by omega)
theorem m_min_loop (hS : SM V a f t lf bs) (hb : BB f t lf bs) : ∀ (m i : Nat) (x : Int), i ≤ t + 1 → t + 1 - i < m → f ≤ i → 0 ≤ x ∧ x ≤ 100 → g_X9_leastBase_15 N m a x i V = some (spMi bs (t + 1 - i) x i, V)
  | 0, _, _, _, h, _, _ => absurd h (by omega)
  | m + 1, i, x, h1, h2, h3, hx => by
    obtain ⟨b1, b2, b3, b4⟩ := id hb
    unfold g_X9_leastBase_15 g_X9_leastBase_15_b
    rw [hS.2.1]
    by_cases hi : i = t + 1
    · subst hi
      rw [k_ltT (by omega) ⟨by omega, by omega⟩ ⟨by omega, by omega⟩, Nat.sub_self, spMi]
    · have g := b4 i h3 (by omega)
      rw [k_ltF (by omega) ⟨by omega, by omega⟩ ⟨by omega, by omega⟩, k_ix (by omega) (by omega), tn0, hS.2.2.2 i h3 (by omega), m_least ⟨by omega, by omega⟩ ⟨by omega, by omega⟩, k_cs, k_lt, show t + 1 - i = (t + 1 - (i + 1)) + 1 by omega, spMi]
      exact m_min_loop hS hb m (i + 1) _ (by omega) (by omega) (by omega) (by omega)
theorem m_cnt_loop {q : Int} (hq : q = 0 ∨ q = 1) (hB : WB 500 200 1500 w) (hb : BB f t lf bs) (hN : 50 ≤ N) : ∀ (m i : Nat) (V : sj_VV), f + i ≤ t → t - (f + i) < m → V (a + 1) = w → SM V a f t lf bs → ∃ V', g_X9_slicesOf_7 N m a q (spSum (spFl w lf q bs) f i) ((f + i : Nat) : Int) V = some (spSum (spFl w lf q bs) f (t - f), V') ∧ Fm a V V'
  | 0, _, _, _, h, _, _ => absurd h (by omega)
  | m + 1, i, V, h1, h2, hw, hS => by
    obtain ⟨b1, b2, b3, b4⟩ := id hb
    unfold g_X9_slicesOf_7 g_X9_slicesOf_7_b g_X9_slicesOf_47 g_X9_slicesOf_51 g_X9_slicesOf_52
    rw [hS.2.1]
    by_cases hi : f + i = t
    · rw [k_leT (by omega) ⟨by omega, by omega⟩ ⟨by omega, by omega⟩, ← show i = t - f by omega]
      exact ⟨V, rfl, Fm.rf⟩
    · have hit : f + i < t := by omega
      obtain ⟨V3, r1, r2, r3⟩ := m_laysAt hw hB (by omega) (by omega) (by omega) hN hS hb (x := f + i) (by omega) hit
      obtain ⟨l1, l2, l3, l4, l5, l6, l7⟩ := r3
      obtain ⟨V4, q1, q2⟩ := m_cnt_loop hq hB hb hN m (i + 1) V3 (by omega) (by omega) ((r2.w 0).trans hw) (hS.fm r2)
      have p1 := b4 (f + i) (by omega) (by omega)
      have p2 := b4 (f + i + 1) (by omega) (by omega)
      have g1 := slRise_b (lf := lf) p1 p2
      have g2 := slW_b hB (by omega) (x := f + i) (by omega) p1 p2
      have g3 := slL_b hB (x := f + i) (by omega) p1 p2
      refine ⟨V4, ?_, r2.tr q2⟩
      rw [k_leF (by omega) ⟨by omega, by omega⟩ ⟨by omega, by omega⟩, r1, k_cs, l1, l3, l4, k_lec ⟨by omega, by omega⟩ ⟨by omega, by omega⟩, k_llec ⟨by omega, by omega⟩ ⟨by omega, by omega⟩, ← q1, spSum, k_lt, k_lt, k_lt, k_lt]
      unfold spFl
      rcases hq with z | z
      · rw [k_eqT z, if_pos z]
        by_cases y : 0 ≤ slRise lf (bs (f + i)) (bs (f + i + 1))
        · rw [if_pos y, if_neg (by omega)]; rfl
        · rw [if_neg y, if_pos (by omega)]; rfl
      · rw [k_eqF (by omega) ⟨by omega, by omega⟩ ⟨by omega, by omega⟩, if_neg (show ¬ q = 0 by omega)]
        by_cases y : slL w (f + i) (bs (f + i)) (bs (f + i + 1)) ≤ slW w (f + i) (bs (f + i)) (bs (f + i + 1))
        · rw [if_pos y, if_neg (by omega)]; rfl
        · rw [if_neg y, if_pos (by omega)]; rfl
def spShape (w : sj_R) (x : Int) : Int := if w 320 = -1 then -1 else if x = 0 then w 1 * spSum (fun x => spT w (wb w) x + spT w (wb w) (x + 1)) (wf w) (wt w - wf w) else if x = 1 then spT w (wb w) (spDp (spT w (wb w)) (wt w + 1 - wf w) (wf w) (wf w)) else if x = 2 then (spDp (spT w (wb w)) (wt w + 1 - wf w) (wf w) (wf w) : Nat) else if x = 3 then spMi (wb w) (wt w + 1 - wf w) 100 (wf w) else if x = 4 then spSum (spFl w (w 322) 0 (wb w)) (wf w) (wt w - wf w) else if x = 5 then spSum (spFl w (w 322) 1 (wb w)) (wf w) (wt w - wf w) else -1
theorem c_shape (hR : RG V (a + 1) w) (h1 : sj_i32 x1) (hN : 1000 ≤ N) : ∃ V', g_X8_shape N a x1 V = some (spShape w x1, V') ∧ Fr (a + 54) (a + 63) V V' := by
  unfold g_X8_shape spShape
  by_cases h0 : w 320 = -1
  · rw [cutUp_0 hR h0, k_cs, k_eqT rfl, if_pos h0]
    exact ⟨V, rfl, Fr.rf⟩
  · have hb := (hR.2.1.bb h0).2
    obtain ⟨b1, b2, b3, b4⟩ := id hb
    obtain ⟨V2, r1, r2, r3⟩ := cutUp_1 (N := N) hR h0 (by omega)
    have hC2 : CG V2 (a + 1) w := hR.2.2.1.fr r2 (by omega)
    have hL2 := (hR.2.2.2.2.2 h0).fr r2 (by omega)
    rw [r1, k_cs, k_eqF (by omega) ⟨by omega, by omega⟩ ⟨by omega, by omega⟩, k_sw h1, if_neg h0]
    refine ⟨V2, ?_, r2⟩
    by_cases z0 : x1 = 0
    · rw [if_pos z0, if_pos z0]
      unfold g_X0_slipArea
      have e : g_X0_slipArea_14 N N (a + 1) 0 ((wf w : Nat) : Int) V2 = _ := area_loop (N := N) hC2 hL2 hb N 0 0 (by omega) (by omega) (by rw [spSum, Int.mul_zero])
      rw [hL2.1, k_max ⟨by omega, by omega⟩ ⟨by omega, by omega⟩, show max ((wf w : Nat) : Int) 0 = (wf w : Nat) by omega, e, k_cs]
    rw [if_neg z0, if_neg z0]
    have bd := spDp_b (f := wf w) (t := wt w) (spT w (wb w)) (wt w + 1 - wf w) (wf w) (wf w) (by omega) (by omega) (by omega) (by omega)
    by_cases z1 : x1 = 1
    · rw [if_pos z1, if_pos z1, thickest_eq hC2 hR.1 hL2 hb (by omega), k_cs, thickAt_eq hC2 hL2 hb bd.1 bd.2, k_cs]
    rw [if_neg z1, if_neg z1]
    by_cases z2 : x1 = 2
    · rw [if_pos z2, if_pos z2, thickest_eq hC2 hR.1 hL2 hb (by omega), k_cs]
    rw [if_neg z2, if_neg z2]
    by_cases z3 : x1 = 3
    · rw [if_pos z3, if_pos z3]
      unfold g_X5_leastBase
      rw [hL2.1, k_max ⟨by omega, by omega⟩ ⟨by omega, by omega⟩, show max ((wf w : Nat) : Int) 0 = (wf w : Nat) by omega, min_loop hL2 hb N (wf w) 100 (by omega) (by omega) (by omega) (by omega), k_cs]
    rw [if_neg z3, if_neg z3]
    by_cases z4 : x1 = 4
    · rw [if_pos z4, if_pos z4, countFalling_eq r3 hb (by omega), k_cs]
      rfl
    rw [if_neg z4, if_neg z4]
    by_cases z5 : x1 = 5
    · rw [if_pos z5, if_pos z5, countAfloat_eq r3 hR.1 (by omega) hb (by omega), k_cs]
      rfl
    rw [if_neg z5, if_neg z5]
theorem m_shape (hw : V (a + 1) = w) (hB : WB 500 200 1500 w) (hP : SP w) (h1 : sj_i32 x1) (hN : 1000 ≤ N) : ∃ V', g_X9_shape N a x1 V = some (spShape w x1, V') ∧ Fc a V V' := by
  unfold g_X9_shape spShape
  obtain ⟨V2, r1, r2, r3⟩ := m_takesSlip (N := N) hw hB hP (by omega)
  have w2 := r2.w.trans hw
  rw [r1, k_cs]
  by_cases h0 : w 320 = -1
  · rw [if_pos h0, if_pos h0, k_eqT rfl]
    exact ⟨V2, rfl, r2⟩
  · have hb := (hP.bb h0).2
    have hS := r3 h0
    obtain ⟨b1, b2, b3, b4⟩ := id hb
    rw [if_neg h0, if_neg h0, k_eqF (by omega) ⟨by omega, by omega⟩ ⟨by omega, by omega⟩, k_sw h1]
    by_cases z0 : x1 = 0
    · rw [if_pos z0, if_pos z0]
      unfold g_X9_bodyOf
      have e : g_X9_bodyOf_7 N N a 0 ((wf w : Nat) : Int) V2 = _ := m_area_loop (N := N) w2 hS hb N 0 (by omega) (by omega)
      rw [k_lt, hS.1, e, k_cs]
      exact ⟨V2, rfl, r2⟩
    rw [if_neg z0, if_neg z0]
    have bd := spDp_b (f := wf w) (t := wt w) (spT w (wb w)) (wt w + 1 - wf w) (wf w) (wf w) (by omega) (by omega) (by omega) (by omega)
    by_cases z1 : x1 = 1
    · rw [if_pos z1, if_pos z1, m_deepest w2 hB hS hb (by omega), k_cs, k_ix (by omega) (by omega), m_deepest w2 hB hS hb (by omega), k_cs, k_ix (by omega) (by omega), tn0, w2, hS.2.2.2 _ bd.1 bd.2]
      refine ⟨V2, ?_, r2⟩
      rw [show (3 + ((spDp (spT w (wb w)) (wt w + 1 - wf w) (wf w) (wf w) : Nat) : Int)).toNat = 3 + spDp (spT w (wb w)) (wt w + 1 - wf w) (wf w) (wf w) by omega]
      rfl
    rw [if_neg z1, if_neg z1]
    by_cases z2 : x1 = 2
    · rw [if_pos z2, if_pos z2, m_deepest w2 hB hS hb (by omega), k_cs]
      exact ⟨V2, rfl, r2⟩
    rw [if_neg z2, if_neg z2]
    by_cases z3 : x1 = 3
    · have g := b4 (wf w) (by omega) (by omega)
      have e : spMi (wb w) (wt w + 1 - wf w) (wb w (wf w)) (wf w) = spMi (wb w) (wt w + 1 - wf w) 100 (wf w) := by
        rw [show wt w + 1 - wf w = (wt w - wf w) + 1 by omega, spMi, spMi, show min (wb w (wf w)) (wb w (wf w)) = min 100 (wb w (wf w)) by omega]
      rw [if_pos z3, if_pos z3]
      unfold g_X9_leastBase
      rw [hS.1, k_ix (by omega) (by omega), k_lt, k_lt, tn0, hS.2.2.2 (wf w) (by omega) (by omega), m_min_loop hS hb N (wf w) (wb w (wf w)) (by omega) (by omega) (by omega) g, k_cs, e]
      exact ⟨V2, rfl, r2⟩
    rw [if_neg z3, if_neg z3]
    by_cases z4 : x1 = 4
    · rw [if_pos z4, if_pos z4]
      unfold g_X9_slicesOf
      obtain ⟨V3, s1, s2⟩ := m_cnt_loop (N := N) (a := a) (q := 0) (Or.inl rfl) hB hb (by omega) N 0 V2 (by omega) (by omega) w2 hS
      have s1' : g_X9_slicesOf_7 N N a 0 0 ((wf w : Nat) : Int) V2 = _ := s1
      rw [k_lt, hS.1, s1', k_cs]
      exact ⟨V3, rfl, r2.tr s2.c⟩
    rw [if_neg z4, if_neg z4]
    by_cases z5 : x1 = 5
    · rw [if_pos z5, if_pos z5]
      unfold g_X9_slicesOf
      obtain ⟨V3, s1, s2⟩ := m_cnt_loop (N := N) (a := a) (q := 1) (Or.inr rfl) hB hb (by omega) N 0 V2 (by omega) (by omega) w2 hS
      have s1' : g_X9_slicesOf_7 N N a 1 0 ((wf w : Nat) : Int) V2 = _ := s1
      rw [k_lt, hS.1, s1', k_cs]
      exact ⟨V3, rfl, r2.tr s2.c⟩
    rw [if_neg z5, if_neg z5]
    exact ⟨V2, rfl, r2⟩
theorem s_shape (hI : INV V a b) (hab : b = a + 189) (h1 : sj_i32 x1) (hN : 1000 ≤ N) : ST a b (g_X8_shape N a x1) (g_X9_shape N b x1) V := by
  obtain ⟨V', r1, r2⟩ := c_shape (N := N) hI.1 h1 hN
  refine ST.ask hI hab ⟨V', r1, Kc.ff r2 (by omega) (by omega)⟩ (fun V1 e => ?_)
  obtain ⟨V2, s1, s2⟩ := m_shape (N := N) e hI.1.1 hI.1.2.1 h1 (by omega)
  exact ⟨V2, s1, Km.fc s2⟩
end Shape
