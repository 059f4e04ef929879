/-! TABLES: the class's Table; A: where it lies; its ground is that of now (1) -/
def TT (V : sj_VV) (A : Nat) (w : sj_R) (c : Nat) : Prop := ∀ l, l < 4 → V (A + 4) l = spTop w l c + spTop w l (c + 1)
def TW (V : sj_VV) (A : Nat) (w : sj_R) : Prop := ∀ (c : Nat) (h : Int), (c : Int) ≤ w 0 → w (44 + c) ≤ h → h ≤ w (3 + c) → V (A + 3) ((c : Int) * 101 + h).toNat = spOn w c h
section Table
variable {V : sj_VV} {A N c : Nat} {w : sj_R} {t lf k o h : Int}
theorem leftOver_98 (hC : CG V 1 w) (hB : WB 500 200 1500 w) (hA : 20 ≤ A) (hc : c + 1 < 41) (ho : 0 ≤ o ∧ o ≤ 100) (hh : 0 ≤ h ∧ h ≤ 100) (h8 : V A 8 = k) (hk : 0 ≤ k ∧ k ≤ 20001) (hw1 : V (A + 3) ((c : Int) * 101 + o).toNat = spOn w c o) (hw2 : V (A + 3) (((c : Int) + 1) * 101 + h).toNat = spOn w (c + 1) h) {y : Int} (hy : y = if 0 < slD w lf c o h k then 0 else 1) : g_X6_leftOver_98 N A c o h (slY w c o h : Nat) (w 1) (w (292 + 3 * slY w c o h)) (slRise lf o h) (slD w lf c o h k) y A V = some (if 0 < slD w lf c o h k then wQ w lf k c o h else 0, sj_up V A 13 y) := by
  unfold g_X6_leftOver_98
  have hl : slY w c o h < 4 := spLayer_b w c (o + h)
  have hs := hB.2.2.2.2.2.1 (slY w c o h) hl
  have hr := slRise_b (lf := lf) ho hh
  have hD := slD_b (x := c) (lf := lf) hB (by omega) ho hh hk
  have b1 := hB.2.1
  have b2 := hB.2.2.1
  obtain ⟨V1, e⟩ : ∃ V1, V1 = sj_up V A 13 y := ⟨_, rfl⟩
  have f1 : Fr A (A + 1) V V1 := by rw [e]; exact Fr.rf.up (by omega) (by omega)
  have hC1 : CG V1 1 w := hC.fr f1 (by omega)
  have e8 : V1 A 8 = k := by rw [e, up_nk _ _ _ (by omega)]; exact h8
  have r3 : V1 (A + 3) = V (A + 3) := f1 _ (by omega)
  rw [k_zz (by rw [hy]; split <;> omega), k_lt, ← e, k_lltc ⟨by omega, by omega⟩ ⟨by omega, by omega⟩]
  by_cases hd : 0 < slD w lf c o h k
  · have o1 := spOn_b hB (c := c) (b := o) (by omega) ho.1
    have o2 := spOn_b hB (c := c + 1) (b := h) hc hh.1
    have hW := slW_b hB (by omega) hc ho hh
    have hL := slL_b hB hc ho hh
    have hP := slP_b hB (by omega) hc ho hh
    have hG := slGk_b (lf := lf) hB (by omega) (by omega) (by omega) hc ho hh hk
    have q1 := mul_b (x := w 1) (y := w 1) (X := 10) (Y := 10) (by omega) (by omega) (by omega) (by omega)
    have q2 : 0 ≤ slRise lf o h * slRise lf o h ∧ slRise lf o h * slRise lf o h ≤ 10000 := by
      rcases (show 0 ≤ slRise lf o h ∨ slRise lf o h < 0 by omega) with z | z
      · have := mul_b (x := slRise lf o h) (y := slRise lf o h) (X := 100) (Y := 100) (by omega) (by omega) (by omega) (by omega)
        omega
      · have := mul_b (x := -slRise lf o h) (y := -slRise lf o h) (X := 100) (Y := 100) (by omega) (by omega) (by omega) (by omega)
        rw [Int.neg_mul_neg] at this
        omega
    have q3 := mul_b (x := w 2) (y := w 1) (X := 500) (Y := 10) (by omega) (by omega) (by omega) (by omega)
    have ec : ((c : Int) + 1) = ((c + 1 : Nat) : Int) := by omega
    have eW : w 1 * (spOn w c o + spOn w (c + 1) h) = slW w c o h := rfl
    have eL : 10 * w 1 * (spHead w c o + spHead w (c + 1) h) = slL w c o h := rfl
    have eP : max 0 (slW w c o h - slL w c o h) = slP w c o h := rfl
    have e7 := (hC1.2.2.2.1 _ hl).2.1
    rw [if_pos hd, if_pos hd, k_ix (by omega) (by omega), k_ix (by omega) (by omega), k_lt, r3, hw1, hw2, eW, headOn_eq hC1 hB (by omega) ho, k_cs, ec, headOn_eq hC1 hB (by omega) hh, k_cs, k_lt, eL, k_ix (by omega) (by omega), tn0, e7, k_wid ⟨by omega, by omega⟩, k_wid ⟨by omega, by omega⟩, k_max ⟨by omega, by omega⟩ ⟨by omega, by omega⟩, eP, k_wid ⟨by omega, by omega⟩, k_wid ⟨by omega, by omega⟩, k_lt, k_wid ⟨by omega, by omega⟩, e8, k_wid ⟨by omega, by omega⟩]
    have eG : (2000 * w (291 + 3 * slY w c o h) * w 1 + slP w c o h * w (292 + 3 * slY w c o h)) * (w 1 * w 1 + slRise lf o h * slRise lf o h) * k = slG w lf c o h * k := rfl
    rw [eG, k_dJ ⟨by omega, by omega⟩ ⟨by omega, by omega⟩ (by omega), Int.tdiv_eq_ediv_of_nonneg hG.1, k_wid ⟨by omega, by omega⟩, k_wid ⟨by omega, by omega⟩, k_wid ⟨by omega, by omega⟩, hC1.1.2.2, k_wid ⟨by omega, by omega⟩]
    rfl
  · rw [if_neg hd, if_neg hd]
theorem leftOver_loop (hC : CG V 1 w) (hB : WB 500 200 1500 w) (hA : 20 ≤ A) (hc : c + 1 < 41) (ho : 0 ≤ o ∧ o ≤ 100) (hh : 0 ≤ h ∧ h ≤ 100) (h7 : V A 7 = lf) (hlf : lf = 0 ∨ lf = 1) (h8 : V A 8 = k) (hk : 0 ≤ k ∧ k ≤ 20001) (hT : TT V A w c) (hw1 : V (A + 3) ((c : Int) * 101 + o).toNat = spOn w c o) (hw2 : V (A + 3) (((c : Int) + 1) * 101 + h).toNat = spOn w (c + 1) h) : ∀ (m l : Nat), l < 4 → l < m → (∀ j, l < j → j < 4 → ¬ spTop w j c + spTop w j (c + 1) > o + h) → g_X6_leftOver_3 N m A c o h l V = some (if 0 < slD w lf c o h k then wQ w lf k c o h else 0, sj_up V A 13 (if 0 < slD w lf c o h k then 0 else 1))
  | 0, _, _, h', _ => absurd h' (by omega)
  | m + 1, l, hl, hm, hj => by
    have key : l = slY w c o h → g_X6_leftOver_27 N A c o h l V = some (if 0 < slD w lf c o h k then wQ w lf k c o h else 0, sj_up V A 13 (if 0 < slD w lf c o h k then 0 else 1)) := by
      intro el
      have hs := hB.2.2.2.2.2.1 l hl
      have b1 := hB.2.1
      have hr := slRise_b (lf := lf) ho hh
      have hD := slD_b (x := c) (lf := lf) hB (by omega) ho hh hk
      have e8 := (hC.2.2.2.1 _ hl).2.2
      have k2 : g_X6_leftOver_64 N A c o h l (w 1) (w (292 + 3 * l)) (slRise lf o h) V = some (if 0 < slD w lf c o h k then wQ w lf k c o h else 0, sj_up V A 13 (if 0 < slD w lf c o h k then 0 else 1)) := by
        unfold g_X6_leftOver_64
        have eD : w 1 * k + slRise lf o h * w (292 + 3 * l) = slD w lf c o h k := by rw [el]; rfl
        rw [k_wid ⟨by omega, by omega⟩, h8, k_wid ⟨by omega, by omega⟩, k_wid ⟨by omega, by omega⟩, k_wid ⟨by omega, by omega⟩, k_lt, eD, k_lltc ⟨by omega, by omega⟩ ⟨by omega, by omega⟩, el]
        by_cases hd : 0 < slD w lf c o h k
        · have := leftOver_98 (N := N) (lf := lf) hC hB hA hc ho hh h8 hk hw1 hw2 (y := 0) (by rw [if_pos hd])
          rw [if_pos hd] at this
          rw [if_pos hd, if_pos hd, if_pos hd, this]
        · have := leftOver_98 (N := N) (lf := lf) hC hB hA hc ho hh h8 hk hw1 hw2 (y := 1) (by rw [if_neg hd])
          rw [if_neg hd] at this
          rw [if_neg hd, if_neg hd, if_neg hd, this]
      unfold g_X6_leftOver_27
      rw [k_lt, k_ix (by omega) (by omega), k_lt, tn0, e8, hC.1.2.1, h7]
      rcases hlf with rfl | rfl
      · rw [k_eqT rfl]; exact k2
      · rw [k_eqF (by omega) ⟨by omega, by omega⟩ ⟨by omega, by omega⟩]; exact k2
    unfold g_X6_leftOver_3 g_X6_leftOver_3_b
    by_cases h0 : l = 0
    · subst h0
      rw [k_leT (by omega) ⟨by omega, by omega⟩ ⟨by omega, by omega⟩]
      refine key ?_
      unfold slY spLayer
      rw [if_neg (hj 3 (by omega) (by omega)), if_neg (hj 2 (by omega) (by omega)), if_neg (hj 1 (by omega) (by omega))]
    · have t1 := spTop_100 hB (c := c) (by omega) hl
      have t2 := spTop_100 hB hc hl
      rw [k_leF (by omega) ⟨by omega, by omega⟩ ⟨by omega, by omega⟩, k_ix (by omega) (by omega), tn0, hT l hl, k_ltc ⟨by omega, by omega⟩ ⟨by omega, by omega⟩]
      by_cases h1 : o + h < spTop w l c + spTop w l (c + 1)
      · rw [if_pos h1]
        refine key ?_
        unfold slY spLayer
        rcases (show l = 1 ∨ l = 2 ∨ l = 3 by omega) with rfl | rfl | rfl
        · rw [if_neg (hj 3 (by omega) (by omega)), if_neg (hj 2 (by omega) (by omega)), if_pos (by omega)]
        · rw [if_neg (hj 3 (by omega) (by omega)), if_pos (by omega)]
        · rw [if_pos (by omega)]
      · rw [if_neg h1, k_lt, show ((l : Int) + -1) = ((l - 1 : Nat) : Int) by omega]
        refine leftOver_loop hC hB hA hc ho hh h7 hlf h8 hk hT hw1 hw2 m (l - 1) (by omega) (by omega) (fun j j1 j2 => ?_)
        by_cases hjl : j = l
        · subst hjl; omega
        · exact hj j (by omega) j2
theorem leftOver_eq (hC : CG V 1 w) (hB : WB 500 200 1500 w) (hA : 20 ≤ A) (hc : c + 1 < 41) (ho : 0 ≤ o ∧ o ≤ 100) (hh : 0 ≤ h ∧ h ≤ 100) (h7 : V A 7 = lf) (hlf : lf = 0 ∨ lf = 1) (h8 : V A 8 = k) (hk : 0 ≤ k ∧ k ≤ 20001) (hT : TT V A w c) (hw1 : V (A + 3) ((c : Int) * 101 + o).toNat = spOn w c o) (hw2 : V (A + 3) (((c : Int) + 1) * 101 + h).toNat = spOn w (c + 1) h) (hN : 50 ≤ N) : g_X6_leftOver N A c o h V = some (if 0 < slD w lf c o h k then wQ w lf k c o h else 0, sj_up V A 13 (if 0 < slD w lf c o h k then 0 else 1)) := by
  unfold g_X6_leftOver
  exact leftOver_loop hC hB hA hc ho hh h7 hlf h8 hk hT hw1 hw2 N 3 (by omega) (by omega) (fun j j1 j2 => by omega)
theorem addTops_loop (hB : WB 500 200 1500 w) (hA : 20 ≤ A) (hc : c + 1 < 41) (hN : 50 ≤ N) : ∀ (m l : Nat) (V : sj_VV), l ≤ 4 → 4 - l < m → CG V 1 w → (∀ j, j < l → V (A + 4) j = spTop w j c + spTop w j (c + 1)) → ∃ V', g_X6_addTops_2 N m A c l V = some ((), V') ∧ Fr (A + 4) (A + 5) V V' ∧ TT V' A w c
  | 0, _, _, _, h', _, _ => absurd h' (by omega)
  | m + 1, l, V, h1, h2, hC, hj => by
    unfold g_X6_addTops_2 g_X6_addTops_2_b
    by_cases h4 : l = 4
    · subst h4
      rw [k_leT (by omega) ⟨by omega, by omega⟩ ⟨by omega, by omega⟩]
      exact ⟨V, rfl, Fr.rf, hj⟩
    · have hl : l < 4 := by omega
      rw [k_leF (by omega) ⟨by omega, by omega⟩ ⟨by omega, by omega⟩, topAt_eq hC hB (by omega) hl (by omega), k_cs, show ((c : Int) + 1) = ((c + 1 : Nat) : Int) by omega, topAt_eq hC hB (by omega) hl (by omega), k_cs, k_ix (by omega) (by omega), k_lt, k_lt, tn0]
      have f1 : Fr (A + 4) (A + 5) V (sj_up V (A + 4) l (spTop w l c + spTop w l (c + 1))) := Fr.rf.up (by omega) (by omega)
      obtain ⟨V2, r1, r2, r3⟩ := addTops_loop hB hA hc hN m (l + 1) (sj_up V (A + 4) l (spTop w l c + spTop w l (c + 1))) (by omega) (by omega) (hC.fr f1 (by omega)) (fun j hj2 => by
        by_cases z : j = l
        · subst z; rw [up_ss]
        · rw [up_nk _ _ _ (by omega)]; exact hj j (by omega))
      exact ⟨V2, r1, f1.tr r2, r3⟩
theorem addTops_eq (hB : WB 500 200 1500 w) (hA : 20 ≤ A) (hc : c + 1 < 41) (hN : 50 ≤ N) (hC : CG V 1 w) : ∃ V', g_X6_addTops N A c V = some ((), V') ∧ Fr (A + 4) (A + 5) V V' ∧ TT V' A w c := by
  unfold g_X6_addTops
  exact addTops_loop hB hA hc hN N 0 V (by omega) (by omega) hC (fun j hj => by omega)
/-! weights of all bases -/
theorem weighAll_loop (hB : WB 500 200 1500 w) (hA : 20 ≤ A) (hN : 1000 ≤ N) : ∀ (m c : Nat) (V : sj_VV), (c : Int) ≤ w 0 + 1 → 42 - c < m → CG V 1 w → (∀ (c' : Nat) (h : Int), c' < c → w (44 + c') ≤ h → h ≤ w (3 + c') → V (A + 3) ((c' : Int) * 101 + h).toNat = spOn w c' h) → ∃ V', g_X6_weighAll_2 N m A c V = some ((), V') ∧ Fr (A + 3) (A + 4) V V' ∧ TW V' A w
  | 0, _, _, h1, h', _, _ => absurd h' (by omega)
  | m + 1, c, V, h1, h2, hC, hj => by
    have n0 := hB.1
    unfold g_X6_weighAll_2 g_X6_weighAll_2_b
    rw [hC.1.1, k_ltc ⟨by omega, by omega⟩ ⟨by omega, by omega⟩]
    by_cases h4 : w 0 < (c : Int)
    · rw [if_pos h4]
      exact ⟨V, rfl, Fr.rf, fun c' h a1 a2 a3 => hj c' h (by omega) a2 a3⟩
    · have hb := (hB.2.2.2.1 c (by omega)).1
      rw [if_neg h4, k_ix (by omega) (by omega), k_lt, tn0, (hC.2.1 c (by omega)).2.1]
      have inner : ∀ (m2 : Nat) (x : Int) (V : sj_VV), w (44 + c) ≤ x → x ≤ w (3 + c) + 1 → (w (3 + c) + 1 - x).toNat < m2 → CG V 1 w → (∀ (c' : Nat) (h : Int), (c' < c ∨ (c' = c ∧ h < x)) → w (44 + c') ≤ h → h ≤ w (3 + c') → V (A + 3) ((c' : Int) * 101 + h).toNat = spOn w c' h) → ∃ V', g_X6_weighAll_23 N (g_X6_weighAll_2 N m) m2 A c x V = some ((), V') ∧ Fr (A + 3) (A + 4) V V' ∧ TW V' A w := by
        intro m2
        induction m2 with
        | zero => intro x V _ _ hm; exact absurd hm (by omega)
        | succ m2 ih =>
          intro x V x1 x2 x3 hC hj
          unfold g_X6_weighAll_23 g_X6_weighAll_23_b
          rw [k_ix (by omega) (by omega), tn0, (hC.2.1 c (by omega)).1, k_ltc ⟨by omega, by omega⟩ ⟨by omega, by omega⟩]
          by_cases h5 : w (3 + c) < x
          · rw [if_pos h5, k_lt, show ((c : Int) + 1) = ((c + 1 : Nat) : Int) by omega]
            refine weighAll_loop hB hA hN m (c + 1) V (by omega) (by omega) hC (fun c' h a1 a2 a3 => hj c' h ?_ a2 a3)
            by_cases z : c' = c
            · right; rw [z] at a3; omega
            · left; omega
          · rw [if_neg h5, weightOn_eq hC hB (by omega) (by omega) (by omega), k_cs, k_ix (by omega) (by omega), k_lt, k_lt]
            have f1 : Fr (A + 3) (A + 4) V (sj_up V (A + 3) ((c : Int) * 101 + x).toNat (spOn w c x)) := Fr.rf.up (by omega) (by omega)
            obtain ⟨V2, r1, r2, r3⟩ := ih (x + 1) (sj_up V (A + 3) ((c : Int) * 101 + x).toNat (spOn w c x)) (by omega) (by omega) (by omega) (hC.fr f1 (by omega)) (fun c' h a1 a2 a3 => by
              by_cases z : c' = c ∧ h = x
              · rw [z.1, z.2, up_ss]
              · have hb' := (hB.2.2.2.1 c' (by omega)).1
                rw [up_nk _ _ _ (by omega)]
                exact hj c' h (by omega) a2 a3)
            exact ⟨V2, r1, f1.tr r2, r3⟩
      exact inner N (w (44 + c)) V (by omega) (by omega) (by omega) hC (fun c' h a1 a2 a3 => by
        rcases a1 with a1 | ⟨a1, a4⟩
        · exact hj c' h a1 a2 a3
        · rw [a1] at a2; omega)
theorem weighAll_eq (hB : WB 500 200 1500 w) (hA : 20 ≤ A) (hN : 1000 ≤ N) (hC : CG V 1 w) : ∃ V', g_X6_weighAll N A V = some ((), V') ∧ Fr (A + 3) (A + 4) V V' ∧ TW V' A w := by
  unfold g_X6_weighAll
  have n0 := hB.1
  exact weighAll_loop hB hA hN N 0 V (by omega) (by omega) hC (fun c' h a1 => by omega)
end Table
