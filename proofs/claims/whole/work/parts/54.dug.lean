/-! DUG as it is asked -/
def wUp (w : sj_R) (i : Nat) (v : Int) : sj_R := fun j => if j = i then v else w j
theorem wUp_s (w : sj_R) (i : Nat) (v : Int) : wUp w i v i = v := if_pos rfl
theorem wUp_n (w : sj_R) {i j : Nat} (v : Int) (h : j ≠ i) : wUp w i v j = w j := if_neg h
theorem up_wUp {V : sj_VV} {a : Nat} {w : sj_R} (h : V a = w) (i : Nat) (v : Int) : sj_up V a i v a = wUp w i v := by
  funext j
  by_cases z : j = i
  · subst z; rw [up_ss, wUp_s]
  · rw [up_nk _ _ _ z, wUp_n _ _ z, h]
theorem wUp_wUp (w : sj_R) (i : Nat) (v u : Int) : wUp (wUp w i v) i u = wUp w i u := by
  funext j
  by_cases z : j = i
  · subst z; rw [wUp_s, wUp_s]
  · rw [wUp_n _ _ z, wUp_n _ _ z, wUp_n _ _ z]
theorem wUp_id (w : sj_R) (i : Nat) : wUp w i (w i) = w := by
  funext j
  by_cases z : j = i
  · subst z; rw [wUp_s]
  · rw [wUp_n _ _ z]
section Dug
variable {V : sj_VV} {a c : Nat} {w : sj_R} {k x y r lf v g lv hv rv : Int} {N : Nat}
theorem WB.ground (h : WB lv hv rv w) (hc : c < 41) (h1 : w (44 + c) ≤ g) (h2 : g ≤ 100) : WB lv hv rv (wUp w (3 + c) g) := by
  obtain ⟨a1, a2, a3, a4, a5, a6, a7⟩ := h
  have e : ∀ j, j ≠ 3 + c → wUp w (3 + c) g j = w j := fun j hj => wUp_n _ _ hj
  refine ⟨by rw [e 0 (by omega)]; exact a1, by rw [e 1 (by omega)]; exact a2, by rw [e 2 (by omega)]; exact a3, fun d hd => ?_, fun i hi => by rw [e _ (by omega)]; exact a5 i hi, fun l hl => by rw [e _ (by omega), e _ (by omega), e _ (by omega)]; exact a6 l hl, fun i hi => by rw [e _ (by omega), e _ (by omega), e _ (by omega), e _ (by omega)]; exact a7 i hi⟩
  rw [e (44 + d) (by omega), e (85 + d) (by omega), e (126 + d) (by omega)]
  have b := a4 d hd
  by_cases z : d = c
  · subst z; rw [wUp_s]; exact ⟨⟨b.1.1, h1, h2⟩, b.2⟩
  · rw [e (3 + d) (by omega)]; exact b
theorem CG.ground (h : CG V a w) (hc : c < 41) : CG (sj_up V (a + 1) c g) a (wUp w (3 + c) g) := by
  obtain ⟨a1, a2, a3, a4, a5⟩ := h
  have e : ∀ j, j ≠ 3 + c → wUp w (3 + c) g j = w j := fun j hj => wUp_n _ _ hj
  have u : ∀ j, j ≠ a + 1 → sj_up V (a + 1) c g j = V j := fun j hj => up_row _ _ _ hj
  refine ⟨by rw [u a (by omega), e 0 (by omega), e 1 (by omega), e 2 (by omega)]; exact a1, fun d hd => ?_, fun i hi => by rw [u (a + 5) (by omega), e _ (by omega)]; exact a3 i hi, fun l hl => by rw [u (a + 6) (by omega), u (a + 7) (by omega), u (a + 8) (by omega), e _ (by omega), e _ (by omega), e _ (by omega)]; exact a4 l hl, fun i hi => by rw [u (a + 9) (by omega), u (a + 10) (by omega), u (a + 11) (by omega), e _ (by omega), e _ (by omega), e _ (by omega)]; exact a5 i hi⟩
  rw [u (a + 2) (by omega), u (a + 3) (by omega), u (a + 4) (by omega), e (44 + d) (by omega), e (85 + d) (by omega), e (126 + d) (by omega)]
  have b := a2 d hd
  by_cases z : d = c
  · subst z; rw [up_ss, wUp_s]; exact ⟨rfl, b.2⟩
  · rw [up_nk _ _ _ z, e (3 + d) (by omega)]; exact b
abbrev spCol (w : sj_R) (c : Int) : Prop := 0 ≤ c ∧ c ≤ w 0
abbrev spCanDig (w : sj_R) (c v : Int) : Prop := spCol w c ∧ v ≠ 0 ∧ w (44 + c.toNat) ≤ w (3 + c.toNat) - v ∧ w (3 + c.toNat) - v ≤ 100
theorem m_isColumn {c : Int} (hw : V (a + 1) = w) (hB : WB lv hv rv w) (hc : sj_i32 c) : g_X9_isColumn N a c V = some (if spCol w c then 1 else 0, V) := by
  have h0 := hB.1
  unfold g_X9_isColumn
  rw [k_wid hc, k_ix (by omega) (by omega), hw, show (0 : Int).toNat = 0 from rfl, k_wid ⟨by omega, by omega⟩, m_isIn (sj_i64_of hc) ⟨by omega, by omega⟩ ⟨by omega, by omega⟩, k_cs, k_zs (by split <;> omega)]
theorem canLower_eq {c : Int} (hC : CG V a w) (hB : WB lv hv rv w) (hc : sj_i32 c) (hv : sj_i32 v) : g_X0_canLower N a c v V = some (if spCanDig w c v then 1 else 0, V) := by
  have h0 := hB.1
  unfold g_X0_canLower
  rw [hasColumn_eq (by rw [hC.1.1]; exact ⟨by omega, by omega⟩) hc, k_cs, hC.1.1]
  by_cases c1 : 0 ≤ c ∧ c ≤ w 0
  · obtain ⟨d, rfl⟩ : ∃ d : Nat, c = d := ⟨c.toNat, by omega⟩
    have hg := hC.2.1 d (by omega)
    have hb := (hB.2.2.2.1 d (by omega)).1
    rw [if_pos c1, k_eqF (by omega) ⟨by omega, by omega⟩ ⟨by omega, by omega⟩, k_eq hv ⟨by omega, by omega⟩]
    by_cases c2 : v = 0
    · rw [if_pos c2, k_zs (Or.inl rfl), if_neg (fun z => z.2.1 c2)]
    · rw [if_neg c2, k_ix (by omega) (by omega)]
      simp only [tn0]
      rw [hg.1, k_wid ⟨by omega, by omega⟩, k_wid hv, k_lt, k_ix (by omega) (by omega), hg.2.1, k_wid ⟨by omega, by omega⟩, k_lltc ⟨by omega, by omega⟩ ⟨by omega, by omega⟩, k_lltc ⟨by omega, by omega⟩ ⟨by omega, by omega⟩]
      by_cases c3 : w (3 + d) - v < w (44 + d)
      · rw [if_pos c3, k_zs (Or.inl rfl), if_neg (fun z => by have := z.2.2; rw [tn0] at this; omega)]
      · rw [if_neg c3]
        by_cases c4 : 100 < w (3 + d) - v
        · rw [if_pos c4, k_zs (Or.inl rfl), if_neg (fun z => by have := z.2.2; rw [tn0] at this; omega)]
        · rw [if_neg c4, k_zs (Or.inr rfl), if_pos ⟨c1, c2, by rw [tn0]; omega, by rw [tn0]; omega⟩]
  · rw [if_neg c1, k_eqT rfl, k_zs (Or.inl rfl), if_neg (fun z => c1 z.1)]
theorem m_canDig {c : Int} (hw : V (a + 1) = w) (hB : WB lv hv rv w) (hc : sj_i32 c) (hv : sj_i32 v) : g_X9_canDig N a c v V = some (if spCanDig w c v then 1 else 0, V) := by
  have h0 := hB.1
  unfold g_X9_canDig
  rw [m_isColumn hw hB hc, k_cs]
  by_cases c1 : spCol w c
  · obtain ⟨d, rfl⟩ : ∃ d : Nat, c = d := ⟨c.toNat, by have := c1.1; omega⟩
    obtain ⟨c5, c6⟩ := id c1
    have hb := (hB.2.2.2.1 d (by omega)).1
    rw [if_pos c1, k_eqF (by omega) ⟨by omega, by omega⟩ ⟨by omega, by omega⟩, k_eq hv ⟨by omega, by omega⟩]
    by_cases c2 : v = 0
    · rw [if_pos c2, k_zs (Or.inl rfl), if_neg (fun z => z.2.1 c2)]
    · rw [if_neg c2, k_ix (by omega) (by omega), hw, show (3 + (d : Int)).toNat = 3 + d by omega, k_wid ⟨by omega, by omega⟩, k_wid hv, k_ix (by omega) (by omega), show (44 + (d : Int)).toNat = 44 + d by omega, k_wid ⟨by omega, by omega⟩, m_isIn ⟨by omega, by omega⟩ ⟨by omega, by omega⟩ ⟨by omega, by omega⟩, k_cs]
      by_cases c3 : w (44 + d) ≤ w (3 + d) - v ∧ w (3 + d) - v ≤ 100
      · rw [if_pos c3, k_eqF (by omega) ⟨by omega, by omega⟩ ⟨by omega, by omega⟩, k_zs (Or.inr rfl), if_pos ⟨c1, c2, by rw [tn0]; exact c3.1, by rw [tn0]; exact c3.2⟩]
      · rw [if_neg c3, k_eqT rfl, k_zs (Or.inl rfl), if_neg (fun z => c3 (by have := z.2.2; rw [tn0] at this; exact this))]
  · rw [if_neg c1, k_eqT rfl, k_zs (Or.inl rfl), if_neg (fun z => c1 z.1)]
def spDug (w : sj_R) (c v x y r lf : Int) : Int := if spCanDig w c v then if spCirc x y r then spNo (spBoxes (wUp w (3 + c.toNat) (w (3 + c.toNat) - v)) lf x y r 8).1.2.2.2 else -1 else -1
theorem spBoxes_b (w : sj_R) {lf x y r st : Int} (h : spCirc x y r) : 0 ≤ (spBoxes w lf x y r st).1.2.2.2 ∧ (spBoxes w lf x y r st).1.2.2.2 ≤ 20001 := (spBx_ok w lf 60 0 st (x, y, r, spBest (spFBy w x y r lf)) ⟨h, spBest_b w x y r lf⟩).1.2
theorem c_dug {c : Int} (hR : RG V (a + 1) w) (hc : sj_i32 c) (hv : sj_i32 v) (h1 : sj_i32 x) (h2 : sj_i32 y) (h3 : sj_i32 r) (hlf : lf = 0 ∨ lf = 1) (hN : 1000 ≤ N) : ∃ V', g_X8_dug N a c v x y r lf V = some (spDug w c v x y r lf, V') ∧ TL a V V' ∧ ∀ z, ¬ (a + 15 ≤ z ∧ z < a + 29) → ¬ (a + 63 ≤ z ∧ z < a + 75) → V' z = V z := by
  unfold g_X8_dug spDug
  have h0 := hR.1.1
  rw [isCircle_eq h1 h2 h3, k_cs]
  by_cases c1 : spCirc x y r
  · rw [if_pos c1, k_eqF (by omega) ⟨by omega, by omega⟩ ⟨by omega, by omega⟩, canLower_eq hR.2.2.1 hR.1 hc hv, k_cs]
    by_cases c2 : spCanDig w c v
    · obtain ⟨d, rfl⟩ : ∃ d : Nat, c = d := ⟨c.toNat, by have := c2.1.1; omega⟩
      obtain ⟨⟨c5, c6⟩, c7, c8, c9⟩ := id c2
      rw [tn0] at c8 c9
      obtain ⟨V2, r1, r2, r3⟩ := copy_eq (N := N) (a := a + 15) (b := a + 1) (by omega) hR
      have hg : V2 (a + 15 + 1) d = w (3 + d) := (r3.2.2.1.2.1 d (by omega)).1
      have hC3 : CG (sj_up V2 (a + 15 + 1) d (w (3 + d) - v)) (a + 15) (wUp w (3 + d) (w (3 + d) - v)) := r3.2.2.1.ground (by omega)
      have hB3 : WB 500 200 1500 (wUp w (3 + d) (w (3 + d) - v)) := hR.1.ground (by omega) c8 c9
      obtain ⟨V4, s1, s2, s3, s4⟩ := seek_eq (N := N) (s := a + 63) (st := 8) hC3 (by omega) hB3 (by omega) (by omega) (by omega) hlf c1 (by omega) hN
      have hbb := spBoxes_b (wUp w (3 + d) (w (3 + d) - v)) (lf := lf) (st := 8) c1
      rw [if_pos c2, k_eqF (by omega) ⟨by omega, by omega⟩ ⟨by omega, by omega⟩, r1, k_cs, k_ix (by omega) (by omega), k_ix (by omega) (by omega), k_lt, if_pos c2, if_pos c1, tn0, hg, s1, k_cs]
      refine ⟨V4, ?_, fun _ => by rw [s2 _ (by omega), up_row _ _ _ (by omega)]; exact r3.2.2.2.1, fun z z1 z2 => ?_⟩
      · unfold spNo
        by_cases hb : (spBoxes (wUp w (3 + d) (w (3 + d) - v)) lf x y r 8).1.2.2.2 ≤ 20000
        · rw [if_pos hb, k_eqF (by omega) ⟨by omega, by omega⟩ ⟨by omega, by omega⟩, s3.2.2.2, if_neg (by omega)]
        · rw [if_neg hb, k_eqT rfl, if_pos (by omega)]
      · rw [s2 z (by omega), up_row _ _ _ (by omega), r2 z (by omega)]
    · rw [if_neg c2, k_eqT rfl, if_neg c2]
      exact ⟨V, rfl, id, fun _ _ _ => rfl⟩
  · rw [if_neg c1, k_eqT rfl]
    refine ⟨V, ?_, id, fun _ _ _ => rfl⟩
    split <;> rfl
theorem m_dug {c : Int} (hw : V (a + 1) = w) (hB : WB 500 200 1500 w) (hc : sj_i32 c) (hv : sj_i32 v) (h1 : sj_i32 x) (h2 : sj_i32 y) (h3 : sj_i32 r) (hlf : lf = 0 ∨ lf = 1) (hN : 1000 ≤ N) : ∃ V', g_X9_dug N a c v x y r lf V = some (spDug w c v x y r lf, V') ∧ Fs a V V' := by
  unfold g_X9_dug spDug
  have h0 := hB.1
  rw [m_canDig hw hB hc hv, k_cs]
  by_cases c2 : spCanDig w c v
  · rw [if_pos c2, k_eqF (by omega) ⟨by omega, by omega⟩ ⟨by omega, by omega⟩, m_isCircle h1 h2 h3, k_cs, if_pos c2]
    by_cases c1 : spCirc x y r
    · obtain ⟨d, rfl⟩ : ∃ d : Nat, c = d := ⟨c.toNat, by have := c2.1.1; omega⟩
      obtain ⟨⟨c5, c6⟩, c7, c8, c9⟩ := id c2
      rw [tn0] at c8 c9
      have hB3 : WB 500 200 1500 (wUp w (3 + d) (w (3 + d) - v)) := hB.ground (by omega) c8 c9
      have hw3 : sj_up V (a + 1) (3 + d) (w (3 + d) - v) (a + 1) = wUp w (3 + d) (w (3 + d) - v) := up_wUp hw _ _
      obtain ⟨V4, s1, s2, s3, s4⟩ := m_searches (N := N) (a := a) (st := 8) hw3 hB3 (by omega) (by omega) (by omega) hlf c1 (by omega) hN
      have w4 : V4 (a + 1) = wUp w (3 + d) (w (3 + d) - v) := s2.w.trans hw3
      rw [if_pos c1, k_eqF (by omega) ⟨by omega, by omega⟩ ⟨by omega, by omega⟩, k_ix (by omega) (by omega), k_ix (by omega) (by omega), k_lt, show (3 + (d : Int)).toNat = 3 + d by omega, hw, s1, k_cs, k_ix (by omega) (by omega), k_ix (by omega) (by omega), k_lt, w4, wUp_s, if_pos c1, tn0, show w (3 + d) - v + v = w (3 + d) by omega]
      refine ⟨_, rfl, fun z z1 z2 => ?_, fun j hj => ?_⟩
      · by_cases z3 : z = a + 1
        · rw [z3, up_wUp w4, wUp_wUp, wUp_id, hw]
        · rw [up_row _ _ _ z3, s2.1 z z1 z2, up_row _ _ _ z3]
      · rw [up_na _ _ _ _ (by omega), s2.2 j hj, up_na _ _ _ _ (by omega)]
    · rw [if_neg c1, k_eqT rfl, if_neg c1]
      exact ⟨V, rfl, Fs.rf⟩
  · rw [if_neg c2, k_eqT rfl, if_neg c2]
    exact ⟨V, rfl, Fs.rf⟩
end Dug
