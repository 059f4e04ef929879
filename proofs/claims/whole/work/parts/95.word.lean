/-! TEXT: ends, words, what is told already -/
theorem k_tl {β : Type} {n : Nat} {K : Int → Option β} (h : n < 9) : e_tl n K = K (sj_tln.getD n 0 : Nat) := if_pos h
theorem k_tc {β : Type} {n : Nat} {j : Int} {K : Int → Option β} (h : n < 9 ∧ 0 ≤ j ∧ j < (sj_tln.getD n 0 : Int)) : e_tc n j K = K (sj_tch n j.toNat) := if_pos h
section Word
variable {V V1 W W1 : sj_VV} {t b N L p q : Nat} {B : Nat → Int} {x : Int}
def endK (B : Nat → Int) (L p : Nat) : Prop := p < L ∧ B p = 59
theorem c_readEnd (hT : TX V W t b B L) (hp : p ≤ L) (h2 : V t 2 = (p : Nat)) (hN : 1000 ≤ N) : ∃ r V', g_X7_readEnd N t V = some (r, V') ∧ Fct t V V' ∧ (endK B L p → r = 1 ∧ V' t 2 = (sk B L (p + 1) : Nat) ∧ V' t 3 = V t 3 ∧ V' t 4 = V t 4) ∧ (¬ endK B L p → r = 0 ∧ V' t 3 = 1 ∧ V' t 4 = (p : Nat)) := by
  unfold g_X7_readEnd
  rw [c_sees hT hp h2 (by omega), k_cs]
  by_cases z : endK B L p
  · have hT1 : TX (sj_up V t 2 ((p : Int) + 1)) W t b B L := hT.c (Fct.rf.up (by omega) (by omega))
    have z1 := z.1
    obtain ⟨V2, r1, r2, r3, r4⟩ := c_skip (N := N) hT1 (p := p + 1) (by omega) (up_ss _ _ _ _) hN
    rw [if_pos (show p < L ∧ B p = 59 from z), k_eqF (by omega) ⟨by omega, by omega⟩ ⟨by omega, by omega⟩, h2, k_lt, r1, k_cs, k_zs (Or.inr rfl)]
    refine ⟨1, V2, rfl, (Fct.rf.up (by omega) (by omega)).tr ⟨r3, fun j hj => r4 j (by omega)⟩, fun _ => ⟨rfl, r2, by rw [r4 3 (by omega), up_nk _ _ _ (by omega)], by rw [r4 4 (by omega), up_nk _ _ _ (by omega)]⟩, fun q => absurd z q⟩
  · have z' : ¬ (p < L ∧ B p = 59) := z
    rw [if_neg z', k_eqT rfl, fail_eq, k_cs, k_zs (Or.inl rfl), h2]
    exact ⟨0, _, rfl, (Fct.rf.up (by omega) (by omega)).up (by omega) (by omega), fun q => absurd q z, fun _ => ⟨rfl, by rw [up_nk _ _ _ (by omega), up_ss], up_ss _ _ _ _⟩⟩
theorem m_must (hT : TX V W t b B L) (hq : q ≤ L) (h2 : W b 29 = (q : Nat)) (hp : sk B L q = p) (hw : W b 32 = 0 ∨ W b 32 = 1) (hN : 1000 ≤ N) : ∃ W', g_X9_must N b 59 W = some ((), W') ∧ Fmt b W W' ∧ (W b 32 = 0 → endK B L p → W' b 29 = ((p + 1 : Nat) : Int) ∧ W' b 32 = 0 ∧ W' b 30 = W b 30 ∧ W' b 31 = W b 31) ∧ (W b 32 = 0 → ¬ endK B L p → W' b 32 = 1 ∧ W' b 30 = 1 ∧ W' b 31 = (p : Nat)) ∧ (W b 32 = 1 → W' b 32 = 1 ∧ W' b 30 = W b 30 ∧ W' b 31 = W b 31) ∧ ∃ q' : Nat, q' ≤ L ∧ W' b 29 = (q' : Nat) := by
  have hk := sk_in (B := B) hq
  rw [hp] at hk
  obtain ⟨W1, r1, r2, r3, r4⟩ := m_isNext (N := N) hT hq h2 (ch := 59) (by omega) hN
  rw [hp] at r1 r2
  have f1 : Fmt b W W1 := ⟨r3, fun j hj => r4 j (by omega)⟩
  unfold g_X9_must
  rw [r1, k_cs]
  by_cases z : endK B L p
  · have z1 := z.1
    rw [if_pos (show p < L ∧ B p = 59 from z), k_eqF (by omega) ⟨by omega, by omega⟩ ⟨by omega, by omega⟩, r2, k_lt]
    refine ⟨_, rfl, f1.up (by omega) (by omega), fun h _ => ⟨by rw [up_ss]; omega, by rw [up_nk _ _ _ (by omega), r4 32 (by omega)]; exact h, by rw [up_nk _ _ _ (by omega), r4 30 (by omega)], by rw [up_nk _ _ _ (by omega), r4 31 (by omega)]⟩, fun _ q => absurd z q, fun h => ⟨by rw [up_nk _ _ _ (by omega), r4 32 (by omega)]; exact h, by rw [up_nk _ _ _ (by omega), r4 30 (by omega)], by rw [up_nk _ _ _ (by omega), r4 31 (by omega)]⟩, p + 1, by omega, by rw [up_ss]; omega⟩
  · have z' : ¬ (p < L ∧ B p = 59) := z
    rw [if_neg z', k_eqT rfl, r2]
    rcases hw with y | y
    · rw [m_wrong (by rw [r4 32 (by omega)]; exact y), k_cs]
      refine ⟨_, rfl, ((f1.up (by omega) (by omega)).up (by omega) (by omega)).up (by omega) (by omega), fun _ q => absurd q z, fun _ _ => ⟨by rw [up_nk _ _ _ (by omega), up_nk _ _ _ (by omega), up_ss], by rw [up_nk _ _ _ (by omega), up_ss], up_ss _ _ _ _⟩, fun h => by omega, p, hk.2, by rw [up_nk _ _ _ (by omega), up_nk _ _ _ (by omega), up_nk _ _ _ (by omega)]; exact r2⟩
    · rw [m_wrong1 (by rw [r4 32 (by omega)]; exact y), k_cs]
      exact ⟨W1, rfl, f1, fun h => by omega, fun h => by omega, fun h => ⟨by rw [r4 32 (by omega)]; exact h, r4 30 (by omega), r4 31 (by omega)⟩, p, hk.2, r2⟩
theorem c_word_loop (hT : TX V W t b B L) (hN : 1000 ≤ N) : ∀ (m p : Nat) (V : sj_VV), p ≤ L → L - p < m → V t 1 = (L : Nat) → (∀ i, i < L → V (t + 1) i = B i) → V t 2 = (p : Nat) → ∃ V', g_X7_readWord_8 N m t V = some ((), V') ∧ Fct t V V' ∧ V' t 2 = (sk B L (we B L p) : Nat) ∧ V' t 6 = (we B L p : Nat) ∧ V' t 3 = V t 3 ∧ V' t 4 = V t 4 ∧ V' t 5 = V t 5
  | 0, _, _, _, h, _, _, _ => absurd h (by omega)
  | m + 1, p, V, h1, h2, h3, h4, h5 => by
    have hL := hT.2.2.1
    have hT1 : TX V W t b B L := ⟨h3, hT.2.1, hT.2.2.1, h4, hT.2.2.2.2⟩
    unfold g_X7_readWord_8 g_X7_readWord_8_b
    rw [c_seesFrom hT1 h1 h5 ⟨by omega, by omega⟩ ⟨by omega, by omega⟩, k_cs]
    by_cases z : p < L ∧ 97 ≤ B p ∧ B p ≤ 122
    · have es : we B L p = we B L (p + 1) := by
        have : we B L p = if isLt B p = true then p else we B L (p + 1) := seek_st _ (by omega)
        rw [this, if_neg (by unfold isLt; simp; omega)]
      rw [if_pos z, k_eqF (by omega) ⟨by omega, by omega⟩ ⟨by omega, by omega⟩, h3, h5, k_leF (by omega) ⟨by omega, by omega⟩ ⟨by omega, by omega⟩, k_lt, es]
      obtain ⟨V2, r1, r2, r3, r4, r5, r6, r7⟩ := c_word_loop hT hN m (p + 1) (sj_up V t 2 ((p : Int) + 1)) (by omega) (by omega) (by rw [up_nk _ _ _ (by omega)]; exact h3) (fun i hi => by rw [up_row _ _ _ (by omega)]; exact h4 i hi) (up_ss _ _ _ _)
      exact ⟨V2, r1, (Fct.rf.up (by omega) (by omega)).tr r2, r3, r4, by rw [r5, up_nk _ _ _ (by omega)], by rw [r6, up_nk _ _ _ (by omega)], by rw [r7, up_nk _ _ _ (by omega)]⟩
    · have es : we B L p = p := by
        by_cases y : p = L
        · unfold we; rw [y, Nat.sub_self, spSeek]
        · have : we B L p = if isLt B p = true then p else we B L (p + 1) := seek_st _ (by omega)
          rw [this, if_pos (by unfold isLt; simp; omega)]
      rw [if_neg z, k_eqT rfl]
      unfold g_X7_readWord_43
      rw [k_lt, h5]
      have hT2 : TX (sj_up V t 6 p) W t b B L := hT1.c (Fct.rf.up (by omega) (by omega))
      obtain ⟨V2, r1, r2, r3, r4⟩ := c_skip (N := N) hT2 (p := p) h1 (by rw [up_nk _ _ _ (by omega)]; exact h5) hN
      rw [r1, k_cs, es]
      exact ⟨V2, rfl, (Fct.rf.up (by omega) (by omega)).tr ⟨r3, fun j hj => r4 j (by omega)⟩, r2, by rw [r4 6 (by omega), up_ss], by rw [r4 3 (by omega), up_nk _ _ _ (by omega)], by rw [r4 4 (by omega), up_nk _ _ _ (by omega)], by rw [r4 5 (by omega), up_nk _ _ _ (by omega)]⟩
theorem c_readWord (hT : TX V W t b B L) (hp : p ≤ L) (h2 : V t 2 = (p : Nat)) (hN : 1000 ≤ N) : ∃ V', g_X7_readWord N t V = some ((), V') ∧ Fct t V V' ∧ V' t 2 = (sk B L (we B L p) : Nat) ∧ V' t 6 = (we B L p : Nat) ∧ V' t 5 = (p : Nat) ∧ V' t 3 = V t 3 ∧ V' t 4 = V t 4 := by
  have hL := hT.2.2.1
  unfold g_X7_readWord
  rw [k_lt, h2]
  have f1 : Fct t V (sj_up V t 5 p) := Fct.rf.up (by omega) (by omega)
  obtain ⟨V2, r1, r2, r3, r4, r5, r6, r7⟩ := c_word_loop (N := N) hT hN N p (sj_up V t 5 p) hp (by omega) (by rw [up_nk _ _ _ (by omega)]; exact hT.1) (fun i hi => by rw [up_row _ _ _ (by omega)]; exact hT.2.2.2.1 i hi) (by rw [up_nk _ _ _ (by omega)]; exact h2)
  exact ⟨V2, r1, f1.tr r2, r3, r4, by rw [r7, up_ss], by rw [r5, up_nk _ _ _ (by omega)], by rw [r6, up_nk _ _ _ (by omega)]⟩
theorem m_we_loop (hT : TX V W t b B L) : ∀ (m p : Nat), p ≤ L → L - p < m → g_X9_wordEnd_5 N m b p W = some (((we B L p : Nat) : Int), W)
  | 0, _, _, h => absurd h (by omega)
  | m + 1, p, h1, h2 => by
    have hL := hT.2.2.1
    unfold g_X9_wordEnd_5 g_X9_wordEnd_5_b
    rw [hT.2.1]
    by_cases y : p = L
    · rw [k_leT (by omega) ⟨by omega, by omega⟩ ⟨by omega, by omega⟩]
      unfold we; rw [y, Nat.sub_self, spSeek]
    · obtain ⟨i1, i2⟩ := m_in_b (N := N) (lo := 97) (hi := 122) hT (p := p) (by omega) (by omega) (by omega) ⟨by omega, by omega⟩ ⟨by omega, by omega⟩
      have ed : we B L p = if isLt B p = true then p else we B L (p + 1) := seek_st _ (by omega)
      rw [k_leF (by omega) ⟨by omega, by omega⟩ ⟨by omega, by omega⟩, k_ix (by omega) (by omega), tn0, k_wid i1, i2, k_cs]
      by_cases z : 97 ≤ B p ∧ B p ≤ 122
      · rw [if_pos z, k_eqF (by omega) ⟨by omega, by omega⟩ ⟨by omega, by omega⟩, k_lt, ed, if_neg (by unfold isLt; simp; omega)]
        exact m_we_loop hT m (p + 1) (by omega) (by omega)
      · rw [if_neg z, k_eqT rfl, ed, if_pos (by unfold isLt; simp; omega)]
theorem m_wordEnd (hT : TX V W t b B L) (hp : p ≤ L) (h2 : W b 29 = (p : Nat)) (hN : 1000 ≤ N) : g_X9_wordEnd N b W = some (((we B L p : Nat) : Int), W) := by
  have hL := hT.2.2.1
  unfold g_X9_wordEnd
  rw [k_lt, h2]
  exact m_we_loop hT N p hp (by omega)
/-- a word on the tape -/
def isWd (B : Nat → Int) (L p : Nat) (l : List Int) : Prop := we B L p = p + l.length ∧ ∀ i, i < l.length → B (p + i) = l.getD i 0
theorem c_wd_loop (hT : TX V W t b B L) {n : Nat} (hn : n < 9) (l : List Int) (hl : (sj_tln.getD n 0 : Nat) = l.length) (hl2 : l.length ≤ 7) (hc : ∀ i, i < l.length → sj_tch n i = l.getD i 0 ∧ 0 ≤ l.getD i 0 ∧ l.getD i 0 ≤ 127) (hp : p + l.length ≤ L) (h5 : V t 5 = (p : Nat)) : ∀ (m i : Nat), i ≤ l.length → l.length - i < m → (∀ j, j < i → B (p + j) = l.getD j 0) → ∃ r, g_X7_isWord_20 N m t n i V = some (r, V) ∧ (r = 0 ∨ r = 1) ∧ (r = 1 ↔ ∀ j, j < l.length → B (p + j) = l.getD j 0)
  | 0, _, _, h, _ => absurd h (by omega)
  | m + 1, i, h1, h2, hb => by
    have hL := hT.2.2.1
    unfold g_X7_isWord_20 g_X7_isWord_20_b
    rw [k_tl hn, hl]
    by_cases z : i = l.length
    · rw [k_leT (by omega) ⟨by omega, by omega⟩ ⟨by omega, by omega⟩, k_zs (Or.inr rfl)]
      exact ⟨1, rfl, Or.inr rfl, fun _ j hj => hb j (by omega), fun _ => rfl⟩
    · have hbyte := (hT.2.2.2.2 (p + i) (by omega)).1
      obtain ⟨c1, c2⟩ := hc i (by omega)
      rw [k_leF (by omega) ⟨by omega, by omega⟩ ⟨by omega, by omega⟩, h5, k_ix (by omega) (by omega), k_tc ⟨hn, by omega, by rw [hl]; omega⟩, tn0, c1, show ((p : Int) + (i : Int)).toNat = p + i by omega, hT.2.2.2.1 (p + i) (by omega)]
      by_cases y : B (p + i) = l.getD i 0
      · rw [k_eqT y, k_lt]
        exact c_wd_loop hT hn l hl hl2 hc hp h5 m (i + 1) (by omega) (by omega) (fun j hj => by
          by_cases x : j = i
          · subst x; exact y
          · exact hb j (by omega))
      · rw [k_eqF y ⟨by omega, by omega⟩ ⟨by omega, by omega⟩, k_zs (Or.inl rfl)]
        exact ⟨0, rfl, Or.inl rfl, fun q => by omega, fun q => absurd (q i (by omega)) y⟩
theorem c_isWord (hT : TX V W t b B L) {n : Nat} (hn : n < 9) (l : List Int) (hl : (sj_tln.getD n 0 : Nat) = l.length) (hl2 : l.length ≤ 7) (hc : ∀ i, i < l.length → sj_tch n i = l.getD i 0 ∧ 0 ≤ l.getD i 0 ∧ l.getD i 0 ≤ 127) (hp : p ≤ L) (h5 : V t 5 = (p : Nat)) (h6 : V t 6 = (we B L p : Nat)) (hN : 1000 ≤ N) : ∃ r, g_X7_isWord N t n V = some (r, V) ∧ (r = 0 ∨ r = 1) ∧ (r = 1 ↔ isWd B L p l) := by
  have hL := hT.2.2.1
  have hw := we_in (B := B) hp
  unfold g_X7_isWord
  rw [k_tl hn, hl, h5, h6]
  by_cases z : we B L p = p + l.length
  · obtain ⟨r, r1, r2, r3⟩ := c_wd_loop (N := N) hT hn l hl hl2 hc (by omega) h5 N 0 (by omega) (by omega) (fun j hj => by omega)
    have r1' : g_X7_isWord_20 N N t n 0 V = some (r, V) := r1
    rw [k_eqT (by omega), r1']
    exact ⟨r, rfl, r2, fun q => ⟨z, r3.mp q⟩, fun q => r3.mpr q.2⟩
  · rw [k_eqF (by omega) ⟨by omega, by omega⟩ ⟨by omega, by omega⟩, k_zs (Or.inl rfl)]
    exact ⟨0, rfl, Or.inl rfl, fun q => by omega, fun q => absurd q.1 z⟩
/-- the reference's byte is a letter as the class's is -/
theorem m_eq_b {β : Type} {A C : Option β} (hT : TX V W t b B L) {i : Nat} (hi : i < L) (hx : 0 ≤ x ∧ x ≤ 127) : e_ieq (W (b + 10) i) x A C = if B i = x then A else C := by
  obtain ⟨hb, hw⟩ := hT.2.2.2.2 i hi
  rw [hw, bmod_b hb, k_eq ⟨by split <;> omega, by split <;> omega⟩ ⟨by omega, by omega⟩]
  by_cases z : B i = x
  · rw [if_pos z, if_pos (by rw [if_pos (by omega)]; exact z)]
  · rw [if_neg z, if_neg (by split <;> omega)]
end Word
