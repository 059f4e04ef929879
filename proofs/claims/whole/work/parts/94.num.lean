/-! TEXT: numbers -/
def vC (B : Nat → Int) : Nat → Nat → Int → Int
  | 0, _, x => x
  | n + 1, p, x => vC B n (p + 1) (min 1000000 (x * 10 + B p - 48))
def vM (B : Nat → Int) : Nat → Nat → Int → Int
  | 0, _, x => x
  | n + 1, p, x => vM B n (p + 1) (if x ≤ 1000000 then 10 * x + B p - 48 else x)
theorem vCM {B : Nat → Int} : ∀ (n p : Nat) (x y : Int), 0 ≤ x → y = min 1000000 x → (∀ i, p ≤ i → i < p + n → 48 ≤ B i ∧ B i ≤ 57) → vC B n p y = min 1000000 (vM B n p x) ∧ 0 ≤ vM B n p x
  | 0, p, x, y, h0, h, _ => ⟨h, h0⟩
  | n + 1, p, x, y, h0, h, hd => by
    have hb := hd p (by omega) (by omega)
    rw [vC, vM]
    refine vCM n (p + 1) _ _ (by split <;> omega) ?_ (fun i h1 h2 => hd i (by omega) (by omega))
    split <;> omega
/-- 0: a number from lo to hi; else the fault -/
def nmK (B : Nat → Int) (L : Nat) (lo hi : Int) (p : Nat) : Int := if de B L p = p then 1 else if lo ≤ vC B (de B L p - p) p 0 ∧ vC B (de B L p - p) p 0 ≤ hi then 0 else 2
def nmV (B : Nat → Int) (L p : Nat) : Int := vC B (de B L p - p) p 0
section Num
variable {V V1 W W1 : sj_VV} {t b N L p q : Nat} {B : Nat → Int} {lo hi x : Int}
theorem nmK_3 (B : Nat → Int) (L : Nat) (lo hi : Int) (p : Nat) : nmK B L lo hi p = 0 ∨ nmK B L lo hi p = 1 ∨ nmK B L lo hi p = 2 := by 
  unfold nmK
  by_cases z : de B L p = p
  · rw [if_pos z]; omega
  · rw [if_neg z]
    by_cases y : lo ≤ vC B (de B L p - p) p 0 ∧ vC B (de B L p - p) p 0 ≤ hi
    · rw [if_pos y]; omega
    · rw [if_neg y]; omega
theorem nm_ok (h : nmK B L lo hi p = 0) : lo ≤ nmV B L p ∧ nmV B L p ≤ hi := by
  unfold nmK at h
  by_cases z : de B L p = p
  · rw [if_pos z] at h; omega
  · rw [if_neg z] at h
    by_cases y : lo ≤ vC B (de B L p - p) p 0 ∧ vC B (de B L p - p) p 0 ≤ hi
    · exact y
    · rw [if_neg y] at h; omega
theorem fail_eq {k v : Int} : g_X7_fail N t k v V = some (-1, sj_up (sj_up V t 3 k) t 4 v) := rfl
theorem digits {i : Nat} (hp : p ≤ L) (h1 : p ≤ i) (h2 : i < de B L p) : 48 ≤ B i ∧ B i ≤ 57 := by
  have := (spSeek_b (isDg B) (L - p) p).2.2.1 i h1 h2
  unfold isDg at this
  simp only [decide_eq_true_eq, ne_eq, Decidable.not_not] at this
  exact this
theorem c_num_loop (hT : TX V W t b B L) (hlo : sj_i32 lo) (hhi : sj_i32 hi) {s : Nat} (hs : s ≤ L) (hN : 1000 ≤ N) : ∀ (m p : Nat) (x : Int) (V : sj_VV), s ≤ p → p ≤ L → L - p < m → V t 1 = (L : Nat) → (∀ i, i < L → V (t + 1) i = B i) → V t 2 = (p : Nat) → V t 5 = (s : Nat) → (0 ≤ x ∧ x ≤ 1000000) → de B L s = de B L p → ∃ V', g_X7_readNumber_10 N m t lo hi x V = some (if de B L p = s then -1 else if lo ≤ vC B (de B L p - p) p x ∧ vC B (de B L p - p) p x ≤ hi then vC B (de B L p - p) p x else -1, V') ∧ Fct t V V' ∧ V' t 5 = (s : Nat) ∧ V' t 6 = V t 6 ∧ (de B L p = s → V' t 3 = 1 ∧ V' t 4 = (s : Nat)) ∧ (de B L p ≠ s → V' t 2 = (sk B L (de B L p) : Nat) ∧ ((lo ≤ vC B (de B L p - p) p x ∧ vC B (de B L p - p) p x ≤ hi) → V' t 3 = V t 3 ∧ V' t 4 = V t 4) ∧ (¬ (lo ≤ vC B (de B L p - p) p x ∧ vC B (de B L p - p) p x ≤ hi) → V' t 3 = 2 ∧ V' t 4 = (s : Nat)))
  | 0, _, _, _, _, _, h, _, _, _, _, _, _ => absurd h (by omega)
  | m + 1, p, x, V, h0, h1, h2, h3, h4, h5, h6, hx, hde => by
    have hL := hT.2.2.1
    have hT1 : TX V W t b B L := ⟨h3, hT.2.1, hT.2.2.1, h4, hT.2.2.2.2⟩
    unfold g_X7_readNumber_10 g_X7_readNumber_10_b
    rw [c_seesFrom hT1 h1 h5 ⟨by omega, by omega⟩ ⟨by omega, by omega⟩, k_cs]
    by_cases z : p < L ∧ 48 ≤ B p ∧ B p ≤ 57
    · have es : de B L p = de B L (p + 1) := by
        have : de B L p = if isDg B p = true then p else de B L (p + 1) := seek_st _ (by omega)
        rw [this, if_neg (by unfold isDg; simp; omega)]
      have hin := de_in (B := B) (L := L) (p := p + 1) (by omega)
      rw [if_pos z, k_eqF (by omega) ⟨by omega, by omega⟩ ⟨by omega, by omega⟩, h3, h5, k_leF (by omega) ⟨by omega, by omega⟩ ⟨by omega, by omega⟩, k_ix (by omega) (by omega), tn0, h4 p (by omega), k_min ⟨by omega, by omega⟩ ⟨by omega, by omega⟩, k_lt]
      obtain ⟨V2, r1, r2, r3, r4, r5, r6⟩ := c_num_loop hT hlo hhi hs hN m (p + 1) (min 1000000 (x * 10 + B p - 48)) (sj_up V t 2 ((p : Int) + 1)) (by omega) (by omega) (by omega) (by rw [up_nk _ _ _ (by omega)]; exact h3) (fun i hi => by rw [up_row _ _ _ (by omega)]; exact h4 i hi) (up_ss _ _ _ _) (by rw [up_nk _ _ _ (by omega)]; exact h6) (by omega) (hde.trans es)
      have ev : vC B (de B L p - p) p x = vC B (de B L (p + 1) - (p + 1)) (p + 1) (min 1000000 (x * 10 + B p - 48)) := by
        rw [es, show de B L (p + 1) - p = (de B L (p + 1) - (p + 1)) + 1 by omega, vC]
      rw [ev, es]
      rw [up_nk _ _ _ (show 3 ≠ 2 by omega), up_nk _ _ _ (show 4 ≠ 2 by omega)] at r6
      rw [up_nk _ _ _ (show 6 ≠ 2 by omega)] at r4
      exact ⟨V2, r1, (Fct.rf.up (by omega) (by omega)).tr r2, r3, r4, r5, r6⟩
    · have es : de B L p = p := by
        by_cases y : p = L
        · unfold de; rw [y, Nat.sub_self, spSeek]
        · have : de B L p = if isDg B p = true then p else de B L (p + 1) := seek_st _ (by omega)
          rw [this, if_pos (by unfold isDg; simp; omega)]
      rw [if_neg z, k_eqT rfl]
      unfold g_X7_readNumber_68
      rw [h5, h6]
      by_cases y : p = s
      · subst y
        rw [k_eqT rfl, fail_eq, k_cs, if_pos es]
        refine ⟨_, rfl, (Fct.rf.up (by omega) (by omega)).up (by omega) (by omega), by rw [up_nk _ _ _ (by omega), up_nk _ _ _ (by omega)]; exact h6, by rw [up_nk _ _ _ (by omega), up_nk _ _ _ (by omega)], fun _ => ⟨by rw [up_nk _ _ _ (by omega), up_ss], up_ss _ _ _ _⟩, fun q => absurd es q⟩
      · obtain ⟨V2, r1, r2, r3, r4⟩ := c_skip (N := N) hT1 h1 h5 hN
        have f2 : Fct t V V2 := ⟨r3, fun j hj => r4 j (by omega)⟩
        have e0 : vC B (de B L p - p) p x = x := by rw [es, Nat.sub_self, vC]
        rw [k_eqF (by omega) ⟨by omega, by omega⟩ ⟨by omega, by omega⟩, r1, k_cs, e0, es, if_neg y]
        unfold g_X7_readNumber_103
        rw [k_ltc ⟨by omega, by omega⟩ hlo, k_lec ⟨by omega, by omega⟩ hhi, r4 5 (by omega), h6, fail_eq, k_cs]
        by_cases y2 : lo ≤ x ∧ x ≤ hi
        · rw [if_neg (by omega), if_pos y2.2, if_pos y2]
          exact ⟨V2, rfl, f2, by rw [r4 5 (by omega)]; exact h6, r4 6 (by omega), fun q => absurd q y, fun _ => ⟨r2, fun _ => ⟨r4 3 (by omega), r4 4 (by omega)⟩, fun q => absurd y2 q⟩⟩
        · have e3 : (if x < lo then some ((-1 : Int), sj_up (sj_up V2 t 3 2) t 4 s) else if x ≤ hi then some (x, V2) else some (-1, sj_up (sj_up V2 t 3 2) t 4 s)) = some (-1, sj_up (sj_up V2 t 3 2) t 4 s) := by
            by_cases y3 : x < lo
            · rw [if_pos y3]
            · rw [if_neg y3, if_neg (by omega)]
          rw [e3, if_neg y2]
          refine ⟨_, rfl, (f2.up (by omega) (by omega)).up (by omega) (by omega), by rw [up_nk _ _ _ (by omega), up_nk _ _ _ (by omega), r4 5 (by omega)]; exact h6, by rw [up_nk _ _ _ (by omega), up_nk _ _ _ (by omega), r4 6 (by omega)], fun q => absurd q y, fun _ => ⟨by rw [up_nk _ _ _ (by omega), up_nk _ _ _ (by omega)]; exact r2, fun q => absurd q y2, fun _ => ⟨by rw [up_nk _ _ _ (by omega), up_ss], up_ss _ _ _ _⟩⟩⟩
theorem c_num (hT : TX V W t b B L) (hlo : sj_i32 lo) (hhi : sj_i32 hi) (hp : p ≤ L) (h2 : V t 2 = (p : Nat)) (hN : 1000 ≤ N) : ∃ V', g_X7_readNumber N t lo hi V = some (if nmK B L lo hi p = 0 then nmV B L p else -1, V') ∧ Fct t V V' ∧ V' t 5 = (p : Nat) ∧ (nmK B L lo hi p = 0 → V' t 2 = (sk B L (de B L p) : Nat) ∧ V' t 3 = V t 3 ∧ V' t 4 = V t 4) ∧ (nmK B L lo hi p ≠ 0 → V' t 3 = nmK B L lo hi p ∧ V' t 4 = (p : Nat)) := by
  have hL := hT.2.2.1
  unfold g_X7_readNumber
  rw [k_lt, h2]
  obtain ⟨V2, r1, r2, r3, _, r5, r6⟩ := c_num_loop (N := N) hT hlo hhi hp hN N p 0 (sj_up V t 5 p) (by omega) hp (by omega) (by rw [up_nk _ _ _ (by omega)]; exact hT.1) (fun i hi => by rw [up_row _ _ _ (by omega)]; exact hT.2.2.2.1 i hi) (by rw [up_nk _ _ _ (by omega)]; exact h2) (up_ss _ _ _ _) (by omega) rfl
  rw [up_nk _ _ _ (show 3 ≠ 5 by omega), up_nk _ _ _ (show 4 ≠ 5 by omega)] at r6
  refine ⟨V2, ?_, (Fct.rf.up (by omega) (by omega)).tr r2, r3, fun h => ?_, fun h => ?_⟩
  · rw [r1]
    unfold nmK nmV
    by_cases z : de B L p = p
    · rw [if_pos z, if_pos z, if_neg (by omega)]
    · by_cases y : lo ≤ vC B (de B L p - p) p 0 ∧ vC B (de B L p - p) p 0 ≤ hi
      · rw [if_neg z, if_pos y, if_neg z, if_pos y, if_pos rfl]
      · rw [if_neg z, if_neg y, if_neg z, if_neg y, if_neg (by omega)]
  · unfold nmK at h
    by_cases z : de B L p = p
    · rw [if_pos z] at h; omega
    · rw [if_neg z] at h
      by_cases y : lo ≤ vC B (de B L p - p) p 0 ∧ vC B (de B L p - p) p 0 ≤ hi
      · obtain ⟨s1, s2, s3⟩ := r6 z
        exact ⟨s1, s2 y⟩
      · rw [if_neg y] at h; omega
  · unfold nmK at h ⊢
    by_cases z : de B L p = p
    · rw [if_pos z]; exact r5 z
    · rw [if_neg z] at h ⊢
      by_cases y : lo ≤ vC B (de B L p - p) p 0 ∧ vC B (de B L p - p) p 0 ≤ hi
      · rw [if_pos y] at h; omega
      · rw [if_neg y]; exact (r6 z).2.2 y
theorem m_wrong {k v : Int} (h : W b 32 = 0) : g_X9_wrong N b k v W = some ((), sj_up (sj_up (sj_up W b 32 1) b 30 k) b 31 v) := by
  unfold g_X9_wrong
  rw [k_eqT h, k_zz (Or.inr rfl), k_lt, k_lt, k_lt]
theorem m_wrong1 {k v : Int} (h : W b 32 = 1) : g_X9_wrong N b k v W = some ((), W) := by
  unfold g_X9_wrong
  rw [h, k_eqF (by omega) ⟨by omega, by omega⟩ ⟨by omega, by omega⟩]
theorem m_num_loop (hT : TX V W t b B L) (hlo : sj_i32 lo) (hhi : sj_i32 hi) (hhi2 : hi ≤ 100000) {wr : Int} {s : Nat} (hwr : wr = 0 ∨ wr = 1) (hN : 1000 ≤ N) : ∀ (m p : Nat) (x : Int) (W : sj_VV), p ≤ L → L - p < m → W b 28 = (L : Nat) → (∀ i, i < L → W (b + 10) i = Int.bmod (B i) 256) → W b 29 = (p : Nat) → W b 33 = (s : Nat) → W b 32 = wr → (0 ≤ x ∧ x ≤ 20000000) → ∃ W', g_X9_number_38 N m b lo hi x W = some (if wr = 0 ∧ lo ≤ vM B (de B L p - p) p x ∧ vM B (de B L p - p) p x ≤ hi then vM B (de B L p - p) p x else lo, W') ∧ Fmt b W W' ∧ W' b 29 = (de B L p : Nat) ∧ W' b 33 = (s : Nat) ∧ ((wr = 1 ∨ (lo ≤ vM B (de B L p - p) p x ∧ vM B (de B L p - p) p x ≤ hi)) → W' b 32 = wr ∧ W' b 30 = W b 30 ∧ W' b 31 = W b 31) ∧ (wr = 0 → ¬ (lo ≤ vM B (de B L p - p) p x ∧ vM B (de B L p - p) p x ≤ hi) → W' b 32 = 1 ∧ W' b 30 = 2 ∧ W' b 31 = (s : Nat))
  | 0, _, _, _, _, h, _, _, _, _, _, _ => absurd h (by omega)
  | m + 1, p, x, W, h1, h2, h3, h4, h5, h6, h7, hx => by
    have hL := hT.2.2.1
    have hT1 : TX V W t b B L := ⟨hT.1, h3, hT.2.2.1, hT.2.2.2.1, fun i hi => ⟨(hT.2.2.2.2 i hi).1, h4 i hi⟩⟩
    unfold g_X9_number_38 g_X9_number_38_b
    rw [h3, h5]
    have hend : de B L p = p → ∃ W', g_X9_number_117 N b lo hi x W = some (if wr = 0 ∧ lo ≤ vM B (de B L p - p) p x ∧ vM B (de B L p - p) p x ≤ hi then vM B (de B L p - p) p x else lo, W') ∧ Fmt b W W' ∧ W' b 29 = (de B L p : Nat) ∧ W' b 33 = (s : Nat) ∧ ((wr = 1 ∨ (lo ≤ vM B (de B L p - p) p x ∧ vM B (de B L p - p) p x ≤ hi)) → W' b 32 = wr ∧ W' b 30 = W b 30 ∧ W' b 31 = W b 31) ∧ (wr = 0 → ¬ (lo ≤ vM B (de B L p - p) p x ∧ vM B (de B L p - p) p x ≤ hi) → W' b 32 = 1 ∧ W' b 30 = 2 ∧ W' b 31 = (s : Nat)) := by
      intro es
      have e0 : vM B (de B L p - p) p x = x := by rw [es, Nat.sub_self, vM]
      rw [e0, es]
      unfold g_X9_number_117 g_X9_number_139
      rw [k_wid ⟨by omega, by omega⟩, k_wid hlo, k_wid hhi, m_in ⟨by omega, by omega⟩ hlo hhi, k_cs]
      by_cases y : lo ≤ x ∧ x ≤ hi
      · rw [if_pos y, k_eqF (by omega) ⟨by omega, by omega⟩ ⟨by omega, by omega⟩, h7]
        refine ⟨W, ?_, Fmt.rf, h5, h6, fun _ => ⟨h7, rfl, rfl⟩, fun _ q => absurd y q⟩
        rcases hwr with z | z
        · rw [k_eqT z, if_pos ⟨z, y⟩]
        · rw [z, k_eqF (by omega) ⟨by omega, by omega⟩ ⟨by omega, by omega⟩, if_neg (by omega)]
      · rw [if_neg y, k_eqT rfl, h6]
        rcases hwr with z | z
        · rw [m_wrong (by rw [h7]; exact z), k_cs, up_nk _ _ _ (by omega), up_nk _ _ _ (by omega), up_ss, k_eqF (by omega) ⟨by omega, by omega⟩ ⟨by omega, by omega⟩, if_neg (fun q => y q.2)]
          refine ⟨_, rfl, ((Fmt.rf.up (by omega) (by omega)).up (by omega) (by omega)).up (by omega) (by omega), by rw [up_nk _ _ _ (by omega), up_nk _ _ _ (by omega), up_nk _ _ _ (by omega)]; exact h5, by rw [up_nk _ _ _ (by omega), up_nk _ _ _ (by omega), up_nk _ _ _ (by omega)]; exact h6, fun q => ?_, fun _ _ => ⟨by rw [up_nk _ _ _ (by omega), up_nk _ _ _ (by omega), up_ss], by rw [up_nk _ _ _ (by omega), up_ss], up_ss _ _ _ _⟩⟩
          rcases q with q | q
          · omega
          · exact absurd q y
        · rw [m_wrong1 (by rw [h7]; exact z), k_cs, h7, z, k_eqF (by omega) ⟨by omega, by omega⟩ ⟨by omega, by omega⟩, if_neg (by omega)]
          exact ⟨W, rfl, Fmt.rf, h5, h6, fun _ => ⟨by rw [h7, z], rfl, rfl⟩, fun q => by omega⟩
    by_cases y : p = L
    · rw [k_leT (by omega) ⟨by omega, by omega⟩ ⟨by omega, by omega⟩]
      exact hend (by unfold de; rw [y, Nat.sub_self, spSeek])
    · obtain ⟨i1, i2⟩ := m_in_b (N := N) (lo := 48) (hi := 57) hT1 (p := p) (by omega) (by omega) (by omega) ⟨by omega, by omega⟩ ⟨by omega, by omega⟩
      rw [k_leF (by omega) ⟨by omega, by omega⟩ ⟨by omega, by omega⟩, k_ix (by omega) (by omega), tn0, k_wid i1, i2, k_cs]
      have ed : de B L p = if isDg B p = true then p else de B L (p + 1) := seek_st _ (by omega)
      by_cases z : 48 ≤ B p ∧ B p ≤ 57
      · have es : de B L p = de B L (p + 1) := by rw [ed, if_neg (by unfold isDg; simp; omega)]
        have hin := de_in (B := B) (L := L) (p := p + 1) (by omega)
        have eb : W (b + 10) p = B p := by rw [h4 p (by omega), bmod_b (hT.2.2.2.2 p (by omega)).1, if_pos (by omega)]
        have ev : vM B (de B L p - p) p x = vM B (de B L (p + 1) - (p + 1)) (p + 1) (if x ≤ 1000000 then 10 * x + B p - 48 else x) := by
          rw [es, show de B L (p + 1) - p = (de B L (p + 1) - (p + 1)) + 1 by omega, vM]
        rw [if_pos z, k_eqF (by omega) ⟨by omega, by omega⟩ ⟨by omega, by omega⟩, ev, es, k_lec ⟨by omega, by omega⟩ ⟨by omega, by omega⟩, h5, k_ix (by omega) (by omega), tn0, eb]
        unfold g_X9_number_102
        rw [k_lt, k_lt, h5]
        obtain ⟨W2, r1, r2, r3, r4, r5, r6⟩ := m_num_loop (s := s) hT hlo hhi hhi2 hwr hN m (p + 1) (if x ≤ 1000000 then 10 * x + B p - 48 else x) (sj_up W b 29 ((p : Int) + 1)) (by omega) (by omega) (by rw [up_nk _ _ _ (by omega)]; exact h3) (fun i hi => by rw [up_row _ _ _ (by omega)]; exact h4 i hi) (up_ss _ _ _ _) (by rw [up_nk _ _ _ (by omega)]; exact h6) (by rw [up_nk _ _ _ (by omega)]; exact h7) (by split <;> omega)
        rw [up_nk _ _ _ (show 30 ≠ 29 by omega), up_nk _ _ _ (show 31 ≠ 29 by omega)] at r5
        refine ⟨W2, ?_, (Fmt.rf.up (by omega) (by omega)).tr r2, r3, r4, r5, r6⟩
        rw [← r1]
        by_cases y2 : x ≤ 1000000
        · rw [if_pos y2, if_pos y2]
        · rw [if_neg y2, if_neg y2]
      · rw [if_neg z, k_eqT rfl]
        exact hend (by rw [ed, if_pos (by unfold isDg; simp; omega)])
theorem m_num (hT : TX V W t b B L) (hlo : sj_i32 lo) (hhi : sj_i32 hi) (hhi2 : hi ≤ 100000) (hq : q ≤ L) (h2 : W b 29 = (q : Nat)) (hw : W b 32 = 0) (hp : sk B L q = p) (hN : 1000 ≤ N) : ∃ W', g_X9_number N b lo hi W = some (if nmK B L lo hi p = 0 then nmV B L p else lo, W') ∧ Fmt b W W' ∧ W' b 29 = (de B L p : Nat) ∧ W' b 33 = (p : Nat) ∧ (nmK B L lo hi p = 0 → W' b 32 = 0 ∧ W' b 30 = W b 30 ∧ W' b 31 = W b 31) ∧ (nmK B L lo hi p ≠ 0 → W' b 32 = 1 ∧ W' b 30 = nmK B L lo hi p ∧ W' b 31 = (p : Nat)) := by
  have hL := hT.2.2.1
  have hk := sk_in (B := B) hq
  rw [hp] at hk
  obtain ⟨W1, r1, r2, r3, r4⟩ := m_isDigitNext (N := N) hT hq h2 hN
  rw [hp] at r1 r2
  unfold g_X9_number
  rw [k_eqT hw, r1, k_cs, r2, k_lt]
  obtain ⟨W2, d2⟩ : ∃ W2, W2 = sj_up W1 b 33 p := ⟨_, rfl⟩
  rw [← d2]
  have f2 : Fmt b W W2 := by rw [d2]; exact (Fmt.up (V := W) (V1 := W1) ⟨r3, fun j hj => r4 j (by omega)⟩ (by omega) (by omega))
  have e29 : W2 b 29 = (p : Nat) := by rw [d2, up_nk _ _ _ (by omega)]; exact r2
  have e32 : W2 b 32 = 0 := by rw [d2, up_nk _ _ _ (by omega), r4 32 (by omega)]; exact hw
  have e33 : W2 b 33 = (p : Nat) := by rw [d2, up_ss]
  have e30 : W2 b 30 = W b 30 := by rw [d2, up_nk _ _ _ (by omega), r4 30 (by omega)]
  have e31 : W2 b 31 = W b 31 := by rw [d2, up_nk _ _ _ (by omega), r4 31 (by omega)]
  have hT2 := hT.m f2
  unfold g_X9_number_35
  by_cases z : p < L ∧ 48 ≤ B p ∧ B p ≤ 57
  · have ed : de B L p = if isDg B p = true then p else de B L (p + 1) := seek_st _ (by omega)
    have hin := de_in (B := B) (L := L) (p := p + 1) (by omega)
    have en : de B L p ≠ p := by rw [ed, if_neg (by unfold isDg; simp; omega)]; omega
    have hin2 := de_in (B := B) (L := L) (p := p) (by omega)
    obtain ⟨c1, c2⟩ := vCM (B := B) (de B L p - p) p 0 0 (by omega) (by omega) (fun i i1 i2 => digits (L := L) (p := p) (by omega) i1 (by omega))
    obtain ⟨W3, s1, s2, s3, s4, s5, s6⟩ := m_num_loop (N := N) (wr := 0) (s := p) hT2 hlo hhi hhi2 (Or.inl rfl) hN N p 0 W2 (by omega) (by omega) hT2.2.1 (fun i hi => (hT2.2.2.2.2 i hi).2) e29 e33 e32 (by omega)
    have iff : (lo ≤ vM B (de B L p - p) p 0 ∧ vM B (de B L p - p) p 0 ≤ hi) ↔ (lo ≤ vC B (de B L p - p) p 0 ∧ vC B (de B L p - p) p 0 ≤ hi) ∨ (lo ≤ vM B (de B L p - p) p 0 ∧ vM B (de B L p - p) p 0 ≤ hi) := ⟨Or.inr, fun q => by
      rcases q with q | q
      · rw [c1] at q; omega
      · exact q⟩
    rw [if_pos z, k_eqF (by omega) ⟨by omega, by omega⟩ ⟨by omega, by omega⟩, s1]
    by_cases y : lo ≤ vC B (de B L p - p) p 0 ∧ vC B (de B L p - p) p 0 ≤ hi
    · have y2 : lo ≤ vM B (de B L p - p) p 0 ∧ vM B (de B L p - p) p 0 ≤ hi := iff.mpr (Or.inl y)
      have ek : nmK B L lo hi p = 0 := by unfold nmK; rw [if_neg en, if_pos y]
      obtain ⟨g1, g2, g3⟩ := s5 (Or.inr y2)
      refine ⟨W3, ?_, f2.tr s2, s3, s4, fun _ => ⟨g1, by rw [g2, e30], by rw [g3, e31]⟩, fun q => absurd ek q⟩
      rw [if_pos ⟨rfl, y2⟩, if_pos ek]
      unfold nmV
      rw [c1]
      congr 2
      omega
    · have y2 : ¬ (lo ≤ vM B (de B L p - p) p 0 ∧ vM B (de B L p - p) p 0 ≤ hi) := fun q => y (by rw [c1]; omega)
      have ek : nmK B L lo hi p = 2 := by unfold nmK; rw [if_neg en, if_neg y]
      refine ⟨W3, ?_, f2.tr s2, s3, s4, fun q => by omega, fun _ => by rw [ek]; exact s6 rfl y2⟩
      rw [if_neg (fun q => y2 q.2), if_neg (by omega)]
  · have es : de B L p = p := by
      by_cases y : p = L
      · unfold de; rw [y, Nat.sub_self, spSeek]
      · have : de B L p = if isDg B p = true then p else de B L (p + 1) := seek_st _ (by omega)
        rw [this, if_pos (by unfold isDg; simp; omega)]
    have ek : nmK B L lo hi p = 1 := by unfold nmK; rw [if_pos es]
    rw [if_neg z, k_eqT rfl, e29, m_wrong e32, k_cs]
    obtain ⟨W4, d4⟩ : ∃ W4, W4 = sj_up (sj_up (sj_up W2 b 32 1) b 30 1) b 31 p := ⟨_, rfl⟩
    rw [← d4]
    have f4 : Fmt b W2 W4 := by rw [d4]; exact ((Fmt.rf.up (by omega) (by omega)).up (by omega) (by omega)).up (by omega) (by omega)
    have hT4 := hT2.m f4
    have o1 : W4 b 32 = 1 := by rw [d4, up_nk _ _ _ (by omega), up_nk _ _ _ (by omega), up_ss]
    have o2 : W4 b 30 = 1 := by rw [d4, up_nk _ _ _ (by omega), up_ss]
    have o3 : W4 b 31 = (p : Nat) := by rw [d4, up_ss]
    obtain ⟨W3, s1, s2, s3, s4, s5, s6⟩ := m_num_loop (N := N) (wr := 1) (s := p) hT4 hlo hhi hhi2 (Or.inr rfl) hN N p 0 W4 (by omega) (by omega) hT4.2.1 (fun i hi => (hT4.2.2.2.2 i hi).2) (by rw [d4, up_nk _ _ _ (by omega), up_nk _ _ _ (by omega), up_nk _ _ _ (by omega)]; exact e29) (by rw [d4, up_nk _ _ _ (by omega), up_nk _ _ _ (by omega), up_nk _ _ _ (by omega)]; exact e33) o1 (by omega)
    obtain ⟨g1, g2, g3⟩ := s5 (Or.inl rfl)
    refine ⟨W3, ?_, (f2.tr f4).tr s2, s3, s4, fun q => by omega, fun _ => ⟨g1, by rw [g2, o2, ek], by rw [g3, o3]⟩⟩
    rw [s1, if_neg (by omega), if_neg (by omega)]
theorem m_numW (hw : W b 32 = 1) : g_X9_number N b lo hi W = some (lo, W) := by
  unfold g_X9_number
  rw [hw, k_eqF (by omega) ⟨by omega, by omega⟩ ⟨by omega, by omega⟩]
end Num
