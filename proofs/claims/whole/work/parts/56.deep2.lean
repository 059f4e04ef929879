section Deep2
variable {V : sj_VV} {a c : Nat} {w : sj_R} {k x y r lf : Int} {N : Nat}
/-- all but the row keeps -/
def Fq (a : Nat) (V V' : sj_VV) : Prop := (∀ z, z ≠ a → z ≠ a + 5 → z ≠ a + 1 → V' z = V z) ∧ ∀ j, (j < 6 ∨ j = 16 ∨ 22 ≤ j) → V' a j = V a j
theorem Fq.tr {V1 V2 : sj_VV} (h : Fq a V V1) (h2 : Fq a V1 V2) : Fq a V V2 := ⟨fun z a1 a2 a3 => (h2.1 z a1 a2 a3).trans (h.1 z a1 a2 a3), fun j hj => (h2.2 j hj).trans (h.2 j hj)⟩
theorem Fs.q {V1 : sj_VV} (h : Fs a V V1) : Fq a V V1 := ⟨fun z a1 a2 _ => h.1 z a1 a2, h.2⟩
theorem Fq.row (a : Nat) (V : sj_VV) (i : Nat) (v : Int) : Fq a V (sj_up V (a + 1) i v) := ⟨fun z _ _ a3 => up_row _ _ _ a3, fun j _ => up_na _ _ _ _ (by omega)⟩
theorem Fq.s {V1 : sj_VV} (h : Fq a V V1) (hw : V1 (a + 1) = V (a + 1)) : Fs a V V1 := ⟨fun z a1 a2 => by
  by_cases e : z = a + 1
  · rw [e]; exact hw
  · exact h.1 z a1 a2 e, h.2⟩
theorem m_deep_end (hc : c < 41) {g : Int} (hw : V (a + 1) = wUp w (3 + c) g) (d : Int) : ∃ V', g_X9_deep_139 N a c (w (3 + c)) d V = some (d - 1, V') ∧ V' (a + 1) = w ∧ Fq a V V' := by
  unfold g_X9_deep_139
  rw [k_ix (by omega) (by omega), k_lt, show (3 + (c : Int)).toNat = 3 + c by omega]
  exact ⟨_, rfl, by rw [up_wUp hw, wUp_wUp, wUp_id], Fq.row _ _ _ _⟩
theorem m_deep_loop (hB : WB 500 200 1500 w) (hc : c < 41) (hlf : lf = 0 ∨ lf = 1) (hci : spCirc x y r) (hk : 1 ≤ k ∧ k ≤ 20000) (hN : 1000 ≤ N) : ∀ (m d : Nat) (g : Int) (V : sj_VV), d ≤ spMost w c + 1 → spMost w c + 2 - d < m → V (a + 1) = wUp w (3 + c) g → ∃ V', g_X9_deep_62 N m a c k x y r lf (w (3 + c)) (spMost w c) d 1 V = some ((spSeek (spDeepP w c k lf x y r) (spMost w c + 1 - d) d : Int) - 1, V') ∧ V' (a + 1) = w ∧ Fq a V V'
  | 0, _, _, _, _, h, _ => absurd h (by omega)
  | m + 1, d, g, V, h1, h2, hw => by
    have hr := (hB.2.2.2.1 c hc).1
    have hm : spMost w c ≤ 5 ∧ (spMost w c : Int) ≤ w (3 + c) - w (44 + c) := by unfold spMost; omega
    unfold g_X9_deep_62 g_X9_deep_62_b
    rw [k_eqF (by omega) ⟨by omega, by omega⟩ ⟨by omega, by omega⟩]
    by_cases hd : d = spMost w c + 1
    · subst hd
      rw [k_ltT (by omega) ⟨by omega, by omega⟩ ⟨by omega, by omega⟩, spSeek_e]
      exact m_deep_end hc hw _
    · have hw2 : sj_up V (a + 1) (3 + c) (w (3 + c) - d) (a + 1) = wUp w (3 + c) (w (3 + c) - d) := by rw [up_wUp hw, wUp_wUp]
      have hB2 : WB 500 200 1500 (wUp w (3 + c) (w (3 + c) - d)) := hB.ground hc (by omega) (by omega)
      obtain ⟨V4, s1, s2, s3, s4⟩ := m_searches (N := N) (a := a) (st := 8) hw2 hB2 (by omega) (by omega) (by omega) hlf hci (by omega) hN
      have hbb := spBoxes_b (wUp w (3 + c) (w (3 + c) - d)) (lf := lf) (st := 8) hci
      have eB : (spBoxes (wUp w (3 + c) (w (3 + c) - d)) lf x y r 8).1.2.2.2 = spDeepB w c lf x y r d := rfl
      rw [eB] at hbb s1
      have w4 := s2.w.trans hw2
      have f4 : Fq a V V4 := (Fq.row a V _ _).tr s2.q
      have next : ¬ spDeepP w c k lf x y r d = true → ∃ V', g_X9_deep_114 N (g_X9_deep_62 N m) a c k x y r lf (w (3 + c)) (spMost w c) d V4 = some ((spSeek (spDeepP w c k lf x y r) (spMost w c + 1 - d) d : Int) - 1, V') ∧ V' (a + 1) = w ∧ Fq a V V' := by
        intro hp
        obtain ⟨V5, t1, t2, t3⟩ := m_deep_loop hB hc hlf hci hk hN m (d + 1) _ V4 (by omega) (by omega) w4
        unfold g_X9_deep_114 g_X9_deep_119 g_X9_deep_133
        rw [k_eqF (by omega) ⟨by omega, by omega⟩ ⟨by omega, by omega⟩, k_lt, spSeek_s _ (by omega), if_neg hp]
        exact ⟨V5, t1, t2, f4.tr t3⟩
      rw [k_ltF (by omega) ⟨by omega, by omega⟩ ⟨by omega, by omega⟩, k_ix (by omega) (by omega), k_lt, show (3 + (c : Int)).toNat = 3 + c by omega, s1, k_cs]
      by_cases hb : spDeepB w c lf x y r d = 20001
      · rw [k_eqT (show spNo (spDeepB w c lf x y r d) = -1 by unfold spNo; rw [if_pos hb])]
        exact next (by unfold spDeepP; rw [decide_eq_true_iff]; omega)
      · have eN : spNo (spDeepB w c lf x y r d) = spDeepB w c lf x y r d := by unfold spNo; rw [if_neg hb]
        rw [eN, k_eqF (by omega) ⟨by omega, by omega⟩ ⟨by omega, by omega⟩, k_ltc ⟨by omega, by omega⟩ ⟨by omega, by omega⟩]
        by_cases hq : spDeepB w c lf x y r d < k
        · obtain ⟨n, rfl⟩ : ∃ n, m = n + 1 := ⟨m - 1, by omega⟩
          rw [if_pos hq, spSeek_s _ (by omega), if_pos (by unfold spDeepP; rw [decide_eq_true_iff]; exact hq)]
          unfold g_X9_deep_119 g_X9_deep_133
          rw [k_eqT rfl, k_lt]
          unfold g_X9_deep_62 g_X9_deep_62_b
          rw [k_eqT rfl]
          obtain ⟨V5, t1, t2, t3⟩ := m_deep_end (N := N) hc w4 d
          first | rw [Int.add_zero] | rw [Int.zero_add]
          exact ⟨V5, t1, t2, f4.tr t3⟩
        · rw [if_neg hq]
          exact next (by unfold spDeepP; rw [decide_eq_true_iff]; omega)
theorem m_deep {c : Int} (hw : V (a + 1) = w) (hB : WB 500 200 1500 w) (hc : sj_i32 c) (hk : sj_i32 k) (h1 : sj_i32 x) (h2 : sj_i32 y) (h3 : sj_i32 r) (hlf : lf = 0 ∨ lf = 1) (hN : 1000 ≤ N) : ∃ V', g_X9_deep N a c k x y r lf V = some (spDeep w c k x y r lf, V') ∧ Fs a V V' := by
  unfold g_X9_deep spDeep
  have h0 := hB.1
  rw [m_isColumn hw hB hc, k_cs]
  by_cases c3 : spCol w c
  · rw [if_pos c3, k_eqF (by omega) ⟨by omega, by omega⟩ ⟨by omega, by omega⟩, m_isCircle h1 h2 h3, k_cs]
    by_cases c1 : spCirc x y r
    · rw [if_pos c1, k_eqF (by omega) ⟨by omega, by omega⟩ ⟨by omega, by omega⟩, m_isK hk, k_cs]
      by_cases c2 : 1 ≤ k ∧ k ≤ 20000
      · obtain ⟨d, rfl⟩ : ∃ d : Nat, c = d := ⟨c.toNat, by have := c3.1; omega⟩
        obtain ⟨c5, c6⟩ := id c3
        have hr := (hB.2.2.2.1 d (by omega)).1
        have em : min 5 (w (3 + d) - w (44 + d)) = ((spMost w d : Nat) : Int) := by unfold spMost; omega
        obtain ⟨V3, t1, t2, t3⟩ := m_deep_loop (N := N) (a := a) (c := d) hB (by omega) hlf c1 c2 hN N 0 (w (3 + d)) V (by omega) (by unfold spMost; omega) (by rw [wUp_id]; exact hw)
        rw [if_pos c2, k_eqF (by omega) ⟨by omega, by omega⟩ ⟨by omega, by omega⟩, if_pos ⟨c3, c1, c2⟩, k_ix (by omega) (by omega), k_lt, k_ix (by omega) (by omega), hw, show (3 + (d : Int)).toNat = 3 + d by omega, show (44 + (d : Int)).toNat = 44 + d by omega, m_least ⟨by omega, by omega⟩ ⟨by omega, by omega⟩, k_cs, em]
        exact ⟨V3, t1, t3.s (t2.trans hw.symm)⟩
      · rw [if_neg c2, k_eqT rfl, if_neg (fun z => c2 z.2.2)]
        exact ⟨V, rfl, Fs.rf⟩
    · rw [if_neg c1, k_eqT rfl, if_neg (fun z => c1 z.2.1)]
      exact ⟨V, rfl, Fs.rf⟩
  · rw [if_neg c3, k_eqT rfl, if_neg (fun z => c3 z.1)]
    exact ⟨V, rfl, Fs.rf⟩
end Deep2
