/-! DEEP as it is asked -/
section Deep
variable {V : sj_VV} {a c : Nat} {w : sj_R} {k x y r lf : Int} {N : Nat}
def spDeepB (w : sj_R) (c : Nat) (lf x y r : Int) (d : Nat) : Int := (spBoxes (wUp w (3 + c) (w (3 + c) - d)) lf x y r 8).1.2.2.2
def spDeepP (w : sj_R) (c : Nat) (k lf x y r : Int) (d : Nat) : Bool := decide (spDeepB w c lf x y r d < k)
def spMost (w : sj_R) (c : Nat) : Nat := (min 5 (w (3 + c) - w (44 + c))).toNat
theorem c_deep_loop (hB : WB 500 200 1500 w) (hc : c < 41) (hlf : lf = 0 ∨ lf = 1) (hci : spCirc x y r) (hk : 1 ≤ k ∧ k ≤ 20000) (hN : 1000 ≤ N) : ∀ (m d : Nat) (g : Int) (V : sj_VV), d ≤ spMost w c + 1 → spMost w c + 1 - d < m → V (a + 1 + 1) c = w (3 + c) → CG V (a + 15) (wUp w (3 + c) g) → ∃ V', g_X8_deep_73 N m a c k x y r lf (spMost w c) ((d : Int) - 1) d V = some ((spSeek (spDeepP w c k lf x y r) (spMost w c + 1 - d) d : Int) - 1, V') ∧ ∀ z, ¬ (a + 15 ≤ z ∧ z < a + 27) → ¬ (a + 63 ≤ z ∧ z < a + 75) → V' z = V z
  | 0, _, _, _, _, h, _, _ => absurd h (by omega)
  | m + 1, d, g, V, h1, h2, hg, hC => by
    have hr := (hB.2.2.2.1 c hc).1
    have hm : spMost w c ≤ 5 ∧ (spMost w c : Int) ≤ w (3 + c) - w (44 + c) := by unfold spMost; omega
    unfold g_X8_deep_73 g_X8_deep_73_b
    by_cases hd : d = spMost w c + 1
    · subst hd
      rw [k_ltT (by omega) ⟨by omega, by omega⟩ ⟨by omega, by omega⟩, spSeek_e]
      exact ⟨V, rfl, fun _ _ _ => rfl⟩
    · have hC2 : CG (sj_up V (a + 15 + 1) c (w (3 + c) - d)) (a + 15) (wUp w (3 + c) (w (3 + c) - d)) := by
        have := hC.ground (g := w (3 + c) - d) hc
        rw [wUp_wUp] at this
        exact this
      have hB2 : WB 500 200 1500 (wUp w (3 + c) (w (3 + c) - d)) := hB.ground hc (by omega) (by omega)
      obtain ⟨V4, s1, s2, s3, s4⟩ := seek_eq (N := N) (s := a + 63) (st := 8) hC2 (by omega) hB2 (by omega) (by omega) (by omega) hlf hci (by omega) hN
      have hbb := spBoxes_b (wUp w (3 + c) (w (3 + c) - d)) (lf := lf) (st := 8) hci
      have eB : (spBoxes (wUp w (3 + c) (w (3 + c) - d)) lf x y r 8).1.2.2.2 = spDeepB w c lf x y r d := rfl
      rw [eB] at hbb s1
      have fr : ∀ z, ¬ (a + 15 ≤ z ∧ z < a + 27) → ¬ (a + 63 ≤ z ∧ z < a + 75) → V4 z = V z := fun z z1 z2 => by rw [s2 z (by omega), up_row _ _ _ (by omega)]
      have hg4 : V4 (a + 1 + 1) c = w (3 + c) := by rw [fr _ (by omega) (by omega)]; exact hg
      have hC4 : CG V4 (a + 15) (wUp w (3 + c) (w (3 + c) - d)) := hC2.fr s2 (by omega)
      have e5 : V4 (a + 63) 5 = spDeepB w c lf x y r d := s3.2.2.2
      have next : ¬ spDeepP w c k lf x y r d = true → ∃ V', g_X8_deep_73 N m a c k x y r lf (spMost w c) d ((d : Int) + 1) V4 = some ((spSeek (spDeepP w c k lf x y r) (spMost w c + 1 - d) d : Int) - 1, V') ∧ ∀ z, ¬ (a + 15 ≤ z ∧ z < a + 27) → ¬ (a + 63 ≤ z ∧ z < a + 75) → V' z = V z := by
        intro hp
        obtain ⟨V5, t1, t2⟩ := c_deep_loop hB hc hlf hci hk hN m (d + 1) _ V4 (by omega) (by omega) hg4 hC4
        rw [spSeek_s _ (by omega), if_neg hp]
        rw [show ((d + 1 : Nat) : Int) - 1 = (d : Int) by omega] at t1
        exact ⟨V5, t1, fun z z1 z2 => (t2 z z1 z2).trans (fr z z1 z2)⟩
      rw [k_ltF (by omega) ⟨by omega, by omega⟩ ⟨by omega, by omega⟩, k_ix (by omega) (by omega), k_ix (by omega) (by omega), k_lt, tn0, hg, s1, k_cs]
      unfold g_X8_deep_138
      rw [k_lt]
      by_cases hb : spDeepB w c lf x y r d ≤ 20000
      · rw [if_pos hb, k_eqF (by omega) ⟨by omega, by omega⟩ ⟨by omega, by omega⟩, e5, k_lec ⟨by omega, by omega⟩ ⟨by omega, by omega⟩]
        by_cases hq : k ≤ spDeepB w c lf x y r d
        · rw [if_pos hq]
          exact next (by unfold spDeepP; rw [decide_eq_true_iff]; omega)
        · rw [if_neg hq, spSeek_s _ (by omega), if_pos (by unfold spDeepP; rw [decide_eq_true_iff]; omega)]
          exact ⟨V4, rfl, fr⟩
      · rw [if_neg hb, k_eqT rfl]
        exact next (by unfold spDeepP; rw [decide_eq_true_iff]; omega)
abbrev spDeepOk (w : sj_R) (c k x y r : Int) : Prop := spCol w c ∧ spCirc x y r ∧ 1 ≤ k ∧ k ≤ 20000
def spDeep (w : sj_R) (c k x y r lf : Int) : Int := if spDeepOk w c k x y r then (spSeek (spDeepP w c.toNat k lf x y r) (spMost w c.toNat + 1 - 0) 0 : Int) - 1 else -1
theorem c_deep {c : Int} (hR : RG V (a + 1) w) (hc : sj_i32 c) (hk : sj_i32 k) (h1 : sj_i32 x) (h2 : sj_i32 y) (h3 : sj_i32 r) (hlf : lf = 0 ∨ lf = 1) (hN : 1000 ≤ N) : ∃ V', g_X8_deep N a c k x y r lf V = some (spDeep w c k x y r lf, V') ∧ TL a V V' ∧ ∀ z, ¬ (a + 15 ≤ z ∧ z < a + 29) → ¬ (a + 63 ≤ z ∧ z < a + 75) → V' z = V z := by
  unfold g_X8_deep spDeep
  have h0 := hR.1.1
  rw [isCircle_eq h1 h2 h3, k_cs]
  by_cases c1 : spCirc x y r
  · rw [if_pos c1, k_eqF (by omega) ⟨by omega, by omega⟩ ⟨by omega, by omega⟩, isK_eq hk, k_cs]
    by_cases c2 : 1 ≤ k ∧ k ≤ 20000
    · rw [if_pos c2, k_eqF (by omega) ⟨by omega, by omega⟩ ⟨by omega, by omega⟩, hasColumn_eq (by rw [hR.2.2.1.1.1]; exact ⟨by omega, by omega⟩) hc, k_cs, hR.2.2.1.1.1]
      by_cases c3 : 0 ≤ c ∧ c ≤ w 0
      · obtain ⟨d, rfl⟩ : ∃ d : Nat, c = d := ⟨c.toNat, by omega⟩
        obtain ⟨V2, r1, r2, r3⟩ := copy_eq (N := N) (a := a + 15) (b := a + 1) (by omega) hR
        have hg := hR.2.2.1.2.1 d (by omega)
        have hr := (hR.1.2.2.2.1 d (by omega)).1
        have hg2 : V2 (a + 1 + 1) d = w (3 + d) := by rw [r2 _ (by omega)]; exact hg.1
        have hC2 : CG V2 (a + 15) (wUp w (3 + d) (w (3 + d))) := by rw [wUp_id]; exact r3.2.2.1
        obtain ⟨V3, t1, t2⟩ := c_deep_loop (N := N) (a := a) hR.1 (by omega) hlf c1 c2 hN N 0 _ V2 (by omega) (by unfold spMost; omega) hg2 hC2
        have em : min 5 (w (3 + d) - w (44 + d)) = ((spMost w d : Nat) : Int) := by unfold spMost; omega
        rw [if_pos c3, k_eqF (by omega) ⟨by omega, by omega⟩ ⟨by omega, by omega⟩, if_pos ⟨c3, c1, c2⟩, k_ix (by omega) (by omega), k_ix (by omega) (by omega), tn0, hg.1, hg.2.1, k_min ⟨by omega, by omega⟩ ⟨by omega, by omega⟩, em, r1, k_cs]
        exact ⟨V3, t1, fun _ => by rw [t2 _ (by omega) (by omega)]; exact r3.2.2.2.1, fun z z1 z2 => (t2 z (by omega) z2).trans (r2 z (by omega))⟩
      · rw [if_neg c3, k_eqT rfl, if_neg (fun z => c3 z.1)]
        exact ⟨V, rfl, id, fun _ _ _ => rfl⟩
    · rw [if_neg c2, k_eqT rfl, if_neg (fun z => c2 z.2.2)]
      exact ⟨V, rfl, id, fun _ _ _ => rfl⟩
  · rw [if_neg c1, k_eqT rfl, if_neg (fun z => c1 z.2.1)]
    exact ⟨V, rfl, id, fun _ _ _ => rfl⟩
end Deep
