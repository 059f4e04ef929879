section Points2
variable {V : sj_VV} {a b n f t N : Nat} {w : sj_R} {lf : Int}
theorem heightAt_eq {he i c : Nat} (h : PT w n) (hV : ∀ j, j < 12 → V (he + 1) j = w (365 + j) ∧ V (he + 2) j = w (377 + j)) (hi : i + 1 < n) (h1 : w (365 + i) ≤ c) (h2 : (c : Int) ≤ w (365 + (i + 1))) : g_X5_heightAt N he ((i : Int) + 1) c V = some (sgH w i c, V) := by
  obtain ⟨p1, p2, p3, p4, p5⟩ := id h
  obtain ⟨g1, g2, g3⟩ := sgH_b h hi h1 h2
  unfold g_X5_heightAt
  rw [k_lt, k_ix (by omega) (by omega), k_ix (by omega) (by omega), k_lt, show ((i : Int) + 1).toNat = i + 1 by omega, show ((i : Int) + 1 - 1).toNat = i by omega, (hV i (by omega)).1, (hV i (by omega)).2, (hV (i + 1) (by omega)).1, (hV (i + 1) (by omega)).2, k_ltT (by omega) ⟨by omega, by omega⟩ ⟨by omega, by omega⟩, k_ix (by omega) (by omega), k_ix (by omega) (by omega), k_lt, k_ix (by omega) (by omega), k_ix (by omega) (by omega), floorI g1 g2, k_cs]
  rfl
theorem follow_loop {he ga tr : Nat} (h : PT w n) (hB : WB 500 200 1500 w) (hd : ga + 12 ≤ tr) (hd2 : he + 3 ≤ tr) (hf : w 365 = (f : Nat)) (ht : w (365 + (n - 1)) = (t : Nat)) (htn : (t : Int) ≤ w 0) (hlf : lf = 0 ∨ lf = 1) : ∀ (m c i : Nat) (V : sj_VV), f < c → c ≤ t → t - c < m → i + 1 < n → w (365 + i) < c → (c : Int) - 1 ≤ w (365 + (i + 1)) → CG V ga w → (∀ j, j < 12 → V (he + 1) j = w (365 + j) ∧ V (he + 2) j = w (377 + j)) → (∀ d, f < d → d < c → V (tr + 1) d = spH w d) → ∃ V', g_X5_follow_65 N m tr ga he lf n ((i : Int) + 1) f t c V = some (if spAll (spPo w) (t - c) c = true then 1 else 0, V') ∧ Fr tr (tr + 2) V V' ∧ (spAll (spPo w) (t - c) c = true → SL V' tr f t lf (spPB w f t))
  | 0, _, _, _, _, _, h, _, _, _, _, _, _ => absurd h (by omega)
  | m + 1, c, i, V, h1, h2, h3, h4, h5, h6, hC, hV, hb => by
    obtain ⟨p1, p2, p3, p4, p5⟩ := id h
    have n40 := hB.1
    unfold g_X5_follow_65 g_X5_follow_65_b
    by_cases hc : c = t
    · subst hc
      obtain ⟨V2, r1, r2, r3⟩ := span_eq (N := N) (a := tr) (V := V) (bs := spPB w f c) hC (by omega) h1 (by omega) hlf (fun d d1 d2 => by rw [hb d d1 d2]; unfold spPB; rw [if_neg (by omega)]) (by unfold spPB; rw [if_pos (Or.inl rfl)]) (by unfold spPB; rw [if_pos (Or.inr rfl)])
      rw [k_leT (by omega) ⟨by omega, by omega⟩ ⟨by omega, by omega⟩, r1, k_cs, k_zs (Or.inr rfl), Nat.sub_self, spAll, if_pos rfl]
      exact ⟨V2, rfl, r2, fun _ => r3⟩
    · have hcol := (hB.2.2.2.1 c (by omega)).1
      have hgc := hC.2.1 c (by omega)
      -- the step, on the right segment
      have step : ∀ i', i' + 1 < n → w (365 + i') < c → (c : Int) ≤ w (365 + (i' + 1)) → ∃ V', g_X5_follow_96 N (g_X5_follow_65 N m) tr ga he lf n ((i' : Int) + 1) f t c V = some (if spAll (spPo w) (t - c) c = true then 1 else 0, V') ∧ Fr tr (tr + 2) V V' ∧ (spAll (spPo w) (t - c) c = true → SL V' tr f t lf (spPB w f t)) := by
        intro i' q1 q2 q3
        have eH : spH w c = sgH w i' c := spH_seg h q1 (by omega) q3
        obtain ⟨_, _, g3⟩ := sgH_b h q1 (by omega) q3
        unfold g_X5_follow_96
        rw [heightAt_eq h hV q1 (by omega) q3, k_cs, ← eH, k_ix (by omega) (by omega), tn0, hgc.1, hgc.2.1]
        rw [← eH] at g3
        rw [k_lec ⟨by omega, by omega⟩ ⟨by omega, by omega⟩, show t - c = (t - (c + 1)) + 1 by omega, spAll]
        by_cases z1 : w (3 + c) ≤ spH w c
        · have hp : ¬ spPo w c = true := fun q => by unfold spPo at q; simp only [decide_eq_true_eq] at q; omega
          rw [if_pos z1, if_neg hp, if_neg (by simp), k_zs (Or.inl rfl)]
          exact ⟨V, rfl, Fr.rf, fun q => absurd q (by simp)⟩
        · rw [if_neg z1, k_ix (by omega) (by omega), k_lec ⟨by omega, by omega⟩ ⟨by omega, by omega⟩]
          by_cases z2 : w (44 + c) ≤ spH w c
          · have hp : spPo w c = true := by unfold spPo; simp only [decide_eq_true_eq]; omega
            rw [if_pos z2, k_ix (by omega) (by omega), k_lt, k_lt]
            obtain ⟨V3, r1, r2, r3⟩ := follow_loop h hB hd hd2 hf ht htn hlf m (c + 1) i' (sj_up V (tr + 1) c (spH w c)) (by omega) (by omega) (by omega) q1 (by omega) (by omega) (hC.fr (lo := tr) (hi := tr + 2) (Fr.rf.up (by omega) (by omega)) (by omega)) (fun j hj => by rw [up_row _ _ _ (by omega), up_row _ _ _ (by omega)]; exact hV j hj) (fun d d1 d2 => by
              by_cases y : d = c
              · subst y; rw [up_ss]
              · rw [up_nk _ _ _ y]; exact hb d d1 (by omega))
            rw [hp]
            simp only [if_true]
            exact ⟨V3, r1, (Fr.rf.up (by omega) (by omega)).tr r2, r3⟩
          · have hp : ¬ spPo w c = true := fun q => by unfold spPo at q; simp only [decide_eq_true_eq] at q; omega
            rw [if_neg z2, if_neg hp, if_neg (by simp), k_zs (Or.inl rfl)]
            exact ⟨V, rfl, Fr.rf, fun q => absurd q (by simp)⟩
      have b1 := p4 (i + 1) (by omega)
      rw [k_leF (by omega) ⟨by omega, by omega⟩ ⟨by omega, by omega⟩, k_lec ⟨by omega, by omega⟩ ⟨by omega, by omega⟩]
      by_cases z1 : (n : Int) - 1 ≤ (i : Int) + 1
      · rw [if_pos z1]
        have : i + 1 = n - 1 := by omega
        exact step i h4 h5 (by rw [this, ht]; omega)
      · rw [if_neg z1, k_ix (by omega) (by omega), show ((i : Int) + 1).toNat = i + 1 by omega, (hV (i + 1) (by omega)).1, k_lec ⟨by omega, by omega⟩ ⟨by omega, by omega⟩]
        by_cases z2 : (c : Int) ≤ w (365 + (i + 1))
        · rw [if_pos z2]
          exact step i h4 h5 z2
        · rw [if_neg z2, k_lt]
          have := p5 (i + 1) (by omega)
          exact step (i + 1) (by omega) (by omega) (by omega)
/-- whether the POINTS make a slip -/
def spPtOk (w : sj_R) : Prop := 2 ≤ w 364 ∧ w (365 + ((w 364).toNat - 1)) ≤ w 0 ∧ spAll (spPo w) ((w (365 + ((w 364).toNat - 1))).toNat - ((w 365).toNat + 1)) ((w 365).toNat + 1) = true
theorem HE.pt {h : Nat} (hH : HE V h w) (h2 : 2 ≤ w 364) : PT w (w 364).toNat := by
  obtain ⟨a1, a2, a3, a4, a5⟩ := hH
  exact ⟨by omega, by omega, by omega, fun i hi => a4 i (by omega), fun i hi => a5 i (by omega)⟩
theorem PT.ft (h : PT w n) : 0 ≤ w 365 ∧ w 365 < w (365 + (n - 1)) ∧ w (365 + (n - 1)) ≤ 40 := by
  obtain ⟨p1, p2, p3, p4, p5⟩ := id h
  have m := h.mono (n - 1) 0 (by omega)
  rw [Nat.add_zero, Nat.zero_add] at m
  have q0 := (p4 0 (by omega)).1
  have q1 := (p4 (n - 1) (by omega)).1
  rw [Nat.add_zero] at q0
  omega
theorem c_follow (hR : RG V (a + 1) w) (hH : HE V (a + 43) w) (hlf : lf = 0 ∨ lf = 1) (hN : 50 ≤ N) : ∃ r V', g_X5_follow N (a + 75) (a + 1) (a + 43) lf V = some (r, V') ∧ (r = 0 ∨ r = 1) ∧ (r = 1 ↔ spPtOk w) ∧ Fr (a + 75) (a + 77) V V' ∧ (spPtOk w → SL V' (a + 75) (w 365).toNat (w (365 + ((w 364).toNat - 1))).toNat lf (spPB w (w 365).toNat (w (365 + ((w 364).toNat - 1))).toNat)) := by
  obtain ⟨h1, h2, h3, h4, h5⟩ := id hH
  have hn := hR.1.1
  unfold g_X5_follow
  rw [k_lt, h1.1]
  by_cases z1 : w 364 < 2
  · rw [k_ltT z1 ⟨by omega, by omega⟩ ⟨by omega, by omega⟩, k_zs (Or.inl rfl)]
    exact ⟨0, V, rfl, Or.inl rfl, ⟨fun q => by omega, fun q => by have := q.1; omega⟩, Fr.rf, fun q => by have := q.1; omega⟩
  · have hP := hH.pt (by omega)
    obtain ⟨n, hn2⟩ : ∃ n : Nat, w 364 = n := ⟨(w 364).toNat, by omega⟩
    rw [hn2] at hP ⊢
    rw [tn0] at hP ⊢
    obtain ⟨f1, f2, f3⟩ := hP.ft
    obtain ⟨p1, p2, p3, p4, p5⟩ := id hP
    rw [k_ltF (by omega) ⟨by omega, by omega⟩ ⟨by omega, by omega⟩, k_ltF (by omega) ⟨by omega, by omega⟩ ⟨by omega, by omega⟩, k_ix (by omega) (by omega), show ((n : Int) - 1).toNat = n - 1 by omega, (h3 (n - 1) (by omega)).1, hR.2.2.1.1.1, k_lec ⟨by omega, by omega⟩ ⟨by omega, by omega⟩]
    by_cases z2 : w (365 + (n - 1)) ≤ w 0
    · obtain ⟨f, hf⟩ : ∃ f : Nat, w 365 = f := ⟨(w 365).toNat, by omega⟩
      obtain ⟨t, ht⟩ : ∃ t : Nat, w (365 + (n - 1)) = t := ⟨(w (365 + (n - 1))).toNat, by omega⟩
      have e0 := (h3 0 (by omega)).1
      rw [Nat.add_zero] at e0
      have m01 := p5 0 (by omega)
      rw [Nat.add_zero] at m01
      obtain ⟨V2, r1, r2, r3⟩ := follow_loop (N := N) (he := a + 43) (ga := a + 1) (tr := a + 75) (f := f) (t := t) hP hR.1 (by omega) (by omega) hf ht (by omega) hlf N (f + 1) 0 V (by omega) (by omega) (by omega) (by omega) (by rw [Nat.add_zero]; omega) (by omega) hR.2.2.1 h3 (fun d d1 d2 => by omega)
      have r1' : g_X5_follow_65 N N (a + 75) (a + 1) (a + 43) lf n 1 f t ((f : Int) + 1) V = some (if spAll (spPo w) (t - (f + 1)) (f + 1) = true then 1 else 0, V2) := r1
      rw [if_pos z2, k_ix (by omega) (by omega), k_lt, k_ix (by omega) (by omega), k_lt, k_lt, show (0 : Int).toNat = 0 from rfl, e0, hf, ht, tn0, tn0, r1']
      have iff : spPtOk w ↔ spAll (spPo w) (t - (f + 1)) (f + 1) = true := by
        unfold spPtOk
        rw [hn2, tn0, hf, ht, tn0, tn0]
        exact ⟨fun q => q.2.2, fun q => ⟨by omega, by omega, q⟩⟩
      refine ⟨_, V2, rfl, by split <;> simp, ?_, r2, fun q => r3 (iff.mp q)⟩
      rw [iff]
      by_cases y : spAll (spPo w) (t - (f + 1)) (f + 1) = true
      · rw [if_pos y]; exact ⟨fun _ => y, fun _ => rfl⟩
      · rw [if_neg y]; exact ⟨fun q => absurd q (by omega), fun q => absurd q y⟩
    · rw [if_neg z2, k_zs (Or.inl rfl)]
      have no : ¬ spPtOk w := fun q => z2 (by have := q.2.1; rw [hn2, tn0] at this; exact this)
      exact ⟨0, V, rfl, Or.inl rfl, ⟨fun q => by omega, fun q => absurd q no⟩, Fr.rf, fun q => absurd q no⟩
theorem m_pc102 {i : Nat} (h : PT w n) (hi : i + 1 < n) (K : Nat → Int → Int → sj_VV → Option (Int × sj_VV)) (hf : w 365 = (f : Nat)) {p q : Nat} (hp : w (365 + i) = p) (hq : w (365 + (i + 1)) = q) (hfp : f ≤ p) : ∀ (m c : Nat) (V : sj_VV), p ≤ c → c ≤ q + 1 → q + 1 - c < m → V (b + 1) = w → (∀ d, f ≤ d → d < c → V (b + 5) d = spH w d) → ∃ V', g_X9_pointsCan_102 N K m b n i p q c V = K b n ((i : Int) + 1) V' ∧ (∀ z, z ≠ b + 5 → V' z = V z) ∧ ∀ d, f ≤ d → d ≤ q → V' (b + 5) d = spH w d
  | 0, _, _, _, _, h, _, _ => absurd h (by omega)
  | m + 1, c, V, h1, h2, h3, hw, hb => by
    obtain ⟨p1, p2, p3, p4, p5⟩ := id h
    have q1 := p4 i (by omega)
    have q2 := p4 (i + 1) hi
    unfold g_X9_pointsCan_102 g_X9_pointsCan_102_b
    by_cases hc : c = q + 1
    · subst hc
      rw [k_ltT (by omega) ⟨by omega, by omega⟩ ⟨by omega, by omega⟩, k_lt]
      exact ⟨V, rfl, fun _ _ => rfl, fun d d1 d2 => hb d d1 (by omega)⟩
    · obtain ⟨g1, g2, g3⟩ := sgH_b (c := c) h hi (by omega) (by omega)
      have eH : spH w c = sgH w i c := spH_seg h hi (by omega) (by omega)
      rw [k_ltF (by omega) ⟨by omega, by omega⟩ ⟨by omega, by omega⟩, k_ix (by omega) (by omega), k_ix (by omega) (by omega), k_ix (by omega) (by omega), hw, show (377 + (i : Int)).toNat = 377 + i by omega, show (377 + (i : Int) + 1).toNat = 377 + (i + 1) by omega, k_wid ⟨by omega, by omega⟩, k_wid ⟨by omega, by omega⟩, k_wid ⟨by omega, by omega⟩, ← hp, ← hq, m_downI g1 g2, k_cs, k_ix (by omega) (by omega), k_lt, k_lt, tn0]
      have eS : w (377 + i) + (w (377 + (i + 1)) - w (377 + i)) * ((c : Int) - w (365 + i)) / (w (365 + (i + 1)) - w (365 + i)) = spH w c := eH.symm
      rw [eS, hp, hq]
      obtain ⟨V3, r1, r2, r3⟩ := m_pc102 h hi K hf hp hq hfp m (c + 1) (sj_up V (b + 5) c (spH w c)) (by omega) (by omega) (by omega) (by rw [up_row _ _ _ (by omega)]; exact hw) (fun d d1 d2 => by
        by_cases y : d = c
        · subst y; rw [up_ss]
        · rw [up_nk _ _ _ y]; exact hb d d1 (by omega))
      exact ⟨V3, r1, fun z hz => (r2 z hz).trans (up_row _ _ _ hz), r3⟩
theorem m_pc225 (hB : WB 500 200 1500 w) (ht : t ≤ 40) {bs : Nat → Int} : ∀ (m c : Nat), f < c → c ≤ t → t - c < m → V (b + 1) = w → V b 14 = (t : Nat) → (∀ d, f < d → d < t → V (b + 5) d = spH w d ∧ -20000 ≤ spH w d ∧ spH w d ≤ 20000) → g_X9_pointsCan_225 N m b c V = some (if spAll (spPo w) (t - c) c = true then 1 else 0, V)
  | 0, _, _, _, h, _, _, _ => absurd h (by omega)
  | m + 1, c, h1, h2, h3, hw, h14, hb => by
    unfold g_X9_pointsCan_225 g_X9_pointsCan_225_b
    rw [h14]
    by_cases hc : c = t
    · subst hc
      rw [k_leT (by omega) ⟨by omega, by omega⟩ ⟨by omega, by omega⟩, k_zs (Or.inr rfl), Nat.sub_self, spAll, if_pos rfl]
    · have hcol := (hB.2.2.2.1 c (by omega)).1
      obtain ⟨e1, e2⟩ := hb c h1 (by omega)
      rw [k_leF (by omega) ⟨by omega, by omega⟩ ⟨by omega, by omega⟩, k_ix (by omega) (by omega), k_ix (by omega) (by omega), tn0, e1, hw, show (3 + (c : Int)).toNat = 3 + c by omega, k_lec ⟨by omega, by omega⟩ ⟨by omega, by omega⟩, show t - c = (t - (c + 1)) + 1 by omega, spAll]
      by_cases z1 : w (3 + c) ≤ spH w c
      · have hp : ¬ spPo w c = true := fun q => by unfold spPo at q; simp only [decide_eq_true_eq] at q; omega
        rw [if_pos z1, if_neg hp, if_neg (by simp), k_zs (Or.inl rfl)]
      · rw [if_neg z1, k_ix (by omega) (by omega), k_ix (by omega) (by omega), show (44 + (c : Int)).toNat = 44 + c by omega, k_lec ⟨by omega, by omega⟩ ⟨by omega, by omega⟩]
        by_cases z2 : w (44 + c) ≤ spH w c
        · have hp : spPo w c = true := by unfold spPo; simp only [decide_eq_true_eq]; omega
          rw [if_pos z2, k_lt, hp]
          simp only [if_true]
          exact m_pc225 (bs := bs) hB ht m (c + 1) (by omega) (by omega) (by omega) hw h14 hb
        · have hp : ¬ spPo w c = true := fun q => by unfold spPo at q; simp only [decide_eq_true_eq] at q; omega
          rw [if_neg z2, if_neg hp, if_neg (by simp), k_zs (Or.inl rfl)]
end Points2
