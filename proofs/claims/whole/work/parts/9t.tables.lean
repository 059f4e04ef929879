/-! TABLES and WORST, class against reference -/
theorem q_nul0 {β : Type} {A B : Option β} : e_nul none A B = A := rfl
theorem q_nul1 {β : Type} {a : Nat} {A B : Option β} : e_nul (some a) A B = B := rfl
theorem CG.rows {V V' : sj_VV} {a : Nat} {w : sj_R} (h : CG V a w) (e : ∀ k, k < 12 → V' (a + k) = V (a + k)) : CG V' a w := by
  have e0 : V' a = V a := e 0 (by omega)
  obtain ⟨h1, h2, h3, h4, h5⟩ := h
  refine ⟨by rw [e0]; exact h1, fun c hc => ?_, fun i hi => ?_, fun l hl => ?_, fun i hi => ?_⟩
  · rw [e 1 (by omega), e 2 (by omega), e 3 (by omega), e 4 (by omega)]; exact h2 c hc
  · rw [e 5 (by omega)]; exact h3 i hi
  · rw [e 6 (by omega), e 7 (by omega), e 8 (by omega)]; exact h4 l hl
  · rw [e 9 (by omega), e 10 (by omega), e 11 (by omega)]; exact h5 i hi
section TablesJ
variable {g g1 : sj_G} {V V1 V' : sj_VV} {A N : Nat} {w : sj_R} {t lf : Int}
theorem judge_eq (hT : OKT g A) (h0 : OK0 g 1) (hB : WB 500 200 1500 w) (hA : 20 ≤ A) (hN : 10000 ≤ N) (ht : 0 ≤ t ∧ t ≤ 12) (hlf : lf = 0 ∨ lf = 1) (hC : CG V 1 w) : ∃ V', f_X6_judge N A (some 1) t lf (g, V) = some ((), ((g.1, sj_up g.2.1 A 5 (some 1), g.2.2), V')) ∧ Fr A (A + 7) V V' ∧ TJ V' A w t lf ∧ OK6 (g.1, sj_up g.2.1 A 5 (some 1), g.2.2) A ∧ GE g (g.1, sj_up g.2.1 A 5 (some 1), g.2.2) ∧ OKT (g.1, sj_up g.2.1 A 5 (some 1), g.2.2) A := by
  obtain ⟨i6, ⟨a0, b0⟩, ⟨a1, b1⟩, ⟨a2, b2⟩, ⟨a3, b3⟩, ⟨a4, b4⟩⟩ := hT
  obtain ⟨g1, eg⟩ : ∃ g1 : sj_G, g1 = (g.1, sj_up g.2.1 A 5 (some 1), g.2.2) := ⟨_, rfl⟩
  have hge : GE g g1 := fun x hx => by
    rw [eg]
    refine ⟨hx, rfl, fun k k1 _ => ?_⟩
    show (if x = A ∧ k = 5 then some 1 else g.2.1 x k) = _
    rw [if_neg (fun y => k1 (by rw [y.1]; exact i6.2))]
  have rf : ∀ k, k ≠ 5 → g1.2.1 A k = g.2.1 A k := fun k hk => by
    rw [eg]
    show (if A = A ∧ k = 5 then some 1 else g.2.1 A k) = _
    rw [if_neg (fun y => hk y.2)]
  have r5 : g1.2.1 A 5 = some 1 := by
    rw [eg]
    show (if A = A ∧ 5 = 5 then some 1 else g.2.1 A 5) = _
    rw [if_pos ⟨rfl, rfl⟩]
  have hT1 : OKT g1 A := ⟨is_ge hge i6, ⟨by rw [rf _ (by omega)]; exact a0, b0.ge hge⟩, ⟨by rw [rf _ (by omega)]; exact a1, b1.ge hge⟩, ⟨by rw [rf _ (by omega)]; exact a2, b2.ge hge⟩, ⟨by rw [rf _ (by omega)]; exact a3, b3.ge hge⟩, ⟨by rw [rf _ (by omega)]; exact a4, b4.ge hge⟩⟩
  have hO : OK6 g1 A := ⟨hT1.1, hT1.2.1, hT1.2.2.1, hT1.2.2.2.1, hT1.2.2.2.2.1, hT1.2.2.2.2.2, r5, h0.ge hge⟩
  have i5 : sj_is g1 (A + 5) 5 := hT1.2.2.2.2.2.2.1
  unfold f_X6_judge
  have e1 : sj_putR (g, V) A 5 (some 1) = (g1, V) := by rw [eg]; rfl
  rw [q_pR i6, e1, q_pI hO.1]
  show ∃ V', (e_pZ 6 7 A lf (g1, sj_up V A 6 t) _ = _) ∧ _
  rw [q_pZ hO.1 hlf]
  show ∃ V', (e_gR 6 4 A (g1, sj_up (sj_up V A 6 t) A 7 lf) _ = _) ∧ _
  rw [q_gR hO.1]
  show ∃ V', (e_nn (g1.2.1 A 4) _ = _) ∧ _
  rw [hT1.2.2.2.2.2.1, q_nn]
  unfold f_X5_drop
  rw [q_cv i5, q_pI i5]
  show ∃ V', (e_cl (e_pI 5 2 (A + 5) (-1) (g1, sj_up (sj_up (sj_up V A 6 t) A 7 lf) (A + 5) 1 (-1)) _) _ = _) ∧ _
  rw [q_pI i5, q_cl]
  obtain ⟨V2, e2⟩ : ∃ V2, V2 = sj_up (sj_up (sj_up (sj_up V A 6 t) A 7 lf) (A + 5) 1 (-1)) (A + 5) 2 (-1) := ⟨_, rfl⟩
  show ∃ V', (e_cv 6 A (g1, sj_up (sj_up (sj_up (sj_up V A 6 t) A 7 lf) (A + 5) 1 (-1)) (A + 5) 2 (-1)) (f_X6_weighAll N A (g1, sj_up (sj_up (sj_up (sj_up V A 6 t) A 7 lf) (A + 5) 1 (-1)) (A + 5) 2 (-1))) _ = _) ∧ _
  rw [← e2]
  have f2 : Fr A (A + 7) V V2 := by rw [e2]; exact (((Fr.rf.up (by omega) (by omega)).up (by omega) (by omega)).up (by omega) (by omega)).up (by omega) (by omega)
  have hC2 : CG V2 1 w := hC.fr f2 (by omega)
  have v6 : V2 A 6 = t := by rw [e2, up_na _ _ _ _ (by omega), up_na _ _ _ _ (by omega), up_nk _ _ _ (by omega), up_ss]
  have v7 : V2 A 7 = lf := by rw [e2, up_na _ _ _ _ (by omega), up_na _ _ _ _ (by omega), up_ss]
  have s1 : V2 (A + 5) 1 = -1 := by rw [e2, up_nk _ _ _ (by omega), up_ss]
  have s2 : V2 (A + 5) 2 = -1 := by rw [e2, up_ss]
  obtain ⟨V3, q1, q2, q3⟩ := weighAll_eq (N := N) hB hA (by omega) hC2
  rw [fx_weighAll hO q1, q_cv hO.1, q_cl, q_pI hO.1]
  obtain ⟨V4, e4⟩ : ∃ V4, V4 = sj_up V3 A 9 0 := ⟨_, rfl⟩
  show ∃ V', f_X6_judge_39 N N A 20001 0 (g1, sj_up V3 A 9 0) = _ ∧ _
  rw [← e4]
  have u4 : ∀ z, z ≠ A → V4 z = V3 z := fun z hz => by rw [e4]; exact up_row _ _ _ hz
  obtain ⟨V5, r1, r2, r3⟩ := judge_39 (N := N) (g := g1) (V := V4) hO hB hA hN ht hlf N 15 0 20001 (by omega) (by omega) (by omega) (by omega) (by omega) (by decide) rfl (hC2.fr (lo := A) (hi := A + 4) (fun z hz => (u4 z (by omega)).trans (q2 z (by omega))) (by omega)) (by rw [e4, up_nk _ _ _ (by omega), q2 A (by omega)]; exact v6) (by rw [e4, up_nk _ _ _ (by omega), q2 A (by omega)]; exact v7) (fun c h y1 y2 y3 => by rw [u4 _ (by omega)]; exact q3 c h y1 y2 y3) (by rw [e4, up_ss]) (by rw [u4 _ (by omega), q2 _ (by omega)]; exact s1) (by rw [u4 _ (by omega), q2 _ (by omega)]; exact s2)
  have r1' : f_X6_judge_39 N N A 20001 0 (g1, V4) = some ((), (g1, V5)) := r1
  rw [r1', ← eg]
  exact ⟨V5, rfl, fun z hz => (r2 z hz).trans ((u4 z (by omega)).trans ((q2 z (by omega)).trans (f2 z hz))), r3, hO, hge, hT1⟩
theorem tableOf_18 (hO8 : OK8 g 0) (hr : g.2.1 0 11 = some A) (hT : OKT g A) (hB : WB 500 200 1500 w) (hA : 20 ≤ A) (hN : 10000 ≤ N) (ht : 0 ≤ t ∧ t ≤ 12) (hlf : lf = 0 ∨ lf = 1) (hC : CG V 1 w) : ∃ g1 V', f_X8_tableOf_18 N 0 t lf (g, V) = some (some A, (g1, V')) ∧ Fr A (A + 7) V V' ∧ TJ V' A w t lf ∧ OK6 g1 A ∧ GE g g1 ∧ OKT g1 A ∧ g1.2.1 0 11 = some A ∧ g1.2.2 = g.2.2 := by
  obtain ⟨V1, q1, q2, q3, q4, q5, q6⟩ := judge_eq (N := N) (V := V) hT (ok8_0 hO8).2 hB hA hN ht hlf hC
  unfold f_X8_tableOf_18
  rw [q_gR hO8.1, q_gR hO8.1]
  show ∃ g1 V', (e_nn (g.2.1 0 11) fun a3 => e_cv 6 a3 (g, V) (f_X6_judge N a3 (g.2.1 0 0) t lf (g, V)) _) = _ ∧ _
  rw [hr, q_nn, q_cv hT.1, (ok8_0 hO8).1]
  show ∃ g1 V', e_cl (f_X6_judge N A (some 1) t lf (g, V)) _ = _ ∧ _
  rw [q1, q_cl, q_gR (is_ge q5 hO8.1)]
  have r11 : sj_up g.2.1 A 5 (some 1) 0 11 = some A := by
    show (if 0 = A ∧ 11 = 5 then some 1 else g.2.1 0 11) = _
    rw [if_neg (by omega)]
    exact hr
  show ∃ g1 V', some (sj_up g.2.1 A 5 (some 1) 0 11, _) = _ ∧ _
  rw [r11]
  exact ⟨_, V1, rfl, q2, q3, q4, q5, q6, r11, rfl⟩
theorem tableOf_eq (hG : GI g) (hB : WB 500 200 1500 w) (hN : 10000 ≤ N) (ht : 0 ≤ t ∧ t ≤ 12) (hlf : lf = 0 ∨ lf = 1) (hC : CG V 1 w) : ∃ g1 V', f_X8_tableOf N 0 t lf (g, V) = some (some 201, (g1, V')) ∧ (∀ z, z < 201 → V' z = V z) ∧ TJ V' 201 w t lf ∧ OK6 g1 201 ∧ GI g1 := by
  obtain ⟨h8, h9, hc⟩ := hG
  unfold f_X8_tableOf
  rw [q_gR h8.1]
  show ∃ g1 V', (e_nul (g.2.1 0 11) _ _) = _ ∧ _
  rcases hc with ⟨c1, c2, c3⟩ | ⟨c1, c2, c3, c4⟩
  · rw [c1, q_nul0]
    have z0 : sj_sz (g, V) = 201 := c2
    rw [q_nO, z0]
    obtain ⟨n1, n2, n3⟩ := new_0 (s := (g, V)) (cj := 6) (n := 14) z0
    obtain ⟨s4, q1, ⟨q2, q3, q4⟩, q5⟩ := mk_6 (N := N) n1 n2 n3
    have ge1 : GE g s4.1 := fun x hx => by
      have hx' : x < 201 := by rw [← c2]; exact hx
      have p := q4 x hx'
      have e1 : x ≠ sj_sz (g, V) := by rw [z0]; omega
      refine ⟨by have h : s4.1.2.2.1 = 201 + 7 := q2; omega, p.1.trans (if_neg e1), fun k _ _ => ?_⟩
      rw [p.2.1]
      exact if_neg e1
    have i8 : sj_is s4.1 0 8 := is_ge ge1 h8.1
    rw [q1, q_cl, q_pR i8]
    obtain ⟨g4, V4⟩ := s4
    obtain ⟨g5, e5⟩ : ∃ g5 : sj_G, g5 = (g4.1, sj_up g4.2.1 0 11 (some 201), g4.2.2) := ⟨_, rfl⟩
    have ge2 : GE g4 g5 := fun x hx => by
      rw [e5]
      refine ⟨hx, rfl, fun k _ k2 => ?_⟩
      show (if x = 0 ∧ k = 11 then some 201 else g4.2.1 x k) = _
      rw [if_neg (fun y => k2 (by rw [y.1]; exact i8.2) y.2)]
    have rA : ∀ k, g5.2.1 201 k = g4.2.1 201 k := fun k => by
      rw [e5]
      show (if 201 = 0 ∧ k = 11 then some 201 else g4.2.1 201 k) = _
      rw [if_neg (by omega)]
    have r11 : g5.2.1 0 11 = some 201 := by
      rw [e5]
      show (if 0 = 0 ∧ 11 = 11 then some 201 else g4.2.1 0 11) = _
      rw [if_pos ⟨rfl, rfl⟩]
    have hT5 : OKT g5 201 := by
      obtain ⟨t0, t1, t2, t3, t4, t5⟩ := q5
      exact ⟨is_ge ge2 t0, ⟨by rw [rA]; exact t1.1, t1.2.ge ge2⟩, ⟨by rw [rA]; exact t2.1, t2.2.ge ge2⟩, ⟨by rw [rA]; exact t3.1, t3.2.ge ge2⟩, ⟨by rw [rA]; exact t4.1, t4.2.ge ge2⟩, ⟨by rw [rA]; exact t5.1, t5.2.ge ge2⟩⟩
    have ge := ge1.tr ge2
    have v4 : ∀ z, z < 201 → V4 z = V z := fun z hz => by
      refine (q4 z hz).2.2.trans ?_
      funext y
      have e1 : z ≠ sj_sz (g, V) := by rw [z0]; omega
      exact if_neg e1
    have em : sj_putR (g4, V4) 0 11 (some 201) = (g5, V4) := by rw [e5]; rfl
    rw [em]
    obtain ⟨g6, V6, r1, r2, r3, r4, r5, r6, r7, r8⟩ := tableOf_18 (N := N) (V := V4) (h8.ge ge) r11 hT5 hB (by omega) hN ht hlf (hC.rows (fun k hk => v4 (1 + k) (by omega)))
    refine ⟨g6, V6, r1, fun z hz => (r2 z (by omega)).trans (v4 z hz), r3, r4, h8.ge (ge.tr r5), h9.ge (ge.tr r5), Or.inr ⟨r7, r6, ?_, ?_⟩⟩
    · rw [r8, e5]; exact q2
    · rw [r8, e5]
      have h : g4.2.2.2 = g.2.2.2 + 14 + 12472 := q3
      show g4.2.2.2 ≤ _
      omega
  · rw [c1, q_nul1]
    obtain ⟨g6, V6, r1, r2, r3, r4, r5, r6, r7, r8⟩ := tableOf_18 (N := N) (V := V) h8 c1 c2 hB (by omega) hN ht hlf hC
    exact ⟨g6, V6, r1, fun z hz => r2 z (by omega), r3, r4, h8.ge r5, h9.ge r5, Or.inr ⟨r7, r6, by rw [r8]; exact c3, by rw [r8]; exact c4⟩⟩
end TablesJ
