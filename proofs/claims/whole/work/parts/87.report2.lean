section Report2
variable {V V1 V2 : sj_VV} {a b h N f t : Nat} {w : sj_R} {F lf : Int} {l : List Int}
theorem writeFactor_eq (hW : RW V h l) (hl : l.length = 0) (hF : 0 ≤ F ∧ F ≤ 20000) : ∃ V', g_X2_writeFactor N h F V = some ((), V') ∧ RW V' h ((((l ++ spNum (F / 1000)) ++ [46]) ++ [48 + F / 100 % 10]) ++ [48 + F / 10 % 10] ++ [48 + F % 10]) ∧ Fw h V V' := by
  have h1 := spNum_l (F / 1000)
  obtain ⟨V1, r1, r2, r3⟩ := writeNumber_eq (N := N) (v := F / 1000) hW (by omega) (by omega)
  obtain ⟨V2, s1, s2, s3⟩ := write_eq (N := N) (x := 46) r2 (by simp only [List.length_append, List.length_cons, List.length_nil]; omega)
  obtain ⟨V3, t1, t2, t3⟩ := write_eq (N := N) (x := 48 + F / 100 % 10) s2 (by simp only [List.length_append, List.length_cons, List.length_nil]; omega)
  obtain ⟨V4, u1, u2, u3⟩ := write_eq (N := N) (x := 48 + F / 10 % 10) t2 (by simp only [List.length_append, List.length_cons, List.length_nil]; omega)
  obtain ⟨V5, v1, v2, v3⟩ := write_eq (N := N) (x := 48 + F % 10) u2 (by simp only [List.length_append, List.length_cons, List.length_nil]; omega)
  unfold g_X2_writeFactor
  rw [k_dI ⟨by omega, by omega⟩ ⟨by omega, by omega⟩ (by omega), td10 hF.1, r1, k_cs, s1, k_cs, k_dI ⟨by omega, by omega⟩ ⟨by omega, by omega⟩ (by omega), td10 hF.1, k_rI ⟨by omega, by omega⟩ ⟨by omega, by omega⟩ (by omega), tm10 (by omega), t1, k_cs, k_dI ⟨by omega, by omega⟩ ⟨by omega, by omega⟩ (by omega), td10 hF.1, k_rI ⟨by omega, by omega⟩ ⟨by omega, by omega⟩ (by omega), tm10 (by omega), u1, k_cs, k_rI ⟨by omega, by omega⟩ ⟨by omega, by omega⟩ (by omega), tm10 hF.1, v1, k_cs]
  exact ⟨V5, rfl, v2, (((r3.tr s3).tr t3).tr u3).tr v3⟩
theorem c_report_rest (hW : RW V (a + 49) []) (hS : V (a + 1 + 12) 1 = (f : Nat) ∧ V (a + 1 + 12) 2 = (t : Nat) ∧ V (a + 1 + 12) 3 = lf) (hf : f ≤ 40) (ht : t ≤ 40) (hlf : lf = 0 ∨ lf = 1) (hF : 0 ≤ F ∧ F ≤ 20000) : ∃ V', (e_cs (g_X2_writeFactor N (a + 49) F V) fun _u V6 => e_cs (g_X2_write N (a + 49) 32 V6) fun _u V7 => e_cs (g_X2_writeNumber N (a + 49) (V7 (a + 1 + 12) 1) V7) fun _u V8 => e_cs (g_X2_write N (a + 49) 45 V8) fun _u V9 => e_cs (g_X2_writeNumber N (a + 49) (V9 (a + 1 + 12) 2) V9) fun _u V10 => e_cs (g_X2_write N (a + 49) 32 V10) fun _u V11 => e_ieq (V11 (a + 1 + 12) 3) 0 (g_X8_report_119 N a 82 (a + 49) V11) (g_X8_report_119 N a 76 (a + 49) V11)) = some (((spRep F f t lf).length : Int), V') ∧ RW V' (a + 49) (spRep F f t lf) ∧ Fw (a + 49) V V' := by
  obtain ⟨e1, e2, e3⟩ := hS
  have n1 := spNum_l (F / 1000)
  have n2 := spNum_l (f : Int)
  have n3 := spNum_l (t : Int)
  obtain ⟨V1, r1, r2, r3⟩ := writeFactor_eq (N := N) hW rfl hF
  obtain ⟨V2, s1, s2, s3⟩ := write_eq (N := N) (x := 32) r2 (by simp only [List.length_append, List.length_cons, List.length_nil]; omega)
  have f2 := r3.tr s3
  obtain ⟨V3, t1, t2, t3⟩ := writeNumber_eq (N := N) (v := (f : Int)) s2 (by simp only [List.length_append, List.length_cons, List.length_nil]; omega) (by omega)
  obtain ⟨V4, u1, u2, u3⟩ := write_eq (N := N) (x := 45) t2 (by simp only [List.length_append, List.length_cons, List.length_nil]; omega)
  have f4 := (f2.tr t3).tr u3
  obtain ⟨V5, v1, v2, v3⟩ := writeNumber_eq (N := N) (v := (t : Int)) u2 (by simp only [List.length_append, List.length_cons, List.length_nil]; omega) (by omega)
  obtain ⟨V6, x1, x2, x3⟩ := write_eq (N := N) (x := 32) v2 (by simp only [List.length_append, List.length_cons, List.length_nil]; omega)
  have f6 := (f4.tr v3).tr x3
  have key : ∀ y : Int, y = (if lf = 0 then 82 else 76) → ∃ V', g_X8_report_119 N a y (a + 49) V6 = some (((spRep F f t lf).length : Int), V') ∧ RW V' (a + 49) (spRep F f t lf) ∧ Fw (a + 49) V V' := fun y hy => by
    obtain ⟨V7, y1, y2, y3⟩ := write_eq (N := N) (x := y) x2 (by simp only [List.length_append, List.length_cons, List.length_nil]; omega)
    unfold g_X8_report_119
    rw [y1, k_cs, y2.1]
    rw [hy] at y2 ⊢
    exact ⟨V7, rfl, y2, f6.tr y3⟩
  rw [r1, k_cs, s1, k_cs, f2.1 _ (by omega) (by omega), e1, t1, k_cs, u1, k_cs, f4.1 _ (by omega) (by omega), e2, v1, k_cs, x1, k_cs, f6.1 _ (by omega) (by omega), e3]
  rcases hlf with z | z
  · rw [k_eqT z]; exact key 82 (by rw [if_pos z])
  · rw [k_eqF (by omega) ⟨by omega, by omega⟩ ⟨by omega, by omega⟩]; exact key 76 (by rw [if_neg (by omega)])
theorem m_report_rest (hW : RS V b []) (hS : V b 13 = (f : Nat) ∧ V b 14 = (t : Nat) ∧ V b 15 = lf) (hf : f ≤ 40) (ht : t ≤ 40) (hlf : lf = 0 ∨ lf = 1) (hF : 0 ≤ F ∧ F ≤ 20000) : ∃ V', (e_dI F 1000 fun v4 => e_cs (g_X9_saysNumber N 12 b v4 V) fun _u V5 => e_cs (g_X9_says N b 46 V5) fun _u V6 => e_dI F 100 fun v7 => e_rI v7 10 fun v8 => e_cs (g_X9_says N b (48 + v8) V6) fun _u V9 => e_dI F 10 fun v10 => e_rI v10 10 fun v11 => e_cs (g_X9_says N b (48 + v11) V9) fun _u V12 => e_rI F 10 fun v13 => e_cs (g_X9_says N b (48 + v13) V12) fun _u V14 => e_cs (g_X9_says N b 32 V14) fun _u V15 => e_cs (g_X9_saysNumber N 12 b (V15 b 13) V15) fun _u V16 => e_cs (g_X9_says N b 45 V16) fun _u V17 => e_cs (g_X9_saysNumber N 12 b (V17 b 14) V17) fun _u V18 => e_cs (g_X9_says N b 32 V18) fun _u V19 => e_ieq (V19 b 15) 0 (g_X9_report_120 N b 82 b V19) (g_X9_report_120 N b 76 b V19)) = some (((spRep F f t lf).length : Int), V') ∧ RS V' b (spRep F f t lf) ∧ Fy b V V' := by
  obtain ⟨e1, e2, e3⟩ := hS
  have n1 := spNum_l (F / 1000)
  have n2 := spNum_l (f : Int)
  have n3 := spNum_l (t : Int)
  obtain ⟨A1, a1, a2, a3⟩ := saysNumber_eq (N := N) (v := F / 1000) hW (by simp only [List.length_nil]; omega) (by omega)
  obtain ⟨A2, b1, b2, b3⟩ := says_eq (N := N) (x := 46) a2 (by simp only [List.length_append, List.length_cons, List.length_nil]; omega)
  obtain ⟨A3, c1, c2, c3⟩ := says_eq (N := N) (x := 48 + F / 100 % 10) b2 (by simp only [List.length_append, List.length_cons, List.length_nil]; omega)
  obtain ⟨A4, d1, d2, d3⟩ := says_eq (N := N) (x := 48 + F / 10 % 10) c2 (by simp only [List.length_append, List.length_cons, List.length_nil]; omega)
  obtain ⟨V1, r1, r2, r3⟩ := says_eq (N := N) (x := 48 + F % 10) d2 (by simp only [List.length_append, List.length_cons, List.length_nil]; omega)
  obtain ⟨V2, s1, s2, s3⟩ := says_eq (N := N) (x := 32) r2 (by simp only [List.length_append, List.length_cons, List.length_nil]; omega)
  have f2 := ((((a3.tr b3).tr c3).tr d3).tr r3).tr s3
  obtain ⟨V3, t1, t2, t3⟩ := saysNumber_eq (N := N) (v := (f : Int)) s2 (by simp only [List.length_append, List.length_cons, List.length_nil]; omega) (by omega)
  obtain ⟨V4, u1, u2, u3⟩ := says_eq (N := N) (x := 45) t2 (by simp only [List.length_append, List.length_cons, List.length_nil]; omega)
  have f4 := (f2.tr t3).tr u3
  obtain ⟨V5, v1, v2, v3⟩ := saysNumber_eq (N := N) (v := (t : Int)) u2 (by simp only [List.length_append, List.length_cons, List.length_nil]; omega) (by omega)
  obtain ⟨V6, x1, x2, x3⟩ := says_eq (N := N) (x := 32) v2 (by simp only [List.length_append, List.length_cons, List.length_nil]; omega)
  have f6 := (f4.tr v3).tr x3
  have key : ∀ y : Int, y = (if lf = 0 then 82 else 76) → ∃ V', g_X9_report_120 N b y b V6 = some (((spRep F f t lf).length : Int), V') ∧ RS V' b (spRep F f t lf) ∧ Fy b V V' := fun y hy => by
    obtain ⟨V7, y1, y2, y3⟩ := says_eq (N := N) (x := y) x2 (by simp only [List.length_append, List.length_cons, List.length_nil]; omega)
    unfold g_X9_report_120
    rw [y1, k_cs, y2.1]
    rw [hy] at y2 ⊢
    exact ⟨V7, rfl, y2, f6.tr y3⟩
  rw [k_dI ⟨by omega, by omega⟩ ⟨by omega, by omega⟩ (by omega), td10 hF.1, a1, k_cs, b1, k_cs, k_dI ⟨by omega, by omega⟩ ⟨by omega, by omega⟩ (by omega), td10 hF.1, k_rI ⟨by omega, by omega⟩ ⟨by omega, by omega⟩ (by omega), tm10 (by omega), c1, k_cs, k_dI ⟨by omega, by omega⟩ ⟨by omega, by omega⟩ (by omega), td10 hF.1, k_rI ⟨by omega, by omega⟩ ⟨by omega, by omega⟩ (by omega), tm10 (by omega), d1, k_cs, k_rI ⟨by omega, by omega⟩ ⟨by omega, by omega⟩ (by omega), tm10 hF.1, r1, k_cs, s1, k_cs, f2.2 _ (by omega), e1, t1, k_cs, u1, k_cs, f4.2 _ (by omega), e2, v1, k_cs, x1, k_cs, f6.2 _ (by omega), e3]
  rcases hlf with z | z
  · rw [k_eqT z]; exact key 82 (by rw [if_pos z])
  · rw [k_eqF (by omega) ⟨by omega, by omega⟩ ⟨by omega, by omega⟩]; exact key 76 (by rw [if_neg (by omega)])
theorem INV.rep (hI : INV V a b) (hab : b = a + 189) (e : ∀ z, (z < a + 49 ∨ a + 51 ≤ z) → (z < a + 54 ∨ a + 63 ≤ z) → z ≠ b → z ≠ b + 5 → z ≠ b + 9 → V2 z = V z) (ej : ∀ j, (j < 6 ∨ 22 ≤ j) → j ≠ 26 → V2 b j = V b j) (hE : RE V2 a b) : INV V2 a b := by
  obtain ⟨h1, h2, h3, h4, h5, h6⟩ := hI
  have ew : V2 (b + 1) = V (b + 1) := e _ (by omega) (by omega) (by omega) (by omega) (by omega)
  have ea : V2 a = V a := e _ (by omega) (by omega) (by omega) (by omega) (by omega)
  refine ⟨?_, ?_, ?_, ?_, ?_, hE⟩
  · rw [ew]; exact h1.eq (fun z z1 z2 => e z (by omega) (by omega) (by omega) (by omega) (by omega))
  · rw [ew]; exact h2.eq (fun z z1 z2 => e z (by omega) (by omega) (by omega) (by omega) (by omega)) (fun _ _ _ => rfl)
  · exact h3.eq (by rw [ea]) (by rw [ea]) (ej 4 (by omega) (by omega)) (e _ (by omega) (by omega) (by omega) (by omega) (by omega)) (fun z z1 z2 => e z (by omega) (by omega) (by omega) (by omega) (by omega))
  · exact h4.eq (by rw [ea]) (ej 5 (by omega) (by omega)) (e _ (by omega) (by omega) (by omega) (by omega) (by omega)) (fun z z1 z2 => e z (by omega) (by omega) (by omega) (by omega) (by omega)) (fun z z1 z2 => e z (by omega) (by omega) (by omega) (by omega) (by omega)) (TL.of (e _ (by omega) (by omega) (by omega) (by omega) (by omega)))
  · unfold TA
    rw [e (a + 52) (by omega) (by omega) (by omega) (by omega) (by omega), e (a + 53) (by omega) (by omega) (by omega) (by omega) (by omega), e (b + 10) (by omega) (by omega) (by omega) (by omega) (by omega), ej 28 (by omega) (by omega), ej 30 (by omega) (by omega), ej 31 (by omega) (by omega)]
    exact h5
theorem s_report (hI : INV V a b) (hab : b = a + 189) (hN : 1000 ≤ N) : ST a b (g_X8_report N a) (g_X9_report N b) V := by
  have hR := hI.1
  unfold ST g_X8_report g_X9_report
  rw [k_lt]
  obtain ⟨V1, d1⟩ : ∃ V1, V1 = sj_up V (a + 49) 1 0 := ⟨_, rfl⟩
  rw [← d1]
  have u1 : ∀ z, z ≠ a + 49 → V1 z = V z := fun z hz => by rw [d1, up_row _ _ _ hz]
  have hR1 : RG V1 (a + 1) (V (b + 1)) := hR.eq (fun z z1 z2 => u1 z (by omega))
  have rw0 : RW V1 (a + 49) [] := ⟨by rw [d1, up_ss]; rfl, fun i hi => by simp at hi⟩
  by_cases h0 : V (b + 1) 320 = -1
  · rw [cutUp_0 hR1 h0, k_cs, k_eqT rfl]
    obtain ⟨W1, e1⟩ : ∃ W1, W1 = sj_up V1 b 26 0 := ⟨_, rfl⟩
    have w1 : W1 (b + 1) = V (b + 1) := by rw [e1, up_row _ _ _ (by omega), u1 _ (by omega)]
    obtain ⟨W2, r1, r2, _⟩ := m_factor (N := N) (a := b) w1 hR.1 hR.2.1 (by omega)
    have hA : spFactorA (V (b + 1)) = -1 := if_pos h0
    rw [hA] at r1
    refine ⟨_, V1, W2, rfl, ?_, ?_⟩
    · rw [k_lt, ← e1, r1, k_cs, k_eqT rfl]
    · refine hI.rep hab (fun z z1 z2 z3 z4 z5 => by rw [r2.1 z z3 z4, e1, up_row _ _ _ z3, u1 z (by omega)]) (fun j j1 j2 => by rw [r2.2 j (by omega), e1, up_nk _ _ _ j2, u1 _ (by omega)]) ?_
      have t1 : W2 (a + 49) 1 = 0 := by rw [r2.1 _ (by omega) (by omega), e1, up_row _ _ _ (by omega), d1, up_ss]
      have t2 : W2 b 26 = 0 := by rw [r2.2 _ (by omega), e1, up_ss]
      exact ⟨by rw [t1, t2], by rw [t2]; omega, fun i hi => by rw [t2] at hi; omega⟩
  · have hb := (hR.2.1.bb h0).2
    obtain ⟨b1, b2, b3, b4⟩ := id hb
    obtain ⟨V2, r1, r2, r3⟩ := cutUp_1 (N := N) hR1 h0 (by omega)
    have hL2 := (hR1.2.2.2.2.2 h0).fr r2 (by omega)
    obtain ⟨F, hF⟩ : ∃ F, F = spF (V (b + 1)) (wf (V (b + 1))) (wt (V (b + 1))) (V (b + 1) 322) (wb (V (b + 1))) := ⟨_, rfl⟩
    have hFb := spF_b (V (b + 1)) (wf (V (b + 1))) (wt (V (b + 1))) (V (b + 1) 322) (wb (V (b + 1)))
    rw [← hF] at hFb
    have rw2 : RW V2 (a + 49) [] := ⟨by rw [r2 _ (by omega)]; exact rw0.1, fun i hi => by simp at hi⟩
    obtain ⟨V3, s1, s2, s3⟩ := c_report_rest (N := N) (a := a) (F := F) rw2 ⟨hL2.1, hL2.2.1, hL2.2.2.1⟩ (by omega) (by omega) b3 hFb
    rw [r1, k_cs, k_eqF (by omega) ⟨by omega, by omega⟩ ⟨by omega, by omega⟩, factor_eq r3 hR.1 (by omega) (by omega) (by omega) hb (by omega), k_cs, ← hF, s1]
    have c3 : ∀ z, (z < a + 49 ∨ a + 51 ≤ z) → (z < a + 54 ∨ a + 63 ≤ z) → V3 z = V z := fun z z1 z2 => by rw [s3.1 z (by omega) (by omega), r2 z (by omega), u1 z (by omega)]
    obtain ⟨W1, e1⟩ : ∃ W1, W1 = sj_up V3 b 26 0 := ⟨_, rfl⟩
    have w1 : W1 (b + 1) = V (b + 1) := by rw [e1, up_row _ _ _ (by omega), c3 _ (by omega) (by omega)]
    obtain ⟨W2, q1, q2, q3⟩ := m_factor (N := N) (a := b) w1 hR.1 hR.2.1 (by omega)
    have hA : spFactorA (V (b + 1)) = F := by rw [hF]; exact if_neg h0
    rw [hA] at q1
    have hS := q3 h0
    have rs2 : RS W2 b [] := ⟨by rw [q2.2 _ (by omega), e1, up_ss]; rfl, fun i hi => by simp at hi⟩
    obtain ⟨W3, t1, t2, t3⟩ := m_report_rest (N := N) (b := b) (F := F) rs2 ⟨hS.1, hS.2.1, hS.2.2.1⟩ (by omega) (by omega) b3 hFb
    have rl := spRep_l F (wf (V (b + 1))) (wt (V (b + 1))) (V (b + 1) 322)
    refine ⟨_, V3, W3, rfl, ?_, ?_⟩
    · rw [k_lt, ← e1, q1, k_cs, k_eqF (by omega) ⟨by omega, by omega⟩ ⟨by omega, by omega⟩]
      exact t1
    · refine hI.rep hab (fun z z1 z2 z3 z4 z5 => by rw [t3.1 z z3 z5, q2.1 z z3 z4, e1, up_row _ _ _ z3, c3 z z1 z2]) (fun j j1 j2 => by rw [t3.2 j j2, q2.2 j (by omega), e1, up_nk _ _ _ j2, c3 _ (by omega) (by omega)]) ?_
      have k49 : W3 (a + 49) = V3 (a + 49) := by rw [t3.1 _ (by omega) (by omega), q2.1 _ (by omega) (by omega), e1, up_row _ _ _ (by omega)]
      have k50 : W3 (a + 50) = V3 (a + 50) := by rw [t3.1 _ (by omega) (by omega), q2.1 _ (by omega) (by omega), e1, up_row _ _ _ (by omega)]
      refine ⟨by rw [k49, s2.1, t2.1], by rw [t2.1]; omega, fun i hi => ?_⟩
      rw [t2.1] at hi
      rw [k50]
      have := s2.2 i (by omega)
      rw [show a + 49 + 1 = a + 50 from rfl] at this
      rw [this, t2.2 i (by omega)]
end Report2
