/-! TABLES and WORST as steps -/
def DS (A B : sj_Mem → Option (Int × sj_Mem)) (s : sj_Mem) : Prop := ∃ r s1 s2, A s = some (r, s1) ∧ B s1 = some (r, s2) ∧ GI s1.1 ∧ GI s2.1 ∧ INV s2.2 0 189
section WorstJ
variable {g : sj_G} {V V1 V2 V' : sj_VV} {A N b : Nat} {w : sj_R} {t lf x3 k v v2 : Int} {bs bs2 rs rs2 : Nat → Int}
theorem Pth_BB {z : Int} {a e : Nat} (hB : WB 500 200 1500 w) (hlf : lf = 0 ∨ lf = 1) (hae : a ≤ e ∧ (e : Int) < w 0) (hp : Pth w t lf k z a (e + 1) v bs rs) : BB a (e + 1) lf bs := by
  have n0 := hB.1
  refine ⟨by omega, by omega, hlf, fun c c1 c2 => ?_⟩
  by_cases hc : c = e + 1
  · have b1 := (hB.2.2.2.1 (e + 1) (by omega)).1
    rw [hc, hp.1]
    omega
  · exact wGo_100 hB (by omega) (hp.2.2 c c1 (by omega)).1
theorem slip_same (hB : WB 500 200 1500 w) (ht : 0 ≤ t ∧ t ≤ 12) (hk : 0 ≤ k ∧ k ≤ 20001) {a e a2 e2 : Nat} (h1 : a ≤ e ∧ (e : Int) < w 0) (h2 : a2 ≤ e2 ∧ (e2 : Int) < w 0) (hv : v < 0) (p1 : Pth w t lf k 48000000000000 a (e + 1) v bs rs) (m1 : Mn (Ec w t lf k (w 0).toNat) v ((a : Int) * 41 + ((e : Int) + 1))) (p2 : Pth w t lf k 10000000000000 a2 (e2 + 1) v2 bs2 rs2) (m2 : Mn (E10 w t lf k) v2 ((a2 : Int) * 41 + ((e2 : Int) + 1))) : a = a2 ∧ e = e2 ∧ ∀ c, a ≤ c → c ≤ e + 1 → bs c = bs2 c := by
  have n0 := hB.1
  have m3 : Mn (E10 w t lf k) v ((a : Int) * 41 + ((e : Int) + 1)) := by
    refine ⟨?_, fun v' g' y => ?_⟩
    · obtain ⟨a', c, y1, y2, y3⟩ := m1.1
      rcases wAr_d hB ht hk (by omega) y2 with y | y
      · exact ⟨a', c, by omega, y, y3⟩
      · omega
    · obtain ⟨a', c, y1, y2, y3⟩ := y
      exact m1.2 v' g' ⟨a', c, by omega, wAr_z (by omega) y2, y3⟩
  obtain ⟨ev, eg⟩ := m3.uq m2
  have ea : a = a2 := by omega
  have ee : e = e2 := by omega
  subst ea
  subst ee
  subst ev
  refine ⟨rfl, rfl, fun c c1 c2 => ?_⟩
  have := (Pth_uq hB ht hk h1.2 hv p1 p2 (e + 1 - c) (by omega)).1
  rw [show e + 1 - (e + 1 - c) = c by omega] at this
  exact this
theorem Km.fr9 (h : FR b V V') : Km b V V' := ⟨fun z z1 _ _ z4 => h.1 z z1 z4, fun j hj => h.2 j (by omega)⟩
theorem Km.fwo (h : Fwo b V V') : Km b V V' := ⟨fun z z1 _ z3 z4 => h.1 z z1 (by omega), fun j hj => h.2 j (by omega)⟩
theorem fx_isNone {sa : Nat} {r : Int} (hO : OK5 g sa) (h : g_X5_isNone N sa V = some (r, V)) : f_X5_isNone N sa (g, V) = some (r, (g, V)) := by
  unfold f_X5_isNone
  rw [e_ok_pos hO, h]
  rfl
theorem fx_baseAt {sa : Nat} {r x : Int} (hO : OK5 g sa) (h : g_X5_baseAt N sa x V = some (r, V)) : f_X5_baseAt N sa x (g, V) = some (r, (g, V)) := by
  unfold f_X5_baseAt
  rw [e_ok_pos hO, h]
  rfl
theorem fx_9tables (hO : OK9 g b) {r : Int} (h : g_X9_tables N b t lf x3 V = some (r, V')) : f_X9_tables N b t lf x3 (g, V) = some (r, (g, V')) := by
  unfold f_X9_tables
  rw [e_ok_pos hO, h]
  rfl
theorem fx_9worst (hO : OK9 g b) {r : Int} (h : g_X9_worst N b t lf V = some (r, V')) : f_X9_worst N b t lf (g, V) = some (r, (g, V')) := by
  unfold f_X9_worst
  rw [e_ok_pos hO, h]
  rfl
theorem isNone_m1 {sa : Nat} (h : V sa 1 = -1) : g_X5_isNone N sa V = some (1, V) := by
  unfold g_X5_isNone
  rw [h, k_leF (by omega) ⟨by omega, by omega⟩ ⟨by omega, by omega⟩, k_zs (Or.inr rfl)]
theorem baseAt_sl {sa f e : Nat} {x : Int} (hS : SL V sa f e lf bs) (hb : BB f e lf bs) (hx : 0 ≤ x ∧ x ≤ 40) : g_X5_baseAt N sa x V = some (if (f : Int) ≤ x ∧ x ≤ e then bs x.toNat else -1, V) := by
  unfold g_X5_baseAt g_X5_baseAt_23
  obtain ⟨b1, b2, b3, b4⟩ := hb
  rw [isNone_eq hS ⟨b1, b2, b3, b4⟩, k_cs, k_eqT rfl, hS.1, hS.2.1, k_ltc ⟨by omega, by omega⟩ ⟨by omega, by omega⟩]
  by_cases h1 : x < (f : Int)
  · rw [if_pos h1, if_neg (by omega)]
  · rw [if_neg h1, k_lec ⟨by omega, by omega⟩ ⟨by omega, by omega⟩]
    by_cases h2 : x ≤ (e : Int)
    · rw [if_pos h2, if_pos (by omega), k_ix (by omega) (by omega), hS.2.2.2 _ (by omega) (by omega)]
    · rw [if_neg h2, if_neg (by omega)]
theorem baseAt_m1 {sa : Nat} {x : Int} (h : V sa 1 = -1) : g_X5_baseAt N sa x V = some (-1, V) := by
  unfold g_X5_baseAt g_X5_baseAt_23
  rw [isNone_m1 h, k_cs, k_eqF (by omega) ⟨by omega, by omega⟩ ⟨by omega, by omega⟩]
theorem m_tables_40 (hB : WB 500 200 1500 w) (hN : 1000 ≤ N) (ht : 0 ≤ t ∧ t ≤ 12) (hlf : lf = 0 ∨ lf = 1) (hw : V (b + 1) = w) (hx : sj_i32 x3) (hx3 : (0 ≤ x3 ∧ x3 ≤ 2) ∨ (10 ≤ x3 ∧ x3 ≤ 50)) : ∃ V' r, g_X9_tables_40 N b t lf x3 V = some (r, V') ∧ Km b V V' ∧ (x3 = 0 → r = tF w t lf) ∧ (x3 ≠ 0 → tF w t lf = 20000 → r = -1) ∧ (x3 ≠ 0 → tF w t lf ≠ 20000 → ∃ (a e : Nat) (due : Int) (bs rs : Nat → Int), Pth w t lf (tF w t lf + 1) 10000000000000 a (e + 1) due bs rs ∧ (a ≤ e ∧ (e : Int) < w 0) ∧ Mn (E10 w t lf (tF w t lf + 1)) due ((a : Int) * 41 + ((e : Int) + 1)) ∧ r = if x3 = 1 then (a : Int) else if x3 = 2 then (e : Int) + 1 else if (a : Int) ≤ x3 - 10 ∧ x3 - 10 ≤ (e : Int) + 1 then bs (x3 - 10).toNat else -1) := by
  have n0 := hB.1
  have tb := tF_b (w := w) (t := t) (lf := lf)
  unfold g_X9_tables_40
  obtain ⟨V1, q1, q2⟩ := tableK_eq (N := N) hB hN ht hlf hw
  have w1 : V1 (b + 1) = w := q2.row1.trans hw
  rw [q1, k_cs, k_eq hx ⟨by omega, by omega⟩]
  by_cases h0 : x3 = 0
  · rw [if_pos h0]
    exact ⟨V1, _, rfl, Km.fr9 q2, fun _ => rfl, fun y => absurd h0 y, fun y => absurd h0 y⟩
  · rw [if_neg h0]
    by_cases hK : tF w t lf = 20000
    · rw [findsWorst_no hK, k_cs, k_eqT rfl]
      exact ⟨V1, _, rfl, Km.fr9 q2, fun y => absurd y h0, fun _ _ => rfl, fun _ y => absurd hK y⟩
    · obtain ⟨V2, a, e, due, bs, rs, r1, r2, r3, r4, r5, r6, r7⟩ := findsWorst_eq (N := N) (b := b) (V := V1) hB hN ht (by omega) hlf (tF_up hK) w1
      have km : Km b V V2 := Km.fwo (q2.fwo.tr r2)
      rw [r1, k_cs, k_eqF (by omega) ⟨by omega, by omega⟩ ⟨by omega, by omega⟩, k_eq hx ⟨by omega, by omega⟩, r3.1, r3.2.1]
      have fin : ∀ r, r = (if x3 = 1 then (a : Int) else if x3 = 2 then (e : Int) + 1 else if (a : Int) ≤ x3 - 10 ∧ x3 - 10 ≤ (e : Int) + 1 then bs (x3 - 10).toNat else -1) → (x3 = 0 → r = tF w t lf) ∧ (x3 ≠ 0 → tF w t lf = 20000 → r = -1) ∧ (x3 ≠ 0 → tF w t lf ≠ 20000 → ∃ (a e : Nat) (due : Int) (bs rs : Nat → Int), Pth w t lf (tF w t lf + 1) 10000000000000 a (e + 1) due bs rs ∧ (a ≤ e ∧ (e : Int) < w 0) ∧ Mn (E10 w t lf (tF w t lf + 1)) due ((a : Int) * 41 + ((e : Int) + 1)) ∧ r = if x3 = 1 then (a : Int) else if x3 = 2 then (e : Int) + 1 else if (a : Int) ≤ x3 - 10 ∧ x3 - 10 ≤ (e : Int) + 1 then bs (x3 - 10).toNat else -1) := fun r hr => ⟨fun y => absurd y h0, fun _ y => absurd y hK, fun _ _ => ⟨a, e, due, bs, rs, r4, r5, r6, hr⟩⟩
      by_cases h1 : x3 = 1
      · rw [if_pos h1]
        exact ⟨V2, _, rfl, km, fin _ (by rw [if_pos h1])⟩
      · rw [if_neg h1, k_eq hx ⟨by omega, by omega⟩]
        by_cases h2 : x3 = 2
        · rw [if_pos h2]
          exact ⟨V2, _, rfl, km, fin _ (by rw [if_neg h1, if_pos h2]; omega)⟩
        · rw [if_neg h2, k_wid ⟨by omega, by omega⟩, k_wid ⟨by omega, by omega⟩, k_wid ⟨by omega, by omega⟩, m_isIn ⟨by omega, by omega⟩ ⟨by omega, by omega⟩ ⟨by omega, by omega⟩, k_cs]
          by_cases h3 : (a : Int) ≤ x3 - 10 ∧ x3 - 10 ≤ ((e + 1 : Nat) : Int)
          · rw [if_pos h3, k_eqF (by omega) ⟨by omega, by omega⟩ ⟨by omega, by omega⟩, k_ix (by omega) (by omega), r3.2.2.2 _ (by omega) (by omega)]
            exact ⟨V2, _, rfl, km, fin _ (by rw [if_neg h1, if_neg h2, if_pos (by omega)])⟩
          · rw [if_neg h3, k_eqT rfl]
            exact ⟨V2, _, rfl, km, fin _ (by rw [if_neg h1, if_neg h2, if_neg (by omega)])⟩
theorem d_tables (hG : GI g) (hI : INV V 0 189) (ht : sj_i32 t) (hlf : lf = 0 ∨ lf = 1) (hx : sj_i32 x3) (hN : 10000 ≤ N) : DS (f_X8_tables N 0 t lf x3) (f_X9_tables N 189 t lf x3) (g, V) := by
  have hR : RG V 1 (V 190) := hI.1
  have hB := hR.1
  have n0 := hB.1
  have bad : ¬ ((1 ≤ t ∧ t ≤ 12) ∧ ((0 ≤ x3 ∧ x3 ≤ 2) ∨ (10 ≤ x3 ∧ x3 ≤ 50))) → g_X9_tables N 189 t lf x3 V = some (-1, V) := fun hn => by
    unfold g_X9_tables
    rw [k_wid ht, m_isIn ⟨by omega, by omega⟩ ⟨by omega, by omega⟩ ⟨by omega, by omega⟩, k_cs]
    by_cases h1 : 1 ≤ t ∧ t ≤ 12
    · rw [if_pos h1, k_eqF (by omega) ⟨by omega, by omega⟩ ⟨by omega, by omega⟩, k_wid hx, m_isIn ⟨by omega, by omega⟩ ⟨by omega, by omega⟩ ⟨by omega, by omega⟩, k_cs, if_neg (by omega), k_eqT rfl, k_wid hx, m_isIn ⟨by omega, by omega⟩ ⟨by omega, by omega⟩ ⟨by omega, by omega⟩, k_cs, if_neg (by omega), k_eqT rfl]
    · rw [if_neg h1, k_eqT rfl]
  have ex : ¬ ((1 ≤ t ∧ t ≤ 12) ∧ ((0 ≤ x3 ∧ x3 ≤ 2) ∨ (10 ≤ x3 ∧ x3 ≤ 50))) → f_X8_tables N 0 t lf x3 (g, V) = some (-1, (g, V)) → DS (f_X8_tables N 0 t lf x3) (f_X9_tables N 189 t lf x3) (g, V) := fun hn he => ⟨-1, (g, V), (g, V), he, fx_9tables hG.2.1 (bad hn), hG, hG, hI⟩
  have good : (1 ≤ t ∧ t ≤ 12) → ((0 ≤ x3 ∧ x3 ≤ 2) ∨ (10 ≤ x3 ∧ x3 ≤ 50)) → f_X8_tables N 0 t lf x3 (g, V) = f_X8_tables_34 N 0 t lf x3 (g, V) → DS (f_X8_tables N 0 t lf x3) (f_X9_tables N 189 t lf x3) (g, V) := fun h1 h2 he => by
    have hb10 : ¬ (0 ≤ x3 ∧ x3 ≤ 2) → 10 ≤ x3 ∧ x3 ≤ 50 := by omega
    obtain ⟨g1, V1, q1, q2, ⟨j1, j2, j3⟩, q4, q5⟩ := tableOf_eq (N := N) (t := t) (lf := lf) hG hB hN (by omega) hlf hR.2.2.1
    have w1 : V1 190 = V 190 := q2 _ (by omega)
    obtain ⟨V2, r, p1, p2, p3, p4, p5⟩ := m_tables_40 (N := N) (b := 189) (V := V1) (w := V 190) (t := t) (lf := lf) (x3 := x3) hB (by omega) (by omega) hlf w1 hx h2
    have e9 : g_X9_tables N 189 t lf x3 V1 = some (r, V2) := by
      unfold g_X9_tables
      rw [k_wid ht, m_isIn ⟨by omega, by omega⟩ ⟨by omega, by omega⟩ ⟨by omega, by omega⟩, k_cs, if_pos h1, k_eqF (by omega) ⟨by omega, by omega⟩ ⟨by omega, by omega⟩, k_wid hx, m_isIn ⟨by omega, by omega⟩ ⟨by omega, by omega⟩ ⟨by omega, by omega⟩, k_cs]
      by_cases y : 0 ≤ x3 ∧ x3 ≤ 2
      · rw [if_pos y, k_eqF (by omega) ⟨by omega, by omega⟩ ⟨by omega, by omega⟩]
        exact p1
      · rw [if_neg y, k_eqT rfl, k_wid hx, m_isIn ⟨by omega, by omega⟩ ⟨by omega, by omega⟩ ⟨by omega, by omega⟩, k_cs, if_pos (hb10 y), k_eqF (by omega) ⟨by omega, by omega⟩ ⟨by omega, by omega⟩]
        exact p1
    have inv : INV V2 0 189 := hI.ask rfl (V1 := V1) ⟨fun z _ _ z3 => q2 z (by omega), TL.of (q2 _ (by omega))⟩ p2
    have tb := tF_b (w := V 190) (t := t) (lf := lf)
    have o5 : OK5 g1 206 := q4.2.2.2.2.2.1.2
    have r4 : g1.2.1 201 4 = some 206 := q4.2.2.2.2.2.1.1
    have i8 := q5.1.1
    have cls : f_X8_tables_34 N 0 t lf x3 (g, V) = some (r, (g1, V1)) := by
      unfold f_X8_tables_34
      rw [q1, q_cv hG.1.1, q_cl, k_eq hx ⟨by omega, by omega⟩]
      by_cases h0 : x3 = 0
      · rw [if_pos h0, q_nn, q_gI q4.1]
        show some (V1 201 9, _) = _
        rw [j1, p3 h0]
      · rw [if_neg h0, k_eq hx ⟨by omega, by omega⟩]
        by_cases hK : tF (V 190) t lf = 20000
        · have jj := j2 hK
          rw [p4 h0 hK]
          by_cases h3 : x3 = 1
          · rw [if_pos h3, q_nn, q_gR q4.1]
            show (e_nn (g1.2.1 201 4) _) = _
            rw [r4, q_nn, q_gI o5.1]
            show some (V1 206 1, _) = _
            rw [jj.1]
          · rw [if_neg h3, k_eq hx ⟨by omega, by omega⟩]
            by_cases h4 : x3 = 2
            · rw [if_pos h4, q_nn, q_gR q4.1]
              show (e_nn (g1.2.1 201 4) _) = _
              rw [r4, q_nn, q_gI o5.1]
              show some (V1 206 2, _) = _
              rw [jj.2]
            · rw [if_neg h4, q_nn, q_gR q4.1]
              show (e_nn (g1.2.1 201 4) _) = _
              rw [r4, q_nn, q_cv o5.1, fx_baseAt o5 (baseAt_m1 jj.1), q_cl]
        · obtain ⟨a, e, v, bs, rs, s1, s2, s3, s4, s5⟩ := j3 hK
          obtain ⟨a2, e2, due, bs2, rs2, u1, u2, u3, u4⟩ := p5 h0 hK
          clear p5 j3
          obtain ⟨ea, ee, eb⟩ := slip_same hB (by omega) (by omega) s2 u2 s5 s3 s4 u1 u3
          subst ea
          subst ee
          have hbb := Pth_BB hB hlf s2 s3
          rw [u4]
          by_cases h3 : x3 = 1
          · rw [if_pos h3, q_nn, q_gR q4.1]
            show (e_nn (g1.2.1 201 4) _) = _
            rw [r4, q_nn, q_gI o5.1]
            show some (V1 206 1, _) = _
            rw [s1.1, if_pos h3]
          · rw [if_neg h3, k_eq hx ⟨by omega, by omega⟩]
            by_cases h4 : x3 = 2
            · rw [if_pos h4, q_nn, q_gR q4.1]
              show (e_nn (g1.2.1 201 4) _) = _
              rw [r4, q_nn, q_gI o5.1]
              show some (V1 206 2, _) = _
              rw [s1.2.1, if_neg h3, if_pos h4]
              rfl
            · rw [if_neg h4, q_nn, q_gR q4.1]
              show (e_nn (g1.2.1 201 4) _) = _
              rw [r4, q_nn, q_cv o5.1, fx_baseAt o5 (baseAt_sl s1 hbb (by omega)), q_cl, if_neg h3, if_neg h4]
              by_cases h5 : (a : Int) ≤ x3 - 10 ∧ x3 - 10 ≤ ((e + 1 : Nat) : Int)
              · rw [if_pos h5, if_pos (by omega), eb _ (by omega) (by omega)]
              · rw [if_neg h5, if_neg (by omega)]
    exact ⟨r, (g1, V1), (g1, V2), he.trans cls, fx_9tables q5.2.1 e9, q5, q5, inv⟩
  by_cases h1 : t < 1
  · exact ex (by omega) (by unfold f_X8_tables; rw [k_ltc ht ⟨by omega, by omega⟩, if_pos h1])
  · by_cases h2 : 12 < t
    · exact ex (by omega) (by unfold f_X8_tables; rw [k_ltc ht ⟨by omega, by omega⟩, if_neg h1, k_ltc ⟨by omega, by omega⟩ ht, if_pos h2])
    · by_cases h3 : x3 < 0
      · exact ex (by omega) (by unfold f_X8_tables; rw [k_ltc ht ⟨by omega, by omega⟩, if_neg h1, k_ltc ⟨by omega, by omega⟩ ht, if_neg h2, k_ltc hx ⟨by omega, by omega⟩, if_pos h3])
      · by_cases h4 : 50 < x3
        · exact ex (by omega) (by unfold f_X8_tables; rw [k_ltc ht ⟨by omega, by omega⟩, if_neg h1, k_ltc ⟨by omega, by omega⟩ ht, if_neg h2, k_ltc hx ⟨by omega, by omega⟩, if_neg h3, k_ltc ⟨by omega, by omega⟩ hx, if_pos h4])
        · by_cases h5 : x3 ≤ 2
          · exact good (by omega) (by omega) (by unfold f_X8_tables; rw [k_ltc ht ⟨by omega, by omega⟩, if_neg h1, k_ltc ⟨by omega, by omega⟩ ht, if_neg h2, k_ltc hx ⟨by omega, by omega⟩, if_neg h3, k_ltc ⟨by omega, by omega⟩ hx, if_neg h4, k_lec hx ⟨by omega, by omega⟩, if_pos h5])
          · by_cases h6 : 10 ≤ x3
            · exact good (by omega) (by omega) (by unfold f_X8_tables; rw [k_ltc ht ⟨by omega, by omega⟩, if_neg h1, k_ltc ⟨by omega, by omega⟩ ht, if_neg h2, k_ltc hx ⟨by omega, by omega⟩, if_neg h3, k_ltc ⟨by omega, by omega⟩ hx, if_neg h4, k_lec hx ⟨by omega, by omega⟩, if_neg h5, k_lec ⟨by omega, by omega⟩ hx, if_pos h6])
            · exact ex (by omega) (by unfold f_X8_tables; rw [k_ltc ht ⟨by omega, by omega⟩, if_neg h1, k_ltc ⟨by omega, by omega⟩ ht, if_neg h2, k_ltc hx ⟨by omega, by omega⟩, if_neg h3, k_ltc ⟨by omega, by omega⟩ hx, if_neg h4, k_lec hx ⟨by omega, by omega⟩, if_neg h5, k_lec ⟨by omega, by omega⟩ hx, if_neg h6])
theorem d_worst (hG : GI g) (hI : INV V 0 189) (ht : sj_i32 t) (hlf : lf = 0 ∨ lf = 1) (hN : 10000 ≤ N) : DS (f_X8_worst N 0 t lf) (f_X9_worst N 189 t lf) (g, V) := by
  have hR : RG V 1 (V 190) := hI.1
  have hB := hR.1
  have n0 := hB.1
  have bad : ¬ (1 ≤ t ∧ t ≤ 12) → g_X9_worst N 189 t lf V = some (-1, V) := fun h1 => by
    unfold g_X9_worst
    rw [k_wid ht, m_isIn ⟨by omega, by omega⟩ ⟨by omega, by omega⟩ ⟨by omega, by omega⟩, k_cs, if_neg h1, k_eqT rfl]
  unfold DS
  by_cases h1 : t < 1
  · refine ⟨-1, (g, V), (g, V), ?_, fx_9worst hG.2.1 (bad (by omega)), hG, hG, hI⟩
    unfold f_X8_worst
    rw [k_ltc ht ⟨by omega, by omega⟩, if_pos h1]
  · by_cases h2 : t ≤ 12
    · obtain ⟨g1, V1, q1, q2, ⟨j1, j2, j3⟩, q4, q5⟩ := tableOf_eq (N := N) (t := t) (lf := lf) hG hB hN (by omega) hlf hR.2.2.1
      have w1 : V1 190 = V 190 := q2 _ (by omega)
      have tb := tF_b (w := V 190) (t := t) (lf := lf)
      have o5 : OK5 g1 206 := q4.2.2.2.2.2.1.2
      have r4 : g1.2.1 201 4 = some 206 := q4.2.2.2.2.2.1.1
      have i8 := q5.1.1
      have ref : ∀ V0 : sj_VV, V0 190 = V 190 → ∀ r V3, (∀ V2, FR 189 V0 V2 → g_X9_tableK N 189 t lf V0 = some (tF (V 190) t lf, V2) → (e_cs (g_X9_findsWorst N 189 t lf (tF (V 190) t lf) V2) fun v7 V6 => e_ieq v7 0 (some (-1, V6)) (e_cs (g_X9_keepsSlip N 189 V6) fun v9 V8 => some (v9, V8))) = some (r, V3)) → g_X9_worst N 189 t lf V0 = some (r, V3) := fun V0 hw r V3 hh => by
        unfold g_X9_worst
        obtain ⟨V2, p1, p2⟩ := tableK_eq (N := N) (b := 189) (V := V0) hB (by omega) (t := t) (lf := lf) (by omega) hlf hw
        rw [k_wid ht, m_isIn ⟨by omega, by omega⟩ ⟨by omega, by omega⟩ ⟨by omega, by omega⟩, k_cs, if_pos (by omega), k_eqF (by omega) ⟨by omega, by omega⟩ ⟨by omega, by omega⟩, p1, k_cs]
        exact hh V2 p2 p1
      by_cases hK : tF (V 190) t lf = 20000
      · obtain ⟨V2, p1, p2⟩ := tableK_eq (N := N) (b := 189) (V := V1) hB (by omega) (t := t) (lf := lf) (by omega) hlf w1
        refine ⟨-1, (g1, V1), (g1, V2), ?_, fx_9worst q5.2.1 (ref V1 w1 _ _ (fun V2' f2 e2 => ?_)), q5, q5, hI.ask rfl (V1 := V1) ⟨fun z _ _ z3 => q2 z (by omega), TL.of (q2 _ (by omega))⟩ (Km.fr9 p2)⟩
        · unfold f_X8_worst
          rw [k_ltc ht ⟨by omega, by omega⟩, if_neg h1, k_lec ht ⟨by omega, by omega⟩, if_pos h2, q1, q_cv hG.1.1, q_cl, q_nn, q_gR q4.1]
          show (e_nn (g1.2.1 201 4) _) = _
          rw [r4, q_nn, q_cv o5.1, fx_isNone o5 (isNone_m1 (j2 hK).1), q_cl, k_eqF (by omega) ⟨by omega, by omega⟩ ⟨by omega, by omega⟩]
        · rw [p1] at e2
          obtain rfl : V2 = V2' := by injection e2 with e2; injection e2
          rw [findsWorst_no hK, k_cs, k_eqT rfl]
      · obtain ⟨a, e, v, bs, rs, s1, s2, s3, s4, s5⟩ := j3 hK
        have hbb := Pth_BB hB hlf s2 s3
        obtain ⟨V2, c1, c2, ⟨c3, c4, c5⟩, c6⟩ := slcopy_eq (N := N) (V := V1) (sa := 13) (sb := 206) (by omega) (by rw [s1.2.2.1]; exact hlf)
        have hS2 : SL V2 13 a (e + 1) lf bs := ⟨c3.trans s1.1, c4.trans s1.2.1, c5.trans s1.2.2.1, fun c d1 d2 => (c6 c (by omega)).trans (s1.2.2.2 c d1 d2)⟩
        have w2 : V2 190 = V 190 := (c2 _ (by omega)).trans w1
        obtain ⟨V3, p1, p2⟩ := tableK_eq (N := N) (b := 189) (V := V2) hB (by omega) (t := t) (lf := lf) (by omega) hlf w2
        obtain ⟨V4, a2, e2, due, bs2, rs2, u1, u2, u3, u4, u5, u6, u7⟩ := findsWorst_eq (N := N) (b := 189) (V := V3) (w := V 190) (k := tF (V 190) t lf) hB (by omega) (t := t) (lf := lf) (by omega) (by omega) hlf (tF_up hK) (p2.row1.trans w2)
        obtain ⟨ea, ee, eb⟩ := slip_same hB (by omega) (by omega) s2 u5 s5 s3 s4 u4 u6
        subst ea
        subst ee
        have u3' : SM V4 189 a (e + 1) lf bs := ⟨u3.1, u3.2.1, u3.2.2.1, fun c d1 d2 => by rw [eb c d1 d2]; exact u3.2.2.2 c d1 d2⟩
        obtain ⟨V5, k1, k2, k3⟩ := m_keepsSlip (N := N) u3' hbb (by omega)
        have w4 : V4 190 = V 190 := u2.row1.trans (p2.row1.trans w2)
        rw [show (189 + 1 : Nat) = 190 from rfl, w4] at k3
        have f1 : Kt 0 V V2 := fun z z1 z2 z3 => (c2 z (by omega)).trans (q2 z (by omega))
        have f2 : Kn 189 V2 V5 := (Km.fwo (p2.fwo.tr u2)).n.tr (Kn.r1 k2)
        have low : ∀ z, z < 189 → V5 z = V2 z := fun z hz => f2.1 z (by omega) (by omega) (by omega) (by omega) (by omega)
        have hC5 : CG V5 1 (V 190) := hR.2.2.1.rows (fun k hk => by
          show V5 (1 + k) = V (1 + k)
          rw [low _ (by omega), c2 _ (by omega), q2 _ (by omega)])
        have hS5 : SL V5 13 a (e + 1) lf bs := ⟨by rw [low _ (by omega)]; exact hS2.1, by rw [low _ (by omega)]; exact hS2.2.1, by rw [low _ (by omega)]; exact hS2.2.2.1, fun c d1 d2 => by rw [low _ (by omega)]; exact hS2.2.2.2 c d1 d2⟩
        have rg : RG V5 1 (V5 190) := RG.ks hB hC5 hS5 k3 hbb (by have := s2.2; omega)
        refine ⟨((e + 1 : Nat) : Int) - a, (g1, V2), (g1, V5), ?_, fx_9worst q5.2.1 (ref V2 w2 _ _ (fun V3' f3 e3 => ?_)), q5, q5, hI.now rfl f1 f2 rg (fun j d1 d2 => k3.1 j (by omega))⟩
        · unfold f_X8_worst
          have o13 : OK5 g1 13 := (ok0_14 (ok8_0 q5.1).2).2
          have o1 : sj_is g1 1 0 := (ok8_0 q5.1).2.1
          have cp : f_X5_copy N 13 (some 206) (g1, V1) = some ((), (g1, V2)) := by
            unfold f_X5_copy
            rw [e_ok_pos ⟨o13, rfl, o5⟩]
            show Option.map _ (g_X5_copy N 13 206 V1) = _
            rw [c1]
            rfl
          have ct : f_X5_count N 13 (g1, V2) = some (((e + 1 : Nat) : Int) - a, (g1, V2)) := by
            unfold f_X5_count
            rw [e_ok_pos o13]
            show Option.map _ (g_X5_count N 13 V2) = _
            rw [count_eq hS2]
            rfl
          rw [k_ltc ht ⟨by omega, by omega⟩, if_neg h1, k_lec ht ⟨by omega, by omega⟩, if_pos h2, q1, q_cv hG.1.1, q_cl, q_nn, q_gR q4.1]
          show (e_nn (g1.2.1 201 4) _) = _
          rw [r4, q_nn, q_cv o5.1, fx_isNone o5 (isNone_eq s1 hbb), q_cl, k_eqT rfl, q_gR i8]
          show (e_nn (g1.2.1 0 0) _) = _
          rw [(ok8_0 q5.1).1, q_nn, q_gR o1]
          show (e_gR 6 4 201 (g1, V1) _) = _
          rw [q_gR q4.1]
          show (e_nn (g1.2.1 1 14) fun a12 => e_cv 5 a12 (g1, V1) (f_X5_copy N a12 (g1.2.1 201 4) (g1, V1)) _) = _
          rw [(ok0_14 (ok8_0 q5.1).2).1, q_nn, r4]
          show (e_cv 5 13 (g1, V1) (f_X5_copy N 13 (some 206) (g1, V1)) _) = _
          rw [q_cv o13.1, cp, q_cl, q_gR i8]
          show (e_nn (g1.2.1 0 0) _) = _
          rw [(ok8_0 q5.1).1, q_nn, q_gR o1]
          show (e_nn (g1.2.1 1 14) _) = _
          rw [(ok0_14 (ok8_0 q5.1).2).1, q_nn]
          show (e_cv 5 13 (g1, V2) (f_X5_count N 13 (g1, V2)) _) = _
          rw [q_cv o13.1, ct, q_cl]
        · rw [p1] at e3
          obtain rfl : V3 = V3' := by injection e3 with e3; injection e3
          rw [u1, k_cs, k_eqF (by omega) ⟨by omega, by omega⟩ ⟨by omega, by omega⟩, k1, k_cs]
    · refine ⟨-1, (g, V), (g, V), ?_, fx_9worst hG.2.1 (bad (by omega)), hG, hG, hI⟩
      unfold f_X8_worst
      rw [k_ltc ht ⟨by omega, by omega⟩, if_neg h1, k_lec ht ⟨by omega, by omega⟩, if_neg h2]
end WorstJ
