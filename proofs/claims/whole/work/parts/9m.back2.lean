/-! TABLES: the way back, all of it -/
section Back2
variable {V V1 V2 V' : sj_VV} {A N c a : Nat} {w : sj_R} {t lf k z o h x f i so v : Int} {S : Int → Int → Prop}
theorem wGo_aa (hg : wGo w t lf k z a a h v) : h = w (3 + a) ∧ v = 0 := by
  cases a with
  | zero => exact hg.2
  | succ a =>
    rcases hg with h1 | ⟨_, o, u, h2, _⟩
    · exact h1.2
    · have := wGo_le _ _ _ h2; omega
theorem TS.gen (hA : 20 ≤ A) (hs : TS V A w t lf k) (h1 : Fr A (A + 7) V V') (h3 : V' (A + 3) = V (A + 3)) (h6 : ∀ j, j < 9 → V' A j = V A j) : TS V' A w t lf k := by
  obtain ⟨g1, ⟨g2, g3, g4⟩, g5⟩ := hs
  exact ⟨g1.fr h1 (by omega), ⟨by rw [h6 _ (by omega)]; exact g2, by rw [h6 _ (by omega)]; exact g3, by rw [h6 _ (by omega)]; exact g4⟩, fun c h a1 a2 a3 => by rw [h3]; exact g5 c h a1 a2 a3⟩
theorem goBack_58 (hB : WB 500 200 1500 w) (hA : 20 ≤ A) (hN : 1000 ≤ N) (ht : 0 ≤ t ∧ t ≤ 12) (hk : 0 ≤ k ∧ k ≤ 20001) (hlf : lf = 0 ∨ lf = 1) : ∀ (m c : Nat) (h rest : Int) (V : sj_VV), a ≤ c → (c : Int) < w 0 → c - a < m → (w (44 + (c + 1)) ≤ h ∧ h ≤ w (3 + (c + 1))) → TS V A w t lf k → (∀ c' : Nat, (c' : Int) ≤ w 0 → Gs V A w t lf k c') → V A 11 = a → wAr w t lf k 48000000000000 a c h rest → (∀ (a' : Nat) v, wAr w t lf k 48000000000000 a' c h v → rest < v ∨ (rest = v ∧ a ≤ a')) → ∃ (V' : sj_VV) (bs rs : Nat → Int), g_X6_goBack_58 N m A h rest c V = some ((), V') ∧ (∀ z, z ≠ A → z ≠ A + 4 → z ≠ A + 5 + 1 → V' z = V z) ∧ (∀ j, j ≠ 13 → V' A j = V A j) ∧ (bs (c + 1) = h ∧ rs (c + 1) = rest ∧ ∀ j, a ≤ j → j < c + 1 → wGo w t lf k 48000000000000 a j (bs j) (rs j) ∧ wSt w t lf k 48000000000000 j (bs j) (bs (j + 1)) ∧ rs j + wQ w lf k j (bs j) (bs (j + 1)) = rs (j + 1) ∧ ∀ o u, wGo w t lf k 48000000000000 a j o u → wSt w t lf k 48000000000000 j o (bs (j + 1)) → u + wQ w lf k j o (bs (j + 1)) = rs (j + 1) → bs j ≤ o) ∧ (∀ j, a < j → j ≤ c → V' (A + 5 + 1) j = bs j) ∧ ∀ j, (j ≤ a ∨ c < j) → V' (A + 5 + 1) j = V (A + 5 + 1) j
  | 0, _, _, _, _, _, _, h', _, _, _, _, _, _ => absurd h' (by omega)
  | m + 1, c, h, rest, V, c1, c2, c3, hh, hS, hG, h11, hAr, LB => by
    have n0 := hB.1
    have b0 := (hB.2.2.2.1 c (by omega)).1
    have b1 := (hB.2.2.2.1 (c + 1) (by omega)).1
    unfold g_X6_goBack_58 g_X6_goBack_58_b
    rw [h11, k_lec ⟨by omega, by omega⟩ ⟨by omega, by omega⟩]
    by_cases hx : (c : Int) ≤ a
    · have e0 : c = a := by omega
      subst e0
      rw [if_pos hx]
      obtain ⟨o, u, y1, y2, y3⟩ := hAr
      obtain ⟨e1, e2⟩ := wGo_aa y1
      refine ⟨V, fun j => if j = c then w (3 + c) else h, fun j => if j = c then 0 else rest, rfl, fun _ _ _ _ => rfl, fun _ _ => rfl, ⟨if_neg (by omega), if_neg (by omega), fun j j1 j2 => ?_⟩, fun j j1 j2 => by omega, fun _ _ => rfl⟩
      have ej : j = c := by omega
      subst ej
      show wGo w t lf k 48000000000000 j j (if j = j then w (3 + j) else h) (if j = j then 0 else rest) ∧ wSt w t lf k 48000000000000 j (if j = j then w (3 + j) else h) (if j + 1 = j then w (3 + j) else h) ∧ (if j = j then 0 else rest) + wQ w lf k j (if j = j then w (3 + j) else h) (if j + 1 = j then w (3 + j) else h) = (if j + 1 = j then 0 else rest) ∧ ∀ o u, wGo w t lf k 48000000000000 j j o u → wSt w t lf k 48000000000000 j o (if j + 1 = j then w (3 + j) else h) → u + wQ w lf k j o (if j + 1 = j then w (3 + j) else h) = (if j + 1 = j then 0 else rest) → (if j = j then w (3 + j) else h) ≤ o
      rw [if_pos rfl, if_pos rfl, if_neg (by omega), if_neg (by omega)]
      rw [e1] at y2 y3
      refine ⟨wGo_0, y2, by omega, fun o' u' g1 _ _ => ?_⟩
      rw [(wGo_aa g1).1]
      exact Int.le_refl _
    · obtain ⟨V1, q1, q2, q3⟩ := addTops_eq (N := N) (c := c) hB hA (by omega) (by omega) hS.1
      have hS1 : TS V1 A w t lf k := hS.gen hA (q2.wide (by omega) (by omega)) (q2 _ (by omega)) (fun j _ => by rw [q2 A (by omega)])
      have g1 := hS1.1.2.1 c (by omega)
      have hG1 : ∀ c' : Nat, (c' : Int) ≤ w 0 → Gs V1 A w t lf k c' := fun c' h' h a1 a2 => by rw [q2 (A + 1) (by omega), q2 (A + 2) (by omega)]; exact hG c' h' h a1 a2
      have hb := wAr_b hB ht hk (by omega) hAr
      rw [if_neg hx, q1, k_cs, k_ix (by omega) (by omega), tn0, g1.1, hS1.2.1.1, k_min ⟨by omega, by omega⟩ ⟨by omega, by omega⟩, k_ix (by omega) (by omega), g1.2.1, k_max ⟨by omega, by omega⟩ ⟨by omega, by omega⟩]
      obtain ⟨o0, u0, y1, y2, y3⟩ := id hAr
      obtain ⟨low, u, V2, s1, s2, s3, s4, s5, ⟨s6, s7, s8⟩, s9, s10⟩ := goBack_115 (N := N) hB hA (by omega) c2 ht hk hlf (a := a) (rest := rest) (kk := g_X6_goBack_58 N m) (by omega) hh (by omega) ⟨o0, u0, y1, y2, by omega⟩ LB N (max (w (44 + c)) (h - t)) V1 (by omega) (by omega) (fun o u g1 g2 g3 => by
          have r1 := wGo_r hB (by omega) g1
          have r2 := g2.1
          omega) hS1 q3 (hG1 c (by omega)) (by rw [q2 A (by omega)]; exact h11)
      have f2 : Fr A (A + 7) V1 V2 := fun z hz => s2 z (by omega) (by omega)
      have hS2 : TS V2 A w t lf k := hS1.gen hA f2 (s2 _ (by omega) (by omega)) (fun j hj => s3 j (by omega))
      have hG2 : ∀ c' : Nat, (c' : Int) ≤ w 0 → Gs V2 A w t lf k c' := fun c' h' h a1 a2 => by rw [s2 (A + 1) (by omega) (by omega), s2 (A + 2) (by omega) (by omega)]; exact hG1 c' h' h a1 a2
      obtain ⟨d, ed⟩ : ∃ d, c = d + 1 := ⟨c - 1, by omega⟩
      subst ed
      have hr := wGo_r hB (by omega) s6
      have hlt : low < w (3 + (d + 1)) ∧ wAr w t lf k 48000000000000 a d low u := by
        rcases wGo_s.mp s6 with y | y
        · omega
        · exact y
      obtain ⟨V3, bs, rs, t1, t2, t3, ⟨t4, t5, t6⟩, t7, t8⟩ := goBack_58 hB hA hN ht hk hlf m d low u V2 (by omega) (by omega) (by omega) hr hS2 hG2 (by rw [s3 _ (by omega), q2 A (by omega)]; exact h11) hlt.2 (fun a' v hv => s10 a' v (wGo_s.mpr (Or.inr ⟨hlt.1, hv⟩)))
      rw [s1, show (((d + 1 : Nat) : Int) + -1) = (d : Int) by omega, t1]
      refine ⟨V3, fun j => if j = d + 1 + 1 then h else bs j, fun j => if j = d + 1 + 1 then rest else rs j, rfl, fun z z1 z2 z3 => ?_, fun j hj => ?_, ⟨if_pos rfl, if_pos rfl, fun j j1 j2 => ?_⟩, fun j j1 j2 => ?_, fun j hj => ?_⟩
      · rw [t2 z z1 z2 z3, s2 z z1 z3, q2 z (by omega)]
      · rw [t3 j hj, s3 j hj, q2 A (by omega)]
      · show wGo w t lf k 48000000000000 a j (if j = d + 1 + 1 then h else bs j) (if j = d + 1 + 1 then rest else rs j) ∧ wSt w t lf k 48000000000000 j (if j = d + 1 + 1 then h else bs j) (if j + 1 = d + 1 + 1 then h else bs (j + 1)) ∧ (if j = d + 1 + 1 then rest else rs j) + wQ w lf k j (if j = d + 1 + 1 then h else bs j) (if j + 1 = d + 1 + 1 then h else bs (j + 1)) = (if j + 1 = d + 1 + 1 then rest else rs (j + 1)) ∧ ∀ o u, wGo w t lf k 48000000000000 a j o u → wSt w t lf k 48000000000000 j o (if j + 1 = d + 1 + 1 then h else bs (j + 1)) → u + wQ w lf k j o (if j + 1 = d + 1 + 1 then h else bs (j + 1)) = (if j + 1 = d + 1 + 1 then rest else rs (j + 1)) → (if j = d + 1 + 1 then h else bs j) ≤ o
        rw [if_neg (show ¬ j = d + 1 + 1 by omega), if_neg (show ¬ j = d + 1 + 1 by omega)]
        by_cases ej : j = d + 1
        · subst ej
          rw [if_pos rfl, if_pos rfl, t4, t5]
          exact ⟨s6, s7, s8, s9⟩
        · rw [if_neg (show ¬ j + 1 = d + 1 + 1 by omega), if_neg (show ¬ j + 1 = d + 1 + 1 by omega)]
          exact t6 j j1 (by omega)
      · show V3 (A + 5 + 1) j = if j = d + 1 + 1 then h else bs j
        rw [if_neg (show ¬ j = d + 1 + 1 by omega)]
        by_cases ej : j = d + 1
        · subst ej
          rw [t8 _ (by omega), s4, t4]
        · exact t7 j j1 (by omega)
      · rw [t8 j (by omega), s5 j (by omega), q2 _ (by omega)]
/-- the way back, as a slip -/
theorem goBack_eq (hB : WB 500 200 1500 w) (hA : 20 ≤ A) (hN : 1000 ≤ N) (ht : 0 ≤ t ∧ t ≤ 12) (hk : 0 ≤ k ∧ k ≤ 20001) (hlf : lf = 0 ∨ lf = 1) (hS : TS V A w t lf k) (hG : ∀ c' : Nat, (c' : Int) ≤ w 0 → Gs V A w t lf k c') (hL : Ls V A (Ec w t lf k (w 0).toNat) (w 0)) (hne : V A 11 ≠ -1) : ∃ (V' : sj_VV) (a b : Nat) (v : Int) (bs rs : Nat → Int), g_X6_goBack N A V = some ((), V') ∧ (∀ z, z ≠ A → z ≠ A + 4 → z ≠ A + 5 → z ≠ A + 5 + 1 → V' z = V z) ∧ (∀ j, j ≠ 13 → V' A j = V A j) ∧ SL V' (A + 5) a b lf bs ∧ (a < b ∧ (b : Int) ≤ w 0) ∧ Pth w t lf k 48000000000000 a b v bs rs ∧ Mn (Ec w t lf k (w 0).toNat) v ((a : Int) * 41 + b) := by
  have n0 := hB.1
  obtain ⟨m1, m2⟩ := hL
  rcases m1 with ⟨y, _⟩ | ⟨_, m1⟩
  · exact absurd y hne
  · obtain ⟨a, c, y1, y2, y3⟩ := id m1.1
    obtain ⟨o0, u0, z1, z2, z3⟩ := id y2
    have hal := wGo_le _ _ _ z1
    have ea : V A 11 = a := by omega
    have eb : V A 12 = ((c + 1 : Nat) : Int) := by omega
    have b0 := (hB.2.2.2.1 c (by omega)).1
    have b1 := (hB.2.2.2.1 (c + 1) (by omega)).1
    have LB : ∀ (a' : Nat) v, wAr w t lf k 48000000000000 a' c (w (3 + (c + 1))) v → V A 10 < v ∨ (V A 10 = v ∧ a ≤ a') := fun a' v hv => by
      have := m1.2 v ((a' : Int) * 41 + ((c : Int) + 1)) ⟨a', c, y1, hv, rfl⟩
      omega
    unfold g_X6_goBack
    rw [k_eqF hne ⟨by omega, by omega⟩ ⟨by omega, by omega⟩, ea, eb, hS.2.1.2.1]
    obtain ⟨V1, q1, q2, q3⟩ := span_eq (N := N) (a := A + 5) (ga := 1) (f := a) (t := c + 1) (lf := lf) (V := V) (bs := fun j => if j = a then w (3 + a) else if j = c + 1 then w (3 + (c + 1)) else V (A + 5 + 1) j) hS.1 (by omega) (by omega) (by omega) hlf (fun j j1 j2 => ((if_neg (by omega)).trans (if_neg (by omega))).symm) (if_pos rfl) ((if_neg (by omega)).trans (if_pos rfl))
    have hS1 : TS V1 A w t lf k := hS.gen hA (q2.wide (by omega) (by omega)) (q2 _ (by omega)) (fun j _ => by rw [q2 A (by omega)])
    have hG1 : ∀ c' : Nat, (c' : Int) ≤ w 0 → Gs V1 A w t lf k c' := fun c' h' h a1 a2 => by rw [q2 (A + 1) (by omega), q2 (A + 2) (by omega)]; exact hG c' h' h a1 a2
    have rA : V1 A = V A := q2 A (by omega)
    rw [q1, k_cs, rA, eb, k_ix (by omega) (by omega), k_lt, tn0, (hS1.1.2.1 (c + 1) (by omega)).1, k_lt, k_lt, show (((c + 1 : Nat) : Int) - 1) = (c : Int) by omega]
    obtain ⟨V3, bs, rs, t1, t2, t3, ⟨t4, t5, t6⟩, t7, t8⟩ := goBack_58 (N := N) (a := a) hB hA hN ht hk hlf N c (w (3 + (c + 1))) (V A 10) V1 hal (by omega) (by omega) (by omega) hS1 hG1 (by rw [rA]; exact ea) y2 LB
    rw [t1]
    refine ⟨V3, a, c + 1, V A 10, bs, rs, rfl, fun z a1 a2 a3 a4 => ?_, fun j hj => ?_, ⟨?_, ?_, ?_, fun j j1 j2 => ?_⟩, ⟨by omega, by omega⟩, ⟨t4, t5, t6⟩, ?_⟩
    · rw [t2 z a1 a2 a4, q2 z (by omega)]
    · rw [t3 j hj, rA]
    · rw [t2 _ (by omega) (by omega) (by omega)]; exact q3.1
    · rw [t2 _ (by omega) (by omega) (by omega)]; exact q3.2.1
    · rw [t2 _ (by omega) (by omega) (by omega)]; exact q3.2.2.1
    · by_cases e1 : j = a
      · subst e1
        rw [t8 _ (by omega), q3.2.2.2 _ (by omega) (by omega)]
        show (if j = j then w (3 + j) else _) = _
        rw [if_pos rfl]
        exact (wGo_aa (t6 j (by omega) (by omega)).1).1.symm
      · by_cases e2 : j = c + 1
        · subst e2
          rw [t8 _ (by omega), q3.2.2.2 _ (by omega) (by omega)]
          show (if c + 1 = a then w (3 + a) else if c + 1 = c + 1 then w (3 + (c + 1)) else _) = _
          rw [if_neg (by omega), if_pos rfl, t4]
        · exact t7 j (by omega) (by omega)
    · rw [← ea, ← eb]
      exact m1
end Back2
