/-! TABLES: a whole sweep, and the way back -/
def Pth (w : sj_R) (t lf k z : Int) (a b : Nat) (v : Int) (bs rs : Nat → Int) : Prop := bs b = w (3 + b) ∧ rs b = v ∧ ∀ c, a ≤ c → c < b → wGo w t lf k z a c (bs c) (rs c) ∧ wSt w t lf k z c (bs c) (bs (c + 1)) ∧ rs c + wQ w lf k c (bs c) (bs (c + 1)) = rs (c + 1) ∧ ∀ o u, wGo w t lf k z a c o u → wSt w t lf k z c o (bs (c + 1)) → u + wQ w lf k c o (bs (c + 1)) = rs (c + 1) → bs c ≤ o
/-- what a sweep says -/
def Out (V : sj_VV) (A : Nat) (w : sj_R) (t lf k x2 : Int) : Prop := ((∀ c' : Nat, (c' : Int) ≤ w 0 → Gs V A w t lf k c') ∧ Ls V A (Ec w t lf k (w 0).toNat) (w 0)) ∨ (x2 = 1 ∧ V A 11 ≠ -1 ∧ (-4000000000000000000 ≤ V A 10 ∧ V A 10 < 0 ∧ 0 ≤ V A 11 ∧ V A 11 ≤ 40) ∧ ∃ v g, v < 0 ∧ Ec w t lf k (w 0).toNat v g)
section Back
variable {V V1 V2 V' : sj_VV} {A N c : Nat} {w : sj_R} {t lf k o h x f i so : Int} {S : Int → Int → Prop}
theorem sweep_30 (hB : WB 500 200 1500 w) (hA : 20 ≤ A) {x2 : Int} : ∀ (m c : Nat) (V : sj_VV), (c : Int) ≤ w 0 + 1 → 42 - c < m → CG V 1 w → (∀ c' : Nat, c' < c → V (A + 2) (pl c' (w (3 + c'))) = c' ∧ V (A + 1) (pl c' (w (3 + c'))) = 0) → (∀ y, y < 4141 → (∀ c' : Nat, c' < c → y ≠ pl c' (w (3 + c'))) → V (A + 2) y = -1) → ∃ V', g_X6_sweep_30 N m A x2 c V = g_X6_sweep_89 N N A x2 0 V' ∧ (∀ z, z ≠ A + 1 → z ≠ A + 2 → V' z = V z) ∧ ∀ c' : Nat, (c' : Int) ≤ w 0 → Fre V' A w c'
  | 0, _, _, _, h', _, _, _ => absurd h' (by omega)
  | m + 1, c, V, c1, c2, hC, h1, h2 => by
    have n0 := hB.1
    unfold g_X6_sweep_30 g_X6_sweep_30_b
    rw [hC.1.1, k_ltc ⟨by omega, by omega⟩ ⟨by omega, by omega⟩]
    by_cases hx : w 0 < (c : Int)
    · rw [if_pos hx]
      refine ⟨V, rfl, fun _ _ _ => rfl, fun c' hc' => ⟨fun h a1 a2 => h2 _ ?_ (fun d hd => ?_), h1 c' (by omega)⟩⟩
      · have b1 := (hB.2.2.2.1 c' (by omega)).1
        unfold pl; omega
      · have b1 := (hB.2.2.2.1 c' (by omega)).1
        have b2 := (hB.2.2.2.1 d (by omega)).1
        by_cases z : d = c'
        · rw [z]; unfold pl; omega
        · unfold pl; omega
    · have b1 := (hB.2.2.2.1 c (by omega)).1
      have g1 := (hC.2.1 c (by omega)).1
      have hp : ((c : Int) * 101 + w (3 + c)).toNat = pl c (w (3 + c)) := rfl
      obtain ⟨V1, e⟩ : ∃ V1, V1 = sj_up V (A + 1) (pl c (w (3 + c))) 0 := ⟨_, rfl⟩
      have f1 : Fr (A + 1) (A + 2) V V1 := by rw [e]; exact Fr.rf.up (by omega) (by omega)
      have hC1 : CG V1 1 w := hC.fr f1 (by omega)
      have g2 := (hC1.2.1 c (by omega)).1
      rw [if_neg hx, k_ix (by omega) (by omega), tn0, g1, k_ix (by omega) (by omega), k_lt, hp, ← e, k_ix (by omega) (by omega), g2, k_ix (by omega) (by omega), k_lt, hp, k_lt, show ((c : Int) + 1) = ((c + 1 : Nat) : Int) by omega]
      obtain ⟨V2, e2⟩ : ∃ V2, V2 = sj_up V1 (A + 2) (pl c (w (3 + c))) c := ⟨_, rfl⟩
      have f2 : Fr (A + 1) (A + 3) V V2 := by rw [e2]; exact (f1.wide (by omega) (by omega)).up (by omega) (by omega)
      have ov : ∀ y, V2 (A + 1) y = if y = pl c (w (3 + c)) then 0 else V (A + 1) y := fun y => by
        rw [e2, up_na _ _ _ _ (by omega), e]
        by_cases z : y = pl c (w (3 + c))
        · rw [if_pos z, z, up_ss]
        · rw [if_neg z, up_nk _ _ _ z]
      have fv : ∀ y, V2 (A + 2) y = if y = pl c (w (3 + c)) then (c : Int) else V (A + 2) y := fun y => by
        rw [e2]
        by_cases z : y = pl c (w (3 + c))
        · rw [if_pos z, z, up_ss]
        · rw [if_neg z, up_nk _ _ _ z, e, up_na _ _ _ _ (by omega)]
      rw [← e2]
      obtain ⟨V3, s1, s2, s3⟩ := sweep_30 hB hA (x2 := x2) m (c + 1) V2 (by omega) (by omega) (hC.fr f2 (by omega)) (fun c' hc' => by
          by_cases z : c' = c
          · subst z
            rw [fv, ov, if_pos rfl, if_pos rfl]
            exact ⟨rfl, rfl⟩
          · have b2 := (hB.2.2.2.1 c' (by omega)).1
            have ne : pl c' (w (3 + c')) ≠ pl c (w (3 + c)) := by unfold pl; omega
            rw [fv, ov, if_neg ne, if_neg ne]
            exact h1 c' (by omega)) (fun y y1 y2 => by
          rw [fv, if_neg (y2 c (by omega))]
          exact h2 y y1 (fun d hd => y2 d (by omega)))
      exact ⟨V3, s1, fun z z1 z2 => (s2 z z1 z2).trans (f2 z (by omega)), s3⟩
theorem sweep_eq (hB : WB 500 200 1500 w) (hA : 20 ≤ A) (hN : 10000 ≤ N) (ht : 0 ≤ t ∧ t ≤ 12) (hk : 0 ≤ k ∧ k ≤ 20001) (hlf : lf = 0 ∨ lf = 1) {x2 : Int} (hx2 : x2 = 0 ∨ x2 = 1) (hC : CG V 1 w) (h6 : V A 6 = t) (h7 : V A 7 = lf) (hW : TW V A w) : ∃ V', g_X6_sweep N A k x2 V = some ((), V') ∧ (∀ z, z ≠ A → z ≠ A + 1 → z ≠ A + 2 → z ≠ A + 4 → V' z = V z) ∧ (∀ j, (j < 8 ∨ j = 9 ∨ 14 ≤ j) → V' A j = V A j) ∧ TS V' A w t lf k ∧ Out V' A w t lf k x2 := by
  have n0 := hB.1
  unfold g_X6_sweep
  rw [k_lt, k_lt, k_lt, k_lt]
  obtain ⟨V1, e⟩ : ∃ V1, V1 = sj_up (sj_up (sj_up (sj_up V A 8 k) A 10 0) A 11 (-1)) A 12 (-1) := ⟨_, rfl⟩
  have u1 : ∀ z, z ≠ A → V1 z = V z := fun z hz => by rw [e, up_row _ _ _ hz, up_row _ _ _ hz, up_row _ _ _ hz, up_row _ _ _ hz]
  have j1 : ∀ j, (j < 8 ∨ j = 9 ∨ 13 ≤ j) → V1 A j = V A j := fun j hj => by rw [e, up_nk _ _ _ (by omega), up_nk _ _ _ (by omega), up_nk _ _ _ (by omega), up_nk _ _ _ (by omega)]
  have e8 : V1 A 8 = k := by rw [e, up_nk _ _ _ (by omega), up_nk _ _ _ (by omega), up_nk _ _ _ (by omega), up_ss]
  have e11 : V1 A 11 = -1 := by rw [e, up_nk _ _ _ (by omega), up_ss]
  rw [← e]
  obtain ⟨V2, q1, q2, q3, _⟩ := fill_eq (N := N) (V := V1) (x0 := A + 2) (n := 4141) (v := -1) (by omega) (by omega)
  have eq1 : g_J7_fill_53178 N (A + 2) 4141 (-1) V1 = some ((), V2) := q1
  have hC2 : CG V2 1 w := hC.fr (lo := A) (hi := A + 3) (fun z hz => (q2 z (by omega)).trans (u1 z (by omega))) (by omega)
  rw [eq1, k_cs]
  obtain ⟨V3, s1, s2, s3⟩ := sweep_30 (N := N) hB hA (x2 := x2) N 0 V2 (by omega) (by omega) hC2 (fun c' hc' => by omega) (fun y y1 _ => q3 y y1)
  have s1' : g_X6_sweep_30 N N A x2 0 V2 = g_X6_sweep_89 N N A x2 0 V3 := s1
  have uA : V3 A = V1 A := (s2 A (by omega) (by omega)).trans (q2 A (by omega))
  have u3 : ∀ z, z ≠ A → z ≠ A + 1 → z ≠ A + 2 → V3 z = V z := fun z z1 z2 z3 => (s2 z z2 z3).trans ((q2 z z3).trans (u1 z z1))
  have hS3 : TS V3 A w t lf k := by
    refine ⟨hC.fr (lo := A) (hi := A + 3) (fun z hz => u3 z (by omega) (by omega) (by omega)) (by omega), ⟨?_, ?_, ?_⟩, fun c h a1 a2 a3 => ?_⟩
    · rw [uA, j1 _ (by omega)]; exact h6
    · rw [uA, j1 _ (by omega)]; exact h7
    · rw [uA]; exact e8
    · rw [u3 _ (by omega) (by omega) (by omega)]; exact hW c h a1 a2 a3
  have fr0 := s3 0 (by omega)
  obtain ⟨V4, r1, r2, r3⟩ := sweep_89 (N := N) hB hA (by omega) ht hk hlf hx2 N 0 V3 (by omega) (by omega) hS3 (fun c' hc' h a1 a2 => by
      have e0 : c' = 0 := by omega
      subst e0
      by_cases zh : h = w (3 + 0)
      · rw [zh, fr0.2.1, fr0.2.2]
        refine Or.inr ⟨by omega, ⟨0, rfl, wGo_0⟩, fun v' f' hv => ?_⟩
        obtain ⟨a, y1, y2⟩ := hv
        have := wGo_g y2
        omega
      · refine Or.inl ⟨fr0.1 h a1 (by omega), fun v' f' hv => ?_⟩
        obtain ⟨a, y1, y2⟩ := hv
        exact zh y2.2.1) (fun c' _ h2 => s3 c' h2) (by
      unfold Ls
      rw [uA, e11]
      exact ⟨Or.inl ⟨rfl, fun v' f' ⟨a, b, y1, _⟩ => by omega⟩, Or.inl rfl⟩)
  have r1' : g_X6_sweep_89 N N A x2 0 V3 = some ((), V4) := r1
  rw [s1', r1']
  refine ⟨V4, rfl, fun z z1 z2 z3 z4 => (r2.1 z z1 z2 z3 z4).trans (u3 z z1 z2 z3), fun j hj => ?_, hS3.fb hA r2, r3⟩
  rw [r2.2 j (by omega), uA, j1 j (by omega)]
/-- the lowest base from which the rest comes -/
theorem goBack_115 (hB : WB 500 200 1500 w) (hA : 20 ≤ A) (hN : 50 ≤ N) (hc : (c : Int) < w 0) (ht : 0 ≤ t ∧ t ≤ 12) (hk : 0 ≤ k ∧ k ≤ 20001) (hlf : lf = 0 ∨ lf = 1) {a : Nat} {rest : Int} {kk : Nat → Int → Int → Int → sj_VV → Option (Unit × sj_VV)} (hac : a < c) (hh : w (44 + (c + 1)) ≤ h ∧ h ≤ w (3 + (c + 1))) (hr : -4000000000000000000 ≤ rest ∧ rest ≤ 4000000000000000000) (ex : ∃ o u, wGo w t lf k 48000000000000 a c o u ∧ wSt w t lf k 48000000000000 c o h ∧ u + wQ w lf k c o h = rest) (LB : ∀ (a' : Nat) v, wAr w t lf k 48000000000000 a' c h v → rest < v ∨ (rest = v ∧ a ≤ a')) : ∀ (m : Nat) (x : Int) (V : sj_VV), max (w (44 + c)) (h - t) ≤ x → (min (w (3 + c)) (h + t) + 1 - x).toNat < m → (∀ o u, wGo w t lf k 48000000000000 a c o u → wSt w t lf k 48000000000000 c o h → u + wQ w lf k c o h = rest → x ≤ o) → TS V A w t lf k → TT V A w c → Gs V A w t lf k c → V A 11 = a → ∃ low u V', g_X6_goBack_115 N kk m A h rest c (min (w (3 + c)) (h + t)) x V = kk A low u ((c : Int) + -1) V' ∧ (∀ z, z ≠ A → z ≠ A + 5 + 1 → V' z = V z) ∧ (∀ j, j ≠ 13 → V' A j = V A j) ∧ V' (A + 5 + 1) c = low ∧ (∀ j, j ≠ c → V' (A + 5 + 1) j = V (A + 5 + 1) j) ∧ (wGo w t lf k 48000000000000 a c low u ∧ wSt w t lf k 48000000000000 c low h ∧ u + wQ w lf k c low h = rest) ∧ (∀ o u, wGo w t lf k 48000000000000 a c o u → wSt w t lf k 48000000000000 c o h → u + wQ w lf k c o h = rest → low ≤ o) ∧ ∀ (a' : Nat) v, wGo w t lf k 48000000000000 a' c low v → u < v ∨ (u = v ∧ a ≤ a')
  | 0, _, _, _, h', _, _, _, _, _ => absurd h' (by omega)
  | m + 1, x, V, x1, x2, lo, hS, hT, hG, h11 => by
    have n0 := hB.1
    have b0 := (hB.2.2.2.1 c (by omega)).1
    have b1 := (hB.2.2.2.1 (c + 1) (by omega)).1
    obtain ⟨o0, u0, y1, y2, y3⟩ := id ex
    have hlo := lo o0 u0 y1 y2 y3
    have hr0 := wGo_r hB (by omega) y1
    have hs0 := y2.1
    unfold g_X6_goBack_115 g_X6_goBack_115_b
    have hp : ((c : Int) * 101 + x).toNat = pl c x := rfl
    rw [k_ltF (by omega) ⟨by omega, by omega⟩ ⟨by omega, by omega⟩, k_lt, k_ix (by omega) (by omega), hp, h11]
    have hm := hG x (by omega) (by omega)
    -- a base that will do is the least there
    have cand : ∀ u, wGo w t lf k 48000000000000 a c x u → wSt w t lf k 48000000000000 c x h → u + wQ w lf k c x h = rest → V (A + 2) (pl c x) = a ∧ V (A + 1) (pl c x) = u := by
      intro u g1 g2 g3
      rcases hm with ⟨_, a2⟩ | ⟨_, ⟨a', ea, ga⟩, a3⟩
      · exact absurd ⟨a, rfl, g1⟩ (a2 u a)
      · have m1 := a3 u a ⟨a, rfl, g1⟩
        have m2 := LB a' _ ⟨x, _, ga, g2, rfl⟩
        omega
    have on : ∀ V2, FA A V V2 → (∀ j, j ≠ 13 → V2 A j = V A j) → V2 (A + 1) = V (A + 1) → V2 (A + 2) = V (A + 2) → (∀ u, wGo w t lf k 48000000000000 a c x u → wSt w t lf k 48000000000000 c x h → u + wQ w lf k c x h = rest → False) → ∃ low u V', g_X6_goBack_115 N kk m A h rest c (min (w (3 + c)) (h + t)) (x + 1) V2 = kk A low u ((c : Int) + -1) V' ∧ (∀ z, z ≠ A → z ≠ A + 5 + 1 → V' z = V z) ∧ (∀ j, j ≠ 13 → V' A j = V A j) ∧ V' (A + 5 + 1) c = low ∧ (∀ j, j ≠ c → V' (A + 5 + 1) j = V (A + 5 + 1) j) ∧ (wGo w t lf k 48000000000000 a c low u ∧ wSt w t lf k 48000000000000 c low h ∧ u + wQ w lf k c low h = rest) ∧ (∀ o u, wGo w t lf k 48000000000000 a c o u → wSt w t lf k 48000000000000 c o h → u + wQ w lf k c o h = rest → low ≤ o) ∧ ∀ (a' : Nat) v, wGo w t lf k 48000000000000 a' c low v → u < v ∨ (u = v ∧ a ≤ a') := by
      intro V2 f2 j2 r1 r2 no
      obtain ⟨low, u, V3, s1, s2, s3, s4, s5, s6⟩ := goBack_115 hB hA hN hc ht hk hlf (kk := kk) hac hh hr ex LB m (x + 1) V2 (by omega) (by omega) (fun o u g1 g2 g3 => by
          have := lo o u g1 g2 g3
          rcases (show o = x ∨ x + 1 ≤ o by omega) with q | q
          · rw [q] at g1 g2 g3
            exact absurd (no u g1 g2 g3) id
          · exact q) (hS.fa hA f2) (hT.fa f2) (fun h a1 a2 => by rw [r1, r2]; exact hG h a1 a2) (by rw [j2 _ (by omega)]; exact h11)
      refine ⟨low, u, V3, s1, fun z z1 z2 => ?_, fun j hj => (s3 j hj).trans (j2 j hj), s4, fun j hj => (s5 j hj).trans (by rw [f2.1 _ (by omega) (by omega) (by omega)]), s6⟩
      rw [s2 z z1 z2]
      by_cases q1 : z = A + 1
      · rw [q1, r1]
      · by_cases q2 : z = A + 2
        · rw [q2, r2]
        · exact f2.1 z z1 q1 q2
    have ai : sj_i32 (a : Int) := ⟨by omega, by omega⟩
    unfold g_X6_goBack_201 g_X6_goBack_207
    by_cases h1 : V (A + 2) (pl c x) = a
    · rcases id hm with ⟨a1, _⟩ | ⟨_, ⟨a', ea, ga⟩, a3⟩
      · omega
      · have ea' : a' = a := by omega
        subst ea'
        have hvb := wGo_b hB ht hk c _ _ (by omega) ga
        obtain ⟨hC, ⟨t6, t7, t8⟩, hW⟩ := id hS
        have w1 := hW c x (by omega) (by omega) (by omega)
        have ec : ((c : Int) + 1) = ((c + 1 : Nat) : Int) := by omega
        have w2 : V (A + 3) (((c : Int) + 1) * 101 + h).toNat = spOn w (c + 1) h := by rw [ec]; exact hW (c + 1) h (by omega) (by omega) (by omega)
        rw [k_eqT h1, k_ix (by omega) (by omega), leftOver_eq (lf := lf) (k := k) hC hB hA (by omega) (by omega) (by omega) t7 hlf t8 hk hT w1 w2 hN, k_cs, up_ss]
        obtain ⟨V2, e⟩ : ∃ V2, V2 = sj_up V A 13 (if 0 < slD w lf c x h k then 0 else 1) := ⟨_, rfl⟩
        have f1 : FA A V V2 := by
          rw [e]
          exact ⟨fun z a1 _ _ => up_row _ _ _ a1, fun j hj => up_nk _ _ _ (by omega)⟩
        have r1 : V2 (A + 1) = V (A + 1) := by rw [e]; exact up_row _ _ _ (by omega)
        have r2 : V2 (A + 2) = V (A + 2) := by rw [e]; exact up_row _ _ _ (by omega)
        have j2 : ∀ j, j ≠ 13 → V2 A j = V A j := fun j hj => by rw [e]; exact up_nk _ _ _ hj
        rw [← e]
        by_cases hd : 0 < slD w lf c x h k
        · have hq := wQ_b (lf := lf) hB ht hk (c := c) (o := x) (h := h) (by omega) (by omega) (by omega) (by omega) (by omega) hd
          have hst : wSt w t lf k 48000000000000 c x h := (wSt_F hB ht hk (by omega) (by omega)).mpr ⟨by omega, by omega, hd⟩
          rw [if_pos hd, if_pos hd, k_leqc ⟨by omega, by omega⟩ ⟨by omega, by omega⟩]
          by_cases h3 : V (A + 1) (pl c x) + wQ w lf k c x h = rest
          · rw [if_pos h3, k_eqT rfl, k_ix (by omega) (by omega), k_lt, tn0, k_ix (by omega) (by omega), k_lt, up_na _ _ _ _ (by omega), r1, k_lt]
            refine ⟨x, _, _, rfl, fun z z1 z2 => ?_, fun j hj => ?_, by rw [up_ss], fun j hj => ?_, ⟨ga, hst, h3⟩, lo, fun a2 v hg => ?_⟩
            · rw [up_row _ _ _ z2, e, up_row _ _ _ z1]
            · rw [up_na _ _ _ _ (by omega)]; exact j2 j hj
            · rw [up_nk _ _ _ hj, e, up_na _ _ _ _ (by omega)]
            · have := a3 v a2 ⟨a2, rfl, hg⟩
              omega
          · rw [if_neg h3, k_lt]
            exact on V2 f1 j2 r1 r2 (fun u g1 g2 g3 => h3 (by rw [(cand u g1 g2 g3).2]; exact g3))
        · have no : ∀ u, wGo w t lf k 48000000000000 a' c x u → wSt w t lf k 48000000000000 c x h → u + wQ w lf k c x h = rest → False := fun u _ g2 _ => hd g2.2.2.1
          rw [if_neg hd, if_neg hd, k_leqc ⟨by omega, by omega⟩ ⟨by omega, by omega⟩]
          by_cases h3 : V (A + 1) (pl c x) + 0 = rest
          · rw [if_pos h3, k_eqF (by omega) ⟨by omega, by omega⟩ ⟨by omega, by omega⟩, k_lt]
            exact on V2 f1 j2 r1 r2 no
          · rw [if_neg h3, k_lt]
            exact on V2 f1 j2 r1 r2 no
    · have fi : sj_i32 (V (A + 2) (pl c x)) := by
        rcases id hm with ⟨a1, _⟩ | ⟨_, ⟨a', ea, ga⟩, _⟩
        · exact ⟨by omega, by omega⟩
        · have := wGo_le _ _ _ ga
          exact ⟨by omega, by omega⟩
      rw [k_eqF h1 fi ai, k_lt]
      exact on V FA.rf (fun _ _ => rfl) rfl rfl (fun u g1 g2 g3 => h1 (cand u g1 g2 g3).1)
end Back
