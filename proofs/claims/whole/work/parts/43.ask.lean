/-! BOXES: the class's search and the reference's -/
def spMn (D : Nat → Int) : Nat → Int × Nat
  | 0 => (20001, 0)
  | i + 1 => if D i < (spMn D i).1 then (D i, i) else spMn D i
theorem spMn_b (D : Nat → Int) (hD : ∀ i, 0 ≤ D i) : ∀ n, 0 ≤ (spMn D n).1 ∧ (spMn D n).1 ≤ 20001 ∧ ((spMn D n).1 < 20001 → D (spMn D n).2 = (spMn D n).1 ∧ (spMn D n).2 < n)
  | 0 => ⟨by show (0 : Int) ≤ 20001; decide, by show (20001 : Int) ≤ 20001; decide, fun h => absurd h (by show ¬ (20001 : Int) < 20001; decide)⟩
  | n + 1 => by
    have ih := spMn_b D hD n
    rw [spMn]
    split
    · exact ⟨hD n, by show D n ≤ 20001; omega, fun _ => ⟨rfl, by show n < n + 1; omega⟩⟩
    · exact ⟨ih.1, ih.2.1, fun h => ⟨(ih.2.2 h).1, by have := (ih.2.2 h).2; omega⟩⟩
def spO (x st o : Int) : Int := x + st * (o - 1)
def spAtF (w : sj_R) (lf x y r st : Int) (i : Nat) : Int := spFBy w (spO x st ((i : Int) / 9)) (spO y st ((i : Int) / 3 % 3)) (spO r st ((i : Int) % 3)) lf
def spD (w : sj_R) (lf x y r st : Int) (i : Nat) : Int := if spAtF w lf x y r st i = -1 then 20001 else spAtF w lf x y r st i
theorem spD_b (w : sj_R) (lf x y r st : Int) (i : Nat) : 0 ≤ spD w lf x y r st i ∧ spD w lf x y r st i ≤ 20001 := by
  have := spFBy_b w (spO x st ((i : Int) / 9)) (spO y st ((i : Int) / 3 % 3)) (spO r st ((i : Int) % 3)) lf
  unfold spD spAtF
  split <;> omega
theorem spO_b {x st o : Int} (hx : -50 ≤ x ∧ x ≤ 500) (hs : 0 ≤ st ∧ st ≤ 64) (ho : 0 ≤ o ∧ o ≤ 2) : -200 ≤ spO x st o ∧ spO x st o ≤ 600 := by
  have := mul_a (x := st) (y := o - 1) (X := 64) (Y := 1) (by omega) (by omega) (by omega) (by omega)
  unfold spO
  omega
section Ask
variable {V : sj_VV} {s ga : Nat} {w : sj_R} {lf lv hv rv cx cy r x y st b : Int} {N : Nat}
theorem ask_eq (hC : CG V ga w) (hd : ga + 14 ≤ s) (hB : WB lv hv rv w) (hlv : lv ≤ 1100) (hhv : hv ≤ 700) (hrv : rv ≤ 2250) (h1 : sj_i32 cx) (h2 : sj_i32 cy) (h3 : sj_i32 r) (hlf : lf = 0 ∨ lf = 1) {lim : Int} (hlim : 0 ≤ lim ∧ lim ≤ 20001) (hN : 1000 ≤ N) : ∃ q V', g_X3_ask N s ga cx cy r lf lim V = some (q, V') ∧ Fr (s + 1) (s + 12) V V' ∧ (spFBy w cx cy r lf = -1 → q = -1) ∧ (spFBy w cx cy r lf ≠ -1 → spLim (spFBy w cx cy r lf) lim q) := by
  unfold g_X3_ask
  rw [isCircle_eq h1 h2 h3, k_cs]
  by_cases hci : spCirc cx cy r
  · obtain ⟨V1, r1, r2, r3⟩ := cut_eq (N := N) (a := s + 1) (lf := lf) (by omega) hC hB hci hlf hN
    rw [if_pos hci, k_eqF (by omega) ⟨by omega, by omega⟩ ⟨by omega, by omega⟩, r1, k_cs]
    by_cases ho : spOk w cx cy r
    · have hS := r3 ho
      have hb := (spOk_b hB hci hlf ho).1
      have hC1 : CG V1 ga w := hC.fr r2 (by omega)
      obtain ⟨V2, s1, s2, s3⟩ := weigh_eq (N := N) (a := s + 3) hC1 hB hlv hS hb (by omega) (by omega) (by omega)
      have hC2 : CG V2 ga w := hC1.fr s2 (by omega)
      obtain ⟨V3, t1, t2, t3⟩ := settle_eq (N := N) (more := 0) (ga := ga) s3 hB hlv hhv hrv hb (by omega) (fun l hl => by
        have := hC2.2.2.2.1 l hl
        omega) hC2.1.2.2 (by omega)
      obtain ⟨q, u1, u2⟩ := leastBound_eq (N := N) t3 hB hlv hhv hrv hb (by omega) hlim
      rw [if_pos ho, k_eqF (by omega) ⟨by omega, by omega⟩ ⟨by omega, by omega⟩, s1, k_cs, t1, k_cs, u1, k_cs]
      have eF : spFBy w cx cy r lf = spF w (spFrom w cx cy r) (spTo w cx cy r) lf (spBs w cx cy r) := by unfold spFBy; rw [if_pos hci, if_pos ho]
      have hge := spF_b w (spFrom w cx cy r) (spTo w cx cy r) lf (spBs w cx cy r)
      refine ⟨q, V3, rfl, (r2.wide (by omega) (by omega)).tr ((s2.wide (by omega) (by omega)).tr (t2.wide (by omega) (by omega))), fun z => by omega, fun _ => by rw [eF]; exact u2⟩
    · rw [if_neg ho, k_eqT rfl]
      refine ⟨-1, V1, rfl, r2.wide (by omega) (by omega), fun _ => rfl, fun z => absurd ?_ z⟩
      unfold spFBy; rw [if_pos hci, if_neg ho]
  · rw [if_neg hci, k_eqT rfl]
    refine ⟨-1, V, rfl, Fr.rf, fun _ => rfl, fun z => absurd ?_ z⟩
    unfold spFBy; rw [if_neg hci]
theorem spFBy_circ (h : spFBy w cx cy r lf ≠ -1) : spCirc cx cy r := by
  rcases Decidable.em (spCirc cx cy r) with z | z
  · exact z
  · unfold spFBy at h; rw [if_neg z] at h; exact absurd rfl h
theorem td9 (i k : Nat) : (i : Int).tdiv k = (i : Int) / k := Int.tdiv_eq_ediv_of_nonneg (by omega)
theorem tm3 {i : Int} (h : 0 ≤ i) (k : Nat) : i.tmod k = i % k := Int.tmod_eq_emod_of_nonneg h
theorem goOn_loop (hd : ga + 14 ≤ s) (hB : WB lv hv rv w) (hlv : lv ≤ 1100) (hhv : hv ≤ 700) (hrv : rv ≤ 2250) (hlf : lf = 0 ∨ lf = 1) (hxy : spCirc x y r) (hst : 1 ≤ st ∧ st ≤ 64) (hb : 0 ≤ b ∧ b ≤ 20001) (hN : 1000 ≤ N) : ∀ (m i : Nat) (V : sj_VV), i ≤ 27 → 27 - i < m → CG V ga w → V s 2 = x → V s 3 = y → V s 4 = r → V s 5 = min b (spMn (spD w lf x y r st) i).1 → ∃ V', g_X3_goOn_6 N m s ga st lf (if (spMn (spD w lf x y r st) i).1 < b then ((spMn (spD w lf x y r st) i).2 : Int) else -1) i V = some (if (spMn (spD w lf x y r st) 27).1 < b then 1 else 0, V') ∧ Fr s (s + 12) V V' ∧ V' s 5 = min b (spMn (spD w lf x y r st) 27).1 ∧ V' s 6 = V s 6 ∧ V' s 2 = (if (spMn (spD w lf x y r st) 27).1 < b then spO x st (((spMn (spD w lf x y r st) 27).2 : Int) / 9) else x) ∧ V' s 3 = (if (spMn (spD w lf x y r st) 27).1 < b then spO y st (((spMn (spD w lf x y r st) 27).2 : Int) / 3 % 3) else y) ∧ V' s 4 = (if (spMn (spD w lf x y r st) 27).1 < b then spO r st (((spMn (spD w lf x y r st) 27).2 : Int) % 3) else r)
  | 0, _, _, _, h, _, _, _, _, _ => absurd h (by omega)
  | m + 1, i, V, h1, h2, hC, v2, v3, v4, v5 => by
    obtain ⟨M1, M2, M3⟩ := spMn_b (spD w lf x y r st) (fun i => (spD_b w lf x y r st i).1) i
    unfold g_X3_goOn_6 g_X3_goOn_6_b
    by_cases hi : i = 27
    · subst hi
      rw [k_leT (by omega) ⟨by omega, by omega⟩ ⟨by omega, by omega⟩]
      by_cases hlt : (spMn (spD w lf x y r st) 27).1 < b
      · have M4 := (M3 (by omega)).2
        generalize (spMn (spD w lf x y r st) 27).2 = j at *
        simp only [if_pos hlt]
        rw [k_eqF (by omega) ⟨by omega, by omega⟩ ⟨by omega, by omega⟩, k_dI ⟨by omega, by omega⟩ ⟨by omega, by omega⟩ (by omega), show ((j : Int).tdiv 9) = (j : Int) / 9 from td9 j 9]
        unfold g_X3_off
        rw [k_cs, k_lt, k_dI ⟨by omega, by omega⟩ ⟨by omega, by omega⟩ (by omega), show ((j : Int).tdiv 3) = (j : Int) / 3 from td9 j 3, k_rI ⟨by omega, by omega⟩ ⟨by omega, by omega⟩ (by omega), show ((j : Int) / 3).tmod 3 = (j : Int) / 3 % 3 from tm3 (by omega) 3, k_cs, k_lt, k_rI ⟨by omega, by omega⟩ ⟨by omega, by omega⟩ (by omega), show (j : Int).tmod 3 = (j : Int) % 3 from tm3 (by omega) 3, k_cs, k_lt, k_zs (Or.inr rfl)]
        refine ⟨_, rfl, ((Fr.rf.up (by omega) (by omega)).up (by omega) (by omega)).up (by omega) (by omega), ?_, ?_, ?_, ?_, ?_⟩
        · rw [up_nk _ _ _ (by omega), up_nk _ _ _ (by omega), up_nk _ _ _ (by omega)]; exact v5
        · rw [up_nk _ _ _ (by omega), up_nk _ _ _ (by omega), up_nk _ _ _ (by omega)]
        · rw [up_nk _ _ _ (by omega), up_nk _ _ _ (by omega), up_ss, v2]; unfold spO; rw [Int.mul_comm]
        · rw [up_nk _ _ _ (by omega), up_ss, up_nk _ _ _ (by omega), v3]; unfold spO; rw [Int.mul_comm]
        · rw [up_ss, up_nk _ _ _ (by omega), up_nk _ _ _ (by omega), v4]; unfold spO; rw [Int.mul_comm]
      · simp only [if_neg hlt]
        rw [k_eqT rfl, k_zs (Or.inl rfl)]
        exact ⟨V, rfl, Fr.rf, v5, rfl, v2, v3, v4⟩
    · have hi2 : i < 27 := by omega
      obtain ⟨q1, q2, q3⟩ := hxy
      have o1 := spO_b (x := x) (st := st) (o := (i : Int) / 9) (by omega) (by omega) (by omega)
      have o2 := spO_b (x := y) (st := st) (o := (i : Int) / 3 % 3) (by omega) (by omega) (by omega)
      have o3 := spO_b (x := r) (st := st) (o := (i : Int) % 3) (by omega) (by omega) (by omega)
      have hlim : 0 ≤ V s 5 ∧ V s 5 ≤ 20001 := by rw [v5]; omega
      obtain ⟨q, V1, a1, a2, a3, a4⟩ := ask_eq (N := N) (s := s) hC hd hB hlv hhv hrv (cx := spO x st ((i : Int) / 9)) (cy := spO y st ((i : Int) / 3 % 3)) (r := spO r st ((i : Int) % 3)) ⟨by omega, by omega⟩ ⟨by omega, by omega⟩ ⟨by omega, by omega⟩ hlf hlim hN
      have e0 : V1 s = V s := a2 s (by omega)
      have hC1 : CG V1 ga w := hC.fr a2 (by omega)
      have eA : spAtF w lf x y r st i = spFBy w (spO x st ((i : Int) / 9)) (spO y st ((i : Int) / 3 % 3)) (spO r st ((i : Int) % 3)) lf := rfl
      rw [← eA] at a3 a4
      have cA := spFBy_b w (spO x st ((i : Int) / 9)) (spO y st ((i : Int) / 3 % 3)) (spO r st ((i : Int) % 3)) lf
      rw [← eA] at cA
      rw [k_leF (by omega) ⟨by omega, by omega⟩ ⟨by omega, by omega⟩, k_dI ⟨by omega, by omega⟩ ⟨by omega, by omega⟩ (by omega), show ((i : Int).tdiv 9) = (i : Int) / 9 from td9 i 9]
      unfold g_X3_off
      rw [k_cs, k_dI ⟨by omega, by omega⟩ ⟨by omega, by omega⟩ (by omega), show ((i : Int).tdiv 3) = (i : Int) / 3 from td9 i 3, k_rI ⟨by omega, by omega⟩ ⟨by omega, by omega⟩ (by omega), show ((i : Int) / 3).tmod 3 = (i : Int) / 3 % 3 from tm3 (by omega) 3, k_cs, k_rI ⟨by omega, by omega⟩ ⟨by omega, by omega⟩ (by omega), show (i : Int).tmod 3 = (i : Int) % 3 from tm3 (by omega) 3, k_cs, v2, v3, v4, show x + ((i : Int) / 9 - 1) * st = spO x st ((i : Int) / 9) by unfold spO; rw [Int.mul_comm], show y + ((i : Int) / 3 % 3 - 1) * st = spO y st ((i : Int) / 3 % 3) by unfold spO; rw [Int.mul_comm], show r + ((i : Int) % 3 - 1) * st = spO r st ((i : Int) % 3) by unfold spO; rw [Int.mul_comm], a1, k_cs]
      have key := goOn_loop hd hB hlv hhv hrv hlf ⟨q1, q2, q3⟩ hst hb hN m (i + 1)
      have eM : spMn (spD w lf x y r st) (i + 1) = if spD w lf x y r st i < (spMn (spD w lf x y r st) i).1 then (spD w lf x y r st i, i) else spMn (spD w lf x y r st) i := rfl
      unfold g_X3_goOn_92
      by_cases hA : spAtF w lf x y r st i = -1
      · have eD : spD w lf x y r st i = 20001 := by unfold spD; rw [if_pos hA]
        rw [eM, if_neg (by omega)] at key
        rw [a3 hA, k_eqT rfl, k_lt]
        obtain ⟨V2, b1, b2, b3, b4, b5⟩ := key V1 (by omega) (by omega) hC1 (by rw [e0]; exact v2) (by rw [e0]; exact v3) (by rw [e0]; exact v4) (by rw [e0]; exact v5)
        exact ⟨V2, b1, (a2.wide (by omega) (by omega)).tr b2, b3, by rw [b4, e0], b5⟩
      · have eD : spD w lf x y r st i = spAtF w lf x y r st i := by unfold spD; rw [if_neg hA]
        obtain ⟨l1, l2, l3, l4⟩ := a4 hA
        rw [k_eqF (by omega) ⟨by omega, by omega⟩ ⟨by omega, by omega⟩, e0, k_lec ⟨by omega, by omega⟩ ⟨by omega, by omega⟩]
        by_cases hq : V s 5 ≤ q
        · have hF : V s 5 ≤ spAtF w lf x y r st i := by
            rcases Int.lt_or_le (spAtF w lf x y r st i) (V s 5) with z | z
            · have := l1 z; omega
            · exact z
          rw [if_pos hq, k_lt]
          by_cases hD : spD w lf x y r st i < (spMn (spD w lf x y r st) i).1
          · rw [eM, if_pos hD] at key
            have hbb : b ≤ spD w lf x y r st i := by omega
            rw [if_neg (show ¬ (spD w lf x y r st i, i).1 < b by show ¬ spD w lf x y r st i < b; omega)] at key
            rw [if_neg (by omega)]
            obtain ⟨V2, b1, b2, b3, b4, b5⟩ := key V1 (by omega) (by omega) hC1 (by rw [e0]; exact v2) (by rw [e0]; exact v3) (by rw [e0]; exact v4) (by rw [e0, v5]; show _ = min b (spD w lf x y r st i); omega)
            exact ⟨V2, b1, (a2.wide (by omega) (by omega)).tr b2, b3, by rw [b4, e0], b5⟩
          · rw [eM, if_neg hD] at key
            obtain ⟨V2, b1, b2, b3, b4, b5⟩ := key V1 (by omega) (by omega) hC1 (by rw [e0]; exact v2) (by rw [e0]; exact v3) (by rw [e0]; exact v4) (by rw [e0]; exact v5)
            exact ⟨V2, b1, (a2.wide (by omega) (by omega)).tr b2, b3, by rw [b4, e0], b5⟩
        · have hF : spAtF w lf x y r st i < V s 5 := by
            rcases Int.lt_or_le (spAtF w lf x y r st i) (V s 5) with z | z
            · exact z
            · have := l2 z; omega
          have hqF := l1 hF
          have hD : spD w lf x y r st i < (spMn (spD w lf x y r st) i).1 := by omega
          rw [eM, if_pos hD] at key
          rw [if_pos (show (spD w lf x y r st i, i).1 < b by show spD w lf x y r st i < b; omega)] at key
          rw [if_neg hq, k_lt, k_lt]
          have f1 : Fr s (s + 12) V (sj_up V1 s 5 q) := (a2.wide (by omega) (by omega)).up (by omega) (by omega)
          obtain ⟨V2, b1, b2, b3, b4, b5⟩ := key (sj_up V1 s 5 q) (by omega) (by omega) (hC.fr f1 (by omega)) (by rw [up_nk _ _ _ (by omega), e0]; exact v2) (by rw [up_nk _ _ _ (by omega), e0]; exact v3) (by rw [up_nk _ _ _ (by omega), e0]; exact v4) (by rw [up_ss]; show q = min b (spD w lf x y r st i); omega)
          exact ⟨V2, b1, f1.tr b2, b3, by rw [b4, up_nk _ _ _ (by omega), e0], b5⟩
end Ask
