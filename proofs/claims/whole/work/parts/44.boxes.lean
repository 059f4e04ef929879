/-- a place of the search: x, y, r, the best so far (20001: none) -/
abbrev spQ : Type := Int × Int × Int × Int
def spNear (w : sj_R) (lf st : Int) (q : spQ) : Int × Nat := spMn (spD w lf q.1 q.2.1 q.2.2.1 st) 27
def spMove (w : sj_R) (lf st : Int) (q : spQ) : spQ := (spO q.1 st (((spNear w lf st q).2 : Int) / 9), spO q.2.1 st (((spNear w lf st q).2 : Int) / 3 % 3), spO q.2.2.1 st (((spNear w lf st q).2 : Int) % 3), (spNear w lf st q).1)
/-- the search: at most m more steps, k are done -/
def spBx (w : sj_R) (lf : Int) : Nat → Nat → Int → spQ → spQ × Nat
  | 0, k, _, q => (q, k)
  | m + 1, k, st, q => if st ≤ 0 then (q, k) else if (spNear w lf st q).1 < q.2.2.2 then spBx w lf m (k + 1) st (spMove w lf st q) else spBx w lf m (k + 1) (st / 2) q
def spBest (F : Int) : Int := if F = -1 then 20001 else F
def spBoxes (w : sj_R) (lf x y r st : Int) : spQ × Nat := spBx w lf 60 0 st (x, y, r, spBest (spFBy w x y r lf))
def spQok (q : spQ) : Prop := spCirc q.1 q.2.1 q.2.2.1 ∧ 0 ≤ q.2.2.2 ∧ q.2.2.2 ≤ 20001
section Boxes
variable {V : sj_VV} {s ga a : Nat} {w : sj_R} {lf lv hv rv x y r st b : Int} {N : Nat}
theorem spNear_b (w : sj_R) (lf st : Int) (q : spQ) : 0 ≤ (spNear w lf st q).1 ∧ (spNear w lf st q).1 ≤ 20001 ∧ ((spNear w lf st q).1 < 20001 → spD w lf q.1 q.2.1 q.2.2.1 st (spNear w lf st q).2 = (spNear w lf st q).1 ∧ (spNear w lf st q).2 < 27) := spMn_b _ (fun i => (spD_b w lf q.1 q.2.1 q.2.2.1 st i).1) 27
theorem spMove_v (w : sj_R) (lf st : Int) (q : spQ) : (spMove w lf st q).2.2.2 = (spNear w lf st q).1 := by simp only [spMove]
theorem spMove_ok {q : spQ} (h : (spNear w lf st q).1 < 20001) : spQok (spMove w lf st q) := by
  obtain ⟨h1, h2, h3⟩ := spNear_b w lf st q
  obtain ⟨h4, h5⟩ := h3 h
  refine ⟨spFBy_circ (w := w) (lf := lf) ?_, by rw [spMove_v]; exact h1, by rw [spMove_v]; exact h2⟩
  intro z
  simp only [spMove] at z
  have e : spD w lf q.1 q.2.1 q.2.2.1 st (spNear w lf st q).2 = 20001 := by unfold spD spAtF; rw [if_pos z]
  omega
theorem spBest_b (w : sj_R) (x y r lf : Int) : 0 ≤ spBest (spFBy w x y r lf) ∧ spBest (spFBy w x y r lf) ≤ 20001 := by
  have := spFBy_b w x y r lf
  unfold spBest
  split <;> omega
theorem spBx_ok (w : sj_R) (lf : Int) : ∀ (m k : Nat) (st : Int) (q : spQ), spQok q → spQok (spBx w lf m k st q).1 ∧ (spBx w lf m k st q).2 ≤ k + m
  | 0, k, st, q, h => ⟨h, Nat.le_refl _⟩
  | m + 1, k, st, q, h => by
    rw [spBx]
    split
    · exact ⟨h, by show k ≤ _; omega⟩
    · split
      · rename_i h1
        have := spBx_ok w lf m (k + 1) st (spMove w lf st q) (spMove_ok (by have := h.2; omega))
        exact ⟨this.1, by omega⟩
      · have := spBx_ok w lf m (k + 1) (st / 2) q h
        exact ⟨this.1, by omega⟩
/-- the seeker stands at a place -/
def SK (V : sj_VV) (s : Nat) (q : spQ) : Prop := V s 2 = q.1 ∧ V s 3 = q.2.1 ∧ V s 4 = q.2.2.1 ∧ V s 5 = q.2.2.2
theorem goOn_eq (hC : CG V ga w) (hd : ga + 14 ≤ s) (hB : WB lv hv rv w) (hlv : lv ≤ 1100) (hhv : hv ≤ 700) (hrv : rv ≤ 2250) (hlf : lf = 0 ∨ lf = 1) {q : spQ} (hq : spQok q) (hst : 1 ≤ st ∧ st ≤ 64) (hS : SK V s q) (hN : 1000 ≤ N) : ∃ V', g_X3_goOn N s ga st lf V = some (if (spNear w lf st q).1 < q.2.2.2 then 1 else 0, V') ∧ Fr s (s + 12) V V' ∧ V' s 6 = V s 6 ∧ SK V' s (if (spNear w lf st q).1 < q.2.2.2 then spMove w lf st q else q) := by
  obtain ⟨s1, s2, s3, s4⟩ := hS
  obtain ⟨q1, q2, q3⟩ := hq
  have e0 : (spMn (spD w lf q.1 q.2.1 q.2.2.1 st) 0).1 = 20001 := rfl
  have key := goOn_loop (N := N) (b := q.2.2.2) hd hB hlv hhv hrv hlf q1 hst ⟨q2, q3⟩ hN N 0 V (by omega) (by omega) hC s1 s2 s3 (by rw [e0, s4]; omega)
  rw [e0, if_neg (by omega)] at key
  obtain ⟨V2, b1, b2, b3, b4, b5, b6, b7⟩ := key
  unfold g_X3_goOn
  refine ⟨V2, b1, b2, b4, ?_⟩
  have en : spMn (spD w lf q.1 q.2.1 q.2.2.1 st) 27 = spNear w lf st q := rfl
  rw [en] at b3 b5 b6 b7
  by_cases h : (spNear w lf st q).1 < q.2.2.2
  · rw [if_pos h] at b5 b6 b7 ⊢
    exact ⟨b5, b6, b7, by rw [b3, spMove_v]; omega⟩
  · rw [if_neg h] at b5 b6 b7 ⊢
    exact ⟨b5, b6, b7, by rw [b3]; omega⟩
theorem seek_loop (hd : ga + 14 ≤ s) (hB : WB lv hv rv w) (hlv : lv ≤ 1100) (hhv : hv ≤ 700) (hrv : rv ≤ 2250) (hlf : lf = 0 ∨ lf = 1) (hN : 1000 ≤ N) : ∀ (m n k : Nat) (st : Int) (q : spQ) (V : sj_VV), n < m → k + n = 60 → 0 ≤ st ∧ st ≤ 64 → spQok q → CG V ga w → SK V s q → V s 6 = (k : Nat) → ∃ V', g_X3_seek_67 N m s ga lf st V = some (if (spBx w lf n k st q).1.2.2.2 ≤ 20000 then 1 else 0, V') ∧ Fr s (s + 12) V V' ∧ SK V' s (spBx w lf n k st q).1 ∧ V' s 6 = ((spBx w lf n k st q).2 : Nat)
  | 0, _, _, _, _, _, h, _, _, _, _, _, _ => absurd h (by omega)
  | m + 1, n, k, st, q, V, h1, h2, h3, hq, hC, hS, h6 => by
    unfold g_X3_seek_67 g_X3_seek_67_b
    obtain ⟨s1, s2, s3, s4⟩ := id hS
    have hq2 := hq.2
    have hend : g_X3_seek_112 N s V = some (if q.2.2.2 ≤ 20000 then 1 else 0, V) := by
      unfold g_X3_seek_112
      rw [s4, k_ltc ⟨by omega, by omega⟩ ⟨by omega, by omega⟩]
      by_cases c : 20000 < q.2.2.2
      · rw [if_pos c, k_zs (Or.inl rfl), if_neg (by omega)]
      · rw [if_neg c, k_zs (Or.inr rfl), if_pos (by omega)]
    rw [h6, k_lec ⟨by omega, by omega⟩ ⟨by omega, by omega⟩]
    cases n with
    | zero =>
      rw [if_pos (by omega), hend]
      exact ⟨V, rfl, Fr.rf, hS, h6⟩
    | succ n =>
      rw [if_neg (by omega), k_lec ⟨by omega, by omega⟩ ⟨by omega, by omega⟩, spBx]
      by_cases c : st ≤ 0
      · rw [if_pos c, if_pos c, hend]
        exact ⟨V, rfl, Fr.rf, hS, h6⟩
      · obtain ⟨V1, a1, a2, a3, a4⟩ := goOn_eq (N := N) (st := st) hC hd hB hlv hhv hrv hlf hq (by omega) hS hN
        rw [if_neg c, if_neg c, a1, k_cs]
        unfold g_X3_seek_99
        have f1 : Fr s (s + 12) V (sj_up V1 s 6 (V1 s 6 + 1)) := a2.up (by omega) (by omega)
        have e6 : (sj_up V1 s 6 (V1 s 6 + 1)) s 6 = ((k + 1 : Nat) : Int) := by rw [up_ss, a3, h6]; omega
        have sk : ∀ z, SK V1 s z → SK (sj_up V1 s 6 (V1 s 6 + 1)) s z := fun z hz => ⟨by rw [up_nk _ _ _ (by omega)]; exact hz.1, by rw [up_nk _ _ _ (by omega)]; exact hz.2.1, by rw [up_nk _ _ _ (by omega)]; exact hz.2.2.1, by rw [up_nk _ _ _ (by omega)]; exact hz.2.2.2⟩
        by_cases g : (spNear w lf st q).1 < q.2.2.2
        · rw [if_pos g] at a4
          rw [if_pos g, if_pos g, k_eqF (by omega) ⟨by omega, by omega⟩ ⟨by omega, by omega⟩, k_lt]
          obtain ⟨V2, b1, b2, b3⟩ := seek_loop hd hB hlv hhv hrv hlf hN m n (k + 1) st (spMove w lf st q) _ (by omega) (by omega) h3 (spMove_ok (by omega)) (hC.fr f1 (by omega)) (sk _ a4) e6
          exact ⟨V2, b1, f1.tr b2, b3⟩
        · rw [if_neg g] at a4
          rw [if_neg g, if_neg g, k_eqT rfl, k_dI ⟨by omega, by omega⟩ ⟨by omega, by omega⟩ (by omega), k_lt, Int.tdiv_eq_ediv_of_nonneg (by omega)]
          obtain ⟨V2, b1, b2, b3⟩ := seek_loop hd hB hlv hhv hrv hlf hN m n (k + 1) (st / 2) q _ (by omega) (by omega) (by omega) hq (hC.fr f1 (by omega)) (sk _ a4) e6
          exact ⟨V2, b1, f1.tr b2, b3⟩
theorem seek_eq (hC : CG V ga w) (hd : ga + 14 ≤ s) (hB : WB lv hv rv w) (hlv : lv ≤ 1100) (hhv : hv ≤ 700) (hrv : rv ≤ 2250) (hlf : lf = 0 ∨ lf = 1) (hci : spCirc x y r) (hst : 0 ≤ st ∧ st ≤ 64) (hN : 1000 ≤ N) : ∃ V', g_X3_seek N s ga x y r st lf V = some (if (spBoxes w lf x y r st).1.2.2.2 ≤ 20000 then 1 else 0, V') ∧ Fr s (s + 12) V V' ∧ SK V' s (spBoxes w lf x y r st).1 ∧ V' s 6 = ((spBoxes w lf x y r st).2 : Nat) := by
  unfold g_X3_seek
  obtain ⟨c1, c2, c3⟩ := id hci
  rw [k_lt, k_lt, k_lt]
  obtain ⟨V1, e⟩ : ∃ V1, V1 = sj_up (sj_up (sj_up V s 2 x) s 3 y) s 4 r := ⟨_, rfl⟩
  have f1 : Fr s (s + 12) V V1 := by rw [e]; exact ((Fr.rf.up (by omega) (by omega)).up (by omega) (by omega)).up (by omega) (by omega)
  have a2 : V1 s 2 = x := by rw [e, up_nk _ _ _ (by omega), up_nk _ _ _ (by omega), up_ss]
  have a3 : V1 s 3 = y := by rw [e, up_nk _ _ _ (by omega), up_ss]
  have a4 : V1 s 4 = r := by rw [e, up_ss]
  have hC1 : CG V1 ga w := hC.fr f1 (by omega)
  obtain ⟨q, V2, b1, b2, b3, b4⟩ := ask_eq (N := N) (s := s) (lim := 20001) hC1 hd hB hlv hhv hrv (cx := x) (cy := y) (r := r) ⟨by omega, by omega⟩ ⟨by omega, by omega⟩ ⟨by omega, by omega⟩ hlf (by omega) hN
  have e0 : V2 s = V1 s := b2 s (by omega)
  have hF := spFBy_b w x y r lf
  have hbest : (if q = -1 then 20001 else q) = spBest (spFBy w x y r lf) ∧ -1 ≤ q ∧ q ≤ 20000 := by
    unfold spBest
    by_cases z : spFBy w x y r lf = -1
    · rw [if_pos z, b3 z, if_pos rfl]; omega
    · obtain ⟨l1, l2, l3, l4⟩ := b4 z
      have := l1 (by omega)
      rw [if_neg z, if_neg (by omega)]; omega
  rw [← e, a2, a3, a4, b1, k_cs]
  unfold g_X3_seek_55
  rw [k_eq ⟨by omega, by omega⟩ ⟨by omega, by omega⟩]
  have hgo : (if q = -1 then e_lt (sj_up V2 s 5 20001) fun V1 => e_lt (sj_up V1 s 6 0) fun V2 => g_X3_seek_67 N N s ga lf st V2 else e_lt (sj_up V2 s 5 q) fun V1 => e_lt (sj_up V1 s 6 0) fun V2 => g_X3_seek_67 N N s ga lf st V2) = g_X3_seek_67 N N s ga lf st (sj_up (sj_up V2 s 5 (spBest (spFBy w x y r lf))) s 6 0) := by
    rw [← hbest.1]
    split <;> rfl
  rw [hgo]
  have f2 : Fr s (s + 12) V (sj_up (sj_up V2 s 5 (spBest (spFBy w x y r lf))) s 6 0) := ((f1.tr (b2.wide (by omega) (by omega))).up (by omega) (by omega)).up (by omega) (by omega)
  obtain ⟨V3, d1, d2, d3⟩ := seek_loop (N := N) hd hB hlv hhv hrv hlf hN N 60 0 st (x, y, r, spBest (spFBy w x y r lf)) _ (by omega) (by omega) hst ⟨hci, spBest_b w x y r lf⟩ (hC.fr f2 (by omega)) ⟨by rw [up_nk _ _ _ (by omega), up_nk _ _ _ (by omega), e0]; exact a2, by rw [up_nk _ _ _ (by omega), up_nk _ _ _ (by omega), e0]; exact a3, by rw [up_nk _ _ _ (by omega), up_nk _ _ _ (by omega), e0]; exact a4, by rw [up_nk _ _ _ (by omega), up_ss]⟩ (by rw [up_ss]; rfl)
  exact ⟨V3, d1, f2.tr d2, d3⟩
end Boxes
