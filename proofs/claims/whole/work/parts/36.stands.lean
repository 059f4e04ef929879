/-! whether a slip stands, and its factor -/
section Stands
variable {V : sj_VV} {a f t : Nat} {w : sj_R} {lf lv hv rv k : Int} {bs : Nat → Int} {N : Nat}
/-- the first n slices are not fast at k -/
abbrev spNF (w : sj_R) (lf : Int) (bs : Nat → Int) (f : Nat) (k : Int) (n : Nat) : Prop := ∀ j, j < n → 0 < slD w lf (f + j) (bs (f + j)) (bs (f + j + 1)) k
def spR (w : sj_R) (lf : Int) (bs : Nat → Int) (k : Int) (f n : Nat) : Int := spSum (fun x => slR w lf x (bs x) (bs (x + 1)) k) f n
def spU (w : sj_R) (lf : Int) (bs : Nat → Int) (f n : Nat) : Int := spSum (fun x => slU w lf x (bs x) (bs (x + 1))) f n
/-- it stands, pulled by P -/
def spStd (w : sj_R) (f t : Nat) (lf : Int) (bs : Nat → Int) (P k : Int) : Bool := decide (¬ spNF w lf bs f k (t - f) ∨ k * (spU w lf bs f (t - f) - P) ≤ 1000 * spR w lf bs k f (t - f))
theorem spR_b (hB : WB lv hv rv w) (hlv : lv ≤ 1100) (hhv : hv ≤ 700) (hrv : rv ≤ 2250) (hb : BB f t lf bs) (hk : 0 ≤ k ∧ k ≤ 20001) : ∀ n, f + n ≤ t → spNF w lf bs f k n → 0 ≤ spR w lf bs k f n ∧ spR w lf bs k f n ≤ n * 121206060000000000
  | 0, _, _ => by simp [spR, spSum]
  | n + 1, h1, h2 => by
    obtain ⟨b1, b2, b3, b4⟩ := id hb
    have ih := spR_b hB hlv hhv hrv hb hk n (by omega) (fun j hj => h2 j (by omega))
    have := slR_b (lf := lf) hB hlv hhv hrv (x := f + n) (by omega) (b4 (f + n) (by omega) (by omega)) (b4 (f + n + 1) (by omega) (by omega)) hk (h2 n (by omega))
    unfold spR at ih ⊢
    rw [spSum]
    omega
theorem spU_b (hB : WB lv hv rv w) (hlv : lv ≤ 1100) (hb : BB f t lf bs) : ∀ n, f + n ≤ t → -(n * 27300000000) ≤ spU w lf bs f n ∧ spU w lf bs f n ≤ n * 27300000000
  | 0, _ => by simp [spU, spSum]
  | n + 1, h1 => by
    obtain ⟨b1, b2, b3, b4⟩ := id hb
    have ih := spU_b hB hlv hb n (by omega)
    have := slU_b (lf := lf) hB hlv (x := f + n) (by omega) (b4 (f + n) (by omega) (by omega)) (b4 (f + n + 1) (by omega) (by omega))
    unfold spU at ih ⊢
    rw [spSum]
    omega
theorem spPull_b (hB : WB lv hv rv w) {i : Nat} (hi : i < 6) : 0 ≤ spPull w f t bs i ∧ spPull w f t bs i ≤ 10000000 := by
  have h1 := hB.2.1
  have h2 := (hB.2.2.2.2.2.2 i hi).1
  have := mul_b (x := 2000 * w 1) (y := w (304 + 3 * i)) (X := 20000) (Y := 500) (by omega) (by omega) (by omega) (by omega)
  unfold spPull
  split <;> omega
theorem spPulls_b (hB : WB lv hv rv w) : 0 ≤ spPulls w f t bs ∧ spPulls w f t bs ≤ 60000000 := by
  have key : ∀ n, n ≤ 6 → 0 ≤ spSum (spPull w f t bs) 0 n ∧ spSum (spPull w f t bs) 0 n ≤ n * 10000000 := by
    intro n
    induction n with
    | zero => intro _; simp [spSum]
    | succ n ih =>
      intro h
      have h1 := ih (by omega)
      have h2 := spPull_b (f := f) (t := t) (bs := bs) hB (i := n) (by omega)
      rw [spSum, Nat.zero_add]
      omega
  have := key 6 (by omega)
  unfold spPulls
  omega
/-- what 'lack' answers -/
def spLack (w : sj_R) (f t : Nat) (lf : Int) (bs : Nat → Int) (P k : Int) : Int := if spNF w lf bs f k (t - f) then if spR w lf bs k f (t - f) ≤ 1000000000000000 then k * (spU w lf bs f (t - f) - P) - 1000 * spR w lf bs k f (t - f) else 0 else 0
theorem lack_loop (hS : SD V a w f t lf bs) (hB : WB lv hv rv w) (hlv : lv ≤ 1100) (hhv : hv ≤ 700) (hrv : rv ≤ 2250) (hb : BB f t lf bs) {P : Int} (hP : 0 ≤ P ∧ P ≤ 60000000) (hk : 0 ≤ k ∧ k ≤ 20001) : ∀ (m i : Nat), f + i ≤ t → t - (f + i) < m → spNF w lf bs f k i → g_X4_lack_22 N m a k (w 1 * k) (spR w lf bs k f i) (-P + spU w lf bs f i) i V = some (spLack w f t lf bs P k, V)
  | 0, _, _, h, _ => absurd h (by omega)
  | m + 1, i, h1, h2, hn => by
    obtain ⟨b1, b2, b3, b4⟩ := id hb
    unfold g_X4_lack_22 g_X4_lack_22_b
    have hRb := spR_b hB hlv hhv hrv hb hk i h1 hn
    by_cases hi : f + i = t
    · have ei : i = t - f := by omega
      rw [hS.1.1, k_leT (by omega) ⟨by omega, by omega⟩ ⟨by omega, by omega⟩, k_llec ⟨by omega, by omega⟩ ⟨by omega, by omega⟩]
      unfold spLack
      rw [← ei, if_pos hn]
      by_cases hp : spR w lf bs k f i ≤ 1000000000000000
      · rw [if_pos hp, if_pos hp, k_wid ⟨by omega, by omega⟩]
        congr 3
        congr 1
        omega
      · rw [if_neg hp, if_neg hp]
    · have hit : f + i < t := by omega
      have p1 := b4 (f + i) (by omega) (by omega)
      have p2 := b4 (f + i + 1) (by omega) (by omega)
      obtain ⟨s1, s2, s3, s4⟩ := hS.2 i hit
      have hdb := slD_b (x := f + i) (lf := lf) hB hrv p1 p2 hk
      have hgk := slGk_b (x := f + i) (lf := lf) hB hlv hhv hrv (by omega) p1 p2 hk
      have eD : w 1 * k + slRise lf (bs (f + i)) (bs (f + i + 1)) * w (292 + 3 * slY w (f + i) (bs (f + i)) (bs (f + i + 1))) = slD w lf (f + i) (bs (f + i)) (bs (f + i + 1)) k := rfl
      rw [hS.1.1, k_leF (by omega) ⟨by omega, by omega⟩ ⟨by omega, by omega⟩, k_ix (by omega) (by omega), k_lt, tn0, s4, eD, k_lltc ⟨by omega, by omega⟩ ⟨by omega, by omega⟩]
      by_cases hd : 0 < slD w lf (f + i) (bs (f + i)) (bs (f + i + 1)) k
      · rw [if_pos hd, k_ix (by omega) (by omega), k_wid ⟨by omega, by omega⟩, s3, k_dJ ⟨by omega, by omega⟩ ⟨by omega, by omega⟩ (by omega), k_lt, k_ix (by omega) (by omega), k_lt, k_lt, s2, Int.tdiv_eq_ediv_of_nonneg hgk.1]
        have ih := lack_loop hS hB hlv hhv hrv hb hP hk m (i + 1) (by omega) (by omega) (fun j hj => by
          by_cases hji : j = i
          · subst hji; exact hd
          · exact hn j (by omega))
        rw [spR, spSum, spU, spSum, ← Int.add_assoc] at ih
        exact ih
      · rw [if_neg hd]
        unfold spLack
        rw [if_neg (fun z => hd (z i (by omega)))]
theorem lack_eq (hS : SD V a w f t lf bs) (hB : WB lv hv rv w) (hlv : lv ≤ 1100) (hhv : hv ≤ 700) (hrv : rv ≤ 2250) (hb : BB f t lf bs) (hk : 0 ≤ k ∧ k ≤ 20001) (hN : 50 ≤ N) : g_X4_lack N a k V = some (spLack w f t lf bs (spPulls w f t bs) k, V) := by
  unfold g_X4_lack
  have h1 := hB.2.1
  rw [hS.1.2.1, k_wid ⟨by omega, by omega⟩, k_wid ⟨by omega, by omega⟩, k_lt, k_lt, hS.1.2.2.1]
  have := lack_loop (N := N) hS hB hlv hhv hrv hb (spPulls_b hB (f := f) (t := t) (bs := bs)) hk N 0 (by have := hb.1; omega) (by have := hb.2.1; omega) (fun j hj => by omega)
  rw [spU, spSum, Int.add_zero] at this
  exact this
theorem mul_kb {x X : Int} (hk : 0 ≤ k ∧ k ≤ 20001) (h1 : -X ≤ x) (h2 : x ≤ X) : -(20001 * X) ≤ k * x ∧ k * x ≤ 20001 * X := mul_a hk.1 hk.2 h1 h2
theorem spLack_b (hB : WB lv hv rv w) (hlv : lv ≤ 1100) (hhv : hv ≤ 700) (hrv : rv ≤ 2250) (hb : BB f t lf bs) (hk : 0 ≤ k ∧ k ≤ 20001) {P : Int} (hP : 0 ≤ P ∧ P ≤ 1000000000000) : sj_i64 (spLack w f t lf bs P k) ∧ (spLack w f t lf bs P k ≤ 0 ↔ spStd w f t lf bs P k = true) := by
  obtain ⟨b1, b2, b3, b4⟩ := id hb
  have hU := spU_b hB hlv hb (t - f) (by omega)
  have hkU := mul_kb (x := spU w lf bs f (t - f) - P) (X := 2200000000000) hk (by omega) (by omega)
  unfold spLack spStd
  rw [decide_eq_true_iff]
  by_cases hn : spNF w lf bs f k (t - f)
  · rw [if_pos hn]
    have hR := spR_b hB hlv hhv hrv hb hk (t - f) (by omega) hn
    by_cases hp : spR w lf bs k f (t - f) ≤ 1000000000000000
    · rw [if_pos hp]
      refine ⟨⟨by omega, by omega⟩, fun h => Or.inr (by omega), fun h => ?_⟩
      rcases h with h | h
      · exact absurd hn h
      · omega
    · rw [if_neg hp]
      exact ⟨⟨by omega, by omega⟩, fun _ => Or.inr (by omega), fun _ => by omega⟩
  · rw [if_neg hn]
    exact ⟨⟨by omega, by omega⟩, fun _ => Or.inl hn, fun _ => by omega⟩
theorem hold_eq (hS : SD V a w f t lf bs) (hB : WB lv hv rv w) (hlv : lv ≤ 1100) (hhv : hv ≤ 700) (hrv : rv ≤ 2250) (hb : BB f t lf bs) (hk : 0 ≤ k ∧ k ≤ 20001) (hN : 50 ≤ N) : g_X4_hold N a k V = some (if spStd w f t lf bs (spPulls w f t bs) k = true then 1 else 0, V) := by
  unfold g_X4_hold
  have hP := spPulls_b hB (f := f) (t := t) (bs := bs)
  obtain ⟨h1, h2⟩ := spLack_b hB hlv hhv hrv hb hk (P := spPulls w f t bs) ⟨hP.1, by omega⟩
  rw [lack_eq hS hB hlv hhv hrv hb hk hN, k_cs, k_lltc ⟨by omega, by omega⟩ h1]
  by_cases h : spStd w f t lf bs (spPulls w f t bs) k = true
  · rw [if_pos h, if_neg (by have := h2.mpr h; omega), k_zs (Or.inr rfl)]
  · rw [if_neg h, if_pos (by
      rcases Int.lt_or_le 0 (spLack w f t lf bs (spPulls w f t bs) k) with z | z
      · exact z
      · exact absurd (h2.mp z) h), k_zs (Or.inl rfl)]
end Stands
/-- the search by middles -/
def spFac (P : Int → Bool) : Nat → Int → Int → Int
  | 0, lo, _ => lo
  | n + 1, lo, hi => if hi - lo ≤ 1 then lo else if P ((lo + hi) / 2) then spFac P n ((lo + hi) / 2) hi else spFac P n lo ((lo + hi) / 2)
def spFactor (P : Int → Bool) : Int := spFac P 15 0 20001
theorem spFac_ge (P : Int → Bool) : ∀ (n : Nat) (lo hi : Int), lo ≤ hi → lo ≤ spFac P n lo hi ∧ (lo < hi → spFac P n lo hi < hi)
  | 0, lo, hi, h => ⟨Int.le_refl _, fun h => h⟩
  | n + 1, lo, hi, h => by
    rw [spFac]
    split
    · exact ⟨Int.le_refl _, fun h => h⟩
    · split
      · have := spFac_ge P n ((lo + hi) / 2) hi (by omega)
        exact ⟨by omega, fun _ => this.2 (by omega)⟩
      · have := spFac_ge P n lo ((lo + hi) / 2) (by omega)
        exact ⟨this.1, fun _ => by have := this.2 (by omega); omega⟩
