/-! roots, and what a circle cuts -/
def isRoot (v r : Int) : Prop := 0 ≤ r ∧ r * r ≤ v ∧ v < (r + 1) * (r + 1)
theorem isRoot_1 {v r s : Int} (h : isRoot v r) (h2 : isRoot v s) : r = s := by
  obtain ⟨a1, a2, a3⟩ := h
  obtain ⟨b1, b2, b3⟩ := h2
  rcases Int.lt_trichotomy r s with h | h | h
  · have := (mul_b (x := r + 1) (y := r + 1) (X := s) (Y := s) (by omega) (by omega) (by omega) (by omega)).2
    omega
  · exact h
  · have := (mul_b (x := s + 1) (y := s + 1) (X := r) (Y := r) (by omega) (by omega) (by omega) (by omega)).2
    omega
def spRt (v : Int) : Nat → Int → Int
  | 0, r => r
  | n + 1, r => if v < (r + 1) * (r + 1) then r else spRt v n (r + 1)
def spRoot (v : Int) : Int := spRt v 600 0
theorem sq_500 {r : Int} (h0 : 0 ≤ r) (h : r * r ≤ 250000) : r ≤ 500 := by
  rcases Int.lt_or_le 500 r with z | z
  · have := (mul_b (x := 501) (y := 501) (X := r) (Y := r) (by omega) (by omega) (by omega) (by omega)).2
    omega
  · exact z
section Roots
variable {V : sj_VV} {N : Nat} {v : Int}
theorem m_root_loop (hv : v ≤ 250000) : ∀ (m n : Nat) (r : Int), n < m → 0 ≤ r → 501 - r ≤ n → r * r ≤ v → g_X9_root_2 N m v r V = some (spRt v n r, V) ∧ isRoot v (spRt v n r)
  | 0, _, _, h, _, _, _ => absurd h (by omega)
  | m + 1, 0, r, _, h0, h1, h2 => by have := sq_500 h0 (by omega); omega
  | m + 1, n + 1, r, h, h0, h1, h2 => by
    have h5 := sq_500 h0 (by omega)
    have hq := mul_b (x := r + 1) (y := r + 1) (X := 501) (Y := 501) (by omega) (by omega) (by omega) (by omega)
    have hz := mul_b (x := r) (y := r) (X := 501) (Y := 501) (by omega) (by omega) (by omega) (by omega)
    unfold g_X9_root_2 g_X9_root_2_b
    rw [k_ltc ⟨by omega, by omega⟩ ⟨by omega, by omega⟩, spRt]
    by_cases hc : v < (r + 1) * (r + 1)
    · rw [if_pos hc, if_pos hc]
      exact ⟨rfl, h0, h2, hc⟩
    · rw [if_neg hc, if_neg hc, k_lt]
      exact m_root_loop hv m n (r + 1) (by omega) (by omega) (by omega) (by omega)
theorem m_root (h0 : 0 ≤ v) (hv : v ≤ 250000) (hN : 1000 ≤ N) : g_X9_root N v V = some (spRoot v, V) ∧ isRoot v (spRoot v) := by
  unfold g_X9_root spRoot
  have := m_root_loop (V := V) (N := N) hv N 600 0 (by omega) (by omega) (by omega) (by omega)
  exact this
theorem spRoot_b (h0 : 0 ≤ v) (hv : v ≤ 250000) : isRoot v (spRoot v) ∧ 0 ≤ spRoot v ∧ spRoot v ≤ 500 := by
  have h := (m_root (V := fun _ _ => 0) (N := 1000) h0 hv (by omega)).2
  exact ⟨h, h.1, sq_500 h.1 (by have := h.2.1; omega)⟩
theorem rootOf_loop (h0 : 0 ≤ v) (hv : v ≤ 250000) : ∀ (j m : Nat) (r : Int), j + 1 < m → 0 ≤ r → r + 2 ^ j * 2 ≤ 512 → r * r ≤ v → v < (r + 2 ^ j * 2) * (r + 2 ^ j * 2) → ∃ s, g_X8_rootOf_6 N m v r (2 ^ j) V = some (s, V) ∧ isRoot v s
  | j, 0, _, h, _, _, _, _ => absurd h (by omega)
  | j, m + 1, r, h, h1, h2, h3, h4 => by
    have hp : (1 : Int) ≤ 2 ^ j := by have : (0 : Int) < 2 ^ j := Int.pow_pos (by omega); omega
    have hq := mul_b (x := r + 2 ^ j) (y := r + 2 ^ j) (X := 511) (Y := 511) (by omega) (by omega) (by omega) (by omega)
    unfold g_X8_rootOf_6 g_X8_rootOf_6_b
    rw [k_leF (by omega) ⟨by omega, by omega⟩ ⟨by omega, by omega⟩, k_lt, k_ltc ⟨by omega, by omega⟩ ⟨by omega, by omega⟩]
    unfold g_X8_rootOf_23
    rw [k_dI ⟨by omega, by omega⟩ ⟨by omega, by omega⟩ (by omega), k_dI ⟨by omega, by omega⟩ ⟨by omega, by omega⟩ (by omega), Int.tdiv_eq_ediv_of_nonneg (by omega)]
    obtain ⟨r2, hr2, g1, g2, g3, g4⟩ : ∃ r2, (if v < (r + 2 ^ j) * (r + 2 ^ j) then g_X8_rootOf_6 N m v r (2 ^ j / 2) V else g_X8_rootOf_6 N m v (r + 2 ^ j) (2 ^ j / 2) V) = g_X8_rootOf_6 N m v r2 (2 ^ j / 2) V ∧ 0 ≤ r2 ∧ r2 + 2 ^ j ≤ 512 ∧ r2 * r2 ≤ v ∧ v < (r2 + 2 ^ j) * (r2 + 2 ^ j) := by
      by_cases hc : v < (r + 2 ^ j) * (r + 2 ^ j)
      · exact ⟨r, if_pos hc, h1, by omega, h3, hc⟩
      · refine ⟨r + 2 ^ j, if_neg hc, by omega, by omega, by omega, ?_⟩
        rw [show r + 2 ^ j + 2 ^ j = r + 2 ^ j * 2 by omega]
        exact h4
    rw [hr2]
    cases j with
    | zero =>
      cases m with
      | zero => omega
      | succ m =>
        refine ⟨r2, ?_, g1, g3, by simpa using g4⟩
        show g_X8_rootOf_6_b N (g_X8_rootOf_6 N m) v r2 (2 ^ 0 / 2) V = _
        unfold g_X8_rootOf_6_b
        exact k_leT (by decide) (by decide) (by decide)
    | succ j =>
      rw [Int.pow_succ] at g2 g4 ⊢
      rw [show (2 ^ j * 2 : Int) / 2 = 2 ^ j by omega]
      exact rootOf_loop h0 hv j m r2 (by omega) g1 g2 g3 g4
theorem rootOf_eq (h0 : 0 ≤ v) (hv : v ≤ 250000) (hN : 1000 ≤ N) : g_X8_rootOf N v V = some (spRoot v, V) := by
  unfold g_X8_rootOf
  obtain ⟨s, h1, h2⟩ := rootOf_loop (V := V) (N := N) h0 hv 8 N 0 (by omega) (by omega) (by omega) (by omega) (by omega)
  rw [isRoot_1 h2 (spRoot_b h0 hv).1] at h1
  exact h1
end Roots
/-- a circle that may be asked for -/
abbrev spCirc (cx cy r : Int) : Prop := (-50 ≤ cx ∧ cx ≤ 450) ∧ (-50 ≤ cy ∧ cy ≤ 450) ∧ 1 ≤ r ∧ r ≤ 500
theorem isCircle_eq {N : Nat} {V : sj_VV} {cx cy r : Int} (h1 : sj_i32 cx) (h2 : sj_i32 cy) (h3 : sj_i32 r) : g_X8_isCircle N cx cy r V = some (if spCirc cx cy r then 1 else 0, V) := by
  unfold g_X8_isCircle spCirc
  rw [k_ltc h1 ⟨by omega, by omega⟩, k_ltc ⟨by omega, by omega⟩ h1, k_ltc h2 ⟨by omega, by omega⟩, k_ltc ⟨by omega, by omega⟩ h2, k_ltc h3 ⟨by omega, by omega⟩, k_ltc ⟨by omega, by omega⟩ h3, k_zs (Or.inl rfl), k_zs (Or.inr rfl)]
  repeat' split
  all_goals first | rfl | (exfalso; omega)
theorem sj_i64_of {x : Int} (h : sj_i32 x) : sj_i64 x := by unfold sj_i32 at h; unfold sj_i64; omega
theorem m_isCircle {N : Nat} {V : sj_VV} {cx cy r : Int} (h1 : sj_i32 cx) (h2 : sj_i32 cy) (h3 : sj_i32 r) : g_X9_isCircle N cx cy r V = some (if spCirc cx cy r then 1 else 0, V) := by
  unfold g_X9_isCircle spCirc
  rw [k_wid h1, m_isIn (sj_i64_of h1) ⟨by omega, by omega⟩ ⟨by omega, by omega⟩, k_cs]
  by_cases c1 : -50 ≤ cx ∧ cx ≤ 450
  · rw [if_pos c1, k_eqF (by omega) ⟨by omega, by omega⟩ ⟨by omega, by omega⟩, k_wid h2, m_isIn (sj_i64_of h2) ⟨by omega, by omega⟩ ⟨by omega, by omega⟩, k_cs]
    by_cases c2 : -50 ≤ cy ∧ cy ≤ 450
    · rw [if_pos c2, k_eqF (by omega) ⟨by omega, by omega⟩ ⟨by omega, by omega⟩, k_wid h3, m_isIn (sj_i64_of h3) ⟨by omega, by omega⟩ ⟨by omega, by omega⟩, k_cs]
      by_cases c3 : 1 ≤ r ∧ r ≤ 500
      · rw [if_pos c3, k_eqF (by omega) ⟨by omega, by omega⟩ ⟨by omega, by omega⟩, k_zs (Or.inr rfl), if_pos ⟨c1, c2, c3⟩]
      · rw [if_neg c3, k_eqT rfl, k_zs (Or.inl rfl), if_neg (fun z => c3 z.2.2)]
    · rw [if_neg c2, k_eqT rfl, k_zs (Or.inl rfl), if_neg (fun z => c2 z.2.1)]
  · rw [if_neg c1, k_eqT rfl, k_zs (Or.inl rfl), if_neg (fun z => c1 z.1)]
