/-! the reference lays its row aside, and takes it back -/
section Aside
variable {V : sj_VV} {a : Nat} {w : sj_R} {N : Nat}
/-- rows that agree below a place -/
theorem m_aside_loop : ∀ (m c : Nat) (V : sj_VV), c ≤ 390 → 390 - c < m → (∀ d, d < c → V (a + 2) d = V (a + 1) d) → ∃ V', g_X9_laysAside_2 N m a c V = some ((), V') ∧ (∀ z, z ≠ a + 2 → V' z = V z) ∧ ∀ d, d < 390 → V' (a + 2) d = V (a + 1) d
  | 0, _, _, _, h, _ => absurd h (by omega)
  | m + 1, c, V, h1, h2, hb => by
    unfold g_X9_laysAside_2 g_X9_laysAside_2_b
    by_cases hc : c = 390
    · subst hc
      rw [k_leT (by omega) ⟨by omega, by omega⟩ ⟨by omega, by omega⟩]
      exact ⟨V, rfl, fun _ _ => rfl, hb⟩
    · rw [k_leF (by omega) ⟨by omega, by omega⟩ ⟨by omega, by omega⟩, k_ix (by omega) (by omega), k_ix (by omega) (by omega), k_lt, k_lt, tn0]
      have e1 : sj_up V (a + 2) c (V (a + 1) c) (a + 1) = V (a + 1) := up_row _ _ _ (by omega)
      obtain ⟨V2, r1, r2, r3⟩ := m_aside_loop m (c + 1) (sj_up V (a + 2) c (V (a + 1) c)) (by omega) (by omega) (fun d hd => by
        rw [e1]
        by_cases z : d = c
        · subst z; rw [up_ss]
        · rw [up_nk _ _ _ z]; exact hb d (by omega))
      refine ⟨V2, r1, fun z hz => (r2 z hz).trans (up_row _ _ _ hz), fun d hd => ?_⟩
      rw [r3 d hd, e1]
theorem m_laysAside (hN : 1000 ≤ N) : ∃ V', g_X9_laysAside N a V = some ((), V') ∧ (∀ z, z ≠ a + 2 → V' z = V z) ∧ ∀ d, d < 390 → V' (a + 2) d = V (a + 1) d := by
  unfold g_X9_laysAside
  exact m_aside_loop N 0 V (by omega) (by omega) (fun d hd => by omega)
theorem m_back_loop : ∀ (m c : Nat) (V : sj_VV), c ≤ 390 → 390 - c < m → (∀ d, d < c → V (a + 1) d = V (a + 2) d) → ∃ V', g_X9_comesBack_2 N m a c V = some ((), V') ∧ (∀ z, z ≠ a + 1 → V' z = V z) ∧ (∀ d, d < 390 → V' (a + 1) d = V (a + 2) d) ∧ ∀ d, 390 ≤ d → V' (a + 1) d = V (a + 1) d
  | 0, _, _, _, h, _ => absurd h (by omega)
  | m + 1, c, V, h1, h2, hb => by
    unfold g_X9_comesBack_2 g_X9_comesBack_2_b
    by_cases hc : c = 390
    · subst hc
      rw [k_leT (by omega) ⟨by omega, by omega⟩ ⟨by omega, by omega⟩]
      exact ⟨V, rfl, fun _ _ => rfl, hb, fun _ _ => rfl⟩
    · rw [k_leF (by omega) ⟨by omega, by omega⟩ ⟨by omega, by omega⟩, k_ix (by omega) (by omega), k_ix (by omega) (by omega), k_lt, k_lt, tn0]
      have e1 : sj_up V (a + 1) c (V (a + 2) c) (a + 2) = V (a + 2) := up_row _ _ _ (by omega)
      obtain ⟨V2, r1, r2, r3, r4⟩ := m_back_loop m (c + 1) (sj_up V (a + 1) c (V (a + 2) c)) (by omega) (by omega) (fun d hd => by
        rw [e1]
        by_cases z : d = c
        · subst z; rw [up_ss]
        · rw [up_nk _ _ _ z]; exact hb d (by omega))
      refine ⟨V2, r1, fun z hz => (r2 z hz).trans (up_row _ _ _ hz), fun d hd => ?_, fun d hd => ?_⟩
      · rw [r3 d hd, e1]
      · rw [r4 d hd, up_nk _ _ _ (by omega)]
theorem m_comesBack (hN : 1000 ≤ N) : ∃ V', g_X9_comesBack N a V = some ((), V') ∧ (∀ z, z ≠ a + 1 → V' z = V z) ∧ (∀ d, d < 390 → V' (a + 1) d = V (a + 2) d) ∧ ∀ d, 390 ≤ d → V' (a + 1) d = V (a + 1) d := by
  unfold g_X9_comesBack
  exact m_back_loop N 0 V (by omega) (by omega) (fun d hd => by omega)
end Aside
