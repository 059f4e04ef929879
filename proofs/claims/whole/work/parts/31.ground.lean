/-! a Ground of the class holds a row -/
def CG (V : sj_VV) (a : Nat) (w : sj_R) : Prop := (V a 0 = w 0 ∧ V a 1 = w 1 ∧ V a 2 = w 2) ∧ (∀ c, c < 41 → V (a + 1) c = w (3 + c) ∧ V (a + 2) c = w (44 + c) ∧ V (a + 3) c = w (85 + c) ∧ V (a + 4) c = w (126 + c)) ∧ (∀ i, i < 123 → V (a + 5) i = w (167 + i)) ∧ (∀ l, l < 4 → V (a + 6) l = w (290 + 3 * l) ∧ V (a + 7) l = w (291 + 3 * l) ∧ V (a + 8) l = w (292 + 3 * l)) ∧ ∀ i, i < 6 → V (a + 11) i = w (304 + 3 * i) ∧ (0 < w (304 + 3 * i) → V (a + 9) i = w (302 + 3 * i) ∧ V (a + 10) i = w (303 + 3 * i))
/-- a Slip of the class: from f to t -/
def SL (V : sj_VV) (a : Nat) (f t : Nat) (lf : Int) (bs : Nat → Int) : Prop := V a 1 = f ∧ V a 2 = t ∧ V a 3 = lf ∧ ∀ c, f ≤ c → c ≤ t → V (a + 1) c = bs c
theorem topPlace_eq (N : Nat) (l c : Int) (V : sj_VV) : g_X8_topPlace N l c V = some ((l - 1) * 41 + c, V) := rfl
section GroundReads
variable {V : sj_VV} {a : Nat} {w : sj_R} {lv hv rv : Int} {N : Nat}
theorem topAt_loop (hC : CG V a w) (hB : WB lv hv rv w) {c : Nat} (hc : c < 41) : ∀ (n l j : Nat), j ≤ l → l < 4 → l - j < n → g_X0_topAt_10 N n a l c (spTop w j c) (j + 1) V = some (spTop w l c, V)
  | 0, _, _, _, _, h => absurd h (by omega)
  | n + 1, l, j, h1, h2, h3 => by
    unfold g_X0_topAt_10 g_X0_topAt_10_b
    by_cases hj : j = l
    · subst hj
      rw [k_ltT (by omega) ⟨by omega, by omega⟩ ⟨by omega, by omega⟩]
    · have hb := spTop_100 hB hc (l := j) (by omega)
      have hi := hB.2.2.2.2.1 (41 * j + c) (by omega)
      have hv := hC.2.2.1 (41 * j + c) (by omega)
      have e1 : (((j : Int) + 1 - 1) * 41 + c).toNat = 41 * j + c := by omega
      rw [k_ltF (by omega) ⟨by omega, by omega⟩ ⟨by omega, by omega⟩, topPlace_eq, k_cs, k_ix (by omega) (by omega), e1, hv, k_min ⟨by omega, by omega⟩ ⟨by omega, by omega⟩, k_lt]
      have ih := topAt_loop hC hB hc n l (j + 1) (by omega) h2 (by omega)
      rw [spTop] at ih
      rw [← Nat.add_assoc]
      exact ih
theorem topAt_eq (hC : CG V a w) (hB : WB lv hv rv w) {c l : Nat} (hc : c < 41) (hl : l < 4) (hN : 5 ≤ N) : g_X0_topAt N a l c V = some (spTop w l c, V) := by
  unfold g_X0_topAt
  rw [k_ix (by omega) (by omega), k_lt, tn0, (hC.2.1 c hc).1]
  exact topAt_loop hC hB hc N l 0 (by omega) hl (by omega)
end GroundReads
