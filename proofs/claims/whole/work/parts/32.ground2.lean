section GroundReads2
variable {V : sj_VV} {a : Nat} {w : sj_R} {lv hv rv : Int} {N : Nat}
/-- what is still to come of the soil from layer l on -/
def spRest (w : sj_R) (c : Nat) (b : Int) : Nat → Int
  | 0 => spSoil w c b
  | 1 => w 293 * spThick w 1 c b + w 296 * spThick w 2 c b + w 299 * spThick w 3 c b
  | 2 => w 296 * spThick w 2 c b + w 299 * spThick w 3 c b
  | 3 => w 299 * spThick w 3 c b
  | _ => 0
theorem spThick_0 {w : sj_R} {l c : Nat} {b : Int} (h : spTop w l c ≤ b) : spThick w l c b = 0 := by
  unfold spThick
  have := spTop_le w l c
  split <;> omega
theorem spRest_0 {w : sj_R} {c : Nat} {b : Int} : ∀ l, spTop w l c ≤ b → spRest w c b l = 0
  | 0, h => by
    have h1 : spTop w 1 c ≤ spTop w 0 c := spTop_le w 0 c; have h2 : spTop w 2 c ≤ spTop w 1 c := spTop_le w 1 c; have h3 : spTop w 3 c ≤ spTop w 2 c := spTop_le w 2 c
    rw [spRest, spSoil, spThick_0 h, spThick_0 (l := 1) (by omega), spThick_0 (l := 2) (by omega), spThick_0 (l := 3) (by omega)]; simp
  | 1, h => by
    have h2 : spTop w 2 c ≤ spTop w 1 c := spTop_le w 1 c; have h3 : spTop w 3 c ≤ spTop w 2 c := spTop_le w 2 c
    rw [spRest, spThick_0 h, spThick_0 (l := 2) (by omega), spThick_0 (l := 3) (by omega)]; simp
  | 2, h => by
    have h3 : spTop w 3 c ≤ spTop w 2 c := spTop_le w 2 c
    rw [spRest, spThick_0 h, spThick_0 (l := 3) (by omega)]; simp
  | 3, h => by rw [spRest, spThick_0 h]; simp
  | n + 4, _ => rfl
theorem spRest_s {w : sj_R} {c : Nat} {b : Int} : ∀ l, l < 4 → spRest w c b l = w (290 + 3 * l) * spThick w l c b + spRest w c b (l + 1)
  | 0, _ => by simp [spRest, spSoil]; omega
  | 1, _ => by simp [spRest]; omega
  | 2, _ => by simp [spRest]
  | 3, _ => by simp [spRest]
theorem spThick_b {lv hv rv : Int} {w : sj_R} (h : WB lv hv rv w) {c l : Nat} {b : Int} (hc : c < 41) (hl : l < 4) (hb : 0 ≤ b) : 0 ≤ spThick w l c b ∧ spThick w l c b ≤ 100 := by
  have h1 := spTop_100 h hc hl
  have h2 := spTop_le w l c
  unfold spThick
  split
  · omega
  · have h3 := spTop_100 h hc (l := l + 1) (by omega)
    omega
theorem weightOn_loop (hC : CG V a w) (hB : WB lv hv rv w) {c : Nat} (hc : c < 41) {b : Int} (hb : 0 ≤ b ∧ b ≤ 100) : ∀ (n l : Nat) (acc : Int), l ≤ 4 → 4 - l < n → g_X0_weightOn_18 N n a c b acc (if l < 4 then spTop w l c else b) l V = some (acc + spRest w c b l, V)
  | 0, _, _, _, h => absurd h (by omega)
  | n + 1, l, acc, h1, h2 => by
    unfold g_X0_weightOn_18 g_X0_weightOn_18_b
    by_cases h4 : l = 4
    · subst h4
      rw [k_leT (by omega) ⟨by omega, by omega⟩ ⟨by omega, by omega⟩]
      show some (acc, V) = some (acc + 0, V)
      rw [Int.add_zero]
    · have hl : l < 4 := by omega
      have ht := spTop_100 hB hc hl
      rw [if_pos hl, k_leF (by omega) ⟨by omega, by omega⟩ ⟨by omega, by omega⟩]
      by_cases h5 : spTop w l c ≤ b
      · rw [k_leT h5 ⟨by omega, by omega⟩ ⟨by omega, by omega⟩, spRest_0 l h5, Int.add_zero]
      · rw [k_leF h5 ⟨by omega, by omega⟩ ⟨by omega, by omega⟩]
        have hs := (hC.2.2.2.1 l hl).1
        have ih := weightOn_loop hC hB hc hb n (l + 1) (acc + w (290 + 3 * l) * spThick w l c b) (by omega) (by omega)
        rw [spRest_s l hl, ← Int.add_assoc]
        by_cases h6 : l = 3
        · subst h6
          rw [k_leT (by omega) ⟨by omega, by omega⟩ ⟨by omega, by omega⟩]
          unfold g_X0_weightOn_60
          rw [k_ix (by omega) (by omega), k_max ⟨by omega, by omega⟩ ⟨by omega, by omega⟩, k_lt, k_lt, tn0, hs]
          have e : spTop w 3 c - max b b = spThick w 3 c b := by unfold spThick; rw [if_pos rfl]; omega
          rw [e]
          rw [if_neg (by omega)] at ih
          exact ih
        · have ht2 := spTop_100 hB hc (l := l + 1) (by omega)
          have hi := hB.2.2.2.2.1 (41 * l + c) (by omega)
          have hv := hC.2.2.1 (41 * l + c) (by omega)
          have e1 : (((l : Int) + 1 - 1) * 41 + c).toNat = 41 * l + c := by omega
          rw [k_leF (by omega) ⟨by omega, by omega⟩ ⟨by omega, by omega⟩, topPlace_eq, k_cs, k_ix (by omega) (by omega), e1, hv, k_min ⟨by omega, by omega⟩ ⟨by omega, by omega⟩]
          have e2 : min (spTop w l c) (w (167 + (41 * l + c))) = spTop w (l + 1) c := by rw [spTop, ← Nat.add_assoc]
          rw [e2]
          unfold g_X0_weightOn_60
          rw [k_ix (by omega) (by omega), k_max ⟨by omega, by omega⟩ ⟨by omega, by omega⟩, k_lt, k_lt, tn0, hs]
          have e : spTop w l c - max (spTop w (l + 1) c) b = spThick w l c b := by unfold spThick; rw [if_neg h6]; have := spTop_le w l c; omega
          rw [e]
          rw [if_pos (by omega)] at ih
          exact ih
theorem weightOn_eq (hC : CG V a w) (hB : WB lv hv rv w) {c : Nat} (hc : c < 41) {b : Int} (hb : 0 ≤ b ∧ b ≤ 100) (hN : 6 ≤ N) : g_X0_weightOn N a c b V = some (spOn w c b, V) := by
  unfold g_X0_weightOn
  have h := hC.2.1 c hc
  rw [k_ix (by omega) (by omega), k_lt, k_ix (by omega) (by omega), k_lt, tn0, h.1, h.2.2.2]
  have := weightOn_loop (N := N) hC hB hc hb N 0 (w (126 + c)) (by omega) (by omega)
  rw [if_pos (by omega)] at this
  exact this
theorem headOn_eq (hC : CG V a w) (hB : WB lv hv rv w) {c : Nat} (hc : c < 41) {b : Int} (hb : 0 ≤ b ∧ b ≤ 100) : g_X0_headOn N a c b V = some (spHead w c b, V) := by
  unfold g_X0_headOn
  have h := hC.2.1 c hc
  have hw := hB.2.2.2.1 c hc
  rw [k_ix (by omega) (by omega), k_ix (by omega) (by omega), tn0, h.1, h.2.2.1, k_min ⟨by omega, by omega⟩ ⟨by omega, by omega⟩, k_max ⟨by omega, by omega⟩ ⟨by omega, by omega⟩]
  rfl
theorem waterAt_eq (hC : CG V a w) (hB : WB lv hv rv w) {c : Nat} (hc : c < 41) : g_X0_waterAt N a c V = some (spWater w c, V) := by
  unfold g_X0_waterAt
  have h := hC.2.1 c hc
  have hw := hB.2.2.2.1 c hc
  rw [k_ix (by omega) (by omega), k_ix (by omega) (by omega), tn0, h.1, h.2.2.1, k_min ⟨by omega, by omega⟩ ⟨by omega, by omega⟩]
  rfl
theorem layerUnder_loop (hC : CG V a w) (hB : WB lv hv rv w) {x : Nat} (hx : x + 1 < 41) {b : Int} (hb : 0 ≤ b ∧ b ≤ 200) (hN : 5 ≤ N) : ∀ (n l : Nat), l < 4 → l < n → (∀ j, l < j → j < 4 → ¬ spTop w j x + spTop w j (x + 1) > b) → g_X0_layerUnder_2 N n a x b l V = some ((spLayer w x b : Int), V)
  | 0, _, _, h, _ => absurd h (by omega)
  | n + 1, l, hl, hn, hh => by
    unfold g_X0_layerUnder_2 g_X0_layerUnder_2_b
    by_cases h0 : l = 0
    · subst h0
      rw [k_leT (by omega) ⟨by omega, by omega⟩ ⟨by omega, by omega⟩]
      have h1 := hh 1 (by omega) (by omega); have h2 := hh 2 (by omega) (by omega); have h3 := hh 3 (by omega) (by omega)
      unfold spLayer
      rw [if_neg h3, if_neg h2, if_neg h1]; rfl
    · have t1 := spTop_100 hB (c := x) (by omega) hl
      have t2 := spTop_100 hB hx hl
      have e1 := topAt_eq (N := N) hC hB (c := x) (l := l) (by omega) hl hN
      have e2 := topAt_eq (N := N) hC hB (c := x + 1) (l := l) hx hl hN
      rw [k_leF (by omega) ⟨by omega, by omega⟩ ⟨by omega, by omega⟩, e1, k_cs, show ((x : Int) + 1) = ((x + 1 : Nat) : Int) by omega, e2, k_cs, k_lec ⟨by omega, by omega⟩ ⟨by omega, by omega⟩]
      by_cases h1 : spTop w l x + spTop w l (x + 1) ≤ b
      · rw [if_pos h1, k_lt, show ((l : Int) + -1) = ((l - 1 : Nat) : Int) by omega]
        refine layerUnder_loop hC hB hx hb hN n (l - 1) (by omega) (by omega) (fun j h2 h3 => ?_)
        by_cases hj : j = l
        · subst hj; omega
        · exact hh j (by omega) h3
      · rw [if_neg h1]
        unfold spLayer
        rcases (show l = 1 ∨ l = 2 ∨ l = 3 by omega) with rfl | rfl | rfl
        · rw [if_neg (hh 3 (by omega) (by omega)), if_neg (hh 2 (by omega) (by omega)), if_pos (by omega)]
        · rw [if_neg (hh 3 (by omega) (by omega)), if_pos (by omega)]
        · rw [if_pos (by omega)]
theorem layerUnder_eq (hC : CG V a w) (hB : WB lv hv rv w) {x : Nat} (hx : x + 1 < 41) {b : Int} (hb : 0 ≤ b ∧ b ≤ 200) (hN : 5 ≤ N) : g_X0_layerUnder N a x b V = some ((spLayer w x b : Int), V) := by
  unfold g_X0_layerUnder
  exact layerUnder_loop hC hB hx hb hN N 3 (by omega) (by omega) (fun j h1 h2 => by omega)
theorem hasColumn_eq (h0 : sj_i32 (V a 0)) {c : Int} (hc : sj_i32 c) : g_X0_hasColumn N a c V = some (if 0 ≤ c ∧ c ≤ V a 0 then 1 else 0, V) := by
  unfold g_X0_hasColumn
  rw [k_ltc hc ⟨by omega, by omega⟩]
  by_cases h1 : c < 0
  · rw [if_pos h1, if_neg (by omega), k_zs (Or.inl rfl)]
  · rw [if_neg h1, k_ltc h0 hc]
    by_cases h2 : V a 0 < c
    · rw [if_pos h2, if_neg (by omega), k_zs (Or.inl rfl)]
    · rw [if_neg h2, if_pos (by omega), k_zs (Or.inr rfl)]
end GroundReads2
