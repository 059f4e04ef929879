/-! POINTS -/
theorem xor_nn {x y : Int} (hx : sj_i32 x) (hy : sj_i32 y) : 0 ≤ sj_xor x y ↔ (x < 0 ↔ y < 0) := by
  have key : ∀ a b : Int32, 0 ≤ (a ^^^ b).toInt ↔ (a.toInt < 0 ↔ b.toInt < 0) := by
    intro a b
    have h : (a ^^^ b).toBitVec.msb = (a.toBitVec.msb ^^ b.toBitVec.msb) := by rw [Int32.toBitVec_xor, BitVec.msb_xor]
    rw [BitVec.msb_eq_toInt, BitVec.msb_eq_toInt, BitVec.msb_eq_toInt] at h
    have e : ∀ c : Int32, c.toBitVec.toInt = c.toInt := fun _ => rfl
    rw [e, e, e] at h
    by_cases h1 : a.toInt < 0 <;> by_cases h2 : b.toInt < 0 <;> by_cases h3 : (a ^^^ b).toInt < 0 <;> simp [h1, h2, h3] at h ⊢ <;> omega
  have h := key (Int32.ofInt x) (Int32.ofInt y)
  rw [sj_t32 hx, sj_t32 hy] at h
  exact h
theorem dv_u {x y q s : Int} (hy : 0 < y) (h1 : s + y * q = x) (h2 : 0 ≤ s) (h3 : s < y) : x / y = q := ((Int.ediv_emod_unique hy).mpr ⟨h1, h2, h3⟩).1
section Points
variable {V : sj_VV} {a b N : Nat} {w : sj_R} {lf x y : Int}
theorem floorI (hx : -10000 ≤ x ∧ x ≤ 10000) (hy : 1 ≤ y ∧ y ≤ 100) : g_J9_floorDiv_7cf53 N x y V = some (x / y, V) := by
  unfold g_J9_floorDiv_7cf53
  have hxx := xor_nn (x := x) (y := y) ⟨by omega, by omega⟩ ⟨by omega, by omega⟩
  have hxr : sj_i32 (sj_xor x y) := by
    unfold sj_xor
    have h1 := Int32.toInt_lt (Int32.ofInt x ^^^ Int32.ofInt y)
    have h2 := Int32.le_toInt (Int32.ofInt x ^^^ Int32.ofInt y)
    exact ⟨by omega, by omega⟩
  rw [k_dI ⟨by omega, by omega⟩ ⟨by omega, by omega⟩ (by omega), k_lec ⟨by omega, by omega⟩ hxr]
  by_cases h0 : 0 ≤ x
  · rw [if_pos (hxx.mpr (by omega)), Int.tdiv_eq_ediv_of_nonneg h0]
  · rw [if_neg (fun z => by have := hxx.mp z; omega)]
    have et : x.tdiv y = -((-x) / y) := by
      rw [show x = -(-x) by omega, Int.neg_tdiv, Int.tdiv_eq_ediv_of_nonneg (by omega), Int.neg_neg]
    have hm := Int.mul_ediv_add_emod (-x) y
    have m1 := Int.emod_nonneg (-x) (show y ≠ 0 by omega)
    have m2 := Int.emod_lt_of_pos (-x) (show 0 < y by omega)
    have hq0 : 0 ≤ (-x) / y := Int.ediv_nonneg (by omega) (by omega)
    have hq1 : (-x) / y ≤ 10000 := Int.le_trans (Int.ediv_le_self y (by omega)) (by omega)
    have hq2 := mul_b (x := y) (y := (-x) / y) (X := 100) (Y := 10000) (by omega) (by omega) hq0 hq1
    have hc : -((-x) / y) * y = -(y * ((-x) / y)) := by rw [Int.neg_mul, Int.mul_comm]
    rw [et, hc, k_eq ⟨by omega, by omega⟩ ⟨by omega, by omega⟩]
    by_cases h1 : -(y * ((-x) / y)) = x
    · rw [if_pos h1, dv_u (x := x) (y := y) (q := -((-x) / y)) (s := 0) (by omega) (by rw [Int.mul_neg]; omega) (by omega) (by omega)]
    · rw [if_neg h1, dv_u (x := x) (y := y) (q := -((-x) / y) - 1) (s := y - (-x) % y) (by omega) (by rw [Int.mul_sub, Int.mul_neg]; omega) (by omega) (by omega)]
theorem m_downI (hx : -10000 ≤ x ∧ x ≤ 10000) (hy : 1 ≤ y ∧ y ≤ 100) : g_X9_downwards N x y V = some (x / y, V) := by
  unfold g_X9_downwards
  rw [k_lltc ⟨by omega, by omega⟩ ⟨by omega, by omega⟩]
  by_cases h : x < 0
  · have hm := Int.mul_ediv_add_emod (y - 1 - x) y
    have m1 := Int.emod_nonneg (y - 1 - x) (show y ≠ 0 by omega)
    have m2 := Int.emod_lt_of_pos (y - 1 - x) (show 0 < y by omega)
    rw [if_pos h, k_dJ ⟨by omega, by omega⟩ ⟨by omega, by omega⟩ (by omega), Int.tdiv_eq_ediv_of_nonneg (by omega), dv_u (x := x) (y := y) (q := -((y - 1 - x) / y)) (s := y - 1 - (y - 1 - x) % y) (by omega) (by rw [Int.mul_neg]; omega) (by omega) (by omega)]
  · rw [if_neg h, k_dJ ⟨by omega, by omega⟩ ⟨by omega, by omega⟩ (by omega), Int.tdiv_eq_ediv_of_nonneg (by omega)]
/-- the height on segment i at column c -/
def sgH (w : sj_R) (i c : Nat) : Int := w (377 + i) + (w (377 + (i + 1)) - w (377 + i)) * ((c : Int) - w (365 + i)) / (w (365 + (i + 1)) - w (365 + i))
def sgI (w : sj_R) (c : Nat) : Nat := spSeek (fun i => decide ((c : Int) ≤ w (365 + (i + 1)))) 12 0
def spH (w : sj_R) (c : Nat) : Int := sgH w (sgI w c) c
/-- POINTS of a row: n of them -/
def PT (w : sj_R) (n : Nat) : Prop := w 364 = n ∧ 2 ≤ n ∧ n ≤ 12 ∧ (∀ i, i < n → (0 ≤ w (365 + i) ∧ w (365 + i) ≤ 40) ∧ 0 ≤ w (377 + i) ∧ w (377 + i) ≤ 100) ∧ ∀ i, i + 1 < n → w (365 + i) < w (365 + (i + 1))
theorem PT.mono {n : Nat} (h : PT w n) : ∀ j i, i + j < n → w (365 + i) + j ≤ w (365 + (i + j))
  | 0, i, _ => by rw [Nat.add_zero]; omega
  | j + 1, i, hi => by
    have h1 := PT.mono h j i (by omega)
    have h2 := h.2.2.2.2 (i + j) (by omega)
    rw [show i + (j + 1) = i + j + 1 by omega]
    omega
theorem sgI_eq {n i c : Nat} (h : PT w n) (hi : i + 1 < n) (h1 : w (365 + i) < c ∨ i = 0) (h2 : (c : Int) ≤ w (365 + (i + 1))) : sgI w c = i := by
  obtain ⟨a1, a2, a3, a4⟩ := spSeek_b (fun i => decide ((c : Int) ≤ w (365 + (i + 1)))) 12 0
  have e : spSeek (fun i => decide ((c : Int) ≤ w (365 + (i + 1)))) 12 0 = sgI w c := rfl
  rw [e] at a1 a2 a3 a4
  have hn := h.2.2.1
  rcases Nat.lt_trichotomy (sgI w c) i with z | z | z
  · have q := a4 (by omega)
    simp only [decide_eq_true_eq] at q
    have m := h.mono (i - (sgI w c + 1)) (sgI w c + 1) (by omega)
    rw [show sgI w c + 1 + (i - (sgI w c + 1)) = i by omega] at m
    omega
  · exact z
  · exact absurd (decide_eq_true h2) (a3 i (by omega) z)
theorem sgH_end {n i : Nat} {c : Nat} (h : PT w n) (hi : i + 1 < n) (hc : (c : Int) = w (365 + (i + 1))) : sgH w i c = w (377 + (i + 1)) := by
  have := h.2.2.2.2 i hi
  unfold sgH
  rw [hc, Int.mul_ediv_cancel _ (by omega)]
  omega
theorem sgH_beg {i : Nat} {c : Nat} (hc : (c : Int) = w (365 + i)) : sgH w i c = w (377 + i) := by
  unfold sgH
  rw [hc, Int.sub_self, Int.mul_zero, Int.zero_ediv, Int.add_zero]
/-- on its segment, ends and all, the height is the row's -/
theorem spH_seg {n i c : Nat} (h : PT w n) (hi : i + 1 < n) (h1 : w (365 + i) ≤ c) (h2 : (c : Int) ≤ w (365 + (i + 1))) : spH w c = sgH w i c := by
  unfold spH
  by_cases z : w (365 + i) < c ∨ i = 0
  · rw [sgI_eq h hi z h2]
  · have ec : (c : Int) = w (365 + i) := by omega
    obtain ⟨j, hj⟩ : ∃ j, i = j + 1 := ⟨i - 1, by omega⟩
    subst hj
    have hm := h.2.2.2.2 j (by omega)
    rw [sgI_eq (i := j) h (by omega) (by omega) (by omega), sgH_end h (by omega) ec, sgH_beg ec]
theorem sgH_b {n i c : Nat} (h : PT w n) (hi : i + 1 < n) (h1 : w (365 + i) ≤ c) (h2 : (c : Int) ≤ w (365 + (i + 1))) : (-10000 ≤ (w (377 + (i + 1)) - w (377 + i)) * ((c : Int) - w (365 + i)) ∧ (w (377 + (i + 1)) - w (377 + i)) * ((c : Int) - w (365 + i)) ≤ 10000) ∧ (1 ≤ w (365 + (i + 1)) - w (365 + i) ∧ w (365 + (i + 1)) - w (365 + i) ≤ 100) ∧ -20000 ≤ sgH w i c ∧ sgH w i c ≤ 20000 := by
  obtain ⟨p1, p2, p3, p4, p5⟩ := h
  have q1 := p4 i (by omega)
  have q2 := p4 (i + 1) hi
  have q3 := p5 i hi
  have m := mul_a (x := (c : Int) - w (365 + i)) (y := w (377 + (i + 1)) - w (377 + i)) (X := 40) (Y := 100) (by omega) (by omega) (by omega) (by omega)
  rw [Int.mul_comm ((c : Int) - w (365 + i)) (w (377 + (i + 1)) - w (377 + i))] at m
  refine ⟨⟨by omega, by omega⟩, ⟨by omega, by omega⟩, ?_⟩
  obtain ⟨X, hX⟩ : ∃ X, X = (w (377 + (i + 1)) - w (377 + i)) * ((c : Int) - w (365 + i)) := ⟨_, rfl⟩
  obtain ⟨Y, hY⟩ : ∃ Y, Y = w (365 + (i + 1)) - w (365 + i) := ⟨_, rfl⟩
  unfold sgH
  rw [← hX, ← hY]
  rw [← hX] at m
  have l1 : X / Y ≤ 4000 := Int.ediv_le_of_le_mul (by omega) (by
    have := Int.mul_le_mul_of_nonneg_left (show 1 ≤ Y by omega) (show (0 : Int) ≤ 4000 by omega)
    omega)
  have l2 : -4000 ≤ X / Y := Int.le_ediv_of_mul_le (by omega) (by
    have := Int.mul_le_mul_of_nonneg_left (show 1 ≤ Y by omega) (show (0 : Int) ≤ 4000 by omega)
    rw [Int.neg_mul]
    omega)
  omega
def spAll (P : Nat → Bool) : Nat → Nat → Bool
  | 0, _ => true
  | n + 1, c => if P c = true then spAll P n (c + 1) else false
theorem spAll_T {P : Nat → Bool} : ∀ n c, spAll P n c = true → ∀ d, c ≤ d → d < c + n → P d = true
  | 0, c, _, d, h1, h2 => by omega
  | n + 1, c, h, d, h1, h2 => by
    rw [spAll] at h
    by_cases hp : P c = true
    · rw [if_pos hp] at h
      by_cases z : d = c
      · subst z; exact hp
      · exact spAll_T n (c + 1) h d (by omega) (by omega)
    · rw [if_neg hp] at h
      exact absurd h (by simp)
def spPo (w : sj_R) (c : Nat) : Bool := decide (spH w c < w (3 + c) ∧ w (44 + c) ≤ spH w c)
/-- bases of the POINTS' slip -/
def spPB (w : sj_R) (f t c : Nat) : Int := if c = f ∨ c = t then w (3 + c) else spH w c
end Points
