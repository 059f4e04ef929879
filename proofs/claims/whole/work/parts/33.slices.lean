/-! what a block of cells keeps -/
def Fr (lo hi : Nat) (V V' : sj_VV) : Prop := ∀ x, (x < lo ∨ hi ≤ x) → V' x = V x
theorem Fr.rf {lo hi : Nat} {V : sj_VV} : Fr lo hi V V := fun _ _ => rfl
theorem Fr.tr {lo hi : Nat} {V V1 V2 : sj_VV} (h : Fr lo hi V V1) (h2 : Fr lo hi V1 V2) : Fr lo hi V V2 := fun x hx => (h2 x hx).trans (h x hx)
theorem Fr.up {lo hi p k : Nat} {v : Int} {V V1 : sj_VV} (h : Fr lo hi V V1) (h1 : lo ≤ p) (h2 : p < hi) : Fr lo hi V (sj_up V1 p k v) := fun x hx => (up_row V1 k v (by omega)).trans (h x hx)
theorem Fr.wide {lo hi lo2 hi2 : Nat} {V V1 : sj_VV} (h : Fr lo hi V V1) (h1 : lo2 ≤ lo) (h2 : hi ≤ hi2) : Fr lo2 hi2 V V1 := fun x hx => h x (by omega)
theorem CG.fr {V V' : sj_VV} {a lo hi : Nat} {w : sj_R} (h : CG V a w) (hF : Fr lo hi V V') (hd : a + 12 ≤ lo ∨ hi ≤ a) : CG V' a w := by
  have e : ∀ k, k < 12 → V' (a + k) = V (a + k) := fun k hk => hF _ (by omega)
  have e0 : V' a = V a := e 0 (by omega)
  obtain ⟨h1, h2, h3, h4, h5⟩ := h
  refine ⟨by rw [e0]; exact h1, fun c hc => ?_, fun i hi => ?_, fun l hl => ?_, fun i hi => ?_⟩
  · rw [e 1 (by omega), e 2 (by omega), e 3 (by omega), e 4 (by omega)]; exact h2 c hc
  · rw [e 5 (by omega)]; exact h3 i hi
  · rw [e 6 (by omega), e 7 (by omega), e 8 (by omega)]; exact h4 l hl
  · rw [e 9 (by omega), e 10 (by omega), e 11 (by omega)]; exact h5 i hi
theorem SL.fr {V V' : sj_VV} {a lo hi f t : Nat} {lf : Int} {bs : Nat → Int} (h : SL V a f t lf bs) (hF : Fr lo hi V V') (hd : a + 2 ≤ lo ∨ hi ≤ a) : SL V' a f t lf bs := by
  have e0 : V' a = V a := hF _ (by omega)
  have e1 : V' (a + 1) = V (a + 1) := hF _ (by omega)
  obtain ⟨h1, h2, h3, h4⟩ := h
  exact ⟨by rw [e0]; exact h1, by rw [e0]; exact h2, by rw [e0]; exact h3, fun c hc hc2 => by rw [e1]; exact h4 c hc hc2⟩
/-- bases of a slip are heights -/
def BB (f t : Nat) (lf : Int) (bs : Nat → Int) : Prop := f < t ∧ t ≤ 40 ∧ (lf = 0 ∨ lf = 1) ∧ ∀ c, f ≤ c → c ≤ t → 0 ≤ bs c ∧ bs c ≤ 100
theorem spSoil_b {lv hv rv : Int} {w : sj_R} (h : WB lv hv rv w) {c : Nat} {b : Int} (hc : c < 41) (hb : 0 ≤ b) : 0 ≤ spSoil w c b ∧ spSoil w c b ≤ 3000 := by
  have key : ∀ l, l < 4 → 0 ≤ w (290 + 3 * l) * spThick w l c b ∧ w (290 + 3 * l) * spThick w l c b ≤ 30 * spThick w l c b := fun l hl => by
    have h1 := spThick_b h hc hl hb
    have h2 := (h.2.2.2.2.2.1 l hl).1
    exact ⟨Int.mul_nonneg (by omega) h1.1, Int.mul_le_mul_of_nonneg_right h2.2 h1.1⟩
  have k0 := key 0 (by omega); have k1 := key 1 (by omega); have k2 := key 2 (by omega); have k3 := key 3 (by omega)
  simp only [Nat.mul_zero, Nat.add_zero, Nat.mul_one] at k0 k1
  have hs : spThick w 0 c b + spThick w 1 c b + spThick w 2 c b + spThick w 3 c b ≤ 100 := by
    have t0 := spTop_100 h hc (l := 0) (by omega)
    have t1 := spTop_le w 0 c
    have t2 := spTop_le w 1 c
    have t3 := spTop_le w 2 c
    unfold spThick
    rw [if_neg (by omega), if_neg (by omega), if_neg (by omega), if_pos rfl]
    simp only [Nat.zero_add, Nat.reduceAdd] at t1 t2 t3 ⊢
    omega
  unfold spSoil
  have e2 : 290 + 3 * 2 = 296 := rfl
  have e3 : 290 + 3 * 3 = 299 := rfl
  have e1 : 290 + 3 = 293 := rfl
  rw [e1] at k1; rw [e2] at k2; rw [e3] at k3
  omega
theorem spOn_b {lv hv rv : Int} {w : sj_R} (h : WB lv hv rv w) {c : Nat} {b : Int} (hc : c < 41) (hb : 0 ≤ b) : 0 ≤ spOn w c b ∧ spOn w c b ≤ lv + 3000 := by
  have h1 := spSoil_b h hc hb
  have h2 := (h.2.2.2.1 c hc).2.2
  unfold spOn
  omega
theorem spHead_b {lv hv rv : Int} {w : sj_R} (h : WB lv hv rv w) {c : Nat} {b : Int} (hc : c < 41) (hb : 0 ≤ b) : 0 ≤ spHead w c b ∧ spHead w c b ≤ 100 := by
  have h2 := h.2.2.2.1 c hc
  unfold spHead spWater
  omega
theorem spLayer_b (w : sj_R) (x : Nat) (s : Int) : spLayer w x s < 4 := by
  unfold spLayer
  repeat' split
  all_goals omega
/-- a product of two numbers in bounds -/
theorem mul_b {x y X Y : Int} (h1 : 0 ≤ x) (h2 : x ≤ X) (h3 : 0 ≤ y) (h4 : y ≤ Y) : 0 ≤ x * y ∧ x * y ≤ X * Y :=
  ⟨Int.mul_nonneg h1 h3, Int.mul_le_mul h2 h4 h3 (by omega)⟩
theorem mul_a {x y X Y : Int} (h1 : 0 ≤ x) (h2 : x ≤ X) (h3 : -Y ≤ y) (h4 : y ≤ Y) : -(X * Y) ≤ x * y ∧ x * y ≤ X * Y := by
  have hY : 0 ≤ Y := by omega
  have h5 : x * y ≤ X * Y := Int.le_trans (Int.mul_le_mul_of_nonneg_left h4 h1) (Int.mul_le_mul_of_nonneg_right h2 hY)
  have h6 : x * (-y) ≤ X * Y := Int.le_trans (Int.mul_le_mul_of_nonneg_left (by omega) h1) (Int.mul_le_mul_of_nonneg_right h2 hY)
  rw [Int.mul_neg] at h6
  omega
theorem mul_s {y Y : Int} (h3 : -Y ≤ y) (h4 : y ≤ Y) : 0 ≤ y * y ∧ y * y ≤ Y * Y := by
  rcases Int.le_total 0 y with h | h
  · exact mul_b h h4 h h4
  · have := mul_b (x := -y) (y := -y) (X := Y) (Y := Y) (by omega) (by omega) (by omega) (by omega)
    rw [Int.neg_mul_neg] at this
    exact this
section SliceBounds
variable {lv hv rv : Int} {w : sj_R} {x : Nat} {p q lf : Int}
theorem slW_b (h : WB lv hv rv w) (hl : lv ≤ 1100) (hx : x + 1 < 41) (hp : 0 ≤ p ∧ p ≤ 100) (hq : 0 ≤ q ∧ q ≤ 100) : 0 ≤ slW w x p q ∧ slW w x p q ≤ 260000 := by
  have h1 := spOn_b h (c := x) (b := p) (by omega) hp.1
  have h2 := spOn_b h (c := x + 1) (b := q) hx hq.1
  have := mul_b (x := w 1) (y := spOn w x p + spOn w (x + 1) q) (X := 10) (Y := 26000) (by have := h.2.1; omega) (by have := h.2.1; omega) (by omega) (by omega)
  unfold slW
  omega
theorem slL_b (h : WB lv hv rv w) (hx : x + 1 < 41) (hp : 0 ≤ p ∧ p ≤ 100) (hq : 0 ≤ q ∧ q ≤ 100) : 0 ≤ slL w x p q ∧ slL w x p q ≤ 20000 := by
  have h1 := spHead_b h (c := x) (b := p) (by omega) hp.1
  have h2 := spHead_b h (c := x + 1) (b := q) hx hq.1
  have := mul_b (x := 10 * w 1) (y := spHead w x p + spHead w (x + 1) q) (X := 100) (Y := 200) (by have := h.2.1; omega) (by have := h.2.1; omega) (by omega) (by omega)
  unfold slL
  omega
theorem slRise_b (hp : 0 ≤ p ∧ p ≤ 100) (hq : 0 ≤ q ∧ q ≤ 100) : -100 ≤ slRise lf p q ∧ slRise lf p q ≤ 100 := by
  unfold slRise
  split <;> omega
end SliceBounds
