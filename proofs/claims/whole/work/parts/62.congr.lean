/-! rows that agree on what a slice uses -/
def AC (w w' : sj_R) (c : Nat) : Prop := w' (3 + c) = w (3 + c) ∧ w' (85 + c) = w (85 + c) ∧ w' (126 + c) = w (126 + c) ∧ ∀ l, l < 3 → w' (167 + 41 * l + c) = w (167 + 41 * l + c)
def AS (w w' : sj_R) : Prop := w' 1 = w 1 ∧ w' 2 = w 2 ∧ ∀ l, l < 4 → w' (290 + 3 * l) = w (290 + 3 * l) ∧ w' (292 + 3 * l) = w (292 + 3 * l)
def AH (w w' : sj_R) : Prop := ∀ l, l < 4 → w' (291 + 3 * l) = w (291 + 3 * l)
section Congr
variable {w w' : sj_R} {c x f t : Nat} {p q lf k : Int} {bs : Nat → Int}
theorem AC.top (h : AC w w' c) : ∀ l, l < 4 → spTop w' l c = spTop w l c
  | 0, _ => h.1
  | l + 1, hl => by rw [spTop, spTop, AC.top h l (by omega), h.2.2.2 l (by omega)]
theorem AC.thick (h : AC w w' c) {l : Nat} (hl : l < 4) (b : Int) : spThick w' l c b = spThick w l c b := by
  unfold spThick
  rw [h.top l hl]
  by_cases h3 : l = 3
  · rw [if_pos h3, if_pos h3]
  · rw [if_neg h3, if_neg h3, h.top (l + 1) (by omega)]
theorem AC.on (h : AC w w' c) (hs : AS w w') (b : Int) : spOn w' c b = spOn w c b := by
  unfold spOn spSoil
  have e0 := (hs.2.2 0 (by omega)).1
  have e1 := (hs.2.2 1 (by omega)).1
  have e2 := (hs.2.2 2 (by omega)).1
  have e3 := (hs.2.2 3 (by omega)).1
  simp only [Nat.mul_zero, Nat.add_zero, Nat.mul_one, Nat.reduceMul, Nat.reduceAdd] at e0 e1 e2 e3
  rw [h.2.2.1, h.thick (l := 0) (by omega), h.thick (l := 1) (by omega), h.thick (l := 2) (by omega), h.thick (l := 3) (by omega), e0, e1, e2, e3]
theorem AC.head (h : AC w w' c) (b : Int) : spHead w' c b = spHead w c b := by
  unfold spHead spWater
  rw [h.1, h.2.1]
theorem AC.w2 (h : AC w w' x) (h2 : AC w w' (x + 1)) (hs : AS w w') : slW w' x p q = slW w x p q := by
  unfold slW
  rw [h.on hs, h2.on hs, hs.1]
theorem AC.l2 (h : AC w w' x) (h2 : AC w w' (x + 1)) (hs : AS w w') : slL w' x p q = slL w x p q := by
  unfold slL
  rw [h.head, h2.head, hs.1]
theorem AC.y2 (h : AC w w' x) (h2 : AC w w' (x + 1)) : slY w' x p q = slY w x p q := by
  unfold slY spLayer
  rw [h.top 3 (by omega), h2.top 3 (by omega), h.top 2 (by omega), h2.top 2 (by omega), h.top 1 (by omega), h2.top 1 (by omega)]
theorem AC.u2 (h : AC w w' x) (h2 : AC w w' (x + 1)) (hs : AS w w') : slU w' lf x p q = slU w lf x p q := by
  unfold slU
  rw [h.w2 h2 hs, hs.1, hs.2.1]
theorem AC.d2 (h : AC w w' x) (h2 : AC w w' (x + 1)) (hs : AS w w') : slD w' lf x p q k = slD w lf x p q k := by
  unfold slD
  rw [h.y2 h2, hs.1, (hs.2.2 (slY w x p q) (spLayer_b w x (p + q))).2]
theorem AC.p2 (h : AC w w' x) (h2 : AC w w' (x + 1)) (hs : AS w w') : slP w' x p q = slP w x p q := by
  unfold slP
  rw [h.w2 h2 hs, h.l2 h2 hs]
theorem AC.r2 (h : AC w w' x) (h2 : AC w w' (x + 1)) (hs : AS w w') (hh : AH w w') : slR w' lf x p q k = slR w lf x p q k := by
  unfold slR slG slS
  rw [h.d2 h2 hs, h.y2 h2, h.p2 h2 hs, hs.1, (hs.2.2 (slY w x p q) (spLayer_b w x (p + q))).2, hh (slY w x p q) (spLayer_b w x (p + q))]
theorem spSum_congr {F G : Nat → Int} : ∀ n, (∀ j, j < n → F (f + j) = G (f + j)) → spSum F f n = spSum G f n
  | 0, _ => rfl
  | n + 1, h => by rw [spSum, spSum, spSum_congr n (fun j hj => h j (by omega)), h n (by omega)]
theorem spSum_le {F G : Nat → Int} : ∀ n, (∀ j, j < n → F (f + j) ≤ G (f + j)) → spSum F f n ≤ spSum G f n
  | 0, _ => Int.le_refl _
  | n + 1, h => by
    have := spSum_le n (fun j hj => h j (by omega))
    have := h n (by omega)
    rw [spSum, spSum]
    omega
end Congr
