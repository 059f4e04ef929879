/-! THE PURE PART: effects that go through -/
section KEff
variable {α β : Type}
theorem k_lt (x : α) (K : α → Option β) : e_lt x K = K x := rfl
theorem k_cs (v : α) (V : sj_VV) (K : α → sj_VV → Option β) : e_cs (some (v, V)) K = K v V := rfl
theorem k_ix {n : Nat} {j : Int} {K : Unit → Option β} (h0 : 0 ≤ j) (h1 : j < (n : Int)) : e_ix n j K = K () := if_pos ⟨h0, h1⟩
theorem k_zz {x : Int} {K : Unit → Option β} (h : x = 0 ∨ x = 1) : e_zz x K = K () := if_pos h
theorem k_bb {x : Int} {K : Unit → Option β} (h0 : -128 ≤ x) (h1 : x ≤ 127) : e_bb x K = K () := if_pos ⟨h0, h1⟩
theorem k_zs {x : Int} {V : sj_VV} (h : x = 0 ∨ x = 1) : e_zs x V = some (x, V) := if_pos h
theorem k_wid {x : Int} {K : Int → Option β} (h : sj_i32 x) : e_wid x K = K x := if_pos h
theorem k_max {x y : Int} {K : Int → Option β} (hx : sj_i32 x) (hy : sj_i32 y) : e_max x y K = K (max x y) := if_pos ⟨hx, hy⟩
theorem k_min {x y : Int} {K : Int → Option β} (hx : sj_i32 x) (hy : sj_i32 y) : e_min x y K = K (min x y) := if_pos ⟨hx, hy⟩
theorem k_dI {x y : Int} {K : Int → Option β} (hx : sj_i32 x) (hy : sj_i32 y) (h : y ≠ 0) : e_dI x y K = K (x.tdiv y) := if_pos ⟨hx, hy, h⟩
theorem k_rI {x y : Int} {K : Int → Option β} (hx : sj_i32 x) (hy : sj_i32 y) (h : y ≠ 0) : e_rI x y K = K (x.tmod y) := if_pos ⟨hx, hy, h⟩
theorem k_dJ {x y : Int} {K : Int → Option β} (hx : sj_i64 x) (hy : sj_i64 y) (h : y ≠ 0) : e_dJ x y K = K (x.tdiv y) := if_pos ⟨hx, hy, h⟩
theorem k_eqT {x y : Int} {A B : Option β} (h : x = y) : e_ieq x y A B = A := if_pos h
theorem k_eqF {x y : Int} {A B : Option β} (h : x ≠ y) (hx : sj_i32 x) (hy : sj_i32 y) : e_ieq x y A B = B := by unfold e_ieq; rw [if_neg h, if_pos ⟨hx, hy⟩]
theorem k_eq {x y : Int} {A B : Option β} (hx : sj_i32 x) (hy : sj_i32 y) : e_ieq x y A B = if x = y then A else B := by unfold e_ieq; by_cases h : x = y <;> simp [h, hx, hy]
theorem k_ltT {x y : Int} {A B : Option β} (h : x < y) (hx : sj_i32 x) (hy : sj_i32 y) : e_ilt x y A B = A := by unfold e_ilt; rw [if_pos ⟨hx, hy⟩, if_pos h]
theorem k_ltF {x y : Int} {A B : Option β} (h : ¬ x < y) (hx : sj_i32 x) (hy : sj_i32 y) : e_ilt x y A B = B := by unfold e_ilt; rw [if_pos ⟨hx, hy⟩, if_neg h]
theorem k_ltc {x y : Int} {A B : Option β} (hx : sj_i32 x) (hy : sj_i32 y) : e_ilt x y A B = if x < y then A else B := if_pos ⟨hx, hy⟩
theorem k_leT {x y : Int} {A B : Option β} (h : x ≤ y) (hx : sj_i32 x) (hy : sj_i32 y) : e_ile x y A B = A := by unfold e_ile; rw [if_pos ⟨hx, hy⟩, if_pos h]
theorem k_leF {x y : Int} {A B : Option β} (h : ¬ x ≤ y) (hx : sj_i32 x) (hy : sj_i32 y) : e_ile x y A B = B := by unfold e_ile; rw [if_pos ⟨hx, hy⟩, if_neg h]
theorem k_lec {x y : Int} {A B : Option β} (hx : sj_i32 x) (hy : sj_i32 y) : e_ile x y A B = if x ≤ y then A else B := if_pos ⟨hx, hy⟩
theorem k_leqT {x y : Int} {A B : Option β} (h : x = y) : e_leq x y A B = A := if_pos h
theorem k_leqF {x y : Int} {A B : Option β} (h : x ≠ y) (hx : sj_i64 x) (hy : sj_i64 y) : e_leq x y A B = B := by unfold e_leq; rw [if_neg h, if_pos ⟨hx, hy⟩]
theorem k_leqc {x y : Int} {A B : Option β} (hx : sj_i64 x) (hy : sj_i64 y) : e_leq x y A B = if x = y then A else B := by unfold e_leq; by_cases h : x = y <;> simp [h, hx, hy]
theorem k_lltc {x y : Int} {A B : Option β} (hx : sj_i64 x) (hy : sj_i64 y) : e_llt x y A B = if x < y then A else B := if_pos ⟨hx, hy⟩
theorem k_llec {x y : Int} {A B : Option β} (hx : sj_i64 x) (hy : sj_i64 y) : e_lle x y A B = if x ≤ y then A else B := if_pos ⟨hx, hy⟩
theorem k_sw {x : Int} {A : Option β} (h : sj_i32 x) : e_sw x A = A := if_pos h
theorem k_cpv {a0 n0 a1 n1 : Nat} {sp dp n : Int} {V : sj_VV} {K : sj_VV → Option β} (h1 : 0 ≤ sp ∧ 0 ≤ dp ∧ 0 ≤ n) (h2 : sp + n ≤ (n0 : Int) ∧ dp + n ≤ (n1 : Int)) : e_cpv a0 n0 sp a1 n1 dp n V K = K (fun x y => if x = a1 then va_cpy (V a0) (V a1) sp.toNat dp.toNat n.toNat y else V x y) := if_pos ⟨h1, h2⟩
end KEff
theorem up_ss (V : sj_VV) (a k : Nat) (v : Int) : sj_up V a k v a k = v := if_pos ⟨rfl, rfl⟩
theorem up_na (V : sj_VV) {a x : Nat} (k y : Nat) (v : Int) (h : x ≠ a) : sj_up V a k v x y = V x y := if_neg (fun q => h q.1)
theorem up_nk (V : sj_VV) (a : Nat) {k y : Nat} (v : Int) (h : y ≠ k) : sj_up V a k v a y = V a y := if_neg (fun q => h q.2)
theorem up_row (V : sj_VV) {a x : Nat} (k : Nat) (v : Int) (h : x ≠ a) : sj_up V a k v x = V x := funext fun y => up_na V k y v h
theorem tn0 (c : Nat) : (c : Int).toNat = c := rfl
theorem tn1 (c k : Nat) : ((c : Int) + (k : Int)).toNat = c + k := by omega
theorem tnk (c k : Nat) : ((k : Int) + (c : Int)).toNat = k + c := by omega
/-! the row of all that is told, as the reference has it: n 0, b 1, quake 2, ground 3, rock 44, water 85, load 126, tops 167, soil 290, anchors 302, from 320, to 321, left 322, base 323 -/
abbrev sj_R : Type := Nat → Int
def spTop (w : sj_R) : Nat → Nat → Int
  | 0, c => w (3 + c)
  | l + 1, c => min (spTop w l c) (w (167 + 41 * l + c))
def spWater (w : sj_R) (c : Nat) : Int := min (w (85 + c)) (w (3 + c))
def spHead (w : sj_R) (c : Nat) (b : Int) : Int := max 0 (spWater w c - b)
def spThick (w : sj_R) (l c : Nat) (b : Int) : Int := max 0 (spTop w l c - if l = 3 then b else max b (spTop w (l + 1) c))
def spSoil (w : sj_R) (c : Nat) (b : Int) : Int := w 290 * spThick w 0 c b + w 293 * spThick w 1 c b + w 296 * spThick w 2 c b + w 299 * spThick w 3 c b
def spOn (w : sj_R) (c : Nat) (b : Int) : Int := w (126 + c) + spSoil w c b
def spLayer (w : sj_R) (x : Nat) (s : Int) : Nat := if spTop w 3 x + spTop w 3 (x + 1) > s then 3 else if spTop w 2 x + spTop w 2 (x + 1) > s then 2 else if spTop w 1 x + spTop w 1 (x + 1) > s then 1 else 0
/-- a slice at x, its bases p and q -/
def slRise (lf p q : Int) : Int := if lf = 1 then q - p else p - q
def slW (w : sj_R) (x : Nat) (p q : Int) : Int := w 1 * (spOn w x p + spOn w (x + 1) q)
def slL (w : sj_R) (x : Nat) (p q : Int) : Int := 10 * w 1 * (spHead w x p + spHead w (x + 1) q)
def slP (w : sj_R) (x : Nat) (p q : Int) : Int := max 0 (slW w x p q - slL w x p q)
def slY (w : sj_R) (x : Nat) (p q : Int) : Nat := spLayer w x (p + q)
def slS (w : sj_R) (x : Nat) (p q : Int) : Int := 2000 * w (291 + 3 * slY w x p q) * w 1 + slP w x p q * w (292 + 3 * slY w x p q)
def slU (w : sj_R) (lf : Int) (x : Nat) (p q : Int) : Int := slW w x p q * (1000 * slRise lf p q + w 2 * w 1)
def slD (w : sj_R) (lf : Int) (x : Nat) (p q k : Int) : Int := w 1 * k + slRise lf p q * w (292 + 3 * slY w x p q)
def slG (w : sj_R) (lf : Int) (x : Nat) (p q : Int) : Int := slS w x p q * (w 1 * w 1 + slRise lf p q * slRise lf p q)
def slR (w : sj_R) (lf : Int) (x : Nat) (p q k : Int) : Int := slG w lf x p q * k / slD w lf x p q k
def spSum (f : Nat → Int) (a : Nat) : Nat → Int
  | 0 => 0
  | n + 1 => spSum f a n + f (a + n)
/-- bounds of a row; lv, hv, rv: how high loads, holds, rubs may be -/
def WB (lv hv rv : Int) (w : sj_R) : Prop := (4 ≤ w 0 ∧ w 0 ≤ 40) ∧ (1 ≤ w 1 ∧ w 1 ≤ 10) ∧ (0 ≤ w 2 ∧ w 2 ≤ 500) ∧ (∀ c, c < 41 → (0 ≤ w (44 + c) ∧ w (44 + c) ≤ w (3 + c) ∧ w (3 + c) ≤ 100) ∧ (0 ≤ w (85 + c) ∧ w (85 + c) ≤ 100) ∧ 0 ≤ w (126 + c) ∧ w (126 + c) ≤ lv) ∧ (∀ i, i < 123 → 0 ≤ w (167 + i) ∧ w (167 + i) ≤ 100) ∧ (∀ l, l < 4 → (1 ≤ w (290 + 3 * l) ∧ w (290 + 3 * l) ≤ 30) ∧ (0 ≤ w (291 + 3 * l) ∧ w (291 + 3 * l) ≤ hv) ∧ 0 ≤ w (292 + 3 * l) ∧ w (292 + 3 * l) ≤ rv) ∧ ∀ i, i < 6 → (0 ≤ w (304 + 3 * i) ∧ w (304 + 3 * i) ≤ 500) ∧ (0 < w (304 + 3 * i) → (0 ≤ w (302 + 3 * i) ∧ w (302 + 3 * i) ≤ w 0) ∧ 0 ≤ w (303 + 3 * i) ∧ w (303 + 3 * i) ≤ 100)
theorem spTop_b {lv hv rv : Int} {w : sj_R} (h : WB lv hv rv w) {c : Nat} (hc : c < 41) : ∀ l, l < 4 → 0 ≤ spTop w l c ∧ spTop w l c ≤ w (3 + c)
  | 0, _ => ⟨by show 0 ≤ w (3 + c); have := (h.2.2.2.1 c hc).1; omega, Int.le_refl _⟩
  | l + 1, hl => by
    have ih := spTop_b h hc l (by omega)
    have h2 := h.2.2.2.2.1 (41 * l + c) (by omega)
    rw [← Nat.add_assoc] at h2
    rw [spTop]
    omega
theorem spTop_le (w : sj_R) (l c : Nat) : spTop w (l + 1) c ≤ spTop w l c := by rw [spTop]; omega
theorem spTop_100 {lv hv rv : Int} {w : sj_R} (h : WB lv hv rv w) {c : Nat} (hc : c < 41) {l : Nat} (hl : l < 4) : 0 ≤ spTop w l c ∧ spTop w l c ≤ 100 := by
  have h1 := spTop_b h hc l hl
  have h2 := (h.2.2.2.1 c hc).1
  omega
