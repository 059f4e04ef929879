/-! THE FRAME: a memory of whole numbers, effects, worlds -/
/-- shapes (kind, length), references, how many cells, how many slots. Kinds: below 99 an object of that number; 100 ints, 101 longs, 102 booleans, 103 bytes, 104 references to kind 0 -/
abbrev sj_G : Type := (Nat → Nat × Nat) × (Nat → Nat → Option Nat) × Nat × Nat
abbrev sj_Mem : Type := sj_G × (Nat → Nat → Int)
abbrev sj_sz (s : sj_Mem) : Nat := s.1.2.2.1
abbrev sj_sl (s : sj_Mem) : Nat := s.1.2.2.2
abbrev sj_is (g : sj_G) (a ci : Nat) : Prop := a < g.2.2.1 ∧ (g.1 a).1 = ci
def sj_len (g : sj_G) (kd a : Nat) : Int := if a < g.2.2.1 ∧ (g.1 a).1 = kd ∧ (g.1 a).2 ≤ 65536 then ((g.1 a).2 : Int) else 0
def sj_up {α : Type} (f : Nat → Nat → α) (a k : Nat) (v : α) : Nat → Nat → α := fun x y => if x = a ∧ y = k then v else f x y
def sj_put (s : sj_Mem) (a k : Nat) (v : Int) : sj_Mem := (s.1, sj_up s.2 a k v)
def sj_putR (s : sj_Mem) (a k : Nat) (v : Option Nat) : sj_Mem := ((s.1.1, sj_up s.1.2.1 a k v, s.1.2.2), s.2)
def sj_cp (s : sj_Mem) (a0 sp a1 dp n : Nat) : sj_Mem := (s.1, fun x y => if x = a1 then va_cpy (s.2 a0) (s.2 a1) sp dp n y else s.2 x y)
def sj_new (s : sj_Mem) (kd len sl : Nat) : sj_Mem := ((fun x => if x = sj_sz s then (kd, len) else s.1.1 x, fun x k => if x = sj_sz s then none else s.1.2.1 x k, sj_sz s + 1, sj_sl s + sl), fun x k => if x = sj_sz s then 0 else s.2 x k)
abbrev sj_i32 (x : Int) : Prop := -2147483648 ≤ x ∧ x ≤ 2147483647
abbrev sj_i64 (x : Int) : Prop := -9223372036854775808 ≤ x ∧ x ≤ 9223372036854775807
def sj_and (x y : Int) : Int := (Int32.ofInt x &&& Int32.ofInt y).toInt
def sj_or (x y : Int) : Int := (Int32.ofInt x ||| Int32.ofInt y).toInt
def sj_xor (x y : Int) : Int := (Int32.ofInt x ^^^ Int32.ofInt y).toInt
def sj_xorl (x y : Int) : Int := (Int64.ofInt x ^^^ Int64.ofInt y).toInt
-- the texts
def sj_txs : List String := ["columns", "ground", "rock", "wate\x72", "load", "quake", "top", "soil", "ancho\x72"]
def sj_byt : List (List Int32) := [[99, 111, 108, 117, 109, 110, 115], [103, 114, 111, 117, 110, 100], [114, 111, 99, 107], [119, 97, 116, 101, 114], [108, 111, 97, 100], [113, 117, 97, 107, 101], [116, 111, 112], [115, 111, 105, 108], [97, 110, 99, 104, 111, 114]]
def sj_tln : List Nat := [7, 6, 4, 5, 4, 5, 3, 4, 6]
def sj_tch (n k : Nat) : Int := ((sj_byt.getD n []).getD k 0).toInt
-- effects: none where the machine would throw, or a number is out of its range where that matters
section Eff
variable {α β : Type}
def e_lt (x : α) (K : α → Option β) : Option β := K x
def e_nn (r : Option Nat) (K : Nat → Option β) : Option β := match r with
  | none => none
  | some a => K a
def e_gI (ci k a : Nat) (s : sj_Mem) (K : Int → Option β) : Option β := if sj_is s.1 a ci then K (s.2 a k) else none
def e_gR (ci k a : Nat) (s : sj_Mem) (K : Option Nat → Option β) : Option β := if sj_is s.1 a ci then K (s.1.2.1 a k) else none
def e_pI (ci k a : Nat) (v : Int) (s : sj_Mem) (K : sj_Mem → Option β) : Option β := if sj_is s.1 a ci then K (sj_put s a k v) else none
def e_pZ (ci k a : Nat) (v : Int) (s : sj_Mem) (K : sj_Mem → Option β) : Option β := if sj_is s.1 a ci ∧ (v = 0 ∨ v = 1) then K (sj_put s a k v) else none
def e_pR (ci k a : Nat) (v : Option Nat) (s : sj_Mem) (K : sj_Mem → Option β) : Option β := if sj_is s.1 a ci then K (sj_putR s a k v) else none
def e_aI (kd a : Nat) (j : Int) (s : sj_Mem) (K : Int → Option β) : Option β := if 0 ≤ j ∧ j < sj_len s.1 kd a then K (s.2 a j.toNat) else none
def e_aR (a : Nat) (j : Int) (s : sj_Mem) (K : Option Nat → Option β) : Option β := if 0 ≤ j ∧ j < sj_len s.1 104 a then K (s.1.2.1 a j.toNat) else none
def e_aS (L : Nat) (xs : Nat → Int) (j : Int) (K : Int → Option β) : Option β := if 0 ≤ j ∧ j < (L : Int) then K (xs j.toNat) else none
def e_uI (kd a : Nat) (j v : Int) (s : sj_Mem) (K : sj_Mem → Option β) : Option β := if 0 ≤ j ∧ j < sj_len s.1 kd a then K (sj_put s a j.toNat v) else none
def e_uZ (a : Nat) (j v : Int) (s : sj_Mem) (K : sj_Mem → Option β) : Option β := if (0 ≤ j ∧ j < sj_len s.1 102 a) ∧ (v = 0 ∨ v = 1) then K (sj_put s a j.toNat v) else none
def e_uB (a : Nat) (j v : Int) (s : sj_Mem) (K : sj_Mem → Option β) : Option β := if (0 ≤ j ∧ j < sj_len s.1 103 a) ∧ (-128 ≤ v ∧ v ≤ 127) then K (sj_put s a j.toNat v) else none
def e_uR (a : Nat) (j : Int) (v : Nat) (s : sj_Mem) (K : sj_Mem → Option β) : Option β := if (0 ≤ j ∧ j < sj_len s.1 104 a) ∧ sj_is s.1 v 0 then K (sj_putR s a j.toNat (some v)) else none
def e_ieq (x y : Int) (A B : Option β) : Option β := if x = y then A else if sj_i32 x ∧ sj_i32 y then B else none
def e_ilt (x y : Int) (A B : Option β) : Option β := if sj_i32 x ∧ sj_i32 y then if x < y then A else B else none
def e_ile (x y : Int) (A B : Option β) : Option β := if sj_i32 x ∧ sj_i32 y then if x ≤ y then A else B else none
def e_leq (x y : Int) (A B : Option β) : Option β := if x = y then A else if sj_i64 x ∧ sj_i64 y then B else none
def e_llt (x y : Int) (A B : Option β) : Option β := if sj_i64 x ∧ sj_i64 y then if x < y then A else B else none
def e_lle (x y : Int) (A B : Option β) : Option β := if sj_i64 x ∧ sj_i64 y then if x ≤ y then A else B else none
def e_nul (r : Option Nat) (A B : Option β) : Option β := match r with
  | none => A
  | some _ => B
def e_sw (x : Int) (A : Option β) : Option β := if sj_i32 x then A else none
def e_dI (x y : Int) (K : Int → Option β) : Option β := if sj_i32 x ∧ sj_i32 y ∧ y ≠ 0 then K (x.tdiv y) else none
def e_rI (x y : Int) (K : Int → Option β) : Option β := if sj_i32 x ∧ sj_i32 y ∧ y ≠ 0 then K (x.tmod y) else none
def e_dJ (x y : Int) (K : Int → Option β) : Option β := if sj_i64 x ∧ sj_i64 y ∧ y ≠ 0 then K (x.tdiv y) else none
def e_wid (x : Int) (K : Int → Option β) : Option β := if sj_i32 x then K x else none
def e_shl (x y : Int) (K : Int → Option β) : Option β := if 0 ≤ y ∧ y < 32 then K (x * 2 ^ y.toNat) else none
def e_ush (x y : Int) (K : Int → Option β) : Option β := if 0 ≤ y ∧ y < 32 then K ((x % 4294967296) / 2 ^ y.toNat) else none
def e_max (x y : Int) (K : Int → Option β) : Option β := if sj_i32 x ∧ sj_i32 y then K (max x y) else none
def e_min (x y : Int) (K : Int → Option β) : Option β := if sj_i32 x ∧ sj_i32 y then K (min x y) else none
def e_nO (ci n : Nat) (s : sj_Mem) (K : Nat → sj_Mem → Option β) : Option β := K (sj_sz s) (sj_new s ci 0 n)
def e_nA (kd : Nat) (n : Int) (s : sj_Mem) (K : Nat → sj_Mem → Option β) : Option β := if 0 ≤ n ∧ n ≤ 65536 then K (sj_sz s) (sj_new s kd n.toNat n.toNat) else none
def e_cp (a0 : Nat) (sp : Int) (a1 : Nat) (dp n : Int) (s : sj_Mem) (K : sj_Mem → Option β) : Option β :=
  if (0 ≤ sp ∧ 0 ≤ dp ∧ 0 ≤ n) ∧ (sp + n ≤ sj_len s.1 100 a0 ∧ dp + n ≤ sj_len s.1 100 a1) ∧ (sj_is s.1 a0 100 ∧ sj_is s.1 a1 100) then K (sj_cp s a0 sp.toNat a1 dp.toNat n.toNat) else none
def e_tl (n : Nat) (K : Int → Option β) : Option β := if n < 9 then K (sj_tln.getD n 0) else none
def e_tc (n : Nat) (j : Int) (K : Int → Option β) : Option β := if n < 9 ∧ 0 ≤ j ∧ j < (sj_tln.getD n 0 : Int) then K (sj_tch n j.toNat) else none
def e_cl (r : Option (α × sj_Mem)) (K : α → sj_Mem → Option β) : Option β := match r with
  | none => none
  | some (v, s) => K v s
def e_z (x : Int) (s : sj_Mem) : Option (Int × sj_Mem) := if x = 0 ∨ x = 1 then some (x, s) else none
end Eff
-- values
abbrev sj_V : Type := Int ⊕ Int ⊕ Option Nat ⊕ Nat
def sj_i (x : Int) : sj_V := .inl x
def sj_j (x : Int) : sj_V := .inr (.inl x)
def sj_r (r : Option Nat) : sj_V := .inr (.inr (.inl r))
def sj_t (n : Nat) : sj_V := .inr (.inr (.inr n))
/-- what a walk is over: (base, classes and slots, array classes), (addresses of the texts and of their bytes), the launch, the script's address, length, ints -/
abbrev sj_X : Type := (Nat × va_G × (Nat → ClassId)) × ((Nat → Nat) × (Nat → Nat)) × Launch × Nat × Nat × (Nat → Int32)
/-- a text's address; 1000 is the script, from 2000 on the texts' bytes, from 5000 on any address -/
def sj_ad (X : sj_X) (n : Nat) : Nat := if n = 1000 then X.2.2.2.1 else if 5000 ≤ n then n - 5000 else if 2000 ≤ n then X.2.1.2 (n - 2000) else X.2.1.1 n
def sj_rv (X : sj_X) (r : Option Nat) : Value := va_rf (r.map (fun a => X.1.1 + a))
def sj_v (X : sj_X) (x : sj_V) : Value := match x with
  | .inl x => .int (Int32.ofInt x)
  | .inr (.inl x) => .long (Int64.ofInt x)
  | .inr (.inr (.inl r)) => sj_rv X r
  | .inr (.inr (.inr n)) => .ref (sj_ad X n)
def sj_isJ (x : sj_V) : Bool := match x with
  | .inr (.inl _) => true
  | _ => false
theorem sj_c1 {X : sj_X} {x : sj_V} (h : sj_isJ x = false) : (sj_v X x).category = 1 := by
  rcases x with x | x | r | n
  · rfl
  · cases h
  · cases r <;> rfl
  · rfl
theorem sj_c2 {X : sj_X} {x : sj_V} (h : sj_isJ x = true) : (sj_v X x).category = 2 := by
  rcases x with x | x | r | n
  · cases h
  · rfl
  · cases h
  · cases h
def sj_w (x : sj_V) : Nat := if sj_isJ x then 2 else 1
theorem sj_cw (X : sj_X) (x : sj_V) : (sj_v X x).category = sj_w x := by
  unfold sj_w
  cases h : sj_isJ x
  · rw [sj_c1 h]; rfl
  · rw [sj_c2 h]; rfl
theorem sj_sum (X : sj_X) (l : List sj_V) : ((l.map (sj_v X)).map fun v => v.category).sum = (l.map sj_w).sum := by
  rw [List.map_map]
  congr 1
  apply List.map_congr_left
  intro x _
  exact sj_cw X x
-- numbers
theorem sj_t32 {x : Int} (h : sj_i32 x) : (Int32.ofInt x).toInt = x := Int32.toInt_ofInt_of_le (by have := h.1; omega) (by have := h.2; omega)
theorem sj_t64 {x : Int} (h : sj_i64 x) : (Int64.ofInt x).toInt = x := Int64.toInt_ofInt_of_le (by have := h.1; omega) (by have := h.2; omega)
theorem sj_lt32 {x y : Int} (hx : sj_i32 x) (hy : sj_i32 y) : Int32.ofInt x < Int32.ofInt y ↔ x < y := by rw [Int32.lt_iff_toInt_lt, sj_t32 hx, sj_t32 hy]
theorem sj_le32 {x y : Int} (hx : sj_i32 x) (hy : sj_i32 y) : Int32.ofInt x ≤ Int32.ofInt y ↔ x ≤ y := by rw [Int32.le_iff_toInt_le, sj_t32 hx, sj_t32 hy]
theorem sj_eq32 {x y : Int} (hx : sj_i32 x) (hy : sj_i32 y) : Int32.ofInt x = Int32.ofInt y ↔ x = y := by rw [← Int32.toInt_inj, sj_t32 hx, sj_t32 hy]
theorem sj_lt64 {x y : Int} (hx : sj_i64 x) (hy : sj_i64 y) : Int64.ofInt x < Int64.ofInt y ↔ x < y := by rw [Int64.lt_iff_toInt_lt, sj_t64 hx, sj_t64 hy]
theorem sj_le64 {x y : Int} (hx : sj_i64 x) (hy : sj_i64 y) : Int64.ofInt x ≤ Int64.ofInt y ↔ x ≤ y := by rw [Int64.le_iff_toInt_le, sj_t64 hx, sj_t64 hy]
theorem sj_eq64 {x y : Int} (hx : sj_i64 x) (hy : sj_i64 y) : Int64.ofInt x = Int64.ofInt y ↔ x = y := by rw [← Int64.toInt_inj, sj_t64 hx, sj_t64 hy]
theorem sj_0 : (0 : Int32) = Int32.ofInt 0 := by decide
theorem sj_back (z : Int32) : Int32.ofInt z.toInt = z := Int32.ofInt_toInt z
theorem sj_backl (z : Int64) : Int64.ofInt z.toInt = z := Int64.ofInt_toInt z
theorem sj_add (x y : Int) : Int32.ofInt x + Int32.ofInt y = Int32.ofInt (x + y) := (Int32.ofInt_add x y).symm
theorem sj_sub (x y : Int) : Int32.ofInt x - Int32.ofInt y = Int32.ofInt (x - y) := (Int32.ofInt_sub x y).symm
theorem sj_mul (x y : Int) : Int32.ofInt x * Int32.ofInt y = Int32.ofInt (x * y) := (Int32.ofInt_mul x y).symm
theorem sj_neg (x : Int) : -Int32.ofInt x = Int32.ofInt (-x) := (Int32.ofInt_neg x).symm
theorem sj_addl (x y : Int) : Int64.ofInt x + Int64.ofInt y = Int64.ofInt (x + y) := (Int64.ofInt_add x y).symm
theorem sj_subl (x y : Int) : Int64.ofInt x - Int64.ofInt y = Int64.ofInt (x - y) := (Int64.ofInt_sub x y).symm
theorem sj_mull (x y : Int) : Int64.ofInt x * Int64.ofInt y = Int64.ofInt (x * y) := (Int64.ofInt_mul x y).symm
theorem sj_negl (x : Int) : -Int64.ofInt x = Int64.ofInt (-x) := (Int64.ofInt_neg x).symm
theorem sj_div {x y : Int} (hx : sj_i32 x) (hy : sj_i32 y) : Int32.ofInt x / Int32.ofInt y = Int32.ofInt (x.tdiv y) := by
  apply Int32.toInt_inj.mp
  rw [Int32.toInt_div, sj_t32 hx, sj_t32 hy, Int32.toInt_ofInt]
theorem sj_divl {x y : Int} (hx : sj_i64 x) (hy : sj_i64 y) : Int64.ofInt x / Int64.ofInt y = Int64.ofInt (x.tdiv y) := by
  apply Int64.toInt_inj.mp
  rw [Int64.toInt_div, sj_t64 hx, sj_t64 hy, Int64.toInt_ofInt]
theorem sj_rem {x y : Int} (hx : sj_i32 x) (hy : sj_i32 y) : Int32.ofInt x - Int32.ofInt x / Int32.ofInt y * Int32.ofInt y = Int32.ofInt (x.tmod y) := by
  rw [sj_div hx hy, sj_mul, sj_sub]
  congr 1
  have := Int.mul_tdiv_add_tmod x y
  rw [Int.mul_comm] at this
  omega
theorem sj_wid {x : Int} (hx : sj_i32 x) : (Int32.ofInt x).toInt64 = Int64.ofInt x := by
  apply Int64.toInt_inj.mp
  rw [Int32.toInt_toInt64, sj_t32 hx, sj_t64 ⟨by have := hx.1; omega, by have := hx.2; omega⟩]
theorem sj_l2i (x : Int) : (Int64.ofInt x).toInt32 = Int32.ofInt x := by
  apply Int32.toInt_inj.mp
  rw [Int64.toInt_toInt32, Int64.toInt_ofInt, Int32.toInt_ofInt]
  first
    | exact Int.bmod_bmod_of_dvd (by decide)
    | simp [Int.bmod_bmod_of_dvd]
theorem sj_bi {n : Int} (h : -128 ≤ n ∧ n ≤ 127) : (Int8.ofInt n).toInt32 = Int32.ofInt n := by
  apply Int32.toInt_inj.mp
  rw [Int8.toInt_toInt32, Int8.toInt_ofInt_of_le (by have := h.1; omega) (by have := h.2; omega), sj_t32 ⟨by have := h.1; omega, by have := h.2; omega⟩]
theorem sj_si {n : Int} (h : -32768 ≤ n ∧ n ≤ 32767) : (Int16.ofInt n).toInt32 = Int32.ofInt n := by
  apply Int32.toInt_inj.mp
  rw [Int16.toInt_toInt32, Int16.toInt_ofInt_of_le (by have := h.1; omega) (by have := h.2; omega), sj_t32 ⟨by have := h.1; omega, by have := h.2; omega⟩]
theorem sj_i2b (x : Int) : (Int32.ofInt x).toInt8.toInt32 = Int32.ofInt (Int.bmod x 256) := by
  apply Int32.toInt_inj.mp
  rw [Int8.toInt_toInt32, Int32.toInt_toInt8, Int32.toInt_ofInt, Int32.toInt_ofInt]
  have h : (Int.bmod x (2 ^ 32)).bmod (2 ^ 8) = x.bmod 256 := by
    first
      | exact Int.bmod_bmod_of_dvd (by decide)
      | simp [Int.bmod_bmod_of_dvd]
  rw [h]
  have h1 := Int.le_bmod (x := x) (m := 256) (by decide)
  have h2 := Int.bmod_lt (x := x) (m := 256) (by decide)
  symm
  generalize x.bmod 256 = y at h1 h2 ⊢
  apply Int.bmod_eq_of_le <;> simp [Int32.size] <;> omega
