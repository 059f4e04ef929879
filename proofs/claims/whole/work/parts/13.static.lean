abbrev sj_VV : Type := Nat → Nat → Int
/-- an array of that kind and length -/
def OKA (g : sj_G) (kd a n : Nat) : Prop := sj_is g a kd ∧ (g.1 a).2 = n ∧ n ≤ 65536
def OK5 (g : sj_G) (a : Nat) : Prop := sj_is g a 5 ∧ (g.2.1 a 0 = some (a + 1) ∧ OKA g 100 (a + 1) 41)
theorem ok5 {g : sj_G} {a : Nat} (h : OK5 g a) : sj_is g a 5 := h.1
theorem ok5_0 {g : sj_G} {a : Nat} (h : OK5 g a) : g.2.1 a 0 = some (a + 1) ∧ OKA g 100 (a + 1) 41 := h.2
def OK0 (g : sj_G) (a : Nat) : Prop := sj_is g a 0 ∧ (g.2.1 a 3 = some (a + 1) ∧ OKA g 100 (a + 1) 41) ∧ (g.2.1 a 4 = some (a + 2) ∧ OKA g 100 (a + 2) 41) ∧ (g.2.1 a 5 = some (a + 3) ∧ OKA g 100 (a + 3) 41) ∧ (g.2.1 a 6 = some (a + 4) ∧ OKA g 100 (a + 4) 41) ∧ (g.2.1 a 7 = some (a + 5) ∧ OKA g 100 (a + 5) 123) ∧ (g.2.1 a 8 = some (a + 6) ∧ OKA g 100 (a + 6) 4) ∧ (g.2.1 a 9 = some (a + 7) ∧ OKA g 100 (a + 7) 4) ∧ (g.2.1 a 10 = some (a + 8) ∧ OKA g 100 (a + 8) 4) ∧ (g.2.1 a 11 = some (a + 9) ∧ OKA g 100 (a + 9) 6) ∧ (g.2.1 a 12 = some (a + 10) ∧ OKA g 100 (a + 10) 6) ∧ (g.2.1 a 13 = some (a + 11) ∧ OKA g 100 (a + 11) 6) ∧ (g.2.1 a 14 = some (a + 12) ∧ OK5 g (a + 12))
theorem ok0 {g : sj_G} {a : Nat} (h : OK0 g a) : sj_is g a 0 := h.1
theorem ok0_3 {g : sj_G} {a : Nat} (h : OK0 g a) : g.2.1 a 3 = some (a + 1) ∧ OKA g 100 (a + 1) 41 := h.2.1
theorem ok0_4 {g : sj_G} {a : Nat} (h : OK0 g a) : g.2.1 a 4 = some (a + 2) ∧ OKA g 100 (a + 2) 41 := h.2.2.1
theorem ok0_5 {g : sj_G} {a : Nat} (h : OK0 g a) : g.2.1 a 5 = some (a + 3) ∧ OKA g 100 (a + 3) 41 := h.2.2.2.1
theorem ok0_6 {g : sj_G} {a : Nat} (h : OK0 g a) : g.2.1 a 6 = some (a + 4) ∧ OKA g 100 (a + 4) 41 := h.2.2.2.2.1
theorem ok0_7 {g : sj_G} {a : Nat} (h : OK0 g a) : g.2.1 a 7 = some (a + 5) ∧ OKA g 100 (a + 5) 123 := h.2.2.2.2.2.1
theorem ok0_8 {g : sj_G} {a : Nat} (h : OK0 g a) : g.2.1 a 8 = some (a + 6) ∧ OKA g 100 (a + 6) 4 := h.2.2.2.2.2.2.1
theorem ok0_9 {g : sj_G} {a : Nat} (h : OK0 g a) : g.2.1 a 9 = some (a + 7) ∧ OKA g 100 (a + 7) 4 := h.2.2.2.2.2.2.2.1
theorem ok0_10 {g : sj_G} {a : Nat} (h : OK0 g a) : g.2.1 a 10 = some (a + 8) ∧ OKA g 100 (a + 8) 4 := h.2.2.2.2.2.2.2.2.1
theorem ok0_11 {g : sj_G} {a : Nat} (h : OK0 g a) : g.2.1 a 11 = some (a + 9) ∧ OKA g 100 (a + 9) 6 := h.2.2.2.2.2.2.2.2.2.1
theorem ok0_12 {g : sj_G} {a : Nat} (h : OK0 g a) : g.2.1 a 12 = some (a + 10) ∧ OKA g 100 (a + 10) 6 := h.2.2.2.2.2.2.2.2.2.2.1
theorem ok0_13 {g : sj_G} {a : Nat} (h : OK0 g a) : g.2.1 a 13 = some (a + 11) ∧ OKA g 100 (a + 11) 6 := h.2.2.2.2.2.2.2.2.2.2.2.1
theorem ok0_14 {g : sj_G} {a : Nat} (h : OK0 g a) : g.2.1 a 14 = some (a + 12) ∧ OK5 g (a + 12) := h.2.2.2.2.2.2.2.2.2.2.2.2
def OK1 (g : sj_G) (a : Nat) : Prop := sj_is g a 1 ∧ (g.2.1 a 0 = some (a + 1) ∧ OKA g 100 (a + 1) 12) ∧ (g.2.1 a 1 = some (a + 2) ∧ OKA g 100 (a + 2) 12)
theorem ok1 {g : sj_G} {a : Nat} (h : OK1 g a) : sj_is g a 1 := h.1
theorem ok1_0 {g : sj_G} {a : Nat} (h : OK1 g a) : g.2.1 a 0 = some (a + 1) ∧ OKA g 100 (a + 1) 12 := h.2.1
theorem ok1_1 {g : sj_G} {a : Nat} (h : OK1 g a) : g.2.1 a 1 = some (a + 2) ∧ OKA g 100 (a + 2) 12 := h.2.2
def OK2 (g : sj_G) (a : Nat) : Prop := sj_is g a 2 ∧ (g.2.1 a 0 = some (a + 1) ∧ OKA g 100 (a + 1) 16)
theorem ok2 {g : sj_G} {a : Nat} (h : OK2 g a) : sj_is g a 2 := h.1
theorem ok2_0 {g : sj_G} {a : Nat} (h : OK2 g a) : g.2.1 a 0 = some (a + 1) ∧ OKA g 100 (a + 1) 16 := h.2
def OK4 (g : sj_G) (a : Nat) : Prop := sj_is g a 4 ∧ (g.2.1 a 0 = some (a + 1) ∧ OKA g 100 (a + 1) 41) ∧ (g.2.1 a 1 = some (a + 2) ∧ OKA g 100 (a + 2) 41) ∧ (g.2.1 a 2 = some (a + 3) ∧ OKA g 100 (a + 3) 41) ∧ (g.2.1 a 3 = some (a + 4) ∧ OKA g 100 (a + 4) 41) ∧ (g.2.1 a 4 = some (a + 5) ∧ OKA g 101 (a + 5) 41) ∧ (g.2.1 a 5 = some (a + 6) ∧ OKA g 101 (a + 6) 41) ∧ (g.2.1 a 6 = some (a + 7) ∧ OKA g 101 (a + 7) 41) ∧ (g.2.1 a 7 = some (a + 8) ∧ OKA g 101 (a + 8) 41)
theorem ok4 {g : sj_G} {a : Nat} (h : OK4 g a) : sj_is g a 4 := h.1
theorem ok4_0 {g : sj_G} {a : Nat} (h : OK4 g a) : g.2.1 a 0 = some (a + 1) ∧ OKA g 100 (a + 1) 41 := h.2.1
theorem ok4_1 {g : sj_G} {a : Nat} (h : OK4 g a) : g.2.1 a 1 = some (a + 2) ∧ OKA g 100 (a + 2) 41 := h.2.2.1
theorem ok4_2 {g : sj_G} {a : Nat} (h : OK4 g a) : g.2.1 a 2 = some (a + 3) ∧ OKA g 100 (a + 3) 41 := h.2.2.2.1
theorem ok4_3 {g : sj_G} {a : Nat} (h : OK4 g a) : g.2.1 a 3 = some (a + 4) ∧ OKA g 100 (a + 4) 41 := h.2.2.2.2.1
theorem ok4_4 {g : sj_G} {a : Nat} (h : OK4 g a) : g.2.1 a 4 = some (a + 5) ∧ OKA g 101 (a + 5) 41 := h.2.2.2.2.2.1
theorem ok4_5 {g : sj_G} {a : Nat} (h : OK4 g a) : g.2.1 a 5 = some (a + 6) ∧ OKA g 101 (a + 6) 41 := h.2.2.2.2.2.2.1
theorem ok4_6 {g : sj_G} {a : Nat} (h : OK4 g a) : g.2.1 a 6 = some (a + 7) ∧ OKA g 101 (a + 7) 41 := h.2.2.2.2.2.2.2.1
theorem ok4_7 {g : sj_G} {a : Nat} (h : OK4 g a) : g.2.1 a 7 = some (a + 8) ∧ OKA g 101 (a + 8) 41 := h.2.2.2.2.2.2.2.2
def OK3 (g : sj_G) (a : Nat) : Prop := sj_is g a 3 ∧ (g.2.1 a 0 = some (a + 1) ∧ OK5 g (a + 1)) ∧ (g.2.1 a 1 = some (a + 3) ∧ OK4 g (a + 3))
theorem ok3 {g : sj_G} {a : Nat} (h : OK3 g a) : sj_is g a 3 := h.1
theorem ok3_0 {g : sj_G} {a : Nat} (h : OK3 g a) : g.2.1 a 0 = some (a + 1) ∧ OK5 g (a + 1) := h.2.1
theorem ok3_1 {g : sj_G} {a : Nat} (h : OK3 g a) : g.2.1 a 1 = some (a + 3) ∧ OK4 g (a + 3) := h.2.2
def OK7 (g : sj_G) (a : Nat) : Prop := sj_is g a 7 ∧ (g.2.1 a 0 = some (a + 1) ∧ OKA g 100 (a + 1) 600)
theorem ok7 {g : sj_G} {a : Nat} (h : OK7 g a) : sj_is g a 7 := h.1
theorem ok7_0 {g : sj_G} {a : Nat} (h : OK7 g a) : g.2.1 a 0 = some (a + 1) ∧ OKA g 100 (a + 1) 600 := h.2
def OK6 (g : sj_G) (a : Nat) : Prop := sj_is g a 6 ∧ (g.2.1 a 0 = some (a + 1) ∧ OKA g 101 (a + 1) 4141) ∧ (g.2.1 a 1 = some (a + 2) ∧ OKA g 100 (a + 2) 4141) ∧ (g.2.1 a 2 = some (a + 3) ∧ OKA g 100 (a + 3) 4141) ∧ (g.2.1 a 3 = some (a + 4) ∧ OKA g 100 (a + 4) 4) ∧ (g.2.1 a 4 = some (a + 5) ∧ OK5 g (a + 5)) ∧ (g.2.1 a 5 = some (1) ∧ OK0 g (1))
theorem ok6 {g : sj_G} {a : Nat} (h : OK6 g a) : sj_is g a 6 := h.1
theorem ok6_0 {g : sj_G} {a : Nat} (h : OK6 g a) : g.2.1 a 0 = some (a + 1) ∧ OKA g 101 (a + 1) 4141 := h.2.1
theorem ok6_1 {g : sj_G} {a : Nat} (h : OK6 g a) : g.2.1 a 1 = some (a + 2) ∧ OKA g 100 (a + 2) 4141 := h.2.2.1
theorem ok6_2 {g : sj_G} {a : Nat} (h : OK6 g a) : g.2.1 a 2 = some (a + 3) ∧ OKA g 100 (a + 3) 4141 := h.2.2.2.1
theorem ok6_3 {g : sj_G} {a : Nat} (h : OK6 g a) : g.2.1 a 3 = some (a + 4) ∧ OKA g 100 (a + 4) 4 := h.2.2.2.2.1
theorem ok6_4 {g : sj_G} {a : Nat} (h : OK6 g a) : g.2.1 a 4 = some (a + 5) ∧ OK5 g (a + 5) := h.2.2.2.2.2.1
theorem ok6_5 {g : sj_G} {a : Nat} (h : OK6 g a) : g.2.1 a 5 = some (1) ∧ OK0 g (1) := h.2.2.2.2.2.2
def OK8 (g : sj_G) (a : Nat) : Prop := sj_is g a 8 ∧ (g.2.1 a 0 = some (a + 1) ∧ OK0 g (a + 1)) ∧ (g.2.1 a 1 = some (a + 15) ∧ OK0 g (a + 15)) ∧ (g.2.1 a 2 = some (a + 29) ∧ OK0 g (a + 29)) ∧ (g.2.1 a 3 = some (a + 43) ∧ OK1 g (a + 43)) ∧ (g.2.1 a 4 = some (a + 46) ∧ OK1 g (a + 46)) ∧ (g.2.1 a 5 = some (a + 49) ∧ OK2 g (a + 49)) ∧ (g.2.1 a 6 = some (a + 51) ∧ OKA g 104 (a + 51) 8 ∧ ∀ j, j < 8 → g.2.1 (a + 51) j = some (a + 77 + 14 * j) ∧ OK0 g (a + 77 + 14 * j)) ∧ (g.2.1 a 7 = some (a + 52) ∧ OK7 g (a + 52)) ∧ (g.2.1 a 8 = some (a + 54) ∧ OK4 g (a + 54)) ∧ (g.2.1 a 9 = some (a + 63) ∧ OK3 g (a + 63)) ∧ (g.2.1 a 10 = some (a + 75) ∧ OK5 g (a + 75))
theorem ok8 {g : sj_G} {a : Nat} (h : OK8 g a) : sj_is g a 8 := h.1
theorem ok8_0 {g : sj_G} {a : Nat} (h : OK8 g a) : g.2.1 a 0 = some (a + 1) ∧ OK0 g (a + 1) := h.2.1
theorem ok8_1 {g : sj_G} {a : Nat} (h : OK8 g a) : g.2.1 a 1 = some (a + 15) ∧ OK0 g (a + 15) := h.2.2.1
theorem ok8_2 {g : sj_G} {a : Nat} (h : OK8 g a) : g.2.1 a 2 = some (a + 29) ∧ OK0 g (a + 29) := h.2.2.2.1
theorem ok8_3 {g : sj_G} {a : Nat} (h : OK8 g a) : g.2.1 a 3 = some (a + 43) ∧ OK1 g (a + 43) := h.2.2.2.2.1
theorem ok8_4 {g : sj_G} {a : Nat} (h : OK8 g a) : g.2.1 a 4 = some (a + 46) ∧ OK1 g (a + 46) := h.2.2.2.2.2.1
theorem ok8_5 {g : sj_G} {a : Nat} (h : OK8 g a) : g.2.1 a 5 = some (a + 49) ∧ OK2 g (a + 49) := h.2.2.2.2.2.2.1
theorem ok8_6 {g : sj_G} {a : Nat} (h : OK8 g a) : g.2.1 a 6 = some (a + 51) ∧ OKA g 104 (a + 51) 8 ∧ ∀ j, j < 8 → g.2.1 (a + 51) j = some (a + 77 + 14 * j) ∧ OK0 g (a + 77 + 14 * j) := h.2.2.2.2.2.2.2.1
theorem ok8_7 {g : sj_G} {a : Nat} (h : OK8 g a) : g.2.1 a 7 = some (a + 52) ∧ OK7 g (a + 52) := h.2.2.2.2.2.2.2.2.1
theorem ok8_8 {g : sj_G} {a : Nat} (h : OK8 g a) : g.2.1 a 8 = some (a + 54) ∧ OK4 g (a + 54) := h.2.2.2.2.2.2.2.2.2.1
theorem ok8_9 {g : sj_G} {a : Nat} (h : OK8 g a) : g.2.1 a 9 = some (a + 63) ∧ OK3 g (a + 63) := h.2.2.2.2.2.2.2.2.2.2.1
theorem ok8_10 {g : sj_G} {a : Nat} (h : OK8 g a) : g.2.1 a 10 = some (a + 75) ∧ OK5 g (a + 75) := h.2.2.2.2.2.2.2.2.2.2.2
def OK9 (g : sj_G) (a : Nat) : Prop := sj_is g a 9 ∧ (g.2.1 a 0 = some (a + 1) ∧ OKA g 100 (a + 1) 390) ∧ (g.2.1 a 1 = some (a + 2) ∧ OKA g 100 (a + 2) 390) ∧ (g.2.1 a 2 = some (a + 3) ∧ OKA g 100 (a + 3) 390) ∧ (g.2.1 a 3 = some (a + 4) ∧ OKA g 100 (a + 4) 2912) ∧ (g.2.1 a 16 = some (a + 5) ∧ OKA g 100 (a + 5) 41) ∧ (g.2.1 a 22 = some (a + 6) ∧ OKA g 101 (a + 6) 4141) ∧ (g.2.1 a 23 = some (a + 7) ∧ OKA g 100 (a + 7) 4141) ∧ (g.2.1 a 24 = some (a + 8) ∧ OKA g 101 (a + 8) 41) ∧ (g.2.1 a 25 = some (a + 9) ∧ OKA g 100 (a + 9) 40) ∧ (g.2.1 a 27 = some (a + 10) ∧ OKA g 103 (a + 10) 600) ∧ (g.2.1 a 34 = some (a + 11) ∧ OKA g 102 (a + 11) 20)
theorem ok9 {g : sj_G} {a : Nat} (h : OK9 g a) : sj_is g a 9 := h.1
theorem ok9_0 {g : sj_G} {a : Nat} (h : OK9 g a) : g.2.1 a 0 = some (a + 1) ∧ OKA g 100 (a + 1) 390 := h.2.1
theorem ok9_1 {g : sj_G} {a : Nat} (h : OK9 g a) : g.2.1 a 1 = some (a + 2) ∧ OKA g 100 (a + 2) 390 := h.2.2.1
theorem ok9_2 {g : sj_G} {a : Nat} (h : OK9 g a) : g.2.1 a 2 = some (a + 3) ∧ OKA g 100 (a + 3) 390 := h.2.2.2.1
theorem ok9_3 {g : sj_G} {a : Nat} (h : OK9 g a) : g.2.1 a 3 = some (a + 4) ∧ OKA g 100 (a + 4) 2912 := h.2.2.2.2.1
theorem ok9_16 {g : sj_G} {a : Nat} (h : OK9 g a) : g.2.1 a 16 = some (a + 5) ∧ OKA g 100 (a + 5) 41 := h.2.2.2.2.2.1
theorem ok9_22 {g : sj_G} {a : Nat} (h : OK9 g a) : g.2.1 a 22 = some (a + 6) ∧ OKA g 101 (a + 6) 4141 := h.2.2.2.2.2.2.1
theorem ok9_23 {g : sj_G} {a : Nat} (h : OK9 g a) : g.2.1 a 23 = some (a + 7) ∧ OKA g 100 (a + 7) 4141 := h.2.2.2.2.2.2.2.1
theorem ok9_24 {g : sj_G} {a : Nat} (h : OK9 g a) : g.2.1 a 24 = some (a + 8) ∧ OKA g 101 (a + 8) 41 := h.2.2.2.2.2.2.2.2.1
theorem ok9_25 {g : sj_G} {a : Nat} (h : OK9 g a) : g.2.1 a 25 = some (a + 9) ∧ OKA g 100 (a + 9) 40 := h.2.2.2.2.2.2.2.2.2.1
theorem ok9_27 {g : sj_G} {a : Nat} (h : OK9 g a) : g.2.1 a 27 = some (a + 10) ∧ OKA g 103 (a + 10) 600 := h.2.2.2.2.2.2.2.2.2.2.1
theorem ok9_34 {g : sj_G} {a : Nat} (h : OK9 g a) : g.2.1 a 34 = some (a + 11) ∧ OKA g 102 (a + 11) 20 := h.2.2.2.2.2.2.2.2.2.2.2

section EffS
variable {α β : Type}
def e_ix (n : Nat) (j : Int) (K : Unit → Option β) : Option β := if 0 ≤ j ∧ j < (n : Int) then K () else none
def e_zz (x : Int) (K : Unit → Option β) : Option β := if x = 0 ∨ x = 1 then K () else none
def e_bb (x : Int) (K : Unit → Option β) : Option β := if -128 ≤ x ∧ x ≤ 127 then K () else none
def e_cpv (a0 n0 : Nat) (sp : Int) (a1 n1 : Nat) (dp n : Int) (V : sj_VV) (K : sj_VV → Option β) : Option β :=
  if (0 ≤ sp ∧ 0 ≤ dp ∧ 0 ≤ n) ∧ (sp + n ≤ (n0 : Int) ∧ dp + n ≤ (n1 : Int)) then K (fun x y => if x = a1 then va_cpy (V a0) (V a1) sp.toNat dp.toNat n.toNat y else V x y) else none
def e_cs (r : Option (α × sj_VV)) (K : α → sj_VV → Option β) : Option β := match r with
  | none => none
  | some (v, s) => K v s
def e_zs (x : Int) (V : sj_VV) : Option (Int × sj_VV) := if x = 0 ∨ x = 1 then some (x, V) else none
noncomputable def e_ok (p : Prop) (A : Option β) : Option β := @ite _ p (Classical.propDecidable p) A none
theorem e_ok_some {p : Prop} {A : Option β} {q : β} (h : e_ok p A = some q) : p ∧ A = some q := by
  unfold e_ok at h
  by_cases hp : p
  · rw [if_pos hp] at h; exact ⟨hp, h⟩
  · rw [if_neg hp] at h; cases h
theorem e_ok_pos {p : Prop} {A : Option β} (h : p) : e_ok p A = A := by unfold e_ok; rw [if_pos h]
theorem sj_map_some {γ : Type} {A : Option α} {f : α → γ} {q : γ} (h : A.map f = some q) : ∃ x, A = some x ∧ f x = q := by
  cases A with
  | none => cases h
  | some x => exact ⟨x, rfl, Option.some.inj h⟩
theorem e_ix_some {n : Nat} {j : Int} {K : Unit → Option β} {q : β} (h : e_ix n j K = some q) : (0 ≤ j ∧ j < (n : Int)) ∧ K () = some q := by
  unfold e_ix at h
  by_cases hp : 0 ≤ j ∧ j < (n : Int)
  · rw [if_pos hp] at h; exact ⟨hp, h⟩
  · rw [if_neg hp] at h; cases h
theorem e_zz_some {x : Int} {K : Unit → Option β} {q : β} (h : e_zz x K = some q) : (x = 0 ∨ x = 1) ∧ K () = some q := by
  unfold e_zz at h
  by_cases hp : x = 0 ∨ x = 1
  · rw [if_pos hp] at h; exact ⟨hp, h⟩
  · rw [if_neg hp] at h; cases h
theorem e_bb_some {x : Int} {K : Unit → Option β} {q : β} (h : e_bb x K = some q) : (-128 ≤ x ∧ x ≤ 127) ∧ K () = some q := by
  unfold e_bb at h
  by_cases hp : -128 ≤ x ∧ x ≤ 127
  · rw [if_pos hp] at h; exact ⟨hp, h⟩
  · rw [if_neg hp] at h; cases h
end EffS
theorem OKA.len {g : sj_G} {kd a n : Nat} (h : OKA g kd a n) : sj_len g kd a = (n : Int) := by
  obtain ⟨⟨h1, h2⟩, h3, h4⟩ := h
  unfold sj_len
  rw [if_pos ⟨h1, h2, by omega⟩, h3]
section RulesI
variable {X : sj_X} {M : sj_M} {g : sj_G} {V : sj_VV} {s0 : sj_Mem} {o : Option sj_V × sj_Mem} {pc : Nat} {lo : List (Option sj_V)} {st : List sj_V}
theorem r_gIs {ci k0 a idx : Nat} (hd : decode M.2.1 pc = .ok (.getfield idx, 3)) (hw : sj_fw M.1.cls idx ci k0) (hk : sj_kt ci k0 = 0) (ho : sj_is g a ci) (k : sj_T X M s0 o (pc + 3) lo (sj_i (V a k0) :: st) (g, V)) : sj_T X M s0 o pc lo (sj_r (some a) :: st) (g, V) :=
  r_gI (K := fun v => some v) (q := V a k0) (if_pos ho) hd hw hk (fun v h => by cases h; exact k)
theorem r_gJs {ci k0 a idx : Nat} (hd : decode M.2.1 pc = .ok (.getfield idx, 3)) (hw : sj_fw M.1.cls idx ci k0) (hk : sj_kt ci k0 = 1) (ho : sj_is g a ci) (k : sj_T X M s0 o (pc + 3) lo (sj_j (V a k0) :: st) (g, V)) : sj_T X M s0 o pc lo (sj_r (some a) :: st) (g, V) :=
  r_gJ (K := fun v => some v) (q := V a k0) (if_pos ho) hd hw hk (fun v h => by cases h; exact k)
theorem r_gRs {ci k0 a b idx : Nat} (hd : decode M.2.1 pc = .ok (.getfield idx, 3)) (hw : sj_fw M.1.cls idx ci k0) (hk : sj_kt ci k0 = 2) (ho : sj_is g a ci) (hr : g.2.1 a k0 = some b) (k : sj_T X M s0 o (pc + 3) lo (sj_r (some b) :: st) (g, V)) : sj_T X M s0 o pc lo (sj_r (some a) :: st) (g, V) :=
  r_gR (K := fun v => some v) (q := g.2.1 a k0) (if_pos ho) hd hw hk (fun v h => by cases h; rw [hr]; exact k)
theorem r_pIs {β : Type} {q : β} {K : sj_VV → Option β} {ci k0 a idx : Nat} {v : Int} (h : e_lt (sj_up V a k0 v) K = some q) (hd : decode M.2.1 pc = .ok (.putfield idx, 3)) (hw : sj_fw M.1.cls idx ci k0) (hk : sj_kt ci k0 = 0) (hty : sj_ty ci k0 = .int) (hfin : ∀ q : vw_C, vwCl[ci]? = some q → (q.2.1 k0).2.2.2 = false) (ho : sj_is g a ci) (k : ∀ V', K V' = some q → sj_T X M s0 o (pc + 3) lo st (g, V')) : sj_T X M s0 o pc lo (sj_i v :: sj_r (some a) :: st) (g, V) :=
  r_pI (K := fun s' => some s') (q := sj_put (g, V) a k0 v) (if_pos ho) hd hw hk hty hfin (fun s' h' => by cases h'; exact k _ h)
theorem r_pJs {β : Type} {q : β} {K : sj_VV → Option β} {ci k0 a idx : Nat} {v : Int} (h : e_lt (sj_up V a k0 v) K = some q) (hd : decode M.2.1 pc = .ok (.putfield idx, 3)) (hw : sj_fw M.1.cls idx ci k0) (hk : sj_kt ci k0 = 1) (hty : sj_ty ci k0 = .long) (hfin : ∀ q : vw_C, vwCl[ci]? = some q → (q.2.1 k0).2.2.2 = false) (ho : sj_is g a ci) (k : ∀ V', K V' = some q → sj_T X M s0 o (pc + 3) lo st (g, V')) : sj_T X M s0 o pc lo (sj_j v :: sj_r (some a) :: st) (g, V) :=
  r_pJ (K := fun s' => some s') (q := sj_put (g, V) a k0 v) (if_pos ho) hd hw hk hty hfin (fun s' h' => by cases h'; exact k _ h)
theorem r_pZs {β : Type} {q : β} {K : sj_VV → Option β} {ci k0 a idx : Nat} {v : Int} (h : (e_zz v fun _ => e_lt (sj_up V a k0 v) K) = some q) (hd : decode M.2.1 pc = .ok (.putfield idx, 3)) (hw : sj_fw M.1.cls idx ci k0) (hk : sj_kt ci k0 = 0) (hty : sj_ty ci k0 = .boolean) (hfin : ∀ q : vw_C, vwCl[ci]? = some q → (q.2.1 k0).2.2.2 = false) (ho : sj_is g a ci) (k : ∀ V', K V' = some q → sj_T X M s0 o (pc + 3) lo st (g, V')) : sj_T X M s0 o pc lo (sj_i v :: sj_r (some a) :: st) (g, V) := by
  obtain ⟨hz, h⟩ := e_zz_some h
  exact r_pZ (K := fun s' => some s') (q := sj_put (g, V) a k0 v) (if_pos ⟨ho, hz⟩) hd hw hk hty hfin (fun s' h' => by cases h'; exact k _ h)
theorem r_ialoads {β : Type} {q : β} {K : Unit → Option β} {a n : Nat} {j : Int} (h : e_ix n j K = some q) (hd : decode M.2.1 pc = .ok (.iaload, 1)) (ho : OKA g 100 a n) (k : K () = some q → sj_T X M s0 o (pc + 1) lo (sj_i (V a j.toNat) :: st) (g, V)) : sj_T X M s0 o pc lo (sj_i j :: sj_r (some a) :: st) (g, V) := by
  obtain ⟨hb, h⟩ := e_ix_some h
  exact r_iaload (K := fun v => some v) (q := V a j.toNat) (if_pos ⟨hb.1, by show j < sj_len g 100 a; rw [ho.len]; exact hb.2⟩) hd (fun v h' => by cases h'; exact k h)
theorem r_laloads {β : Type} {q : β} {K : Unit → Option β} {a n : Nat} {j : Int} (h : e_ix n j K = some q) (hd : decode M.2.1 pc = .ok (.laload, 1)) (ho : OKA g 101 a n) (k : K () = some q → sj_T X M s0 o (pc + 1) lo (sj_j (V a j.toNat) :: st) (g, V)) : sj_T X M s0 o pc lo (sj_i j :: sj_r (some a) :: st) (g, V) := by
  obtain ⟨hb, h⟩ := e_ix_some h
  exact r_laload (K := fun v => some v) (q := V a j.toNat) (if_pos ⟨hb.1, by show j < sj_len g 101 a; rw [ho.len]; exact hb.2⟩) hd (fun v h' => by cases h'; exact k h)
theorem r_zaloads {β : Type} {q : β} {K : Unit → Option β} {a n : Nat} {j : Int} (h : e_ix n j K = some q) (hd : decode M.2.1 pc = .ok (.baload, 1)) (ho : OKA g 102 a n) (k : K () = some q → sj_T X M s0 o (pc + 1) lo (sj_i (V a j.toNat) :: st) (g, V)) : sj_T X M s0 o pc lo (sj_i j :: sj_r (some a) :: st) (g, V) := by
  obtain ⟨hb, h⟩ := e_ix_some h
  exact r_zaload (K := fun v => some v) (q := V a j.toNat) (if_pos ⟨hb.1, by show j < sj_len g 102 a; rw [ho.len]; exact hb.2⟩) hd (fun v h' => by cases h'; exact k h)
theorem r_baloads {β : Type} {q : β} {K : Unit → Option β} {a n : Nat} {j : Int} (h : e_ix n j K = some q) (hd : decode M.2.1 pc = .ok (.baload, 1)) (ho : OKA g 103 a n) (k : K () = some q → sj_T X M s0 o (pc + 1) lo (sj_i (V a j.toNat) :: st) (g, V)) : sj_T X M s0 o pc lo (sj_i j :: sj_r (some a) :: st) (g, V) := by
  obtain ⟨hb, h⟩ := e_ix_some h
  exact r_baload (K := fun v => some v) (q := V a j.toNat) (if_pos ⟨hb.1, by show j < sj_len g 103 a; rw [ho.len]; exact hb.2⟩) hd (fun v h' => by cases h'; exact k h)
theorem r_iastores {β : Type} {q : β} {K : sj_VV → Option β} {a n : Nat} {j v : Int} (h : (e_ix n j fun _ => e_lt (sj_up V a j.toNat v) K) = some q) (hd : decode M.2.1 pc = .ok (.iastore, 1)) (ho : OKA g 100 a n) (k : ∀ V', K V' = some q → sj_T X M s0 o (pc + 1) lo st (g, V')) : sj_T X M s0 o pc lo (sj_i v :: sj_i j :: sj_r (some a) :: st) (g, V) := by
  obtain ⟨hb, h⟩ := e_ix_some h
  exact r_iastore (K := fun s' => some s') (q := sj_put (g, V) a j.toNat v) (if_pos ⟨hb.1, by show j < sj_len g 100 a; rw [ho.len]; exact hb.2⟩) hd (fun s' h' => by cases h'; exact k _ h)
theorem r_lastores {β : Type} {q : β} {K : sj_VV → Option β} {a n : Nat} {j v : Int} (h : (e_ix n j fun _ => e_lt (sj_up V a j.toNat v) K) = some q) (hd : decode M.2.1 pc = .ok (.lastore, 1)) (ho : OKA g 101 a n) (k : ∀ V', K V' = some q → sj_T X M s0 o (pc + 1) lo st (g, V')) : sj_T X M s0 o pc lo (sj_j v :: sj_i j :: sj_r (some a) :: st) (g, V) := by
  obtain ⟨hb, h⟩ := e_ix_some h
  exact r_lastore (K := fun s' => some s') (q := sj_put (g, V) a j.toNat v) (if_pos ⟨hb.1, by show j < sj_len g 101 a; rw [ho.len]; exact hb.2⟩) hd (fun s' h' => by cases h'; exact k _ h)
theorem r_zastores {β : Type} {q : β} {K : sj_VV → Option β} {a n : Nat} {j v : Int} (h : (e_ix n j fun _ => e_zz v fun _ => e_lt (sj_up V a j.toNat v) K) = some q) (hd : decode M.2.1 pc = .ok (.bastore, 1)) (ho : OKA g 102 a n) (k : ∀ V', K V' = some q → sj_T X M s0 o (pc + 1) lo st (g, V')) : sj_T X M s0 o pc lo (sj_i v :: sj_i j :: sj_r (some a) :: st) (g, V) := by
  obtain ⟨hb, h⟩ := e_ix_some h
  obtain ⟨hz, h⟩ := e_zz_some h
  exact r_zastore (K := fun s' => some s') (q := sj_put (g, V) a j.toNat v) (if_pos ⟨⟨hb.1, by show j < sj_len g 102 a; rw [ho.len]; exact hb.2⟩, hz⟩) hd (fun s' h' => by cases h'; exact k _ h)
theorem r_bastores {β : Type} {q : β} {K : sj_VV → Option β} {a n : Nat} {j v : Int} (h : (e_ix n j fun _ => e_bb v fun _ => e_lt (sj_up V a j.toNat v) K) = some q) (hd : decode M.2.1 pc = .ok (.bastore, 1)) (ho : OKA g 103 a n) (k : ∀ V', K V' = some q → sj_T X M s0 o (pc + 1) lo st (g, V')) : sj_T X M s0 o pc lo (sj_i v :: sj_i j :: sj_r (some a) :: st) (g, V) := by
  obtain ⟨hb, h⟩ := e_ix_some h
  obtain ⟨hz, h⟩ := e_bb_some h
  exact r_bastore (K := fun s' => some s') (q := sj_put (g, V) a j.toNat v) (if_pos ⟨⟨hb.1, by show j < sj_len g 103 a; rw [ho.len]; exact hb.2⟩, hz⟩) hd (fun s' h' => by cases h'; exact k _ h)
theorem r_aaloads {β : Type} {q : β} {K : Unit → Option β} {a : Nat} {b : Nat → Nat} {j : Int} (h : e_ix 8 j K = some q) (hd : decode M.2.1 pc = .ok (.aaload, 1)) (ho : OKA g 104 a 8) (hr : ∀ j, j < 8 → g.2.1 a j = some (b j)) (k : j.toNat < 8 → K () = some q → sj_T X M s0 o (pc + 1) lo (sj_r (some (b j.toNat)) :: st) (g, V)) : sj_T X M s0 o pc lo (sj_i j :: sj_r (some a) :: st) (g, V) := by
  obtain ⟨hb, h⟩ := e_ix_some h
  have hj : j.toNat < 8 := by omega
  exact r_aaload (K := fun v => some v) (q := g.2.1 a j.toNat) (if_pos ⟨hb.1, by show j < sj_len g 104 a; rw [ho.len]; exact hb.2⟩) hd (fun v h' => by cases h'; rw [hr _ hj]; exact k hj h)
theorem r_als {a n : Nat} (hd : decode M.2.1 pc = .ok (.arraylength, 1)) (ho : OKA g 100 a n) (k : sj_T X M s0 o (pc + 1) lo (sj_i (n : Int) :: st) (g, V)) : sj_T X M s0 o pc lo (sj_r (some a) :: st) (g, V) :=
  r_al (K := fun v => some v) (q := ((g.1 a).2 : Int)) (if_pos ho.1) hd (fun v h' => by cases h'; rw [ho.2.1]; exact k)
theorem r_copys {β : Type} {q : β} {K : sj_VV → Option β} {a0 a1 n0 n1 idx : Nat} {sp dp n : Int} (h : e_cpv a0 n0 sp a1 n1 dp n V K = some q) (hd : decode M.2.1 pc = .ok (.invokestatic idx, 3)) (hw : sj_yw M.1.cls idx) (hdp : 1 ≤ M.2.2.2.2) (hrm : (st.map sj_w).sum ≤ 8) (h0 : OKA g 100 a0 n0) (h1 : OKA g 100 a1 n1) (k : ∀ V', K V' = some q → sj_T X M s0 o (pc + 3) lo st (g, V')) : sj_T X M s0 o pc lo (sj_i n :: sj_i dp :: sj_r (some a1) :: sj_i sp :: sj_r (some a0) :: st) (g, V) := by
  unfold e_cpv at h
  by_cases hc : (0 ≤ sp ∧ 0 ≤ dp ∧ 0 ≤ n) ∧ (sp + n ≤ (n0 : Int) ∧ dp + n ≤ (n1 : Int))
  · rw [if_pos hc] at h
    exact r_copy (K := fun s' => some s') (q := sj_cp (g, V) a0 sp.toNat a1 dp.toNat n.toNat) (if_pos ⟨hc.1, ⟨by show _ ≤ sj_len g 100 a0; rw [h0.len]; exact hc.2.1, by show _ ≤ sj_len g 100 a1; rw [h1.len]; exact hc.2.2⟩, h0.1, h1.1⟩) hd hw hdp hrm (fun s' h' => by cases h'; exact k _ h)
  · rw [if_neg hc] at h; cases h
theorem r_callVs {β α : Type} {q : β} {K : α → sj_VV → Option β} {r : Option (α × sj_VV)} (val : α → Option sj_V) {M' : sj_M} {ci b n idx : Nat} {As rest st : List sj_V} (ho : sj_is g b ci) (h : e_cs r K = some q) (hd : decode M.2.1 pc = .ok (.invokevirtual idx, 3)) (hw : sj_mw M.1.cls idx M' n) (hv : sj_vw ci M') (hC : ∀ v V', r = some (v, V') → sj_C X M' (sj_r (some b) :: As) (g, V) (val v, (g, V'))) (hn : As.length = n) (hdep : M'.2.2.2.2 + 1 ≤ M.2.2.2.2 ∧ M'.2.2.1 ≤ 21) (hrm : (rest.map sj_w).sum ≤ 8) (hst : st = As.reverse ++ sj_r (some b) :: rest)
    (k : ∀ v V', K v V' = some q → sj_T X M s0 o (pc + 3) lo ((val v).toList ++ rest) (g, V')) : sj_T X M s0 o pc lo st (g, V) := by
  cases r with
  | none => cases h
  | some vs =>
    obtain ⟨v, V'⟩ := vs
    exact r_callV (K := fun v s' => some (v, s')) (q := (v, (g, V'))) (r := some (v, (g, V'))) val (if_pos ho) hd hw hv (fun v2 s2 h2 => by cases h2; exact hC v V' rfl) hn hdep hrm hst (fun v2 s2 h2 => by cases h2; exact k v V' h)
theorem r_callSs {β α : Type} {q : β} {K : α → sj_VV → Option β} {r : Option (α × sj_VV)} (val : α → Option sj_V) {M' : sj_M} {n idx : Nat} {As rest st : List sj_V} (h : e_cs r K = some q) (hd : decode M.2.1 pc = .ok (.invokestatic idx, 3)) (hw : sj_mw M.1.cls idx M' n) (hv : Cond.static M'.1 ∈ sj_kw) (hC : ∀ v V', r = some (v, V') → sj_C X M' As (g, V) (val v, (g, V'))) (hn : As.length = n) (hdep : M'.2.2.2.2 + 1 ≤ M.2.2.2.2 ∧ M'.2.2.1 ≤ 21) (hrm : (rest.map sj_w).sum ≤ 8) (hst : st = As.reverse ++ rest)
    (k : ∀ v V', K v V' = some q → sj_T X M s0 o (pc + 3) lo ((val v).toList ++ rest) (g, V')) : sj_T X M s0 o pc lo st (g, V) := by
  cases r with
  | none => cases h
  | some vs =>
    obtain ⟨v, V'⟩ := vs
    exact r_callS (K := fun v s' => some (v, s')) (q := (v, (g, V'))) (r := some (v, (g, V'))) val rfl hd hw hv (fun v2 s2 h2 => by cases h2; exact hC v V' rfl) hn hdep hrm hst (fun v2 s2 h2 => by cases h2; exact k v V' h)
end RulesI
section RulesJ
variable {X : sj_X} {M : sj_M} {g : sj_G} {V : sj_VV} {s0 : sj_Mem} {pc : Nat} {lo : List (Option sj_V)} {st : List sj_V}
theorem r_irets {x : Int} {q : Int × sj_VV} (h : some (x, V) = some q) (hr : M.2.2.2.1 = some .int) (hd : decode M.2.1 pc = .ok (.ireturn, 1)) : sj_T X M s0 (some (sj_i q.1), (g, q.2)) pc lo [sj_i x] (g, V) := by
  cases h; exact r_ireturn hr hd rfl
theorem r_lrets {x : Int} {q : Int × sj_VV} (h : some (x, V) = some q) (hr : M.2.2.2.1 = some .long) (hd : decode M.2.1 pc = .ok (.lreturn, 1)) : sj_T X M s0 (some (sj_j q.1), (g, q.2)) pc lo [sj_j x] (g, V) := by
  cases h; exact r_lreturn hr hd rfl
theorem r_vrets {q : Unit × sj_VV} (h : some ((), V) = some q) (hr : M.2.2.2.1 = none) (hd : decode M.2.1 pc = .ok (.return_, 1)) : sj_T X M s0 (none, (g, q.2)) pc lo [] (g, V) := by
  cases h; exact r_return hr hd rfl
theorem r_zrets {x : Int} {q : Int × sj_VV} (h : e_zs x V = some q) (hr : M.2.2.2.1 = some .boolean) (hd : decode M.2.1 pc = .ok (.ireturn, 1)) : sj_T X M s0 (some (sj_i q.1), (g, q.2)) pc lo [sj_i x] (g, V) := by
  unfold e_zs at h
  by_cases hz : x = 0 ∨ x = 1
  · rw [if_pos hz] at h
    cases h; exact r_zreturn hz hr hd rfl
  · rw [if_neg hz] at h; cases h
end RulesJ
