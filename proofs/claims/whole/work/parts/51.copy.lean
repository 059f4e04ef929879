/-! copies -/
def cpv (V : sj_VV) (s d n : Nat) : sj_VV := fun x y => if x = d then va_cpy (V s) (V d) 0 0 n y else V x y
theorem cpv_s (V : sj_VV) (s d : Nat) {n y : Nat} (h : y < n) : cpv V s d n d y = V s y := by
  unfold cpv va_cpy
  rw [if_pos rfl, if_pos ⟨by omega, by omega⟩]
  congr 1
  omega
theorem cpv_n (V : sj_VV) (s : Nat) {d x : Nat} (n : Nat) (h : x ≠ d) : cpv V s d n x = V x := by
  funext y
  unfold cpv
  rw [if_neg h]
theorem k_cp {β : Type} {s n0 d n1 n : Nat} {V : sj_VV} {K : sj_VV → Option β} (h : n ≤ n0) (h1 : n ≤ n1) : e_cpv s n0 0 d n1 0 (n : Int) V K = K (cpv V s d n) := k_cpv ⟨by omega, by omega, by omega⟩ ⟨by omega, by omega⟩
theorem Fr.cp {lo hi s d n : Nat} {V V1 : sj_VV} (h : Fr lo hi V V1) (h1 : lo ≤ d) (h2 : d < hi) : Fr lo hi V (cpv V1 s d n) := fun x hx => (cpv_n V1 s n (by omega)).trans (h x hx)
/-- a thought's slip goes one way or the other -/
def TL (a : Nat) (V V' : sj_VV) : Prop := (V (a + 15 + 12) 3 = 0 ∨ V (a + 15 + 12) 3 = 1) → (V' (a + 15 + 12) 3 = 0 ∨ V' (a + 15 + 12) 3 = 1)
section Copy
variable {V : sj_VV} {a b sa sb : Nat} {w : sj_R} {N : Nat}
theorem slcopy_eq (hd : sb + 2 ≤ sa ∨ sa + 2 ≤ sb) (h3 : V sb 3 = 0 ∨ V sb 3 = 1) : ∃ V', g_X5_copy N sa sb V = some ((), V') ∧ Fr sa (sa + 2) V V' ∧ (V' sa 1 = V sb 1 ∧ V' sa 2 = V sb 2 ∧ V' sa 3 = V sb 3) ∧ ∀ c, c < 41 → V' (sa + 1) c = V (sb + 1) c := by
  unfold g_X5_copy
  rw [show (41 : Int) = ((41 : Nat) : Int) from rfl, k_cp (by omega) (by omega)]
  have e1 : cpv V (sb + 1) (sa + 1) 41 sb = V sb := cpv_n _ _ _ (by omega)
  have q : ∀ (U : sj_VV) (k : Nat) (v : Int) (y : Nat), sj_up U sa k v sb y = U sb y := fun U k v y => up_na U k y v (by omega)
  simp only [k_lt, q, e1]
  rw [k_zz h3]
  refine ⟨_, rfl, (((Fr.rf.cp (by omega) (by omega)).up (by omega) (by omega)).up (by omega) (by omega)).up (by omega) (by omega), ⟨?_, ?_, ?_⟩, fun c hc => ?_⟩
  · rw [up_nk _ _ _ (by omega), up_nk _ _ _ (by omega), up_ss]
  · rw [up_nk _ _ _ (by omega), up_ss]
  · rw [up_ss]
  · rw [up_na _ _ _ _ (by omega), up_na _ _ _ _ (by omega), up_na _ _ _ _ (by omega), cpv_s _ _ _ hc]
theorem copy_raw (hd : b + 14 ≤ a ∨ a + 14 ≤ b) (h3 : V (b + 12) 3 = 0 ∨ V (b + 12) 3 = 1) : ∃ V', g_X0_copy N a b V = some ((), V') ∧ Fr a (a + 14) V V' ∧ (V' a 0 = V b 0 ∧ V' a 1 = V b 1 ∧ V' a 2 = V b 2) ∧ ((∀ c, c < 41 → V' (a + 1) c = V (b + 1) c) ∧ (∀ c, c < 41 → V' (a + 2) c = V (b + 2) c) ∧ (∀ c, c < 41 → V' (a + 3) c = V (b + 3) c) ∧ (∀ c, c < 41 → V' (a + 4) c = V (b + 4) c) ∧ (∀ c, c < 123 → V' (a + 5) c = V (b + 5) c) ∧ (∀ c, c < 4 → V' (a + 6) c = V (b + 6) c) ∧ (∀ c, c < 4 → V' (a + 7) c = V (b + 7) c) ∧ (∀ c, c < 4 → V' (a + 8) c = V (b + 8) c) ∧ (∀ c, c < 6 → V' (a + 9) c = V (b + 9) c) ∧ (∀ c, c < 6 → V' (a + 10) c = V (b + 10) c) ∧ (∀ c, c < 6 → V' (a + 11) c = V (b + 11) c)) ∧ (V' (a + 12) 1 = V (b + 12) 1 ∧ V' (a + 12) 2 = V (b + 12) 2 ∧ V' (a + 12) 3 = V (b + 12) 3) ∧ ∀ c, c < 41 → V' (a + 13) c = V (b + 13) c := by
  unfold g_X0_copy
  rw [k_lt, up_na _ _ _ _ (by omega), k_lt, up_na _ _ _ _ (by omega), up_na _ _ _ _ (by omega)]
  obtain ⟨V3, e3⟩ : ∃ V3, V3 = sj_up (sj_up (sj_up V a 0 (V b 0)) a 1 (V b 1)) a 2 (V b 2) := ⟨_, rfl⟩
  have f3 : Fr a (a + 14) V V3 := by rw [e3]; exact ((Fr.rf.up (by omega) (by omega)).up (by omega) (by omega)).up (by omega) (by omega)
  have z0 : V3 a 0 = V b 0 := by rw [e3, up_nk _ _ _ (by omega), up_nk _ _ _ (by omega), up_ss]
  have z1 : V3 a 1 = V b 1 := by rw [e3, up_nk _ _ _ (by omega), up_ss]
  have z2 : V3 a 2 = V b 2 := by rw [e3, up_ss]
  have zb : ∀ j, j < 14 → V3 (b + j) = V (b + j) := fun j hj => f3 _ (by omega)
  rw [← e3, k_lt, show (41 : Int) = ((41 : Nat) : Int) from rfl, show (123 : Int) = ((123 : Nat) : Int) from rfl, show (4 : Int) = ((4 : Nat) : Int) from rfl, show (6 : Int) = ((6 : Nat) : Int) from rfl, k_cp (by omega) (by omega), k_cp (by omega) (by omega), k_cp (by omega) (by omega), k_cp (by omega) (by omega), k_cp (by omega) (by omega), k_cp (by omega) (by omega), k_cp (by omega) (by omega), k_cp (by omega) (by omega), k_cp (by omega) (by omega), k_cp (by omega) (by omega), k_cp (by omega) (by omega)]
  obtain ⟨V4, e4⟩ : ∃ V4, V4 = (cpv (cpv (cpv (cpv (cpv (cpv (cpv (cpv (cpv (cpv (cpv V3 (b + 1) (a + 1) 41) (b + 2) (a + 2) 41) (b + 3) (a + 3) 41) (b + 4) (a + 4) 41) (b + 5) (a + 5) 123) (b + 6) (a + 6) 4) (b + 7) (a + 7) 4) (b + 8) (a + 8) 4) (b + 9) (a + 9) 6) (b + 10) (a + 10) 6) (b + 11) (a + 11) 6) := ⟨_, rfl⟩
  have f4 : Fr a (a + 14) V V4 := by rw [e4]; exact (((((((((((f3.cp (by omega) (by omega)).cp (by omega) (by omega)).cp (by omega) (by omega)).cp (by omega) (by omega)).cp (by omega) (by omega)).cp (by omega) (by omega)).cp (by omega) (by omega)).cp (by omega) (by omega)).cp (by omega) (by omega)).cp (by omega) (by omega)).cp (by omega) (by omega))
  have y0 : V4 a = V3 a := by rw [e4, cpv_n _ _ _ (by omega), cpv_n _ _ _ (by omega), cpv_n _ _ _ (by omega), cpv_n _ _ _ (by omega), cpv_n _ _ _ (by omega), cpv_n _ _ _ (by omega), cpv_n _ _ _ (by omega), cpv_n _ _ _ (by omega), cpv_n _ _ _ (by omega), cpv_n _ _ _ (by omega), cpv_n _ _ _ (by omega)]
  have y1 : ∀ c, c < 41 → V4 (a + 1) c = V (b + 1) c := fun c hc => by rw [e4, cpv_n _ _ _ (by omega), cpv_n _ _ _ (by omega), cpv_n _ _ _ (by omega), cpv_n _ _ _ (by omega), cpv_n _ _ _ (by omega), cpv_n _ _ _ (by omega), cpv_n _ _ _ (by omega), cpv_n _ _ _ (by omega), cpv_n _ _ _ (by omega), cpv_n _ _ _ (by omega), cpv_s _ _ _ hc, zb 1 (by omega)]
  have y2 : ∀ c, c < 41 → V4 (a + 2) c = V (b + 2) c := fun c hc => by rw [e4, cpv_n _ _ _ (by omega), cpv_n _ _ _ (by omega), cpv_n _ _ _ (by omega), cpv_n _ _ _ (by omega), cpv_n _ _ _ (by omega), cpv_n _ _ _ (by omega), cpv_n _ _ _ (by omega), cpv_n _ _ _ (by omega), cpv_n _ _ _ (by omega), cpv_s _ _ _ hc, cpv_n _ _ _ (by omega), zb 2 (by omega)]
  have y3 : ∀ c, c < 41 → V4 (a + 3) c = V (b + 3) c := fun c hc => by rw [e4, cpv_n _ _ _ (by omega), cpv_n _ _ _ (by omega), cpv_n _ _ _ (by omega), cpv_n _ _ _ (by omega), cpv_n _ _ _ (by omega), cpv_n _ _ _ (by omega), cpv_n _ _ _ (by omega), cpv_n _ _ _ (by omega), cpv_s _ _ _ hc, cpv_n _ _ _ (by omega), cpv_n _ _ _ (by omega), zb 3 (by omega)]
  have y4 : ∀ c, c < 41 → V4 (a + 4) c = V (b + 4) c := fun c hc => by rw [e4, cpv_n _ _ _ (by omega), cpv_n _ _ _ (by omega), cpv_n _ _ _ (by omega), cpv_n _ _ _ (by omega), cpv_n _ _ _ (by omega), cpv_n _ _ _ (by omega), cpv_n _ _ _ (by omega), cpv_s _ _ _ hc, cpv_n _ _ _ (by omega), cpv_n _ _ _ (by omega), cpv_n _ _ _ (by omega), zb 4 (by omega)]
  have y5 : ∀ c, c < 123 → V4 (a + 5) c = V (b + 5) c := fun c hc => by rw [e4, cpv_n _ _ _ (by omega), cpv_n _ _ _ (by omega), cpv_n _ _ _ (by omega), cpv_n _ _ _ (by omega), cpv_n _ _ _ (by omega), cpv_n _ _ _ (by omega), cpv_s _ _ _ hc, cpv_n _ _ _ (by omega), cpv_n _ _ _ (by omega), cpv_n _ _ _ (by omega), cpv_n _ _ _ (by omega), zb 5 (by omega)]
  have y6 : ∀ c, c < 4 → V4 (a + 6) c = V (b + 6) c := fun c hc => by rw [e4, cpv_n _ _ _ (by omega), cpv_n _ _ _ (by omega), cpv_n _ _ _ (by omega), cpv_n _ _ _ (by omega), cpv_n _ _ _ (by omega), cpv_s _ _ _ hc, cpv_n _ _ _ (by omega), cpv_n _ _ _ (by omega), cpv_n _ _ _ (by omega), cpv_n _ _ _ (by omega), cpv_n _ _ _ (by omega), zb 6 (by omega)]
  have y7 : ∀ c, c < 4 → V4 (a + 7) c = V (b + 7) c := fun c hc => by rw [e4, cpv_n _ _ _ (by omega), cpv_n _ _ _ (by omega), cpv_n _ _ _ (by omega), cpv_n _ _ _ (by omega), cpv_s _ _ _ hc, cpv_n _ _ _ (by omega), cpv_n _ _ _ (by omega), cpv_n _ _ _ (by omega), cpv_n _ _ _ (by omega), cpv_n _ _ _ (by omega), cpv_n _ _ _ (by omega), zb 7 (by omega)]
  have y8 : ∀ c, c < 4 → V4 (a + 8) c = V (b + 8) c := fun c hc => by rw [e4, cpv_n _ _ _ (by omega), cpv_n _ _ _ (by omega), cpv_n _ _ _ (by omega), cpv_s _ _ _ hc, cpv_n _ _ _ (by omega), cpv_n _ _ _ (by omega), cpv_n _ _ _ (by omega), cpv_n _ _ _ (by omega), cpv_n _ _ _ (by omega), cpv_n _ _ _ (by omega), cpv_n _ _ _ (by omega), zb 8 (by omega)]
  have y9 : ∀ c, c < 6 → V4 (a + 9) c = V (b + 9) c := fun c hc => by rw [e4, cpv_n _ _ _ (by omega), cpv_n _ _ _ (by omega), cpv_s _ _ _ hc, cpv_n _ _ _ (by omega), cpv_n _ _ _ (by omega), cpv_n _ _ _ (by omega), cpv_n _ _ _ (by omega), cpv_n _ _ _ (by omega), cpv_n _ _ _ (by omega), cpv_n _ _ _ (by omega), cpv_n _ _ _ (by omega), zb 9 (by omega)]
  have y10 : ∀ c, c < 6 → V4 (a + 10) c = V (b + 10) c := fun c hc => by rw [e4, cpv_n _ _ _ (by omega), cpv_s _ _ _ hc, cpv_n _ _ _ (by omega), cpv_n _ _ _ (by omega), cpv_n _ _ _ (by omega), cpv_n _ _ _ (by omega), cpv_n _ _ _ (by omega), cpv_n _ _ _ (by omega), cpv_n _ _ _ (by omega), cpv_n _ _ _ (by omega), cpv_n _ _ _ (by omega), zb 10 (by omega)]
  have y11 : ∀ c, c < 6 → V4 (a + 11) c = V (b + 11) c := fun c hc => by rw [e4, cpv_s _ _ _ hc, cpv_n _ _ _ (by omega), cpv_n _ _ _ (by omega), cpv_n _ _ _ (by omega), cpv_n _ _ _ (by omega), cpv_n _ _ _ (by omega), cpv_n _ _ _ (by omega), cpv_n _ _ _ (by omega), cpv_n _ _ _ (by omega), cpv_n _ _ _ (by omega), cpv_n _ _ _ (by omega), zb 11 (by omega)]
  have g12 : V4 (b + 12) = V (b + 12) := f4 _ (by omega)
  have g13 : V4 (b + 13) = V (b + 13) := f4 _ (by omega)
  obtain ⟨V5, r1, r2, ⟨r3, r4, r5⟩, r6⟩ := slcopy_eq (N := N) (V := V4) (sa := a + 12) (sb := b + 12) (by omega) (by rw [g12]; exact h3)
  rw [← e4, r1, k_cs]
  have u : ∀ j, j < 12 → V5 (a + j) = V4 (a + j) := fun j hj => r2 _ (by omega)
  have u0 : V5 a = V4 a := u 0 (by omega)
  refine ⟨V5, rfl, f4.tr (r2.wide (by omega) (by omega)), ⟨by rw [u0, y0]; exact z0, by rw [u0, y0]; exact z1, by rw [u0, y0]; exact z2⟩, ⟨fun c hc => by rw [u 1 (by omega)]; exact y1 c hc, fun c hc => by rw [u 2 (by omega)]; exact y2 c hc, fun c hc => by rw [u 3 (by omega)]; exact y3 c hc, fun c hc => by rw [u 4 (by omega)]; exact y4 c hc, fun c hc => by rw [u 5 (by omega)]; exact y5 c hc, fun c hc => by rw [u 6 (by omega)]; exact y6 c hc, fun c hc => by rw [u 7 (by omega)]; exact y7 c hc, fun c hc => by rw [u 8 (by omega)]; exact y8 c hc, fun c hc => by rw [u 9 (by omega)]; exact y9 c hc, fun c hc => by rw [u 10 (by omega)]; exact y10 c hc, fun c hc => by rw [u 11 (by omega)]; exact y11 c hc⟩, ⟨by rw [r3, g12], by rw [r4, g12], by rw [r5, g12]⟩, fun c hc => by rw [r6 c hc, g13]⟩
theorem copy_eq (hd : b + 14 ≤ a ∨ a + 14 ≤ b) (hR : RG V b w) : ∃ V', g_X0_copy N a b V = some ((), V') ∧ Fr a (a + 14) V V' ∧ RG V' a w := by
  obtain ⟨hB, hP, hC, hS⟩ := hR
  obtain ⟨V2, r1, r2, ⟨a0, a1, a2⟩, ⟨y1, y2, y3, y4, y5, y6, y7, y8, y9, y10, y11⟩, ⟨s1, s2, s3⟩, s4⟩ := copy_raw (N := N) hd hS.1
  obtain ⟨c1, c2, c3, c4, c5⟩ := hC
  refine ⟨V2, r1, r2, hB, hP, ⟨by rw [a0, a1, a2]; exact c1, fun c hc => by rw [y1 c hc, y2 c hc, y3 c hc, y4 c hc]; exact c2 c hc, fun i hi => by rw [y5 i hi]; exact c3 i hi, fun l hl => by rw [y6 l hl, y7 l hl, y8 l hl]; exact c4 l hl, fun i hi => by rw [y9 i hi, y10 i hi, y11 i hi]; exact c5 i hi⟩, ?_⟩
  refine ⟨by rw [s3]; exact hS.1, fun z => by rw [s1, s2]; exact hS.2.1 z, fun z => ?_⟩
  obtain ⟨t1, t2, t3, t4⟩ := hS.2.2 z
  exact ⟨by rw [s1]; exact t1, by rw [s2]; exact t2, by rw [s3]; exact t3, fun c g1 g2 => by rw [s4 c (by have := (hP.bb z).2.2.1; omega)]; exact t4 c g1 g2⟩
end Copy
