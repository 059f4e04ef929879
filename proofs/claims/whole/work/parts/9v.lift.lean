/-! functions on the memory, by those on its numbers: begin, begins -/
section Lift
variable {α β γ : Type} {g : sj_G} {N : Nat}
theorem l_ile {x y : Int} {A B : Option α} {f : α → γ} : (e_ile x y A B).map f = e_ile x y (A.map f) (B.map f) := by
  unfold e_ile
  by_cases h : sj_i32 x ∧ sj_i32 y
  · rw [if_pos h, if_pos h]
    by_cases h2 : x ≤ y
    · rw [if_pos h2, if_pos h2]
    · rw [if_neg h2, if_neg h2]
  · rw [if_neg h, if_neg h]
    rfl
theorem l_ix {n : Nat} {j : Int} {K : Unit → Option α} {f : α → γ} : (e_ix n j K).map f = e_ix n j (fun u => (K u).map f) := by
  unfold e_ix
  by_cases h : 0 ≤ j ∧ j < (n : Int)
  · rw [if_pos h, if_pos h]
  · rw [if_neg h, if_neg h]
    rfl
theorem l_cs {r : Option (α × sj_VV)} {K : α → sj_VV → Option β} {f : β → γ} : (e_cs r K).map f = e_cs r (fun v V => (K v V).map f) := by
  rcases r with _ | ⟨v, V⟩
  · rfl
  · rfl
theorem l_cl {r : Option (α × sj_VV)} {K : α → sj_Mem → Option β} : e_cl (r.map (fun q => (q.1, (g, q.2)))) K = e_cs r (fun v V => K v (g, V)) := by
  rcases r with _ | ⟨v, V⟩
  · rfl
  · rfl
theorem q_uI {a n : Nat} {j v : Int} {V : sj_VV} {K : sj_Mem → Option β} (h : OKA g 100 a n) : e_uI 100 a j v (g, V) K = e_ix n j (fun _ => K (g, sj_up V a j.toNat v)) := by
  unfold e_uI e_ix
  show (if 0 ≤ j ∧ j < sj_len g 100 a then _ else _) = _
  rw [h.len]
  rfl
theorem q_al {a n : Nat} {V : sj_VV} {K : Int → Option β} (h : OKA g 100 a n) : e_al a (g, V) K = K (n : Int) := by
  unfold e_al
  rw [if_pos h.1]
  show K ((g.1 a).2 : Int) = _
  rw [h.2.1]
theorem l_62 {b : Nat} (hO : OK9 g b) : ∀ (m : Nat) (x3 : Int) (V : sj_VV), f_X9_begins_62 N m b x3 (g, V) = (g_X9_begins_62 N m b x3 V).map (fun q => (q.1, (g, q.2)))
  | 0, _, _ => rfl
  | m + 1, x3, V => by
    have hg : ∀ (V : sj_VV) (K : Option Nat → Option (Unit × sj_Mem)), e_gR 9 0 b (g, V) K = K (some (b + 1)) := fun V K => (q_gR (s := (g, V)) hO.1).trans (congrArg K (ok9_0 hO).1)
    have hu : ∀ (j v : Int) (V : sj_VV) (K : sj_Mem → Option (Unit × sj_Mem)), e_uI 100 (b + 1) j v (g, V) K = e_ix 390 j (fun _ => K (g, sj_up V (b + 1) j.toNat v)) := fun j v V K => q_uI (ok9_0 hO).2
    unfold f_X9_begins_62 f_X9_begins_62_b g_X9_begins_62 g_X9_begins_62_b
    simp only [hg, q_nn, hu, l_ile, l_ix, k_lt, l_62 hO m, Option.map_some]
theorem l_38 {b : Nat} (hO : OK9 g b) : ∀ (m : Nat) (x3 : Int) (V : sj_VV), f_X9_begins_38 N m b x3 (g, V) = (g_X9_begins_38 N m b x3 V).map (fun q => (q.1, (g, q.2)))
  | 0, _, _ => rfl
  | m + 1, x3, V => by
    have hg : ∀ (V : sj_VV) (K : Option Nat → Option (Unit × sj_Mem)), e_gR 9 0 b (g, V) K = K (some (b + 1)) := fun V K => (q_gR (s := (g, V)) hO.1).trans (congrArg K (ok9_0 hO).1)
    have hu : ∀ (j v : Int) (V : sj_VV) (K : sj_Mem → Option (Unit × sj_Mem)), e_uI 100 (b + 1) j v (g, V) K = e_ix 390 j (fun _ => K (g, sj_up V (b + 1) j.toNat v)) := fun j v V K => q_uI (ok9_0 hO).2
    unfold f_X9_begins_38 f_X9_begins_38_b g_X9_begins_38 g_X9_begins_38_b
    simp only [hg, q_nn, hu, l_ile, l_ix, k_lt, l_62 hO, l_38 hO m, Option.map_some]
theorem l_2 {b : Nat} {x1 x2 : Int} (hO : OK9 g b) : ∀ (m : Nat) (x3 : Int) (V : sj_VV), f_X9_begins_2 N m b x1 x2 x3 (g, V) = (g_X9_begins_2 N m b x1 x2 x3 V).map (fun q => (q.1, (g, q.2)))
  | 0, _, _ => rfl
  | m + 1, x3, V => by
    have hg : ∀ (V : sj_VV) (K : Option Nat → Option (Unit × sj_Mem)), e_gR 9 0 b (g, V) K = K (some (b + 1)) := fun V K => (q_gR (s := (g, V)) hO.1).trans (congrArg K (ok9_0 hO).1)
    have hu : ∀ (j v : Int) (V : sj_VV) (K : sj_Mem → Option (Unit × sj_Mem)), e_uI 100 (b + 1) j v (g, V) K = e_ix 390 j (fun _ => K (g, sj_up V (b + 1) j.toNat v)) := fun j v V K => q_uI (ok9_0 hO).2
    unfold f_X9_begins_2 f_X9_begins_2_b g_X9_begins_2 g_X9_begins_2_b
    simp only [hg, q_nn, hu, l_ile, l_ix, k_lt, l_38 hO, l_2 hO m, Option.map_some]
theorem fx_begins {b : Nat} {x1 x2 : Int} {V V' : sj_VV} (hO : OK9 g b) (h : g_X9_begins N b x1 x2 V = some ((), V')) : f_X9_begins N b x1 x2 (g, V) = some ((), (g, V')) := by
  unfold f_X9_begins
  rw [l_2 hO]
  unfold g_X9_begins at h
  rw [h]
  rfl
theorem l_fill5 {a n : Nat} {v e : Int} (hO : OKA g 100 a n) : ∀ (m : Nat) (x2 : Int) (V : sj_VV), f_J7_fill_53178_5 N m (some a) v x2 e (g, V) = (g_J7_fill_53178_5 N m a n v x2 e V).map (fun q => (q.1, (g, q.2)))
  | 0, _, _ => rfl
  | m + 1, x2, V => by
    have hu : ∀ (j v : Int) (V : sj_VV) (K : sj_Mem → Option (Unit × sj_Mem)), e_uI 100 a j v (g, V) K = e_ix n j (fun _ => K (g, sj_up V a j.toNat v)) := fun j v V K => q_uI hO
    unfold f_J7_fill_53178_5 f_J7_fill_53178_5_b g_J7_fill_53178_5 g_J7_fill_53178_5_b
    simp only [q_nn, hu, l_ile, l_ix, k_lt, l_fill5 hO m, Option.map_some]
theorem l_fill {a n : Nat} {v : Int} {V : sj_VV} (hO : OKA g 100 a n) : f_J7_fill_53178 N (some a) v (g, V) = (g_J7_fill_53178 N a n v V).map (fun q => (q.1, (g, q.2))) := by
  unfold f_J7_fill_53178 g_J7_fill_53178
  rw [q_nn, q_al hO, l_fill5 hO, k_lt]
theorem l_begin {a : Nat} {x1 x2 : Int} {V : sj_VV} (hO : OK0 g a) : f_X0_begin N a x1 x2 (g, V) = (g_X0_begin N a x1 x2 V).map (fun q => (q.1, (g, q.2))) := by
  have i0 := hO.1
  have i5 := (ok0_14 hO).2.1
  have hp : ∀ (k : Nat) (v : Int) (V : sj_VV) (K : sj_Mem → Option (Unit × sj_Mem)), e_pI 0 k a v (g, V) K = K (g, sj_up V a k v) := fun k v V K => q_pI (s := (g, V)) i0
  have hp5 : ∀ (k : Nat) (v : Int) (V : sj_VV) (K : sj_Mem → Option (Unit × sj_Mem)), e_pI 5 k (a + 12) v (g, V) K = K (g, sj_up V (a + 12) k v) := fun k v V K => q_pI (s := (g, V)) i5
  have hg : ∀ (k z : Nat) (V : sj_VV) (K : Option Nat → Option (Unit × sj_Mem)), g.2.1 a k = some z → e_gR 0 k a (g, V) K = K (some z) := fun k z V K hz => (q_gR (s := (g, V)) i0).trans (congrArg K hz)
  have hc : ∀ (V : sj_VV) (r : Option (Unit × sj_Mem)) (K : Unit → sj_Mem → Option (Unit × sj_Mem)), e_cv 5 (a + 12) (g, V) r K = e_cl r K := fun V r K => q_cv (s := (g, V)) i5
  unfold f_X0_begin g_X0_begin
  simp only [hp, hg 3 _ _ _ (ok0_3 hO).1, hg 4 _ _ _ (ok0_4 hO).1, hg 5 _ _ _ (ok0_5 hO).1, hg 6 _ _ _ (ok0_6 hO).1, hg 7 _ _ _ (ok0_7 hO).1, hg 8 _ _ _ (ok0_8 hO).1, hg 9 _ _ _ (ok0_9 hO).1, hg 10 _ _ _ (ok0_10 hO).1, hg 13 _ _ _ (ok0_13 hO).1, hg 14 _ _ _ (ok0_14 hO).1, l_fill (ok0_3 hO).2, l_fill (ok0_4 hO).2, l_fill (ok0_5 hO).2, l_fill (ok0_6 hO).2, l_fill (ok0_7 hO).2, l_fill (ok0_8 hO).2, l_fill (ok0_9 hO).2, l_fill (ok0_10 hO).2, l_fill (ok0_13 hO).2, l_cl, q_nn, hc, f_X5_drop, g_X5_drop, hp5, k_lt, q_cl, k_cs, l_cs, Option.map_some]
theorem fx_begin {a : Nat} {x1 x2 : Int} {V V' : sj_VV} (hO : OK0 g a) (h : g_X0_begin N a x1 x2 V = some ((), V')) : f_X0_begin N a x1 x2 (g, V) = some ((), (g, V')) := by
  rw [l_begin hO, h]
  rfl
end Lift
