/-! REPORT -/
def RW (V : sj_VV) (h : Nat) (l : List Int) : Prop := V h 1 = (l.length : Int) ∧ ∀ i, i < l.length → V (h + 1) i = l.getD i 0
def RS (V : sj_VV) (b : Nat) (l : List Int) : Prop := V b 26 = (l.length : Int) ∧ ∀ i, i < l.length → V (b + 9) i = l.getD i 0
/-- what a writing may touch -/
def Fw (h : Nat) (V V' : sj_VV) : Prop := (∀ z, z ≠ h → z ≠ h + 1 → V' z = V z) ∧ ∀ j, j ≠ 1 → V' h j = V h j
def Fy (b : Nat) (V V' : sj_VV) : Prop := (∀ z, z ≠ b → z ≠ b + 9 → V' z = V z) ∧ ∀ j, j ≠ 26 → V' b j = V b j
section Report
variable {V V1 V2 : sj_VV} {a b h N : Nat} {w : sj_R} {x v : Int} {l : List Int}
theorem Fw.rf : Fw h V V := ⟨fun _ _ _ => rfl, fun _ _ => rfl⟩
theorem Fw.tr (h1 : Fw h V V1) (h2 : Fw h V1 V2) : Fw h V V2 := ⟨fun z z1 z2 => (h2.1 z z1 z2).trans (h1.1 z z1 z2), fun j hj => (h2.2 j hj).trans (h1.2 j hj)⟩
theorem Fy.rf : Fy b V V := ⟨fun _ _ _ => rfl, fun _ _ => rfl⟩
theorem Fy.tr (h1 : Fy b V V1) (h2 : Fy b V1 V2) : Fy b V V2 := ⟨fun z z1 z2 => (h2.1 z z1 z2).trans (h1.1 z z1 z2), fun j hj => (h2.2 j hj).trans (h1.2 j hj)⟩
theorem getD_last (l : List Int) (x : Int) : (l ++ [x]).getD l.length 0 = x := by simp [List.getD]
theorem getD_front {i : Nat} (l : List Int) (x : Int) (h : i < l.length) : (l ++ [x]).getD i 0 = l.getD i 0 := by simp [List.getD, List.getElem?_append_left h]
theorem write_eq (hW : RW V h l) (hl : l.length < 16) : ∃ V', g_X2_write N h x V = some ((), V') ∧ RW V' h (l ++ [x]) ∧ Fw h V V' := by
  unfold g_X2_write
  rw [hW.1, k_leF (by omega) ⟨by omega, by omega⟩ ⟨by omega, by omega⟩, k_ix (by omega) (by omega), k_lt, k_lt, tn0, up_na _ _ _ _ (by omega), hW.1]
  refine ⟨_, rfl, ⟨?_, fun i hi => ?_⟩, fun z z1 z2 => by rw [up_row _ _ _ z1, up_row _ _ _ z2], fun j hj => by rw [up_nk _ _ _ hj, up_row _ _ _ (by omega)]⟩
  · rw [up_ss, List.length_append]; rfl
  · rw [List.length_append] at hi
    rw [up_row _ _ _ (by omega)]
    by_cases z : i = l.length
    · rw [z, up_ss, getD_last]
    · have hi2 : i < l.length := by simp only [List.length_cons, List.length_nil] at hi; omega
      rw [up_nk _ _ _ z, getD_front l x hi2]; exact hW.2 i hi2
theorem says_eq (hW : RS V b l) (hl : l.length < 40) : ∃ V', g_X9_says N b x V = some ((), V') ∧ RS V' b (l ++ [x]) ∧ Fy b V V' := by
  unfold g_X9_says
  rw [hW.1, k_ix (by omega) (by omega), k_lt, k_lt, tn0, up_na _ _ _ _ (by omega), hW.1]
  refine ⟨_, rfl, ⟨?_, fun i hi => ?_⟩, fun z z1 z2 => by rw [up_row _ _ _ z1, up_row _ _ _ z2], fun j hj => by rw [up_nk _ _ _ hj, up_row _ _ _ (by omega)]⟩
  · rw [up_ss, List.length_append]; rfl
  · rw [List.length_append] at hi
    rw [up_row _ _ _ (by omega)]
    by_cases z : i = l.length
    · rw [z, up_ss, getD_last]
    · have hi2 : i < l.length := by simp only [List.length_cons, List.length_nil] at hi; omega
      rw [up_nk _ _ _ z, getD_front l x hi2]; exact hW.2 i hi2
def spNum (v : Int) : List Int := if 10 ≤ v then [48 + v / 10 % 10, 48 + v % 10] else [48 + v % 10]
theorem spNum_l (v : Int) : (spNum v).length ≤ 2 := by unfold spNum; split <;> simp
theorem td10 {v : Int} (h : 0 ≤ v) (k : Int) : v.tdiv k = v / k := Int.tdiv_eq_ediv_of_nonneg h
theorem tm10 {v : Int} (h : 0 ≤ v) (k : Int) : v.tmod k = v % k := Int.tmod_eq_emod_of_nonneg h
theorem writeNumber_eq (hW : RW V h l) (hl : l.length + 2 ≤ 16) (hv : 0 ≤ v ∧ v ≤ 99) : ∃ V', g_X2_writeNumber N h v V = some ((), V') ∧ RW V' h (l ++ spNum v) ∧ Fw h V V' := by
  unfold g_X2_writeNumber g_X2_writeNumber_20 spNum
  rw [k_ltc ⟨by omega, by omega⟩ ⟨by omega, by omega⟩, k_rI ⟨by omega, by omega⟩ ⟨by omega, by omega⟩ (by omega), tm10 hv.1]
  by_cases z : v < 10
  · obtain ⟨V1, r1, r2, r3⟩ := write_eq (N := N) (x := 48 + v % 10) hW (by omega)
    rw [if_pos z, if_neg (by omega), r1, k_cs]
    exact ⟨V1, rfl, r2, r3⟩
  · have hq : 0 ≤ v / 10 ∧ v / 10 ≤ 9 := by omega
    obtain ⟨V1, r1, r2, r3⟩ := write_eq (N := N) (x := 48 + v / 10 % 10) hW (by omega)
    obtain ⟨V2, s1, s2, s3⟩ := write_eq (N := N) (x := 48 + v % 10) r2 (by rw [List.length_append]; simp only [List.length_cons, List.length_nil]; omega)
    rw [if_neg z, if_pos (by omega), k_dI ⟨by omega, by omega⟩ ⟨by omega, by omega⟩ (by omega), td10 hv.1, k_rI ⟨by omega, by omega⟩ ⟨by omega, by omega⟩ (by omega), tm10 hq.1, r1, k_cs, k_rI ⟨by omega, by omega⟩ ⟨by omega, by omega⟩ (by omega), tm10 hv.1, s1, k_cs]
    exact ⟨V2, rfl, by rw [List.append_assoc] at s2; exact s2, r3.tr s3⟩
theorem saysNumber_eq (hW : RS V b l) (hl : l.length + 2 ≤ 40) (hv : 0 ≤ v ∧ v ≤ 99) : ∃ V', g_X9_saysNumber N 12 b v V = some ((), V') ∧ RS V' b (l ++ spNum v) ∧ Fy b V V' := by
  have one : ∀ (d : Nat) (u : Int) (V : sj_VV) (l : List Int), RS V b l → l.length + 1 ≤ 40 → 0 ≤ u ∧ u ≤ 9 → ∃ V', g_X9_saysNumber N (d + 1) b u V = some ((), V') ∧ RS V' b (l ++ [48 + u % 10]) ∧ Fy b V V' := by
    intro d u V l hW hl hu
    show ∃ V', g_X9_saysNumber_r N (g_X9_saysNumber N d) b u V = _ ∧ _
    unfold g_X9_saysNumber_r g_X9_saysNumber_14
    obtain ⟨V1, r1, r2, r3⟩ := says_eq (N := N) (x := 48 + u % 10) hW (by omega)
    rw [k_leT hu.2 ⟨by omega, by omega⟩ ⟨by omega, by omega⟩, k_rI ⟨by omega, by omega⟩ ⟨by omega, by omega⟩ (by omega), tm10 hu.1, r1, k_cs]
    exact ⟨V1, rfl, r2, r3⟩
  by_cases z : v < 10
  · obtain ⟨V1, r1, r2, r3⟩ := one 11 v V l hW (by omega) (by omega)
    refine ⟨V1, r1, ?_, r3⟩
    unfold spNum
    rw [if_neg (by omega)]; exact r2
  · have hq : 0 ≤ v / 10 ∧ v / 10 ≤ 9 := by omega
    obtain ⟨V1, r1, r2, r3⟩ := one 10 (v / 10) V l hW (by omega) hq
    obtain ⟨V2, s1, s2, s3⟩ := says_eq (N := N) (x := 48 + v % 10) r2 (by rw [List.length_append]; simp only [List.length_cons, List.length_nil]; omega)
    show ∃ V', g_X9_saysNumber_r N (g_X9_saysNumber N 11) b v V = _ ∧ _
    unfold g_X9_saysNumber_r g_X9_saysNumber_14 spNum
    rw [if_pos (by omega), k_leF (by omega) ⟨by omega, by omega⟩ ⟨by omega, by omega⟩, k_dI ⟨by omega, by omega⟩ ⟨by omega, by omega⟩ (by omega), td10 hv.1, r1, k_cs, k_rI ⟨by omega, by omega⟩ ⟨by omega, by omega⟩ (by omega), tm10 hv.1, s1, k_cs]
    exact ⟨V2, rfl, by rw [List.append_assoc] at s2; exact s2, r3.tr s3⟩
/-- the REPORT's signs -/
def spRep (F : Int) (f t : Nat) (lf : Int) : List Int := (((((((((([] ++ spNum (F / 1000)) ++ [46]) ++ [48 + F / 100 % 10]) ++ [48 + F / 10 % 10]) ++ [48 + F % 10]) ++ [32]) ++ spNum f) ++ [45]) ++ spNum t) ++ [32]) ++ [if lf = 0 then 82 else 76]
theorem spRep_l (F : Int) (f t : Nat) (lf : Int) : (spRep F f t lf).length ≤ 14 := by
  unfold spRep
  have h1 := spNum_l (F / 1000)
  have h2 := spNum_l (f : Int)
  have h3 := spNum_l (t : Int)
  simp only [List.length_append, List.length_cons, List.length_nil]
  omega
end Report
