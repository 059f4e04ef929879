/-! BEARS as it is asked -/
/-- water raised by v in the columns up to n -/
def wWat (w : sj_R) (n : Nat) (v : Int) : sj_R := fun j => if 85 ≤ j ∧ j ≤ 85 + n ∧ j < 126 then min 100 (w j + v) else w j
section Bears
variable {V : sj_VV} {a f t n : Nat} {w w' : sj_R} {k lf lv hv rv v : Int} {bs : Nat → Int} {N : Nat}
theorem wWat_n (w : sj_R) (n : Nat) (v : Int) {j : Nat} (h : j < 85 ∨ 126 ≤ j) : wWat w n v j = w j := if_neg (by omega)
theorem wWat_s (w : sj_R) (v : Int) {n c : Nat} (h : c ≤ n) (h2 : c < 41) : wWat w n v (85 + c) = min 100 (w (85 + c) + v) := if_pos (by omega)
theorem wWat_o (w : sj_R) (v : Int) {n c : Nat} (h : n < c) (h2 : c < 41) : wWat w n v (85 + c) = w (85 + c) := if_neg (by omega)
theorem wWat_0 (hB : WB lv hv rv w) (n : Nat) : wWat w n 0 = w := by
  funext j
  unfold wWat
  split
  · rename_i h
    have := (hB.2.2.2.1 (j - 85) (by omega)).2.1
    rw [show 85 + (j - 85) = j by omega] at this
    omega
  · rfl
theorem WB.wat (h : WB lv hv rv w) (h1 : 0 ≤ v) : WB lv hv rv (wWat w n v) := by
  obtain ⟨a1, a2, a3, a4, a5, a6, a7⟩ := h
  have e : ∀ j, (j < 85 ∨ 126 ≤ j) → wWat w n v j = w j := fun j hj => wWat_n w n v hj
  refine ⟨by rw [e 0 (by omega)]; exact a1, by rw [e 1 (by omega)]; exact a2, by rw [e 2 (by omega)]; exact a3, fun d hd => ?_, fun i hi => by rw [e _ (by omega)]; exact a5 i hi, fun l hl => by rw [e _ (by omega), e _ (by omega), e _ (by omega)]; exact a6 l hl, fun i hi => by rw [e _ (by omega), e _ (by omega), e _ (by omega), e _ (by omega)]; exact a7 i hi⟩
  rw [e (44 + d) (by omega), e (3 + d) (by omega), e (126 + d) (by omega)]
  have b := a4 d hd
  refine ⟨b.1, ?_, b.2.2⟩
  rcases Nat.lt_or_ge n d with z | z
  · rw [wWat_o w v z hd]; exact b.2.1
  · rw [wWat_s w v z hd]; omega
theorem std_congr (hc : ∀ c, f ≤ c → c ≤ t → AC w w' c) (hs : AS w w') (hh : AH w w') (P : Int) : spStd w' f t lf bs P k = spStd w f t lf bs P k := by
  have eD : ∀ j, j < t - f → slD w' lf (f + j) (bs (f + j)) (bs (f + j + 1)) k = slD w lf (f + j) (bs (f + j)) (bs (f + j + 1)) k := fun j hj => (hc (f + j) (by omega) (by omega)).d2 (hc (f + j + 1) (by omega) (by omega)) hs
  have eU : spU w' lf bs f (t - f) = spU w lf bs f (t - f) := spSum_congr (t - f) (fun j hj => (hc (f + j) (by omega) (by omega)).u2 (hc (f + j + 1) (by omega) (by omega)) hs)
  have eR : spR w' lf bs k f (t - f) = spR w lf bs k f (t - f) := spSum_congr (t - f) (fun j hj => (hc (f + j) (by omega) (by omega)).r2 (hc (f + j + 1) (by omega) (by omega)) hs hh)
  have eN : spNF w' lf bs f k (t - f) ↔ spNF w lf bs f k (t - f) := ⟨fun z j hj => by rw [← eD j hj]; exact z j hj, fun z j hj => by rw [eD j hj]; exact z j hj⟩
  unfold spStd
  rw [eU, eR]
  exact decide_eq_decide.mpr (by rw [eN])
theorem wWat_pulls (w : sj_R) (n : Nat) (v : Int) : spPulls (wWat w n v) f t bs = spPulls w f t bs := by
  unfold spPulls
  refine spSum_congr 6 (fun j hj => ?_)
  unfold spPull spC1
  rw [wWat_n w n v (j := 304 + 3 * (0 + j)) (by omega), wWat_n w n v (j := 302 + 3 * (0 + j)) (by omega), wWat_n w n v (j := 303 + 3 * (0 + j)) (by omega), wWat_n w n v (j := 1) (by omega)]
/-- how far water is raised beyond the slip does not matter -/
theorem wWat_std (w : sj_R) (v : Int) {n n' : Nat} (h1 : t ≤ n) (h2 : t ≤ n') (ht : t ≤ 40) (P : Int) : spStd (wWat w n v) f t lf bs P k = spStd (wWat w n' v) f t lf bs P k := by
  refine std_congr (fun c h3 h4 => ⟨?_, ?_, ?_, fun l hl => ?_⟩) ⟨?_, ?_, fun l hl => ⟨?_, ?_⟩⟩ (fun l hl => ?_) P
  · rw [wWat_n w n v (by omega), wWat_n w n' v (by omega)]
  · rw [wWat_s w v (by omega) (by omega), wWat_s w v (by omega) (by omega)]
  · rw [wWat_n w n v (by omega), wWat_n w n' v (by omega)]
  · rw [wWat_n w n v (by omega), wWat_n w n' v (by omega)]
  · rw [wWat_n w n v (by omega), wWat_n w n' v (by omega)]
  · rw [wWat_n w n v (by omega), wWat_n w n' v (by omega)]
  · rw [wWat_n w n v (by omega), wWat_n w n' v (by omega)]
  · rw [wWat_n w n v (by omega), wWat_n w n' v (by omega)]
  · rw [wWat_n w n v (by omega), wWat_n w n' v (by omega)]
end Bears
