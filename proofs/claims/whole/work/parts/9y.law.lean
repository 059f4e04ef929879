/-! THE LAW: it answers 1 -/
section DSs
variable {s : sj_Mem} {A B : sj_VV → Option (Int × sj_VV)} {A' B' : sj_Mem → Option (Int × sj_Mem)}
theorem DS.of (hG : GI s.1) (h : ST 0 189 A B s.2) (hA : ∀ V, A' (s.1, V) = e_ok (OK8 s.1 0) ((A V).map (fun q => (q.1, (s.1, q.2))))) (hB : ∀ V, B' (s.1, V) = e_ok (OK9 s.1 189) ((B V).map (fun q => (q.1, (s.1, q.2))))) : DS A' B' s := by
  obtain ⟨r, V1, V2, h1, h2, h3⟩ := h
  refine ⟨r, (s.1, V1), (s.1, V2), ?_, ?_, hG, hG, h3⟩
  · have e := hA s.2
    rw [e_ok_pos hG.1, h1] at e
    exact e
  · rw [hB V1, e_ok_pos hG.2.1, h2]
    rfl
end DSs
def OKo (o : Option (Int × sj_Mem)) : Prop := ∃ s', o = some (1, s') ∧ GI s'.1
section OKos
variable {s s1 : sj_Mem} {L : Nat} {xs : Nat → Int} {j x y r : Int} {a ci : Nat} {A B : Option (Int × sj_Mem)}
theorem ok_ite {q : Prop} [Decidable q] (h1 : q → OKo A) (h2 : ¬ q → OKo B) : OKo (if q then A else B) := by
  by_cases h : q
  · rw [if_pos h]; exact h1 h
  · rw [if_neg h]; exact h2 h
theorem ok_aS {K : Int → Option (Int × sj_Mem)} (h : 0 ≤ j ∧ j < (L : Int)) (hk : OKo (K (xs j.toNat))) : OKo (e_aS L xs j K) := by
  unfold e_aS
  rw [if_pos h]
  exact hk
theorem ok_nn {K : Nat → Option (Int × sj_Mem)} (hk : OKo (K a)) : OKo (e_nn (some a) K) := hk
theorem ok_cv {K : Int → sj_Mem → Option (Int × sj_Mem)} (he : A = some (r, s1)) (hi : sj_is s.1 a ci) (hk : OKo (K r s1)) : OKo (e_cv ci a s A K) := by
  rw [q_cv hi, he]
  exact hk
theorem ok_same (h : OKo A) : OKo (e_ieq x x A B) := by
  rw [k_eqT rfl]
  exact h
theorem ok_samel (h : OKo A) : OKo (e_leq x x A B) := by
  rw [k_leqT rfl]
  exact h
theorem ok_ieq (hx : sj_i32 x) (hy : sj_i32 y) (h1 : x = y → OKo A) (h2 : x ≠ y → OKo B) : OKo (e_ieq x y A B) := by
  by_cases h : x = y
  · rw [k_eqT h]; exact h1 h
  · rw [k_eqF h hx hy]; exact h2 h
theorem ok_ieqT (h : x = y) (hk : OKo A) : OKo (e_ieq x y A B) := by
  rw [k_eqT h]; exact hk
theorem ok_ieqF (h : x ≠ y) (hx : sj_i32 x) (hy : sj_i32 y) (hk : OKo B) : OKo (e_ieq x y A B) := by
  rw [k_eqF h hx hy]; exact hk
theorem ok_sw (h : sj_i32 x) (hk : OKo A) : OKo (e_sw x A) := by
  rw [k_sw h]; exact hk
theorem and_i32 : sj_i32 (sj_and x y) := by
  have h1 := Int32.le_toInt (Int32.ofInt x &&& Int32.ofInt y)
  have h2 := Int32.toInt_lt (Int32.ofInt x &&& Int32.ofInt y)
  exact ⟨by unfold sj_and; omega, by unfold sj_and; omega⟩
end OKos
section Law
variable {N L : Nat} {xs : Nat → Int}
-- one call of the law
set_option maxHeartbeats 8000000 in
theorem law_step (hN : 10000 ≤ N) (hx : ∀ j, sj_i32 (xs j)) {i : Nat} {s : sj_Mem} {k18 : Option Nat → Option Nat → Int → sj_Mem → Option (Int × sj_Mem)} (hG : GI s.1) (hI : INV s.2 0 189) (hi : ¬ (L : Int) - 8 < (i : Int)) (hL : L ≤ 4096) (hk : ∀ s', GI s'.1 → INV s'.2 0 189 → OKo (f_L_law_1900 N L xs k18 (some 0) (some 189) (i : Int) s')) : OKo (f_L_law_18_b N L xs k18 (some 0) (some 189) (i : Int) s) := by
  unfold f_L_law_18_b
  rw [k_ltF hi ⟨by omega, by omega⟩ ⟨by omega, by omega⟩]
  refine ok_aS ⟨by omega, by omega⟩ ?_
  refine ok_sw and_i32 ?_
  refine ok_ite (fun _ => ?_) (fun _ => ?_)
  · obtain ⟨r, s1, s2, e1, e2, g1, g2, j2⟩ : DS (f_X8_size N 0 (xs ((i : Int) + 1).toNat) (xs ((i : Int) + 2).toNat)) (f_X9_size N 189 (xs ((i : Int) + 1).toNat) (xs ((i : Int) + 2).toNat)) s := DS.of hG (s_size hI rfl (hx _) (hx _) (by omega)) (fun _ => rfl) (fun _ => rfl)
    refine ok_aS ⟨by omega, by omega⟩ ?_
    refine ok_aS ⟨by omega, by omega⟩ ?_
    refine ok_nn ?_
    refine ok_cv e1 hG.1.1 ?_
    refine ok_aS ⟨by omega, by omega⟩ ?_
    refine ok_aS ⟨by omega, by omega⟩ ?_
    refine ok_nn ?_
    refine ok_cv e2 g1.2.1.1 ?_
    refine ok_same ?_
    exact hk s2 g2 j2
  refine ok_ite (fun _ => ?_) (fun _ => ?_)
  · obtain ⟨r, s1, s2, e1, e2, g1, g2, j2⟩ : DS (f_X8_tell N 0 (xs ((i : Int) + 1).toNat) (xs ((i : Int) + 2).toNat) (xs ((i : Int) + 3).toNat)) (f_X9_tell N 189 (xs ((i : Int) + 1).toNat) (xs ((i : Int) + 2).toNat) (xs ((i : Int) + 3).toNat)) s := DS.of hG (s_tell hI rfl (hx _) (hx _) (hx _)) (fun _ => rfl) (fun _ => rfl)
    refine ok_aS ⟨by omega, by omega⟩ ?_
    refine ok_aS ⟨by omega, by omega⟩ ?_
    refine ok_aS ⟨by omega, by omega⟩ ?_
    refine ok_nn ?_
    refine ok_cv e1 hG.1.1 ?_
    refine ok_aS ⟨by omega, by omega⟩ ?_
    refine ok_aS ⟨by omega, by omega⟩ ?_
    refine ok_aS ⟨by omega, by omega⟩ ?_
    refine ok_nn ?_
    refine ok_cv e2 g1.2.1.1 ?_
    refine ok_same ?_
    exact hk s2 g2 j2
  refine ok_ite (fun _ => ?_) (fun _ => ?_)
  · obtain ⟨r, s1, s2, e1, e2, g1, g2, j2⟩ : DS (f_X8_dig N 0 (xs ((i : Int) + 1).toNat) (xs ((i : Int) + 2).toNat)) (f_X9_dig N 189 (xs ((i : Int) + 1).toNat) (xs ((i : Int) + 2).toNat)) s := DS.of hG (s_dig hI rfl (hx _) (hx _) (by omega)) (fun _ => rfl) (fun _ => rfl)
    refine ok_aS ⟨by omega, by omega⟩ ?_
    refine ok_aS ⟨by omega, by omega⟩ ?_
    refine ok_nn ?_
    refine ok_cv e1 hG.1.1 ?_
    refine ok_aS ⟨by omega, by omega⟩ ?_
    refine ok_aS ⟨by omega, by omega⟩ ?_
    refine ok_nn ?_
    refine ok_cv e2 g1.2.1.1 ?_
    refine ok_same ?_
    exact hk s2 g2 j2
  refine ok_ite (fun _ => ?_) (fun _ => ?_)
  · obtain ⟨r, s1, s2, e1, e2, g1, g2, j2⟩ : DS (f_X8_soil N 0 (xs ((i : Int) + 1).toNat) (xs ((i : Int) + 2).toNat) (xs ((i : Int) + 3).toNat) (xs ((i : Int) + 4).toNat)) (f_X9_soil N 189 (xs ((i : Int) + 1).toNat) (xs ((i : Int) + 2).toNat) (xs ((i : Int) + 3).toNat) (xs ((i : Int) + 4).toNat)) s := DS.of hG (s_soil hI rfl (hx _) (hx _) (hx _) (hx _)) (fun _ => rfl) (fun _ => rfl)
    refine ok_aS ⟨by omega, by omega⟩ ?_
    refine ok_aS ⟨by omega, by omega⟩ ?_
    refine ok_aS ⟨by omega, by omega⟩ ?_
    refine ok_aS ⟨by omega, by omega⟩ ?_
    refine ok_nn ?_
    refine ok_cv e1 hG.1.1 ?_
    refine ok_aS ⟨by omega, by omega⟩ ?_
    refine ok_aS ⟨by omega, by omega⟩ ?_
    refine ok_aS ⟨by omega, by omega⟩ ?_
    refine ok_aS ⟨by omega, by omega⟩ ?_
    refine ok_nn ?_
    refine ok_cv e2 g1.2.1.1 ?_
    refine ok_same ?_
    exact hk s2 g2 j2
  refine ok_ite (fun _ => ?_) (fun _ => ?_)
  · obtain ⟨r, s1, s2, e1, e2, g1, g2, j2⟩ : DS (f_X8_quake N 0 (xs ((i : Int) + 1).toNat)) (f_X9_quake N 189 (xs ((i : Int) + 1).toNat)) s := DS.of hG (s_quake hI rfl (hx _)) (fun _ => rfl) (fun _ => rfl)
    refine ok_aS ⟨by omega, by omega⟩ ?_
    refine ok_nn ?_
    refine ok_cv e1 hG.1.1 ?_
    refine ok_aS ⟨by omega, by omega⟩ ?_
    refine ok_nn ?_
    refine ok_cv e2 g1.2.1.1 ?_
    refine ok_same ?_
    exact hk s2 g2 j2
  refine ok_ite (fun _ => ?_) (fun _ => ?_)
  · obtain ⟨r, s1, s2, e1, e2, g1, g2, j2⟩ : DS (f_X8_anchor N 0 (xs ((i : Int) + 1).toNat) (xs ((i : Int) + 2).toNat) (xs ((i : Int) + 3).toNat) (xs ((i : Int) + 4).toNat)) (f_X9_anchor N 189 (xs ((i : Int) + 1).toNat) (xs ((i : Int) + 2).toNat) (xs ((i : Int) + 3).toNat) (xs ((i : Int) + 4).toNat)) s := DS.of hG (s_anchor hI rfl (hx _) (hx _) (hx _) (hx _)) (fun _ => rfl) (fun _ => rfl)
    refine ok_aS ⟨by omega, by omega⟩ ?_
    refine ok_aS ⟨by omega, by omega⟩ ?_
    refine ok_aS ⟨by omega, by omega⟩ ?_
    refine ok_aS ⟨by omega, by omega⟩ ?_
    refine ok_nn ?_
    refine ok_cv e1 hG.1.1 ?_
    refine ok_aS ⟨by omega, by omega⟩ ?_
    refine ok_aS ⟨by omega, by omega⟩ ?_
    refine ok_aS ⟨by omega, by omega⟩ ?_
    refine ok_aS ⟨by omega, by omega⟩ ?_
    refine ok_nn ?_
    refine ok_cv e2 g1.2.1.1 ?_
    refine ok_same ?_
    exact hk s2 g2 j2
  refine ok_ite (fun _ => ?_) (fun _ => ?_)
  · obtain ⟨r, s1, s2, e1, e2, g1, g2, j2⟩ : DS (f_X8_feed N 0 (xs ((i : Int) + 1).toNat) (xs ((i : Int) + 2).toNat) (xs ((i : Int) + 3).toNat) (xs ((i : Int) + 4).toNat) (xs ((i : Int) + 5).toNat)) (f_X9_feed N 189 (xs ((i : Int) + 1).toNat) (xs ((i : Int) + 2).toNat) (xs ((i : Int) + 3).toNat) (xs ((i : Int) + 4).toNat) (xs ((i : Int) + 5).toNat)) s := DS.of hG (s_feed hI rfl (by omega)) (fun _ => rfl) (fun _ => rfl)
    refine ok_aS ⟨by omega, by omega⟩ ?_
    refine ok_aS ⟨by omega, by omega⟩ ?_
    refine ok_aS ⟨by omega, by omega⟩ ?_
    refine ok_aS ⟨by omega, by omega⟩ ?_
    refine ok_aS ⟨by omega, by omega⟩ ?_
    refine ok_nn ?_
    refine ok_cv e1 hG.1.1 ?_
    refine ok_aS ⟨by omega, by omega⟩ ?_
    refine ok_aS ⟨by omega, by omega⟩ ?_
    refine ok_aS ⟨by omega, by omega⟩ ?_
    refine ok_aS ⟨by omega, by omega⟩ ?_
    refine ok_aS ⟨by omega, by omega⟩ ?_
    refine ok_nn ?_
    refine ok_cv e2 g1.2.1.1 ?_
    refine ok_same ?_
    exact hk s2 g2 j2
  refine ok_ite (fun _ => ?_) (fun _ => ?_)
  · obtain ⟨r, s1, s2, e1, e2, g1, g2, j2⟩ : DS (f_X8_end N 0 (xs ((i : Int) + 1).toNat)) (f_X9_end N 189 (xs ((i : Int) + 1).toNat)) s := DS.of hG (s_end hI rfl (hx _)) (fun _ => rfl) (fun _ => rfl)
    refine ok_aS ⟨by omega, by omega⟩ ?_
    refine ok_nn ?_
    refine ok_cv e1 hG.1.1 ?_
    refine ok_aS ⟨by omega, by omega⟩ ?_
    refine ok_nn ?_
    refine ok_cv e2 g1.2.1.1 ?_
    refine ok_same ?_
    exact hk s2 g2 j2
  refine ok_ite (fun _ => ?_) (fun _ => ?_)
  · obtain ⟨r, s1, s2, e1, e2, g1, g2, j2⟩ : DS (f_X8_text N 0) (f_X9_text N 189) s := DS.of hG (s_text hI rfl (by omega)) (fun _ => rfl) (fun _ => rfl)
    refine ok_nn ?_
    refine ok_cv e1 hG.1.1 ?_
    refine ok_nn ?_
    refine ok_cv e2 g1.2.1.1 ?_
    refine ok_same ?_
    exact hk s2 g2 j2
  refine ok_ite (fun _ => ?_) (fun _ => ?_)
  · obtain ⟨r, s1, s2, e1, e2, g1, g2, j2⟩ : DS (f_X8_fault N 0 (xs ((i : Int) + 1).toNat)) (f_X9_fault N 189 (xs ((i : Int) + 1).toNat)) s := DS.of hG (s_fault hI (hx _)) (fun _ => rfl) (fun _ => rfl)
    refine ok_aS ⟨by omega, by omega⟩ ?_
    refine ok_nn ?_
    refine ok_cv e1 hG.1.1 ?_
    refine ok_aS ⟨by omega, by omega⟩ ?_
    refine ok_nn ?_
    refine ok_cv e2 g1.2.1.1 ?_
    refine ok_same ?_
    exact hk s2 g2 j2
  refine ok_ite (fun _ => ?_) (fun _ => ?_)
  · refine ok_aS ⟨by omega, by omega⟩ ?_
    refine ok_aS ⟨by omega, by omega⟩ ?_
    refine ok_aS ⟨by omega, by omega⟩ ?_
    refine ok_aS ⟨by omega, by omega⟩ ?_
    refine ok_ieq (hx _) ⟨by omega, by omega⟩ (fun hb => ?_) (fun hb => ?_)
    · obtain ⟨r, s1, s2, e1, e2, g1, g2, j2⟩ : DS (f_X8_circle N 0 (xs ((i : Int) + 1).toNat) (xs ((i : Int) + 2).toNat) (xs ((i : Int) + 3).toNat) 0) (f_X9_circle N 189 (xs ((i : Int) + 1).toNat) (xs ((i : Int) + 2).toNat) (xs ((i : Int) + 3).toNat) 0) s := DS.of hG (s_circle hI rfl (hx _) (hx _) (hx _) (Or.inl rfl) (by omega)) (fun _ => rfl) (fun _ => rfl)
      unfold f_L_law_613
      refine ok_nn ?_
      refine ok_cv e1 hG.1.1 ?_
      refine ok_aS ⟨by omega, by omega⟩ ?_
      refine ok_aS ⟨by omega, by omega⟩ ?_
      refine ok_aS ⟨by omega, by omega⟩ ?_
      refine ok_aS ⟨by omega, by omega⟩ ?_
      refine ok_ieqT hb ?_
      unfold f_L_law_645
      refine ok_nn ?_
      refine ok_cv e2 g1.2.1.1 ?_
      refine ok_same ?_
      exact hk s2 g2 j2
    · obtain ⟨r, s1, s2, e1, e2, g1, g2, j2⟩ : DS (f_X8_circle N 0 (xs ((i : Int) + 1).toNat) (xs ((i : Int) + 2).toNat) (xs ((i : Int) + 3).toNat) 1) (f_X9_circle N 189 (xs ((i : Int) + 1).toNat) (xs ((i : Int) + 2).toNat) (xs ((i : Int) + 3).toNat) 1) s := DS.of hG (s_circle hI rfl (hx _) (hx _) (hx _) (Or.inr rfl) (by omega)) (fun _ => rfl) (fun _ => rfl)
      unfold f_L_law_613
      refine ok_nn ?_
      refine ok_cv e1 hG.1.1 ?_
      refine ok_aS ⟨by omega, by omega⟩ ?_
      refine ok_aS ⟨by omega, by omega⟩ ?_
      refine ok_aS ⟨by omega, by omega⟩ ?_
      refine ok_aS ⟨by omega, by omega⟩ ?_
      refine ok_ieqF hb (hx _) ⟨by omega, by omega⟩ ?_
      unfold f_L_law_645
      refine ok_nn ?_
      refine ok_cv e2 g1.2.1.1 ?_
      refine ok_same ?_
      exact hk s2 g2 j2
  refine ok_ite (fun _ => ?_) (fun _ => ?_)
  · obtain ⟨r, s1, s2, e1, e2, g1, g2, j2⟩ : DS (f_X8_point N 0 (xs ((i : Int) + 1).toNat) (xs ((i : Int) + 2).toNat)) (f_X9_point N 189 (xs ((i : Int) + 1).toNat) (xs ((i : Int) + 2).toNat)) s := DS.of hG (s_point hI rfl (hx _) (hx _)) (fun _ => rfl) (fun _ => rfl)
    refine ok_aS ⟨by omega, by omega⟩ ?_
    refine ok_aS ⟨by omega, by omega⟩ ?_
    refine ok_nn ?_
    refine ok_cv e1 hG.1.1 ?_
    refine ok_aS ⟨by omega, by omega⟩ ?_
    refine ok_aS ⟨by omega, by omega⟩ ?_
    refine ok_nn ?_
    refine ok_cv e2 g1.2.1.1 ?_
    refine ok_same ?_
    exact hk s2 g2 j2
  refine ok_ite (fun _ => ?_) (fun _ => ?_)
  · refine ok_aS ⟨by omega, by omega⟩ ?_
    refine ok_ieq (hx _) ⟨by omega, by omega⟩ (fun hb => ?_) (fun hb => ?_)
    · obtain ⟨r, s1, s2, e1, e2, g1, g2, j2⟩ : DS (f_X8_points N 0 0) (f_X9_points N 189 0) s := DS.of hG (s_points hI rfl (Or.inl rfl) (by omega)) (fun _ => rfl) (fun _ => rfl)
      unfold f_L_law_700
      refine ok_nn ?_
      refine ok_cv e1 hG.1.1 ?_
      refine ok_aS ⟨by omega, by omega⟩ ?_
      refine ok_ieqT hb ?_
      unfold f_L_law_717
      refine ok_nn ?_
      refine ok_cv e2 g1.2.1.1 ?_
      refine ok_same ?_
      exact hk s2 g2 j2
    · obtain ⟨r, s1, s2, e1, e2, g1, g2, j2⟩ : DS (f_X8_points N 0 1) (f_X9_points N 189 1) s := DS.of hG (s_points hI rfl (Or.inr rfl) (by omega)) (fun _ => rfl) (fun _ => rfl)
      unfold f_L_law_700
      refine ok_nn ?_
      refine ok_cv e1 hG.1.1 ?_
      refine ok_aS ⟨by omega, by omega⟩ ?_
      refine ok_ieqF hb (hx _) ⟨by omega, by omega⟩ ?_
      unfold f_L_law_717
      refine ok_nn ?_
      refine ok_cv e2 g1.2.1.1 ?_
      refine ok_same ?_
      exact hk s2 g2 j2
  refine ok_ite (fun _ => ?_) (fun _ => ?_)
  · refine ok_aS ⟨by omega, by omega⟩ ?_
    refine ok_aS ⟨by omega, by omega⟩ ?_
    refine ok_ieq (hx _) ⟨by omega, by omega⟩ (fun hb => ?_) (fun hb => ?_)
    · obtain ⟨r, s1, s2, e1, e2, g1, g2, j2⟩ : DS (f_X8_worst N 0 (xs ((i : Int) + 1).toNat) 0) (f_X9_worst N 189 (xs ((i : Int) + 1).toNat) 0) s := d_worst hG hI (hx _) (Or.inl rfl) hN
      unfold f_L_law_744
      refine ok_nn ?_
      refine ok_cv e1 hG.1.1 ?_
      refine ok_aS ⟨by omega, by omega⟩ ?_
      refine ok_aS ⟨by omega, by omega⟩ ?_
      refine ok_ieqT hb ?_
      unfold f_L_law_766
      refine ok_nn ?_
      refine ok_cv e2 g1.2.1.1 ?_
      refine ok_same ?_
      exact hk s2 g2 j2
    · obtain ⟨r, s1, s2, e1, e2, g1, g2, j2⟩ : DS (f_X8_worst N 0 (xs ((i : Int) + 1).toNat) 1) (f_X9_worst N 189 (xs ((i : Int) + 1).toNat) 1) s := d_worst hG hI (hx _) (Or.inr rfl) hN
      unfold f_L_law_744
      refine ok_nn ?_
      refine ok_cv e1 hG.1.1 ?_
      refine ok_aS ⟨by omega, by omega⟩ ?_
      refine ok_aS ⟨by omega, by omega⟩ ?_
      refine ok_ieqF hb (hx _) ⟨by omega, by omega⟩ ?_
      unfold f_L_law_766
      refine ok_nn ?_
      refine ok_cv e2 g1.2.1.1 ?_
      refine ok_same ?_
      exact hk s2 g2 j2
  refine ok_ite (fun _ => ?_) (fun _ => ?_)
  · obtain ⟨r, s1, s2, e1, e2, g1, g2, j2⟩ : DS (f_X8_undo N 0) (f_X9_undo N 189) s := DS.of hG (s_undo hI rfl (by omega)) (fun _ => rfl) (fun _ => rfl)
    refine ok_nn ?_
    refine ok_cv e1 hG.1.1 ?_
    refine ok_nn ?_
    refine ok_cv e2 g1.2.1.1 ?_
    refine ok_same ?_
    exact hk s2 g2 j2
  refine ok_ite (fun _ => ?_) (fun _ => ?_)
  · obtain ⟨r, s1, s2, e1, e2, g1, g2, j2⟩ : DS (f_X8_column N 0 (xs ((i : Int) + 1).toNat) (xs ((i : Int) + 2).toNat)) (f_X9_column N 189 (xs ((i : Int) + 1).toNat) (xs ((i : Int) + 2).toNat)) s := DS.of hG (s_column hI rfl (hx _) (hx _) (by omega)) (fun _ => rfl) (fun _ => rfl)
    refine ok_aS ⟨by omega, by omega⟩ ?_
    refine ok_aS ⟨by omega, by omega⟩ ?_
    refine ok_nn ?_
    refine ok_cv e1 hG.1.1 ?_
    refine ok_aS ⟨by omega, by omega⟩ ?_
    refine ok_aS ⟨by omega, by omega⟩ ?_
    refine ok_nn ?_
    refine ok_cv e2 g1.2.1.1 ?_
    refine ok_same ?_
    exact hk s2 g2 j2
  refine ok_ite (fun _ => ?_) (fun _ => ?_)
  · obtain ⟨r, s1, s2, e1, e2, g1, g2, j2⟩ : DS (f_X8_layer N 0 (xs ((i : Int) + 1).toNat) (xs ((i : Int) + 2).toNat)) (f_X9_layer N 189 (xs ((i : Int) + 1).toNat) (xs ((i : Int) + 2).toNat)) s := DS.of hG (s_layer hI rfl (hx _) (hx _)) (fun _ => rfl) (fun _ => rfl)
    refine ok_aS ⟨by omega, by omega⟩ ?_
    refine ok_aS ⟨by omega, by omega⟩ ?_
    refine ok_nn ?_
    refine ok_cv e1 hG.1.1 ?_
    refine ok_aS ⟨by omega, by omega⟩ ?_
    refine ok_aS ⟨by omega, by omega⟩ ?_
    refine ok_nn ?_
    refine ok_cv e2 g1.2.1.1 ?_
    refine ok_same ?_
    exact hk s2 g2 j2
  refine ok_ite (fun _ => ?_) (fun _ => ?_)
  · obtain ⟨r, s1, s2, e1, e2, g1, g2, j2⟩ : DS (f_X8_anchored N 0 (xs ((i : Int) + 1).toNat) (xs ((i : Int) + 2).toNat)) (f_X9_anchored N 189 (xs ((i : Int) + 1).toNat) (xs ((i : Int) + 2).toNat)) s := DS.of hG (s_anchored hI rfl (hx _) (hx _) (by omega)) (fun _ => rfl) (fun _ => rfl)
    refine ok_aS ⟨by omega, by omega⟩ ?_
    refine ok_aS ⟨by omega, by omega⟩ ?_
    refine ok_nn ?_
    refine ok_cv e1 hG.1.1 ?_
    refine ok_aS ⟨by omega, by omega⟩ ?_
    refine ok_aS ⟨by omega, by omega⟩ ?_
    refine ok_nn ?_
    refine ok_cv e2 g1.2.1.1 ?_
    refine ok_same ?_
    exact hk s2 g2 j2
  refine ok_ite (fun _ => ?_) (fun _ => ?_)
  · obtain ⟨r, s1, s2, e1, e2, g1, g2, j2⟩ : DS (f_X8_slice N 0 (xs ((i : Int) + 1).toNat) (xs ((i : Int) + 2).toNat)) (f_X9_slice N 189 (xs ((i : Int) + 1).toNat) (xs ((i : Int) + 2).toNat)) s := DS.of hG (s_slice hI rfl (hx _) (hx _) (by omega)) (fun _ => rfl) (fun _ => rfl)
    refine ok_aS ⟨by omega, by omega⟩ ?_
    refine ok_aS ⟨by omega, by omega⟩ ?_
    refine ok_nn ?_
    refine ok_cv e1 hG.1.1 ?_
    refine ok_aS ⟨by omega, by omega⟩ ?_
    refine ok_aS ⟨by omega, by omega⟩ ?_
    refine ok_nn ?_
    refine ok_cv e2 g1.2.1.1 ?_
    refine ok_samel ?_
    exact hk s2 g2 j2
  refine ok_ite (fun _ => ?_) (fun _ => ?_)
  · obtain ⟨r, s1, s2, e1, e2, g1, g2, j2⟩ : DS (f_X8_rubs N 0 (xs ((i : Int) + 1).toNat) (xs ((i : Int) + 2).toNat)) (f_X9_rubs N 189 (xs ((i : Int) + 1).toNat) (xs ((i : Int) + 2).toNat)) s := DS.of hG (s_rubs hI rfl (hx _) (hx _) (by omega)) (fun _ => rfl) (fun _ => rfl)
    refine ok_aS ⟨by omega, by omega⟩ ?_
    refine ok_aS ⟨by omega, by omega⟩ ?_
    refine ok_nn ?_
    refine ok_cv e1 hG.1.1 ?_
    refine ok_aS ⟨by omega, by omega⟩ ?_
    refine ok_aS ⟨by omega, by omega⟩ ?_
    refine ok_nn ?_
    refine ok_cv e2 g1.2.1.1 ?_
    refine ok_samel ?_
    exact hk s2 g2 j2
  refine ok_ite (fun _ => ?_) (fun _ => ?_)
  · obtain ⟨r, s1, s2, e1, e2, g1, g2, j2⟩ : DS (f_X8_stands N 0 (xs ((i : Int) + 1).toNat)) (f_X9_stands N 189 (xs ((i : Int) + 1).toNat)) s := DS.of hG (s_stands hI rfl (hx _) (by omega)) (fun _ => rfl) (fun _ => rfl)
    refine ok_aS ⟨by omega, by omega⟩ ?_
    refine ok_nn ?_
    refine ok_cv e1 hG.1.1 ?_
    refine ok_aS ⟨by omega, by omega⟩ ?_
    refine ok_nn ?_
    refine ok_cv e2 g1.2.1.1 ?_
    refine ok_same ?_
    exact hk s2 g2 j2
  refine ok_ite (fun _ => ?_) (fun _ => ?_)
  · obtain ⟨r, s1, s2, e1, e2, g1, g2, j2⟩ : DS (f_X8_factor N 0) (f_X9_factor N 189) s := DS.of hG (s_factor hI rfl (by omega)) (fun _ => rfl) (fun _ => rfl)
    refine ok_nn ?_
    refine ok_cv e1 hG.1.1 ?_
    refine ok_nn ?_
    refine ok_cv e2 g1.2.1.1 ?_
    refine ok_same ?_
    exact hk s2 g2 j2
  refine ok_ite (fun _ => ?_) (fun _ => ?_)
  · obtain ⟨r, s1, s2, e1, e2, g1, g2, j2⟩ : DS (f_X8_sum N 0 (xs ((i : Int) + 1).toNat)) (f_X9_sum N 189 (xs ((i : Int) + 1).toNat)) s := DS.of hG (s_sum hI rfl (hx _) (by omega)) (fun _ => rfl) (fun _ => rfl)
    refine ok_aS ⟨by omega, by omega⟩ ?_
    refine ok_nn ?_
    refine ok_cv e1 hG.1.1 ?_
    refine ok_aS ⟨by omega, by omega⟩ ?_
    refine ok_nn ?_
    refine ok_cv e2 g1.2.1.1 ?_
    refine ok_samel ?_
    exact hk s2 g2 j2
  refine ok_ite (fun _ => ?_) (fun _ => ?_)
  · obtain ⟨r, s1, s2, e1, e2, g1, g2, j2⟩ : DS (f_X8_dry N 0) (f_X9_dry N 189) s := DS.of hG (s_dry hI rfl (by omega)) (fun _ => rfl) (fun _ => rfl)
    refine ok_nn ?_
    refine ok_cv e1 hG.1.1 ?_
    refine ok_nn ?_
    refine ok_cv e2 g1.2.1.1 ?_
    refine ok_same ?_
    exact hk s2 g2 j2
  refine ok_ite (fun _ => ?_) (fun _ => ?_)
  · obtain ⟨r, s1, s2, e1, e2, g1, g2, j2⟩ : DS (f_X8_bears N 0 (xs ((i : Int) + 1).toNat)) (f_X9_bears N 189 (xs ((i : Int) + 1).toNat)) s := DS.of hG (s_bears hI rfl (hx _) (by omega)) (fun _ => rfl) (fun _ => rfl)
    refine ok_aS ⟨by omega, by omega⟩ ?_
    refine ok_nn ?_
    refine ok_cv e1 hG.1.1 ?_
    refine ok_aS ⟨by omega, by omega⟩ ?_
    refine ok_nn ?_
    refine ok_cv e2 g1.2.1.1 ?_
    refine ok_same ?_
    exact hk s2 g2 j2
  refine ok_ite (fun _ => ?_) (fun _ => ?_)
  · obtain ⟨r, s1, s2, e1, e2, g1, g2, j2⟩ : DS (f_X8_needs N 0 (xs ((i : Int) + 1).toNat)) (f_X9_needs N 189 (xs ((i : Int) + 1).toNat)) s := DS.of hG (s_needs hI rfl (hx _) (by omega)) (fun _ => rfl) (fun _ => rfl)
    refine ok_aS ⟨by omega, by omega⟩ ?_
    refine ok_nn ?_
    refine ok_cv e1 hG.1.1 ?_
    refine ok_aS ⟨by omega, by omega⟩ ?_
    refine ok_nn ?_
    refine ok_cv e2 g1.2.1.1 ?_
    refine ok_same ?_
    exact hk s2 g2 j2
  refine ok_ite (fun _ => ?_) (fun _ => ?_)
  · obtain ⟨r, s1, s2, e1, e2, g1, g2, j2⟩ : DS (f_X8_pull N 0 (xs ((i : Int) + 1).toNat)) (f_X9_pull N 189 (xs ((i : Int) + 1).toNat)) s := DS.of hG (s_pull hI rfl (hx _) (by omega)) (fun _ => rfl) (fun _ => rfl)
    refine ok_aS ⟨by omega, by omega⟩ ?_
    refine ok_nn ?_
    refine ok_cv e1 hG.1.1 ?_
    refine ok_aS ⟨by omega, by omega⟩ ?_
    refine ok_nn ?_
    refine ok_cv e2 g1.2.1.1 ?_
    refine ok_same ?_
    exact hk s2 g2 j2
  refine ok_ite (fun _ => ?_) (fun _ => ?_)
  · refine ok_aS ⟨by omega, by omega⟩ ?_
    refine ok_aS ⟨by omega, by omega⟩ ?_
    refine ok_aS ⟨by omega, by omega⟩ ?_
    refine ok_aS ⟨by omega, by omega⟩ ?_
    refine ok_ieq (hx _) ⟨by omega, by omega⟩ (fun hb => ?_) (fun hb => ?_)
    · obtain ⟨r, s1, s2, e1, e2, g1, g2, j2⟩ : DS (f_X8_tried N 0 (xs ((i : Int) + 1).toNat) (xs ((i : Int) + 2).toNat) (xs ((i : Int) + 3).toNat) 0) (f_X9_tried N 189 (xs ((i : Int) + 1).toNat) (xs ((i : Int) + 2).toNat) (xs ((i : Int) + 3).toNat) 0) s := DS.of hG (s_tried hI rfl (hx _) (hx _) (hx _) (Or.inl rfl) (by omega)) (fun _ => rfl) (fun _ => rfl)
      unfold f_L_law_1125
      refine ok_nn ?_
      refine ok_cv e1 hG.1.1 ?_
      refine ok_aS ⟨by omega, by omega⟩ ?_
      refine ok_aS ⟨by omega, by omega⟩ ?_
      refine ok_aS ⟨by omega, by omega⟩ ?_
      refine ok_aS ⟨by omega, by omega⟩ ?_
      refine ok_ieqT hb ?_
      unfold f_L_law_1157
      refine ok_nn ?_
      refine ok_cv e2 g1.2.1.1 ?_
      refine ok_same ?_
      exact hk s2 g2 j2
    · obtain ⟨r, s1, s2, e1, e2, g1, g2, j2⟩ : DS (f_X8_tried N 0 (xs ((i : Int) + 1).toNat) (xs ((i : Int) + 2).toNat) (xs ((i : Int) + 3).toNat) 1) (f_X9_tried N 189 (xs ((i : Int) + 1).toNat) (xs ((i : Int) + 2).toNat) (xs ((i : Int) + 3).toNat) 1) s := DS.of hG (s_tried hI rfl (hx _) (hx _) (hx _) (Or.inr rfl) (by omega)) (fun _ => rfl) (fun _ => rfl)
      unfold f_L_law_1125
      refine ok_nn ?_
      refine ok_cv e1 hG.1.1 ?_
      refine ok_aS ⟨by omega, by omega⟩ ?_
      refine ok_aS ⟨by omega, by omega⟩ ?_
      refine ok_aS ⟨by omega, by omega⟩ ?_
      refine ok_aS ⟨by omega, by omega⟩ ?_
      refine ok_ieqF hb (hx _) ⟨by omega, by omega⟩ ?_
      unfold f_L_law_1157
      refine ok_nn ?_
      refine ok_cv e2 g1.2.1.1 ?_
      refine ok_same ?_
      exact hk s2 g2 j2
  refine ok_ite (fun _ => ?_) (fun _ => ?_)
  · refine ok_aS ⟨by omega, by omega⟩ ?_
    refine ok_aS ⟨by omega, by omega⟩ ?_
    refine ok_aS ⟨by omega, by omega⟩ ?_
    refine ok_aS ⟨by omega, by omega⟩ ?_
    refine ok_aS ⟨by omega, by omega⟩ ?_
    refine ok_ieq (hx _) ⟨by omega, by omega⟩ (fun hb => ?_) (fun hb => ?_)
    · obtain ⟨r, s1, s2, e1, e2, g1, g2, j2⟩ : DS (f_X8_boxes N 0 (xs ((i : Int) + 1).toNat) (xs ((i : Int) + 2).toNat) (xs ((i : Int) + 3).toNat) (xs ((i : Int) + 4).toNat) 0 (xs ((i : Int) + 6).toNat)) (f_X9_boxes N 189 (xs ((i : Int) + 1).toNat) (xs ((i : Int) + 2).toNat) (xs ((i : Int) + 3).toNat) (xs ((i : Int) + 4).toNat) 0 (xs ((i : Int) + 6).toNat)) s := DS.of hG (s_boxes hI rfl (hx _) (hx _) (hx _) (hx _) (hx _) (Or.inl rfl) (by omega)) (fun _ => rfl) (fun _ => rfl)
      unfold f_L_law_1199
      refine ok_aS ⟨by omega, by omega⟩ ?_
      refine ok_nn ?_
      refine ok_cv e1 hG.1.1 ?_
      refine ok_aS ⟨by omega, by omega⟩ ?_
      refine ok_aS ⟨by omega, by omega⟩ ?_
      refine ok_aS ⟨by omega, by omega⟩ ?_
      refine ok_aS ⟨by omega, by omega⟩ ?_
      refine ok_aS ⟨by omega, by omega⟩ ?_
      refine ok_ieqT hb ?_
      unfold f_L_law_1242
      refine ok_aS ⟨by omega, by omega⟩ ?_
      refine ok_nn ?_
      refine ok_cv e2 g1.2.1.1 ?_
      refine ok_same ?_
      exact hk s2 g2 j2
    · obtain ⟨r, s1, s2, e1, e2, g1, g2, j2⟩ : DS (f_X8_boxes N 0 (xs ((i : Int) + 1).toNat) (xs ((i : Int) + 2).toNat) (xs ((i : Int) + 3).toNat) (xs ((i : Int) + 4).toNat) 1 (xs ((i : Int) + 6).toNat)) (f_X9_boxes N 189 (xs ((i : Int) + 1).toNat) (xs ((i : Int) + 2).toNat) (xs ((i : Int) + 3).toNat) (xs ((i : Int) + 4).toNat) 1 (xs ((i : Int) + 6).toNat)) s := DS.of hG (s_boxes hI rfl (hx _) (hx _) (hx _) (hx _) (hx _) (Or.inr rfl) (by omega)) (fun _ => rfl) (fun _ => rfl)
      unfold f_L_law_1199
      refine ok_aS ⟨by omega, by omega⟩ ?_
      refine ok_nn ?_
      refine ok_cv e1 hG.1.1 ?_
      refine ok_aS ⟨by omega, by omega⟩ ?_
      refine ok_aS ⟨by omega, by omega⟩ ?_
      refine ok_aS ⟨by omega, by omega⟩ ?_
      refine ok_aS ⟨by omega, by omega⟩ ?_
      refine ok_aS ⟨by omega, by omega⟩ ?_
      refine ok_ieqF hb (hx _) ⟨by omega, by omega⟩ ?_
      unfold f_L_law_1242
      refine ok_aS ⟨by omega, by omega⟩ ?_
      refine ok_nn ?_
      refine ok_cv e2 g1.2.1.1 ?_
      refine ok_same ?_
      exact hk s2 g2 j2
  refine ok_ite (fun _ => ?_) (fun _ => ?_)
  · refine ok_aS ⟨by omega, by omega⟩ ?_
    refine ok_aS ⟨by omega, by omega⟩ ?_
    refine ok_ieq (hx _) ⟨by omega, by omega⟩ (fun hb => ?_) (fun hb => ?_)
    · obtain ⟨r, s1, s2, e1, e2, g1, g2, j2⟩ : DS (f_X8_tables N 0 (xs ((i : Int) + 1).toNat) 0 (xs ((i : Int) + 3).toNat)) (f_X9_tables N 189 (xs ((i : Int) + 1).toNat) 0 (xs ((i : Int) + 3).toNat)) s := d_tables hG hI (hx _) (Or.inl rfl) (hx _) hN
      unfold f_L_law_1275
      refine ok_aS ⟨by omega, by omega⟩ ?_
      refine ok_nn ?_
      refine ok_cv e1 hG.1.1 ?_
      refine ok_aS ⟨by omega, by omega⟩ ?_
      refine ok_aS ⟨by omega, by omega⟩ ?_
      refine ok_ieqT hb ?_
      unfold f_L_law_1302
      refine ok_aS ⟨by omega, by omega⟩ ?_
      refine ok_nn ?_
      refine ok_cv e2 g1.2.1.1 ?_
      refine ok_same ?_
      exact hk s2 g2 j2
    · obtain ⟨r, s1, s2, e1, e2, g1, g2, j2⟩ : DS (f_X8_tables N 0 (xs ((i : Int) + 1).toNat) 1 (xs ((i : Int) + 3).toNat)) (f_X9_tables N 189 (xs ((i : Int) + 1).toNat) 1 (xs ((i : Int) + 3).toNat)) s := d_tables hG hI (hx _) (Or.inr rfl) (hx _) hN
      unfold f_L_law_1275
      refine ok_aS ⟨by omega, by omega⟩ ?_
      refine ok_nn ?_
      refine ok_cv e1 hG.1.1 ?_
      refine ok_aS ⟨by omega, by omega⟩ ?_
      refine ok_aS ⟨by omega, by omega⟩ ?_
      refine ok_ieqF hb (hx _) ⟨by omega, by omega⟩ ?_
      unfold f_L_law_1302
      refine ok_aS ⟨by omega, by omega⟩ ?_
      refine ok_nn ?_
      refine ok_cv e2 g1.2.1.1 ?_
      refine ok_same ?_
      exact hk s2 g2 j2
  refine ok_ite (fun _ => ?_) (fun _ => ?_)
  · refine ok_aS ⟨by omega, by omega⟩ ?_
    refine ok_aS ⟨by omega, by omega⟩ ?_
    refine ok_aS ⟨by omega, by omega⟩ ?_
    refine ok_aS ⟨by omega, by omega⟩ ?_
    refine ok_aS ⟨by omega, by omega⟩ ?_
    refine ok_aS ⟨by omega, by omega⟩ ?_
    refine ok_ieq (hx _) ⟨by omega, by omega⟩ (fun hb => ?_) (fun hb => ?_)
    · obtain ⟨r, s1, s2, e1, e2, g1, g2, j2⟩ : DS (f_X8_dug N 0 (xs ((i : Int) + 1).toNat) (xs ((i : Int) + 2).toNat) (xs ((i : Int) + 3).toNat) (xs ((i : Int) + 4).toNat) (xs ((i : Int) + 5).toNat) 0) (f_X9_dug N 189 (xs ((i : Int) + 1).toNat) (xs ((i : Int) + 2).toNat) (xs ((i : Int) + 3).toNat) (xs ((i : Int) + 4).toNat) (xs ((i : Int) + 5).toNat) 0) s := DS.of hG (s_dug hI rfl (hx _) (hx _) (hx _) (hx _) (hx _) (Or.inl rfl) (by omega)) (fun _ => rfl) (fun _ => rfl)
      unfold f_L_law_1355
      refine ok_nn ?_
      refine ok_cv e1 hG.1.1 ?_
      refine ok_aS ⟨by omega, by omega⟩ ?_
      refine ok_aS ⟨by omega, by omega⟩ ?_
      refine ok_aS ⟨by omega, by omega⟩ ?_
      refine ok_aS ⟨by omega, by omega⟩ ?_
      refine ok_aS ⟨by omega, by omega⟩ ?_
      refine ok_aS ⟨by omega, by omega⟩ ?_
      refine ok_ieqT hb ?_
      unfold f_L_law_1398
      refine ok_nn ?_
      refine ok_cv e2 g1.2.1.1 ?_
      refine ok_same ?_
      exact hk s2 g2 j2
    · obtain ⟨r, s1, s2, e1, e2, g1, g2, j2⟩ : DS (f_X8_dug N 0 (xs ((i : Int) + 1).toNat) (xs ((i : Int) + 2).toNat) (xs ((i : Int) + 3).toNat) (xs ((i : Int) + 4).toNat) (xs ((i : Int) + 5).toNat) 1) (f_X9_dug N 189 (xs ((i : Int) + 1).toNat) (xs ((i : Int) + 2).toNat) (xs ((i : Int) + 3).toNat) (xs ((i : Int) + 4).toNat) (xs ((i : Int) + 5).toNat) 1) s := DS.of hG (s_dug hI rfl (hx _) (hx _) (hx _) (hx _) (hx _) (Or.inr rfl) (by omega)) (fun _ => rfl) (fun _ => rfl)
      unfold f_L_law_1355
      refine ok_nn ?_
      refine ok_cv e1 hG.1.1 ?_
      refine ok_aS ⟨by omega, by omega⟩ ?_
      refine ok_aS ⟨by omega, by omega⟩ ?_
      refine ok_aS ⟨by omega, by omega⟩ ?_
      refine ok_aS ⟨by omega, by omega⟩ ?_
      refine ok_aS ⟨by omega, by omega⟩ ?_
      refine ok_aS ⟨by omega, by omega⟩ ?_
      refine ok_ieqF hb (hx _) ⟨by omega, by omega⟩ ?_
      unfold f_L_law_1398
      refine ok_nn ?_
      refine ok_cv e2 g1.2.1.1 ?_
      refine ok_same ?_
      exact hk s2 g2 j2
  refine ok_ite (fun _ => ?_) (fun _ => ?_)
  · obtain ⟨r, s1, s2, e1, e2, g1, g2, j2⟩ : DS (f_X8_mirror N 0) (f_X9_mirror N 189) s := DS.of hG (s_mirror hI rfl (by omega)) (fun _ => rfl) (fun _ => rfl)
    refine ok_nn ?_
    refine ok_cv e1 hG.1.1 ?_
    refine ok_nn ?_
    refine ok_cv e2 g1.2.1.1 ?_
    refine ok_same ?_
    exact hk s2 g2 j2
  refine ok_ite (fun _ => ?_) (fun _ => ?_)
  · obtain ⟨r, s1, s2, e1, e2, g1, g2, j2⟩ : DS (f_X8_berm N 0 (xs ((i : Int) + 1).toNat) (xs ((i : Int) + 2).toNat) (xs ((i : Int) + 3).toNat)) (f_X9_berm N 189 (xs ((i : Int) + 1).toNat) (xs ((i : Int) + 2).toNat) (xs ((i : Int) + 3).toNat)) s := DS.of hG (s_berm hI rfl (hx _) (hx _) (hx _) (by omega)) (fun _ => rfl) (fun _ => rfl)
    refine ok_aS ⟨by omega, by omega⟩ ?_
    refine ok_aS ⟨by omega, by omega⟩ ?_
    refine ok_aS ⟨by omega, by omega⟩ ?_
    refine ok_nn ?_
    refine ok_cv e1 hG.1.1 ?_
    refine ok_aS ⟨by omega, by omega⟩ ?_
    refine ok_aS ⟨by omega, by omega⟩ ?_
    refine ok_aS ⟨by omega, by omega⟩ ?_
    refine ok_nn ?_
    refine ok_cv e2 g1.2.1.1 ?_
    refine ok_same ?_
    exact hk s2 g2 j2
  refine ok_ite (fun _ => ?_) (fun _ => ?_)
  · obtain ⟨r, s1, s2, e1, e2, g1, g2, j2⟩ : DS (f_X8_shape N 0 (xs ((i : Int) + 1).toNat)) (f_X9_shape N 189 (xs ((i : Int) + 1).toNat)) s := DS.of hG (s_shape hI rfl (hx _) (by omega)) (fun _ => rfl) (fun _ => rfl)
    refine ok_aS ⟨by omega, by omega⟩ ?_
    refine ok_nn ?_
    refine ok_cv e1 hG.1.1 ?_
    refine ok_aS ⟨by omega, by omega⟩ ?_
    refine ok_nn ?_
    refine ok_cv e2 g1.2.1.1 ?_
    refine ok_same ?_
    exact hk s2 g2 j2
  refine ok_ite (fun _ => ?_) (fun _ => ?_)
  · obtain ⟨r, s1, s2, e1, e2, g1, g2, j2⟩ : DS (f_X8_thrust N 0 (xs ((i : Int) + 1).toNat) (xs ((i : Int) + 2).toNat)) (f_X9_thrust N 189 (xs ((i : Int) + 1).toNat) (xs ((i : Int) + 2).toNat)) s := DS.of hG (s_thrust hI rfl (hx _) (hx _) (by omega)) (fun _ => rfl) (fun _ => rfl)
    refine ok_aS ⟨by omega, by omega⟩ ?_
    refine ok_aS ⟨by omega, by omega⟩ ?_
    refine ok_nn ?_
    refine ok_cv e1 hG.1.1 ?_
    refine ok_aS ⟨by omega, by omega⟩ ?_
    refine ok_aS ⟨by omega, by omega⟩ ?_
    refine ok_nn ?_
    refine ok_cv e2 g1.2.1.1 ?_
    refine ok_samel ?_
    exact hk s2 g2 j2
  refine ok_ite (fun _ => ?_) (fun _ => ?_)
  · obtain ⟨r, s1, s2, e1, e2, g1, g2, j2⟩ : DS (f_X8_crest N 0 (xs ((i : Int) + 1).toNat)) (f_X9_crest N 189 (xs ((i : Int) + 1).toNat)) s := DS.of hG (s_crest hI rfl (hx _) (by omega)) (fun _ => rfl) (fun _ => rfl)
    refine ok_aS ⟨by omega, by omega⟩ ?_
    refine ok_nn ?_
    refine ok_cv e1 hG.1.1 ?_
    refine ok_aS ⟨by omega, by omega⟩ ?_
    refine ok_nn ?_
    refine ok_cv e2 g1.2.1.1 ?_
    refine ok_same ?_
    exact hk s2 g2 j2
  refine ok_ite (fun _ => ?_) (fun _ => ?_)
  · refine ok_aS ⟨by omega, by omega⟩ ?_
    refine ok_aS ⟨by omega, by omega⟩ ?_
    refine ok_aS ⟨by omega, by omega⟩ ?_
    refine ok_aS ⟨by omega, by omega⟩ ?_
    refine ok_aS ⟨by omega, by omega⟩ ?_
    refine ok_aS ⟨by omega, by omega⟩ ?_
    refine ok_ieq (hx _) ⟨by omega, by omega⟩ (fun hb => ?_) (fun hb => ?_)
    · obtain ⟨r, s1, s2, e1, e2, g1, g2, j2⟩ : DS (f_X8_deep N 0 (xs ((i : Int) + 1).toNat) (xs ((i : Int) + 2).toNat) (xs ((i : Int) + 3).toNat) (xs ((i : Int) + 4).toNat) (xs ((i : Int) + 5).toNat) 0) (f_X9_deep N 189 (xs ((i : Int) + 1).toNat) (xs ((i : Int) + 2).toNat) (xs ((i : Int) + 3).toNat) (xs ((i : Int) + 4).toNat) (xs ((i : Int) + 5).toNat) 0) s := DS.of hG (s_deep hI rfl (hx _) (hx _) (hx _) (hx _) (hx _) (Or.inl rfl) (by omega)) (fun _ => rfl) (fun _ => rfl)
      unfold f_L_law_1582
      refine ok_nn ?_
      refine ok_cv e1 hG.1.1 ?_
      refine ok_aS ⟨by omega, by omega⟩ ?_
      refine ok_aS ⟨by omega, by omega⟩ ?_
      refine ok_aS ⟨by omega, by omega⟩ ?_
      refine ok_aS ⟨by omega, by omega⟩ ?_
      refine ok_aS ⟨by omega, by omega⟩ ?_
      refine ok_aS ⟨by omega, by omega⟩ ?_
      refine ok_ieqT hb ?_
      unfold f_L_law_1625
      refine ok_nn ?_
      refine ok_cv e2 g1.2.1.1 ?_
      refine ok_same ?_
      exact hk s2 g2 j2
    · obtain ⟨r, s1, s2, e1, e2, g1, g2, j2⟩ : DS (f_X8_deep N 0 (xs ((i : Int) + 1).toNat) (xs ((i : Int) + 2).toNat) (xs ((i : Int) + 3).toNat) (xs ((i : Int) + 4).toNat) (xs ((i : Int) + 5).toNat) 1) (f_X9_deep N 189 (xs ((i : Int) + 1).toNat) (xs ((i : Int) + 2).toNat) (xs ((i : Int) + 3).toNat) (xs ((i : Int) + 4).toNat) (xs ((i : Int) + 5).toNat) 1) s := DS.of hG (s_deep hI rfl (hx _) (hx _) (hx _) (hx _) (hx _) (Or.inr rfl) (by omega)) (fun _ => rfl) (fun _ => rfl)
      unfold f_L_law_1582
      refine ok_nn ?_
      refine ok_cv e1 hG.1.1 ?_
      refine ok_aS ⟨by omega, by omega⟩ ?_
      refine ok_aS ⟨by omega, by omega⟩ ?_
      refine ok_aS ⟨by omega, by omega⟩ ?_
      refine ok_aS ⟨by omega, by omega⟩ ?_
      refine ok_aS ⟨by omega, by omega⟩ ?_
      refine ok_aS ⟨by omega, by omega⟩ ?_
      refine ok_ieqF hb (hx _) ⟨by omega, by omega⟩ ?_
      unfold f_L_law_1625
      refine ok_nn ?_
      refine ok_cv e2 g1.2.1.1 ?_
      refine ok_same ?_
      exact hk s2 g2 j2
  refine ok_ite (fun _ => ?_) (fun _ => ?_)
  · refine ok_aS ⟨by omega, by omega⟩ ?_
    refine ok_aS ⟨by omega, by omega⟩ ?_
    refine ok_aS ⟨by omega, by omega⟩ ?_
    refine ok_aS ⟨by omega, by omega⟩ ?_
    refine ok_aS ⟨by omega, by omega⟩ ?_
    refine ok_ieq (hx _) ⟨by omega, by omega⟩ (fun hb => ?_) (fun hb => ?_)
    · obtain ⟨r, s1, s2, e1, e2, g1, g2, j2⟩ : DS (f_X8_scan N 0 (xs ((i : Int) + 1).toNat) (xs ((i : Int) + 2).toNat) (xs ((i : Int) + 3).toNat) (xs ((i : Int) + 4).toNat) 0 (xs ((i : Int) + 6).toNat) (xs ((i : Int) + 7).toNat)) (f_X9_scan N 189 (xs ((i : Int) + 1).toNat) (xs ((i : Int) + 2).toNat) (xs ((i : Int) + 3).toNat) (xs ((i : Int) + 4).toNat) 0 (xs ((i : Int) + 6).toNat) (xs ((i : Int) + 7).toNat)) s := DS.of hG (s_scan hI rfl (hx _) (hx _) (hx _) (hx _) (hx _) (hx _) (Or.inl rfl) (by omega)) (fun _ => rfl) (fun _ => rfl)
      unfold f_L_law_1667
      refine ok_aS ⟨by omega, by omega⟩ ?_
      refine ok_aS ⟨by omega, by omega⟩ ?_
      refine ok_nn ?_
      refine ok_cv e1 hG.1.1 ?_
      refine ok_aS ⟨by omega, by omega⟩ ?_
      refine ok_aS ⟨by omega, by omega⟩ ?_
      refine ok_aS ⟨by omega, by omega⟩ ?_
      refine ok_aS ⟨by omega, by omega⟩ ?_
      refine ok_aS ⟨by omega, by omega⟩ ?_
      refine ok_ieqT hb ?_
      unfold f_L_law_1716
      refine ok_aS ⟨by omega, by omega⟩ ?_
      refine ok_aS ⟨by omega, by omega⟩ ?_
      refine ok_nn ?_
      refine ok_cv e2 g1.2.1.1 ?_
      refine ok_same ?_
      exact hk s2 g2 j2
    · obtain ⟨r, s1, s2, e1, e2, g1, g2, j2⟩ : DS (f_X8_scan N 0 (xs ((i : Int) + 1).toNat) (xs ((i : Int) + 2).toNat) (xs ((i : Int) + 3).toNat) (xs ((i : Int) + 4).toNat) 1 (xs ((i : Int) + 6).toNat) (xs ((i : Int) + 7).toNat)) (f_X9_scan N 189 (xs ((i : Int) + 1).toNat) (xs ((i : Int) + 2).toNat) (xs ((i : Int) + 3).toNat) (xs ((i : Int) + 4).toNat) 1 (xs ((i : Int) + 6).toNat) (xs ((i : Int) + 7).toNat)) s := DS.of hG (s_scan hI rfl (hx _) (hx _) (hx _) (hx _) (hx _) (hx _) (Or.inr rfl) (by omega)) (fun _ => rfl) (fun _ => rfl)
      unfold f_L_law_1667
      refine ok_aS ⟨by omega, by omega⟩ ?_
      refine ok_aS ⟨by omega, by omega⟩ ?_
      refine ok_nn ?_
      refine ok_cv e1 hG.1.1 ?_
      refine ok_aS ⟨by omega, by omega⟩ ?_
      refine ok_aS ⟨by omega, by omega⟩ ?_
      refine ok_aS ⟨by omega, by omega⟩ ?_
      refine ok_aS ⟨by omega, by omega⟩ ?_
      refine ok_aS ⟨by omega, by omega⟩ ?_
      refine ok_ieqF hb (hx _) ⟨by omega, by omega⟩ ?_
      unfold f_L_law_1716
      refine ok_aS ⟨by omega, by omega⟩ ?_
      refine ok_aS ⟨by omega, by omega⟩ ?_
      refine ok_nn ?_
      refine ok_cv e2 g1.2.1.1 ?_
      refine ok_same ?_
      exact hk s2 g2 j2
  refine ok_ite (fun _ => ?_) (fun _ => ?_)
  · obtain ⟨r, s1, s2, e1, e2, g1, g2, j2⟩ : DS (f_X8_state N 0 (xs ((i : Int) + 1).toNat)) (f_X9_state N 189 (xs ((i : Int) + 1).toNat)) s := DS.of hG (s_state hI rfl) (fun _ => rfl) (fun _ => rfl)
    refine ok_aS ⟨by omega, by omega⟩ ?_
    refine ok_nn ?_
    refine ok_cv e1 hG.1.1 ?_
    refine ok_aS ⟨by omega, by omega⟩ ?_
    refine ok_nn ?_
    refine ok_cv e2 g1.2.1.1 ?_
    refine ok_same ?_
    exact hk s2 g2 j2
  refine ok_ite (fun _ => ?_) (fun _ => ?_)
  · obtain ⟨r, s1, s2, e1, e2, g1, g2, j2⟩ : DS (f_X8_chance N 0 (xs ((i : Int) + 1).toNat) (xs ((i : Int) + 2).toNat) (xs ((i : Int) + 3).toNat)) (f_X9_chance N 189 (xs ((i : Int) + 1).toNat) (xs ((i : Int) + 2).toNat) (xs ((i : Int) + 3).toNat)) s := DS.of hG (s_chance hI rfl (hx _) (hx _) (hx _) (by omega)) (fun _ => rfl) (fun _ => rfl)
    refine ok_aS ⟨by omega, by omega⟩ ?_
    refine ok_aS ⟨by omega, by omega⟩ ?_
    refine ok_aS ⟨by omega, by omega⟩ ?_
    refine ok_nn ?_
    refine ok_cv e1 hG.1.1 ?_
    refine ok_aS ⟨by omega, by omega⟩ ?_
    refine ok_aS ⟨by omega, by omega⟩ ?_
    refine ok_aS ⟨by omega, by omega⟩ ?_
    refine ok_nn ?_
    refine ok_cv e2 g1.2.1.1 ?_
    refine ok_same ?_
    exact hk s2 g2 j2
  refine ok_ite (fun _ => ?_) (fun _ => ?_)
  · obtain ⟨r, s1, s2, e1, e2, g1, g2, j2⟩ : DS (f_X8_report N 0) (f_X9_report N 189) s := DS.of hG (s_report hI rfl (by omega)) (fun _ => rfl) (fun _ => rfl)
    refine ok_nn ?_
    refine ok_cv e1 hG.1.1 ?_
    refine ok_nn ?_
    refine ok_cv e2 g1.2.1.1 ?_
    refine ok_same ?_
    exact hk s2 g2 j2
  refine ok_ite (fun _ => ?_) (fun _ => ?_)
  · obtain ⟨r, s1, s2, e1, e2, g1, g2, j2⟩ : DS (f_X8_sign N 0 (xs ((i : Int) + 1).toNat)) (f_X9_sign N 189 (xs ((i : Int) + 1).toNat)) s := DS.of hG (s_sign hI (hx _)) (fun _ => rfl) (fun _ => rfl)
    refine ok_aS ⟨by omega, by omega⟩ ?_
    refine ok_nn ?_
    refine ok_cv e1 hG.1.1 ?_
    refine ok_aS ⟨by omega, by omega⟩ ?_
    refine ok_nn ?_
    refine ok_cv e2 g1.2.1.1 ?_
    refine ok_same ?_
    exact hk s2 g2 j2
  refine ok_ite (fun _ => ?_) (fun _ => ?_)
  · refine ok_aS ⟨by omega, by omega⟩ ?_
    refine ok_ieq (hx _) ⟨by omega, by omega⟩ (fun hb => ?_) (fun hb => ?_)
    · obtain ⟨r, s1, s2, e1, e2, g1, g2, j2⟩ : DS (f_X8_image N 0 0) (f_X9_image N 189 0) s := DS.of hG (s_image hI rfl (Or.inl rfl) (by omega)) (fun _ => rfl) (fun _ => rfl)
      unfold f_L_law_1852
      refine ok_nn ?_
      refine ok_cv e1 hG.1.1 ?_
      refine ok_aS ⟨by omega, by omega⟩ ?_
      refine ok_ieqT hb ?_
      unfold f_L_law_1869
      refine ok_nn ?_
      refine ok_cv e2 g1.2.1.1 ?_
      refine ok_same ?_
      exact hk s2 g2 j2
    · obtain ⟨r, s1, s2, e1, e2, g1, g2, j2⟩ : DS (f_X8_image N 0 1) (f_X9_image N 189 1) s := DS.of hG (s_image hI rfl (Or.inr rfl) (by omega)) (fun _ => rfl) (fun _ => rfl)
      unfold f_L_law_1852
      refine ok_nn ?_
      refine ok_cv e1 hG.1.1 ?_
      refine ok_aS ⟨by omega, by omega⟩ ?_
      refine ok_ieqF hb (hx _) ⟨by omega, by omega⟩ ?_
      unfold f_L_law_1869
      refine ok_nn ?_
      refine ok_cv e2 g1.2.1.1 ?_
      refine ok_same ?_
      exact hk s2 g2 j2
  refine ok_ite (fun _ => ?_) (fun _ => ?_)
  · obtain ⟨r, s1, s2, e1, e2, g1, g2, j2⟩ : DS (f_X8_look N 0 (xs ((i : Int) + 1).toNat)) (f_X9_look N 189 (xs ((i : Int) + 1).toNat)) s := DS.of hG (s_look hI rfl (hx _) (by omega)) (fun _ => rfl) (fun _ => rfl)
    refine ok_aS ⟨by omega, by omega⟩ ?_
    refine ok_nn ?_
    refine ok_cv e1 hG.1.1 ?_
    refine ok_aS ⟨by omega, by omega⟩ ?_
    refine ok_nn ?_
    refine ok_cv e2 g1.2.1.1 ?_
    refine ok_same ?_
    exact hk s2 g2 j2
  exact hk s hG hI
theorem law_loop (hN : 10000 ≤ N) (hL : L ≤ 4096) (hx : ∀ j, sj_i32 (xs j)) : ∀ (m i : Nat) (s : sj_Mem), i ≤ L → L + 8 ≤ i + 8 * m → GI s.1 → INV s.2 0 189 → OKo (f_L_law_18 N L xs m (some 0) (some 189) (i : Int) s)
  | 0, _, _, h1, h2, _, _ => absurd h2 (by omega)
  | m + 1, i, s, h1, h2, hG, hI => by
    by_cases hi : (L : Int) - 8 < (i : Int)
    · show OKo (f_L_law_18_b N L xs (f_L_law_18 N L xs m) (some 0) (some 189) (i : Int) s)
      unfold f_L_law_18_b
      rw [k_ltT hi ⟨by omega, by omega⟩ ⟨by omega, by omega⟩]
      exact ⟨s, if_pos (Or.inr rfl), hG⟩
    · refine law_step hN hx hG hI hi hL (fun s' hG' hI' => ?_)
      unfold f_L_law_1900
      rw [k_lt, show (i : Int) + 8 = ((i + 8 : Nat) : Int) by omega]
      exact law_loop hN hL hx m (i + 8) s' (by omega) (by omega) hG' hI'
theorem law_one {s : sj_Mem} (hN : 10000 ≤ N) (hL : L ≤ 4096) (hx : ∀ j, sj_i32 (xs j)) (hz : sj_sz s = 0) (hl : sj_sl s = 0) : OKo (f_L_law N L xs s) := by
  obtain ⟨s6, e, hG, hI⟩ := law_start (N := N) (L := L) (xs := xs) hz hl (by omega)
  rw [e]
  exact law_loop hN hL hx N 0 s6 (by omega) (by omega) hG hI
theorem GI.sz {g : sj_G} (h : GI g) : g.2.2.1 ≤ 208 ∧ g.2.2.2 ≤ 60000 := by
  rcases h.2.2 with ⟨_, h1, h2⟩ | ⟨_, _, h1, h2⟩
  · omega
  · omega
end Law
