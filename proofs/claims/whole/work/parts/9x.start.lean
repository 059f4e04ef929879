/-! the reference's constructor; the start -/
def ks9 : Nat → Nat × Nat := fun i => if i < 3 then (100, 390) else if i = 3 then (100, 2912) else if i = 4 then (100, 41) else if i = 5 then (101, 4141) else if i = 6 then (100, 4141) else if i = 7 then (101, 41) else if i = 8 then (100, 40) else if i = 9 then (103, 600) else (102, 20)
def fl9 : Nat → Nat := fun i => if i < 4 then i else if i = 4 then 16 else if i < 9 then i + 17 else if i = 9 then 27 else 34
section Make9
variable {s s0 : sj_Mem} {N : Nat}
set_option maxHeartbeats 2000000 in
theorem mk_9 (z0 : sj_sz s = 190) (h2 : s.1.1 189 = (9, 0)) (h3 : ∀ k, s.2 189 k = 0) (hN : 1000 ≤ N) : ∃ s', f_X9_init N 189 s = some ((), s') ∧ (sj_sz s' = 201 ∧ sj_sl s' = sj_sl s + 13106 ∧ Lo 189 s s') ∧ OK9 s'.1 189 ∧ s'.2 190 = wBeg (fun _ => 0) 20 4 ∧ ∀ k, s'.2 189 k = if k = 31 then -1 else if k = 13 then -1 else 0 := by
  unfold f_X9_init
  have A0 : AI s s 189 9 ks9 fl9 (fun _ => 0) 0 0 := AI.zero z0 h2 h3
  have A1 := A0.next (kd := 100) (n := Int.toNat 390) (k := 0) (l2 := 390) rfl rfl (by decide) rfl
  rw [q_arr (by omega) A0.is]
  have A2 := A1.next (kd := 100) (n := Int.toNat 390) (k := 1) (l2 := 780) rfl rfl (by decide) rfl
  rw [q_arr (by omega) A1.is]
  have A3 := A2.next (kd := 100) (n := Int.toNat 390) (k := 2) (l2 := 1170) rfl rfl (by decide) rfl
  rw [q_arr (by omega) A2.is]
  have A4 := A3.next (kd := 100) (n := Int.toNat 2912) (k := 3) (l2 := 4082) rfl rfl (by decide) rfl
  rw [q_arr (by omega) A3.is]
  clear A0 A1 A2 A3
  generalize arr (arr (arr (arr s 100 (Int.toNat 390) 189 0) 100 (Int.toNat 390) 189 1) 100 (Int.toNat 390) 189 2) 100 (Int.toNat 2912) 189 3 = s1 at A4 ⊢
  have A5 := A4.put 13 (-1)
  rw [q_pI A4.is]
  clear A4
  generalize (s1.1, sj_up s1.2 189 13 (-1)) = s2 at A5 ⊢
  have A6 := A5.next (kd := 100) (n := Int.toNat 41) (k := 16) (l2 := 4123) rfl rfl (by decide) rfl
  rw [q_arr (by omega) A5.is]
  have A7 := A6.next (kd := 101) (n := Int.toNat 4141) (k := 22) (l2 := 8264) rfl rfl (by decide) rfl
  rw [q_arr (by omega) A6.is]
  have A8 := A7.next (kd := 100) (n := Int.toNat 4141) (k := 23) (l2 := 12405) rfl rfl (by decide) rfl
  rw [q_arr (by omega) A7.is]
  have A9 := A8.next (kd := 101) (n := Int.toNat 41) (k := 24) (l2 := 12446) rfl rfl (by decide) rfl
  rw [q_arr (by omega) A8.is]
  have A10 := A9.next (kd := 100) (n := Int.toNat 40) (k := 25) (l2 := 12486) rfl rfl (by decide) rfl
  rw [q_arr (by omega) A9.is]
  have A11 := A10.next (kd := 103) (n := Int.toNat 600) (k := 27) (l2 := 13086) rfl rfl (by decide) rfl
  rw [q_arr (by omega) A10.is]
  clear A5 A6 A7 A8 A9 A10
  generalize arr (arr (arr (arr (arr (arr s2 100 (Int.toNat 41) 189 16) 101 (Int.toNat 4141) 189 22) 100 (Int.toNat 4141) 189 23) 101 (Int.toNat 41) 189 24) 100 (Int.toNat 40) 189 25) 103 (Int.toNat 600) 189 27 = s3 at A11 ⊢
  have A12 := A11.put 31 (-1)
  rw [q_pI A11.is]
  clear A11
  generalize (s3.1, sj_up s3.2 189 31 (-1)) = s4 at A12 ⊢
  have A13 := A12.next (kd := 102) (n := Int.toNat 20) (k := 34) (l2 := 13106) rfl rfl (by decide) rfl
  rw [q_arr (by omega) A12.is]
  clear A12
  generalize arr s4 102 (Int.toNat 20) 189 34 = sF at A13 ⊢
  have ok9 : OK9 sF.1 189 := ⟨A13.is, ⟨A13.ref (j := 0) (by omega), A13.oka (j := 0) (by omega) rfl (by omega)⟩, ⟨A13.ref (j := 1) (by omega), A13.oka (j := 1) (by omega) rfl (by omega)⟩, ⟨A13.ref (j := 2) (by omega), A13.oka (j := 2) (by omega) rfl (by omega)⟩, ⟨A13.ref (j := 3) (by omega), A13.oka (j := 3) (by omega) rfl (by omega)⟩, ⟨A13.ref (j := 4) (by omega), A13.oka (j := 4) (by omega) rfl (by omega)⟩, ⟨A13.ref (j := 5) (by omega), A13.oka (j := 5) (by omega) rfl (by omega)⟩, ⟨A13.ref (j := 6) (by omega), A13.oka (j := 6) (by omega) rfl (by omega)⟩, ⟨A13.ref (j := 7) (by omega), A13.oka (j := 7) (by omega) rfl (by omega)⟩, ⟨A13.ref (j := 8) (by omega), A13.oka (j := 8) (by omega) rfl (by omega)⟩, ⟨A13.ref (j := 9) (by omega), A13.oka (j := 9) (by omega) rfl (by omega)⟩, ⟨A13.ref (j := 10) (by omega), A13.oka (j := 10) (by omega) rfl (by omega)⟩⟩
  obtain ⟨V', b1, b2, b3⟩ := m_begins (N := N) (b := 189) (n := 20) (d := 4) (V := sF.2) hN
  have hb : f_X9_begins N 189 20 4 sF = some ((), (sF.1, V')) := fx_begins (g := sF.1) (V := sF.2) ok9 b1
  rw [q_cv A13.is, hb, q_cl]
  have e0 : sF.2 190 = fun _ => 0 := funext fun k => (A13.2.2.2.2.1 0 (by omega)).2.2 k
  refine ⟨_, rfl, ⟨A13.1, A13.2.1, fun x hx => ?_⟩, ok9, ?_, fun k => ?_⟩
  · have p := A13.2.2.2.1 x hx
    exact ⟨p.1, p.2.1, (b2 x (by omega)).trans p.2.2⟩
  · refine b3.trans ?_
    rw [e0]
  · show V' 189 k = _
    rw [b2 189 (by omega)]
    exact A13.2.2.2.2.2 k
end Make9
section Start
variable {s : sj_Mem} {N L : Nat} {xs : Nat → Int}
theorem law_start (hz : sj_sz s = 0) (hl : sj_sl s = 0) (hN : 1000 ≤ N) : ∃ s6, f_L_law N L xs s = f_L_law_18 N L xs N (some 0) (some 189) 0 s6 ∧ GI s6.1 ∧ INV s6.2 0 189 := by
  unfold f_L_law
  obtain ⟨n1, n2, n3⟩ := new_0 (cj := 8) (n := 15) hz
  have n4 : (sj_new s 8 0 15).1.2.1 0 11 = none := by
    show (if 0 = sj_sz s then none else s.1.2.1 0 11) = none
    rw [if_pos hz.symm]
  obtain ⟨s3, q1, ⟨⟨c1, c2, c3, c4⟩, d1, ⟨d2, d3, d4⟩, d5, d6, d7, d8, d9⟩⟩ := mk_8 (N := N) n1 n2 n3 n4 (by omega)
  rw [q_nO, hz, q1, q_cl, q_nO, c3]
  obtain ⟨m1, m2, m3⟩ := new_0 (cj := 9) (n := 35) c3
  obtain ⟨s6, r1, ⟨r2, r3, r4⟩, r5, r6, r7⟩ := mk_9 (N := N) m1 m2 m3 hN
  rw [r1, q_cl]
  have ge : GE s3.1 s6.1 := fun x hx => by
    have hx' : x < 189 := by have h : s3.1.2.2.1 = 189 := c3; omega
    have p := r4 x hx'
    have e1 : x ≠ sj_sz s3 := by rw [c3]; omega
    refine ⟨by have h : s6.1.2.2.1 = 201 := r2; omega, p.1.trans (if_neg e1), fun k _ _ => ?_⟩
    rw [p.2.1]
    exact if_neg e1
  have lo : ∀ x, x < 189 → s6.2 x = s3.2 x := fun x hx => by
    refine (r4 x hx).2.2.trans ?_
    funext y
    have e1 : x ≠ sj_sz s3 := by rw [c3]; omega
    exact if_neg e1
  have f11 : s6.1.2.1 0 11 = none := by
    rw [(r4 0 (by omega)).2.1]
    refine Eq.trans (if_neg ?_) c2
    rw [c3]; omega
  have sl : s6.1.2.2.2 ≤ 40000 := by
    have h1 : sj_sl (sj_new s 8 0 15) = sj_sl s + 15 := rfl
    have h2 : sj_sl (sj_new s3 9 0 35) = sj_sl s3 + 35 := rfl
    show sj_sl s6 ≤ 40000
    omega
  have zw : ∀ j, 364 ≤ j → s6.2 190 j = 0 := fun j hj => by rw [r6]; exact wBeg_o _ _ _ hj
  have v0 : ∀ k, s6.2 0 k = 0 := fun k => by rw [lo 0 (by omega)]; exact d5 k
  have v9 : ∀ k, k ≠ 31 → k ≠ 13 → s6.2 189 k = 0 := fun k k1 k2 => by rw [r7, if_neg k1, if_neg k2]
  have v43 : ∀ i, i < 3 → ∀ k, s6.2 (43 + i) k = 0 := fun i hi k => by rw [lo _ (by omega)]; exact d7 i hi k
  refine ⟨s6, rfl, ⟨c1.ge ge, r5, Or.inl ⟨f11, r2, sl⟩⟩, ?_, ?_, ?_, ?_, ?_, ?_⟩
  · show RG s6.2 1 (s6.2 190)
    rw [r6]
    exact RG.beg _ (by omega) (by omega) (d1.rows (fun k hk => lo _ (by omega))) (by rw [lo _ (by omega)]; exact d2) (by rw [lo _ (by omega)]; exact d3) (by rw [lo _ (by omega)]; exact Or.inl d4)
  · show HE s6.2 43 (s6.2 190)
    refine ⟨⟨?_, ?_⟩, ⟨?_, ?_⟩, fun i hi => ⟨?_, ?_⟩, fun i hi => ?_, fun i hi => ?_⟩
    · rw [zw _ (by omega)]; exact v43 0 (by omega) 2
    · rw [zw _ (by omega)]; exact v43 0 (by omega) 3
    · rw [zw _ (by omega)]; omega
    · rw [zw _ (by omega)]; omega
    · rw [zw _ (by omega)]; exact v43 1 (by omega) i
    · rw [zw _ (by omega)]; exact v43 2 (by omega) i
    · rw [zw _ (by omega)] at hi; omega
    · rw [zw _ (by omega)] at hi; omega
  · show UN s6.2 0 189
    have e4 := v9 4 (by omega) (by omega)
    refine ⟨by rw [v0, e4], by rw [e4]; omega, by rw [v0]; omega, fun i hi => ?_⟩
    rw [e4] at hi; omega
  · show IM s6.2 0 189
    have e5 := v9 5 (by omega) (by omega)
    refine ⟨by rw [v0, e5], by rw [e5]; omega, fun h => ?_, ?_⟩
    · rw [e5] at h; omega
    · show s6.2 27 3 = 0 ∨ s6.2 27 3 = 1
      rw [lo _ (by omega)]; exact Or.inl d6
  · show TA s6.2 0 189
    have e28 := v9 28 (by omega) (by omega)
    have v52 : ∀ k, s6.2 52 k = nv7 0 k := fun k => by rw [lo _ (by omega)]; exact d9 k
    refine ⟨?_, by rw [e28]; omega, ⟨?_, ?_⟩, fun i hi => ?_⟩
    · rw [e28]; exact v52 1
    · rw [v9 30 (by omega) (by omega)]; exact v52 3
    · rw [r7]; exact v52 4
    · rw [e28] at hi; omega
  · show RE s6.2 0 189
    have e26 := v9 26 (by omega) (by omega)
    refine ⟨?_, by rw [e26]; omega, fun i hi => ?_⟩
    · rw [e26]
      show s6.2 49 1 = 0
      rw [lo _ (by omega)]; exact d8 1
    · rw [e26] at hi; omega
end Start
