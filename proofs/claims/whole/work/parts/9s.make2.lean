/-! THE CONSTRUCTORS: objects that hold objects -/
/-- an object is made at b, and the object at a holds it in its field k -/
def Sub (s s4 : sj_Mem) (a k b nn l : Nat) (nv : Nat → Nat → Int) : Prop := sj_sz s4 = b + nn ∧ sj_sl s4 = sj_sl s + l ∧ (∀ x, x < b → s4.1.1 x = s.1.1 x ∧ (∀ j, ¬ (x = a ∧ j = k) → s4.1.2.1 x j = s.1.2.1 x j) ∧ s4.2 x = s.2 x) ∧ s4.1.2.1 a k = some b ∧ ∀ i, i < nn → ∀ y, s4.2 (b + i) y = nv i y
section Subs
variable {s s3 s4 : sj_Mem} {a b k cj ci n nn l N : Nat} {nv : Nat → Nat → Int}
theorem new_0 (hz : sj_sz s = b) : sj_sz (sj_new s cj 0 n) = b + 1 ∧ (sj_new s cj 0 n).1.1 b = (cj, 0) ∧ ∀ k, (sj_new s cj 0 n).2 b k = 0 := by
  refine ⟨by show sj_sz s + 1 = _; omega, ?_, fun k => ?_⟩
  · show (if b = sj_sz s then (cj, 0) else s.1.1 b) = _
    rw [if_pos hz.symm]
  · show (if b = sj_sz s then 0 else s.2 b k) = _
    rw [if_pos hz.symm]
theorem sub_of (hz : sj_sz s = b) (ha : a < b) (h : Mk (sj_new s cj 0 n) s3 b nn l nv) {l2 : Nat} (hl : l2 = n + l) : Sub s (sj_putR s3 a k (some b)) a k b nn l2 nv := by
  obtain ⟨h1, h2, h3, h4⟩ := h
  refine ⟨h1, ?_, fun x hx => ⟨?_, fun j hj => ?_, ?_⟩, ?_, fun i hi y => h4 i hi y⟩
  · show sj_sl s3 = _
    rw [h2]
    show sj_sl s + n + l = _
    omega
  · refine ((h3 x hx).1).trans ?_
    show (if x = sj_sz s then (cj, 0) else s.1.1 x) = _
    rw [if_neg (by omega)]
  · show (if x = a ∧ j = k then some b else s3.1.2.1 x j) = _
    rw [if_neg hj, (h3 x hx).2.1]
    show (if x = sj_sz s then none else s.1.2.1 x j) = _
    rw [if_neg (by omega)]
  · refine ((h3 x hx).2.2).trans ?_
    funext y
    show (if x = sj_sz s then 0 else s.2 x y) = _
    rw [if_neg (by omega)]
  · show (if a = a ∧ k = k then some b else s3.1.2.1 a k) = _
    rw [if_pos ⟨rfl, rfl⟩]
theorem putR_sm (ha : a < b) : Sm s3.1 (sj_putR s3 a k (some b)).1 b n := ⟨Nat.le_refl _, fun x x1 x2 => ⟨rfl, funext fun j => by show (if x = a ∧ j = k then some b else s3.1.2.1 x j) = _; rw [if_neg (by omega)]⟩⟩
theorem Sub.sm (h : Sub s s4 a k b nn l nv) (hz : sj_sz s = b) {lo : Nat} (hlo : a < lo) : Sm s.1 s4.1 lo b := ⟨by have h1 : s4.1.2.2.1 = b + nn := h.1; have h2 : s.1.2.2.1 = b := hz; omega, fun x x1 x2 => ⟨(h.2.2.1 x x2).1, funext fun j => (h.2.2.1 x x2).2.1 j (by omega)⟩⟩
theorem Sub.is (h : Sub s s4 a k b nn l nv) (ha : a < b) (hi : sj_is s.1 a ci) : sj_is s4.1 a ci := ⟨by have h1 : s4.1.2.2.1 = b + nn := h.1; omega, by rw [(h.2.2.1 a ha).1]; exact hi.2⟩
theorem is_new (hz : sj_sz s = b) (hi : sj_is s.1 a ci) : sj_is (sj_new s cj 0 n).1 a ci := by
  have h1 : a < sj_sz s := hi.1
  refine ⟨by show a < sj_sz s + 1; omega, ?_⟩
  show (if a = sj_sz s then (cj, 0) else s.1.1 a).1 = ci
  rw [if_neg (by omega)]
  exact hi.2
theorem Mk.is (h : Mk s s3 b nn l nv) (ha : a < b) (hi : sj_is s.1 a ci) : sj_is s3.1 a ci := ⟨by have h1 : s3.1.2.2.1 = b + nn := h.1; omega, by rw [(h.2.2.1 a ha).1]; exact hi.2⟩
end Subs
section Makes2
variable {s : sj_Mem} {a N : Nat}
def ks0 : Nat → Nat × Nat := fun i => (100, if i < 4 then 41 else if i = 4 then 123 else if i < 8 then 4 else 6)
def nvG : Nat → Nat → Int := fun i k => if i = 12 ∧ (k = 1 ∨ k = 2) then -1 else 0
theorem mk_0 (h1 : sj_sz s = a + 1) (h2 : s.1.1 a = (0, 0)) (h3 : ∀ k, s.2 a k = 0) : ∃ s', f_X0_init N a s = some ((), s') ∧ Mk s s' a 14 362 nvG ∧ OK0 s'.1 a := by
  have A0 : AI s s a 0 ks0 (fun i => i + 3) (fun _ => 0) 0 0 := AI.zero h1 h2 h3
  have A1 := A0.next (kd := 100) (n := Int.toNat 41) (k := 3) (l2 := 41) rfl rfl (fun j hj => by show j + 3 ≠ _; omega) rfl
  have A2 := A1.next (kd := 100) (n := Int.toNat 41) (k := 4) (l2 := 82) rfl rfl (fun j hj => by show j + 3 ≠ _; omega) rfl
  have A3 := A2.next (kd := 100) (n := Int.toNat 41) (k := 5) (l2 := 123) rfl rfl (fun j hj => by show j + 3 ≠ _; omega) rfl
  have A4 := A3.next (kd := 100) (n := Int.toNat 41) (k := 6) (l2 := 164) rfl rfl (fun j hj => by show j + 3 ≠ _; omega) rfl
  have A5 := A4.next (kd := 100) (n := Int.toNat 123) (k := 7) (l2 := 287) rfl rfl (fun j hj => by show j + 3 ≠ _; omega) rfl
  have A6 := A5.next (kd := 100) (n := Int.toNat 4) (k := 8) (l2 := 291) rfl rfl (fun j hj => by show j + 3 ≠ _; omega) rfl
  have A7 := A6.next (kd := 100) (n := Int.toNat 4) (k := 9) (l2 := 295) rfl rfl (fun j hj => by show j + 3 ≠ _; omega) rfl
  have A8 := A7.next (kd := 100) (n := Int.toNat 4) (k := 10) (l2 := 299) rfl rfl (fun j hj => by show j + 3 ≠ _; omega) rfl
  have A9 := A8.next (kd := 100) (n := Int.toNat 6) (k := 11) (l2 := 305) rfl rfl (fun j hj => by show j + 3 ≠ _; omega) rfl
  have A10 := A9.next (kd := 100) (n := Int.toNat 6) (k := 12) (l2 := 311) rfl rfl (fun j hj => by show j + 3 ≠ _; omega) rfl
  have A11 := A10.next (kd := 100) (n := Int.toNat 6) (k := 13) (l2 := 317) rfl rfl (fun j hj => by show j + 3 ≠ _; omega) rfl
  unfold f_X0_init
  rw [q_arr (by omega) A0.is, q_arr (by omega) A1.is, q_arr (by omega) A2.is, q_arr (by omega) A3.is, q_arr (by omega) A4.is, q_arr (by omega) A5.is, q_arr (by omega) A6.is, q_arr (by omega) A7.is, q_arr (by omega) A8.is, q_arr (by omega) A9.is, q_arr (by omega) A10.is, q_nO]
  clear A0 A1 A2 A3 A4 A5 A6 A7 A8 A9 A10
  generalize arr (arr (arr (arr (arr (arr (arr (arr (arr (arr (arr s 100 (Int.toNat 41) a 3) 100 (Int.toNat 41) a 4) 100 (Int.toNat 41) a 5) 100 (Int.toNat 41) a 6) 100 (Int.toNat 123) a 7) 100 (Int.toNat 4) a 8) 100 (Int.toNat 4) a 9) 100 (Int.toNat 4) a 10) 100 (Int.toNat 6) a 11) 100 (Int.toNat 6) a 12) 100 (Int.toNat 6) a 13 = s1 at A11 ⊢
  have z1 : sj_sz s1 = a + 12 := A11.1
  obtain ⟨n1, n2, n3⟩ := new_0 (cj := 5) (n := 4) z1
  rw [z1]
  obtain ⟨s3, q1, q2, q3⟩ := mk_5 (N := N) n1 n2 n3
  have S := sub_of (a := a) (k := 14) z1 (by omega) q2 (l2 := 45) rfl
  have i3 := q2.is (by omega) (is_new (cj := 5) (n := 4) z1 A11.is)
  rw [q1, q_cl, q_pR i3]
  have sm := S.sm z1 (lo := a + 1) (by omega)
  have o5 : OK5 (sj_putR s3 a 14 (some (a + 12))).1 (a + 12) := q3.sm (putR_sm (n := a + 14) (by omega)) (by omega) (by omega)
  have rf : ∀ j, j < 11 → (sj_putR s3 a 14 (some (a + 12))).1.2.1 a (j + 3) = some (a + 1 + j) := fun j hj => by
    rw [(S.2.2.1 a (by omega)).2.1 (j + 3) (by omega)]
    exact A11.ref (j := j) hj
  have ok : ∀ j n, j < 11 → ks0 j = (100, n) → n ≤ 65536 → OKA (sj_putR s3 a 14 (some (a + 12))).1 100 (a + 1 + j) n := fun j n hj hk hn => (A11.oka hj hk hn).sm sm (by omega) (by omega)
  refine ⟨_, rfl, ⟨S.1, ?_, fun x hx => ?_, fun i hi k => ?_⟩, S.is (by omega) A11.is, ⟨rf 0 (by omega), ok 0 41 (by omega) rfl (by omega)⟩, ⟨rf 1 (by omega), ok 1 41 (by omega) rfl (by omega)⟩, ⟨rf 2 (by omega), ok 2 41 (by omega) rfl (by omega)⟩, ⟨rf 3 (by omega), ok 3 41 (by omega) rfl (by omega)⟩, ⟨rf 4 (by omega), ok 4 123 (by omega) rfl (by omega)⟩, ⟨rf 5 (by omega), ok 5 4 (by omega) rfl (by omega)⟩, ⟨rf 6 (by omega), ok 6 4 (by omega) rfl (by omega)⟩, ⟨rf 7 (by omega), ok 7 4 (by omega) rfl (by omega)⟩, ⟨rf 8 (by omega), ok 8 6 (by omega) rfl (by omega)⟩, ⟨rf 9 (by omega), ok 9 6 (by omega) rfl (by omega)⟩, ⟨rf 10 (by omega), ok 10 6 (by omega) rfl (by omega)⟩, ⟨S.2.2.2.1, o5⟩⟩
  · rw [S.2.1, A11.2.1]
  · have p1 := S.2.2.1 x (by omega)
    have p2 := A11.2.2.2.1 x hx
    exact ⟨p1.1.trans p2.1, (funext fun j => p1.2.1 j (by omega)).trans p2.2.1, p1.2.2.trans p2.2.2⟩
  · show _ = if i = 12 ∧ (k = 1 ∨ k = 2) then (-1 : Int) else 0
    by_cases hi12 : i < 12
    · rw [if_neg (by omega), (S.2.2.1 (a + i) (by omega)).2.2]
      exact A11.nums.2.2.2 i (by omega) k
    · obtain ⟨j, ej⟩ : ∃ j, i = 12 + j := ⟨i - 12, by omega⟩
      have := S.2.2.2.2 j (by omega) k
      rw [ej, ← Nat.add_assoc, this]
      show (if j = 0 ∧ (k = 1 ∨ k = 2) then (-1 : Int) else 0) = _
      by_cases e0 : j = 0 ∧ (k = 1 ∨ k = 2)
      · rw [if_pos e0, if_pos ⟨by omega, e0.2⟩]
      · rw [if_neg e0, if_neg (fun y => e0 ⟨by omega, y.2⟩)]
theorem mk_3 (h1 : sj_sz s = a + 1) (h2 : s.1.1 a = (3, 0)) (h3 : ∀ k, s.2 a k = 0) : ∃ s', f_X3_init N a s = some ((), s') ∧ (sj_sz s' = a + 12 ∧ sj_sl s' = sj_sl s + 384 ∧ Lo a s s') ∧ OK3 s'.1 a := by
  unfold f_X3_init
  have i0 : sj_is s.1 a 3 := ⟨by have h' : s.1.2.2.1 = a + 1 := h1; omega, by rw [h2]⟩
  obtain ⟨n1, n2, n3⟩ := new_0 (cj := 5) (n := 4) h1
  obtain ⟨s3, q1, q2, q3⟩ := mk_5 (N := N) n1 n2 n3
  have S := sub_of (a := a) (k := 0) h1 (by omega) q2 (l2 := 45) rfl
  have i3 := q2.is (by omega) (is_new (cj := 5) (n := 4) h1 i0)
  rw [q_nO, h1, q1, q_cl, q_pR i3, q_nO]
  have o5 : OK5 (sj_putR s3 a 0 (some (a + 1))).1 (a + 1) := q3.sm (putR_sm (n := a + 3) (by omega)) (by omega) (by omega)
  have i4 := S.is (by omega) i0
  generalize sj_putR s3 a 0 (some (a + 1)) = s4 at S o5 i4 ⊢
  have z4 : sj_sz s4 = a + 3 := S.1
  obtain ⟨m1, m2, m3⟩ := new_0 (cj := 4) (n := 11) z4
  obtain ⟨s5, r1, r2, r3⟩ := mk_4 (N := N) m1 m2 m3
  have T := sub_of (a := a) (k := 1) z4 (by omega) r2 (l2 := 339) rfl
  have i5 := r2.is (by omega) (is_new (cj := 4) (n := 11) z4 i4)
  rw [z4, r1, q_cl, q_pR i5]
  have o4 : OK4 (sj_putR s5 a 1 (some (a + 3))).1 (a + 3) := r3.sm (putR_sm (n := a + 12) (by omega)) (by omega) (by omega)
  refine ⟨_, rfl, ⟨T.1, ?_, fun x hx => ?_⟩, T.is (by omega) i4, ⟨?_, o5.sm (T.sm z4 (lo := a + 1) (by omega)) (by omega) (by omega)⟩, ⟨T.2.2.2.1, o4⟩⟩
  · rw [T.2.1, S.2.1]
  · have p1 := T.2.2.1 x (by omega)
    have p2 := S.2.2.1 x (by omega)
    exact ⟨p1.1.trans p2.1, funext fun j => (p1.2.1 j (by omega)).trans (p2.2.1 j (by omega)), p1.2.2.trans p2.2.2⟩
  · rw [(T.2.2.1 a (by omega)).2.1 0 (by omega)]
    exact S.2.2.2.1
theorem mk_6 (h1 : sj_sz s = a + 1) (h2 : s.1.1 a = (6, 0)) (h3 : ∀ k, s.2 a k = 0) : ∃ s', f_X6_init N a s = some ((), s') ∧ (sj_sz s' = a + 7 ∧ sj_sl s' = sj_sl s + 12472 ∧ Lo a s s') ∧ OKT s'.1 a := by
  have A0 : AI s s a 6 (fun i => if i = 0 then (101, 4141) else if i < 3 then (100, 4141) else (100, 4)) (fun i => i) (fun _ => 0) 0 0 := AI.zero h1 h2 h3
  have A1 := A0.next (kd := 101) (n := Int.toNat 4141) (k := 0) (l2 := 4141) rfl rfl (fun j hj => by show j ≠ _; omega) rfl
  have A2 := A1.next (kd := 100) (n := Int.toNat 4141) (k := 1) (l2 := 8282) rfl rfl (fun j hj => by show j ≠ _; omega) rfl
  have A3 := A2.next (kd := 100) (n := Int.toNat 4141) (k := 2) (l2 := 12423) rfl rfl (fun j hj => by show j ≠ _; omega) rfl
  have A4 := A3.next (kd := 100) (n := Int.toNat 4) (k := 3) (l2 := 12427) rfl rfl (fun j hj => by show j ≠ _; omega) rfl
  unfold f_X6_init
  rw [q_arr (by omega) A0.is, q_arr (by omega) A1.is, q_arr (by omega) A2.is, q_arr (by omega) A3.is, q_nO]
  clear A0 A1 A2 A3
  generalize arr (arr (arr (arr s 101 (Int.toNat 4141) a 0) 100 (Int.toNat 4141) a 1) 100 (Int.toNat 4141) a 2) 100 (Int.toNat 4) a 3 = s1 at A4 ⊢
  have z1 : sj_sz s1 = a + 5 := A4.1
  obtain ⟨n1, n2, n3⟩ := new_0 (cj := 5) (n := 4) z1
  rw [z1]
  obtain ⟨s3, q1, q2, q3⟩ := mk_5 (N := N) n1 n2 n3
  have S := sub_of (a := a) (k := 4) z1 (by omega) q2 (l2 := 45) rfl
  have i3 := q2.is (by omega) (is_new (cj := 5) (n := 4) z1 A4.is)
  rw [q1, q_cl, q_pR i3]
  have sm := S.sm z1 (lo := a + 1) (by omega)
  have o5 : OK5 (sj_putR s3 a 4 (some (a + 5))).1 (a + 5) := q3.sm (putR_sm (n := a + 7) (by omega)) (by omega) (by omega)
  have rf : ∀ j, j < 4 → (sj_putR s3 a 4 (some (a + 5))).1.2.1 a j = some (a + 1 + j) := fun j hj => by
    rw [(S.2.2.1 a (by omega)).2.1 j (by omega)]
    exact A4.ref (j := j) hj
  refine ⟨_, rfl, ⟨S.1, ?_, fun x hx => ?_⟩, S.is (by omega) A4.is, ⟨rf 0 (by omega), (A4.oka (j := 0) (n := 4141) (by omega) rfl (by omega)).sm sm (by omega) (by omega)⟩, ⟨rf 1 (by omega), (A4.oka (j := 1) (n := 4141) (by omega) rfl (by omega)).sm sm (by omega) (by omega)⟩, ⟨rf 2 (by omega), (A4.oka (j := 2) (n := 4141) (by omega) rfl (by omega)).sm sm (by omega) (by omega)⟩, ⟨rf 3 (by omega), (A4.oka (j := 3) (n := 4) (by omega) rfl (by omega)).sm sm (by omega) (by omega)⟩, ⟨S.2.2.2.1, o5⟩⟩
  · rw [S.2.1, A4.2.1]
  · have p1 := S.2.2.1 x (by omega)
    have p2 := A4.2.2.2.1 x hx
    exact ⟨p1.1.trans p2.1, (funext fun j => p1.2.1 j (by omega)).trans p2.2.1, p1.2.2.trans p2.2.2⟩
end Makes2
