/-! THE CONSTRUCTORS -/
/-- below a all is as it was -/
def Lo (a : Nat) (s s' : sj_Mem) : Prop := ∀ x, x < a → s'.1.1 x = s.1.1 x ∧ s'.1.2.1 x = s.1.2.1 x ∧ s'.2 x = s.2 x
def arr (s : sj_Mem) (kd n a k : Nat) : sj_Mem := sj_putR (sj_new s kd n n) a k (some (sj_sz s))
/-- an object at a, its first i arrays made -/
def AI (s0 s : sj_Mem) (a ci : Nat) (ks : Nat → Nat × Nat) (fl : Nat → Nat) (r : Nat → Int) (i l : Nat) : Prop := sj_sz s = a + 1 + i ∧ sj_sl s = sj_sl s0 + l ∧ s.1.1 a = (ci, 0) ∧ Lo a s0 s ∧ (∀ j, j < i → s.1.1 (a + 1 + j) = ks j ∧ s.1.2.1 a (fl j) = some (a + 1 + j) ∧ ∀ k, s.2 (a + 1 + j) k = 0) ∧ ∀ k, s.2 a k = r k
section Make
variable {s s0 s' s2 : sj_Mem} {a ci kd k i l N b : Nat} {ks : Nat → Nat × Nat} {fl : Nat → Nat} {r : Nat → Int} {β : Type}
theorem Lo.rf : Lo a s s := fun _ _ => ⟨rfl, rfl, rfl⟩
theorem Lo.tr (h : Lo a s s') (h2 : Lo a s' s2) : Lo a s s2 := fun x hx => ⟨(h2 x hx).1.trans (h x hx).1, (h2 x hx).2.1.trans (h x hx).2.1, (h2 x hx).2.2.trans (h x hx).2.2⟩
theorem Lo.le (h : Lo b s s') (hb : a ≤ b) : Lo a s s' := fun x hx => h x (by omega)
theorem q_nO {ci n : Nat} {K : Nat → sj_Mem → Option β} : e_nO ci n s K = K (sj_sz s) (sj_new s ci 0 n) := rfl
theorem q_arr {n : Int} {K : sj_Mem → Option β} (hn : 0 ≤ n ∧ n ≤ 65536) (hi : sj_is s.1 a ci) : (e_nA kd n s fun a1 s2 => e_pR ci k a (some a1) s2 K) = K (arr s kd n.toNat a k) := by
  unfold e_nA
  rw [if_pos hn]
  unfold e_pR
  refine if_pos ⟨?_, ?_⟩
  · show a < sj_sz s + 1
    have : a < sj_sz s := hi.1
    omega
  · show (if a = sj_sz s then (kd, n.toNat) else s.1.1 a).1 = ci
    have : a < sj_sz s := hi.1
    rw [if_neg (by omega)]
    exact hi.2
theorem AI.is (h : AI s0 s a ci ks fl r i l) : sj_is s.1 a ci := ⟨by have h1 : s.1.2.2.1 = a + 1 + i := h.1; omega, by rw [h.2.2.1]⟩
theorem AI.next (h : AI s0 s a ci ks fl r i l) {n l2 : Nat} (hk : ks i = (kd, n)) (hf : fl i = k) (hj : ∀ j, j < i → fl j ≠ k) (hl : l2 = l + n) : AI s0 (arr s kd n a k) a ci ks fl r (i + 1) l2 := by
  obtain ⟨h1, h2, h3, h4, h5, h6⟩ := h
  have e1 : s.1.2.2.1 = a + 1 + i := h1
  have c1 : ∀ x, x ≠ a + 1 + i → (arr s kd n a k).1.1 x = s.1.1 x := fun x hx => by
    show (if x = sj_sz s then (kd, n) else s.1.1 x) = _
    rw [if_neg (by omega)]
  have c2 : (arr s kd n a k).1.1 (a + 1 + i) = (kd, n) := by
    show (if a + 1 + i = sj_sz s then (kd, n) else s.1.1 (a + 1 + i)) = _
    rw [if_pos (by omega)]
  have v1 : ∀ x, x ≠ a + 1 + i → (arr s kd n a k).2 x = s.2 x := fun x hx => by
    funext y
    show (if x = sj_sz s then 0 else s.2 x y) = _
    rw [if_neg (by omega)]
  have v2 : ∀ y, (arr s kd n a k).2 (a + 1 + i) y = 0 := fun y => by
    show (if a + 1 + i = sj_sz s then 0 else s.2 (a + 1 + i) y) = _
    rw [if_pos (by omega)]
  have r1 : ∀ x y, x ≠ a + 1 + i → ¬ (x = a ∧ y = k) → (arr s kd n a k).1.2.1 x y = s.1.2.1 x y := fun x y hx hy => by
    show (if x = a ∧ y = k then some (sj_sz s) else if x = sj_sz s then none else s.1.2.1 x y) = _
    rw [if_neg hy, if_neg (by omega)]
  have r2 : (arr s kd n a k).1.2.1 a k = some (a + 1 + i) := by
    show (if a = a ∧ k = k then some (sj_sz s) else if a = sj_sz s then none else s.1.2.1 a k) = _
    rw [if_pos ⟨rfl, rfl⟩, h1]
  refine ⟨by show sj_sz s + 1 = _; omega, by show sj_sl s + n = _; omega, by rw [c1 _ (by omega)]; exact h3, fun x hx => ⟨by rw [c1 _ (by omega)]; exact (h4 x hx).1, ?_, by rw [v1 _ (by omega)]; exact (h4 x hx).2.2⟩, fun j hj2 => ?_, fun y => by rw [v1 _ (by omega)]; exact h6 y⟩
  · rw [← (h4 x hx).2.1]
    funext y
    exact r1 x y (by omega) (by omega)
  · by_cases e : j = i
    · rw [e, hk, hf]
      exact ⟨c2, r2, v2⟩
    · obtain ⟨p1, p2, p3⟩ := h5 j (by omega)
      have := hj j (by omega)
      exact ⟨by rw [c1 _ (by omega)]; exact p1, by rw [r1 _ _ (by omega) (by omega)]; exact p2, fun y => by rw [v1 _ (by omega)]; exact p3 y⟩
theorem AI.oka (h : AI s0 s a ci ks fl r i l) {j n : Nat} (hj : j < i) (hk : ks j = (kd, n)) (hn : n ≤ 65536) : OKA s.1 kd (a + 1 + j) n := by
  have h1 : s.1.2.2.1 = a + 1 + i := h.1
  have h2 := (h.2.2.2.2.1 j hj).1
  rw [hk] at h2
  exact ⟨⟨by omega, by rw [h2]⟩, by rw [h2], hn⟩
theorem AI.ref (h : AI s0 s a ci ks fl r i l) {j : Nat} (hj : j < i) : s.1.2.1 a (fl j) = some (a + 1 + j) := (h.2.2.2.2.1 j hj).2.1
theorem AI.zero (h1 : sj_sz s = a + 1) (h2 : s.1.1 a = (ci, 0)) (h3 : ∀ k, s.2 a k = r k) : AI s s a ci ks fl r 0 0 := ⟨by omega, rfl, h2, Lo.rf, fun j hj => by omega, h3⟩
theorem AI.put (h : AI s0 s a ci ks fl r i l) (k : Nat) (v : Int) : AI s0 (s.1, sj_up s.2 a k v) a ci ks fl (fun y => if y = k then v else r y) i l := by
  obtain ⟨h1, h2, h3, h4, h5, h6⟩ := h
  refine ⟨h1, h2, h3, fun x hx => ⟨(h4 x hx).1, (h4 x hx).2.1, by rw [← (h4 x hx).2.2]; exact up_row _ _ _ (by omega)⟩, fun j hj => ⟨(h5 j hj).1, (h5 j hj).2.1, fun y => by show sj_up s.2 a k v (a + 1 + j) y = 0; rw [up_na _ _ _ _ (by omega)]; exact (h5 j hj).2.2 y⟩, fun y => ?_⟩
  show sj_up s.2 a k v a y = if y = k then v else r y
  by_cases e : y = k
  · rw [e, up_ss, if_pos rfl]
  · rw [up_nk _ _ _ e, if_neg e]; exact h6 y
/-- a memory goes on by new cells; rows from lo on, below hi, stay -/
def Sm (g g' : sj_G) (lo hi : Nat) : Prop := g.2.2.1 ≤ g'.2.2.1 ∧ ∀ x, lo ≤ x → x < hi → g'.1 x = g.1 x ∧ g'.2.1 x = g.2.1 x
end Make
section Sms
variable {g g' g2 : sj_G} {lo hi a n kd ci : Nat}
theorem Sm.tr {lo2 hi2 : Nat} (h : Sm g g' lo hi) (h2 : Sm g' g2 lo2 hi2) (hl : lo2 ≤ lo) (hh : hi ≤ hi2) : Sm g g2 lo hi := ⟨Nat.le_trans h.1 h2.1, fun x x1 x2 => ⟨(h2.2 x (by omega) (by omega)).1.trans (h.2 x x1 x2).1, (h2.2 x (by omega) (by omega)).2.trans (h.2 x x1 x2).2⟩⟩
theorem is_sm (h : Sm g g' lo hi) (h1 : lo ≤ a) (h2 : a < hi) (hi' : sj_is g a ci) : sj_is g' a ci := ⟨by have := h.1; have := hi'.1; omega, by rw [(h.2 a h1 h2).1]; exact hi'.2⟩
theorem OKA.sm (h : Sm g g' lo hi) (h1 : lo ≤ a) (h2 : a < hi) (ho : OKA g kd a n) : OKA g' kd a n := ⟨is_sm h h1 h2 ho.1, by rw [(h.2 a h1 h2).1]; exact ho.2.1, ho.2.2⟩
theorem OK5.sm (h : Sm g g' lo hi) (h1 : lo ≤ a) (h2 : a + 2 ≤ hi) (ho : OK5 g a) : OK5 g' a := ⟨is_sm h h1 (by omega) ho.1, by rw [(h.2 a h1 (by omega)).2]; exact ho.2.1, ho.2.2.sm h (by omega) (by omega)⟩
theorem OK0.sm (h : Sm g g' lo hi) (q1 : lo ≤ a) (q2 : a + 14 ≤ hi) (ho : OK0 g a) : OK0 g' a := by
  obtain ⟨h0, h1, h2, h3, h4, h5, h6, h7, h8, h9, h10, h11, h12⟩ := ho
  have e : g'.2.1 a = g.2.1 a := (h.2 a q1 (by omega)).2
  unfold OK0
  rw [e]
  exact ⟨is_sm h q1 (by omega) h0, ⟨h1.1, h1.2.sm h (by omega) (by omega)⟩, ⟨h2.1, h2.2.sm h (by omega) (by omega)⟩, ⟨h3.1, h3.2.sm h (by omega) (by omega)⟩, ⟨h4.1, h4.2.sm h (by omega) (by omega)⟩, ⟨h5.1, h5.2.sm h (by omega) (by omega)⟩, ⟨h6.1, h6.2.sm h (by omega) (by omega)⟩, ⟨h7.1, h7.2.sm h (by omega) (by omega)⟩, ⟨h8.1, h8.2.sm h (by omega) (by omega)⟩, ⟨h9.1, h9.2.sm h (by omega) (by omega)⟩, ⟨h10.1, h10.2.sm h (by omega) (by omega)⟩, ⟨h11.1, h11.2.sm h (by omega) (by omega)⟩, ⟨h12.1, h12.2.sm h (by omega) (by omega)⟩⟩
theorem OK1.sm (h : Sm g g' lo hi) (q1 : lo ≤ a) (q2 : a + 3 ≤ hi) (ho : OK1 g a) : OK1 g' a := by
  obtain ⟨h0, h1, h2⟩ := ho
  have e : g'.2.1 a = g.2.1 a := (h.2 a q1 (by omega)).2
  unfold OK1
  rw [e]
  exact ⟨is_sm h q1 (by omega) h0, ⟨h1.1, h1.2.sm h (by omega) (by omega)⟩, ⟨h2.1, h2.2.sm h (by omega) (by omega)⟩⟩
theorem OK2.sm (h : Sm g g' lo hi) (q1 : lo ≤ a) (q2 : a + 2 ≤ hi) (ho : OK2 g a) : OK2 g' a := by
  obtain ⟨h0, h1⟩ := ho
  have e : g'.2.1 a = g.2.1 a := (h.2 a q1 (by omega)).2
  unfold OK2
  rw [e]
  exact ⟨is_sm h q1 (by omega) h0, h1.1, h1.2.sm h (by omega) (by omega)⟩
theorem OK7.sm (h : Sm g g' lo hi) (q1 : lo ≤ a) (q2 : a + 2 ≤ hi) (ho : OK7 g a) : OK7 g' a := by
  obtain ⟨h0, h1⟩ := ho
  have e : g'.2.1 a = g.2.1 a := (h.2 a q1 (by omega)).2
  unfold OK7
  rw [e]
  exact ⟨is_sm h q1 (by omega) h0, h1.1, h1.2.sm h (by omega) (by omega)⟩
theorem OK4.sm (h : Sm g g' lo hi) (q1 : lo ≤ a) (q2 : a + 9 ≤ hi) (ho : OK4 g a) : OK4 g' a := by
  obtain ⟨h0, h1, h2, h3, h4, h5, h6, h7, h8⟩ := ho
  have e : g'.2.1 a = g.2.1 a := (h.2 a q1 (by omega)).2
  unfold OK4
  rw [e]
  exact ⟨is_sm h q1 (by omega) h0, ⟨h1.1, h1.2.sm h (by omega) (by omega)⟩, ⟨h2.1, h2.2.sm h (by omega) (by omega)⟩, ⟨h3.1, h3.2.sm h (by omega) (by omega)⟩, ⟨h4.1, h4.2.sm h (by omega) (by omega)⟩, ⟨h5.1, h5.2.sm h (by omega) (by omega)⟩, ⟨h6.1, h6.2.sm h (by omega) (by omega)⟩, ⟨h7.1, h7.2.sm h (by omega) (by omega)⟩, ⟨h8.1, h8.2.sm h (by omega) (by omega)⟩⟩
theorem OK3.sm (h : Sm g g' lo hi) (q1 : lo ≤ a) (q2 : a + 12 ≤ hi) (ho : OK3 g a) : OK3 g' a := by
  obtain ⟨h0, h1, h2⟩ := ho
  have e : g'.2.1 a = g.2.1 a := (h.2 a q1 (by omega)).2
  unfold OK3
  rw [e]
  exact ⟨is_sm h q1 (by omega) h0, ⟨h1.1, h1.2.sm h (by omega) (by omega)⟩, ⟨h2.1, h2.2.sm h (by omega) (by omega)⟩⟩
end Sms
/-- an object is made at a, of n cells and l slots -/
def Mk (s s' : sj_Mem) (a n l : Nat) (nv : Nat → Nat → Int) : Prop := sj_sz s' = a + n ∧ sj_sl s' = sj_sl s + l ∧ Lo a s s' ∧ ∀ i, i < n → ∀ k, s'.2 (a + i) k = nv i k
section Makes
variable {s : sj_Mem} {a N : Nat}
def nv0 : Nat → Nat → Int := fun _ _ => 0
def nv5 : Nat → Nat → Int := fun i k => if i = 0 ∧ (k = 1 ∨ k = 2) then -1 else 0
theorem mk_5 (h1 : sj_sz s = a + 1) (h2 : s.1.1 a = (5, 0)) (h3 : ∀ k, s.2 a k = 0) : ∃ s', f_X5_init N a s = some ((), s') ∧ Mk s s' a 2 41 nv5 ∧ OK5 s'.1 a := by
  have A0 : AI s s a 5 (fun _ => (100, 41)) (fun i => i) (fun _ => 0) 0 0 := AI.zero h1 h2 h3
  have A1 := A0.next (kd := 100) (n := Int.toNat 41) (k := 0) (l2 := 41) rfl rfl (fun j hj => by omega) rfl
  unfold f_X5_init
  have A2 := A1.put 1 (-1)
  have A3 := A2.put 2 (-1)
  rw [q_arr (by omega) A0.is, q_pI A1.is, q_pI A2.is]
  refine ⟨_, rfl, ⟨A3.1, A3.2.1, A3.2.2.2.1, fun i hi k => ?_⟩, A3.is, A3.ref (j := 0) (by omega), A3.oka (j := 0) (by omega) rfl (by omega)⟩
  rcases (show i = 0 ∨ i = 1 by omega) with rfl | rfl
  · refine (A3.2.2.2.2.2 k).trans ?_
    show (if k = 2 then -1 else if k = 1 then -1 else 0) = if 0 = 0 ∧ (k = 1 ∨ k = 2) then (-1 : Int) else 0
    by_cases e1 : k = 2
    · rw [if_pos e1, if_pos ⟨rfl, Or.inr e1⟩]
    · by_cases e2 : k = 1
      · rw [if_neg e1, if_pos e2, if_pos ⟨rfl, Or.inl e2⟩]
      · rw [if_neg e1, if_neg e2, if_neg (by omega)]
  · exact (A3.2.2.2.2.1 0 (by omega)).2.2 k
theorem mk_1 (h1 : sj_sz s = a + 1) (h2 : s.1.1 a = (1, 0)) (h3 : ∀ k, s.2 a k = 0) : ∃ s', f_X1_init N a s = some ((), s') ∧ Mk s s' a 3 24 nv0 ∧ OK1 s'.1 a := by
  have A0 : AI s s a 1 (fun _ => (100, 12)) (fun i => i) (fun _ => 0) 0 0 := AI.zero h1 h2 h3
  have A1 := A0.next (kd := 100) (n := Int.toNat 12) (k := 0) (l2 := 12) rfl rfl (fun j hj => by omega) rfl
  have A2 := A1.next (kd := 100) (n := Int.toNat 12) (k := 1) (l2 := 24) rfl rfl (fun j hj => by show j ≠ 1; omega) rfl
  unfold f_X1_init
  rw [q_arr (by omega) A0.is, q_arr (by omega) A1.is]
  refine ⟨_, rfl, ⟨A2.1, A2.2.1, A2.2.2.2.1, fun i hi k => ?_⟩, A2.is, ⟨A2.ref (j := 0) (by omega), A2.oka (j := 0) (by omega) rfl (by omega)⟩, ⟨A2.ref (j := 1) (by omega), A2.oka (j := 1) (by omega) rfl (by omega)⟩⟩
  rcases (show i = 0 ∨ i = 1 ∨ i = 2 by omega) with rfl | rfl | rfl
  · exact A2.2.2.2.2.2 k
  · exact (A2.2.2.2.2.1 0 (by omega)).2.2 k
  · exact (A2.2.2.2.2.1 1 (by omega)).2.2 k
theorem mk_2 (h1 : sj_sz s = a + 1) (h2 : s.1.1 a = (2, 0)) (h3 : ∀ k, s.2 a k = 0) : ∃ s', f_X2_init N a s = some ((), s') ∧ Mk s s' a 2 16 nv0 ∧ OK2 s'.1 a := by
  have A0 : AI s s a 2 (fun _ => (100, 16)) (fun i => i) (fun _ => 0) 0 0 := AI.zero h1 h2 h3
  have A1 := A0.next (kd := 100) (n := Int.toNat 16) (k := 0) (l2 := 16) rfl rfl (fun j hj => by omega) rfl
  unfold f_X2_init
  rw [q_arr (by omega) A0.is]
  refine ⟨_, rfl, ⟨A1.1, A1.2.1, A1.2.2.2.1, fun i hi k => ?_⟩, A1.is, A1.ref (j := 0) (by omega), A1.oka (j := 0) (by omega) rfl (by omega)⟩
  rcases (show i = 0 ∨ i = 1 by omega) with rfl | rfl
  · exact A1.2.2.2.2.2 k
  · exact (A1.2.2.2.2.1 0 (by omega)).2.2 k
def nv7 : Nat → Nat → Int := fun i k => if i = 0 ∧ k = 4 then -1 else 0
theorem mk_7 (h1 : sj_sz s = a + 1) (h2 : s.1.1 a = (7, 0)) (h3 : ∀ k, s.2 a k = 0) : ∃ s', f_X7_init N a s = some ((), s') ∧ Mk s s' a 2 600 nv7 ∧ OK7 s'.1 a := by
  have A0 : AI s s a 7 (fun _ => (100, 600)) (fun i => i) (fun _ => 0) 0 0 := AI.zero h1 h2 h3
  have A1 := A0.next (kd := 100) (n := Int.toNat 600) (k := 0) (l2 := 600) rfl rfl (fun j hj => by omega) rfl
  have A2 := A1.put 4 (-1)
  unfold f_X7_init
  rw [q_arr (by omega) A0.is, q_pI A1.is]
  refine ⟨_, rfl, ⟨A2.1, A2.2.1, A2.2.2.2.1, fun i hi k => ?_⟩, A2.is, A2.ref (j := 0) (by omega), A2.oka (j := 0) (by omega) rfl (by omega)⟩
  rcases (show i = 0 ∨ i = 1 by omega) with rfl | rfl
  · refine (A2.2.2.2.2.2 k).trans ?_
    show (if k = 4 then -1 else 0) = if 0 = 0 ∧ k = 4 then (-1 : Int) else 0
    by_cases e1 : k = 4
    · rw [if_pos e1, if_pos ⟨rfl, e1⟩]
    · rw [if_neg e1, if_neg (by omega)]
  · exact (A2.2.2.2.2.1 0 (by omega)).2.2 k
theorem AI.nums {s0 s : sj_Mem} {a ci n l : Nat} {ks : Nat → Nat × Nat} {fl : Nat → Nat} (h : AI s0 s a ci ks fl (fun _ => 0) n l) : Mk s0 s a (n + 1) l nv0 := by
  refine ⟨by have := h.1; omega, h.2.1, h.2.2.2.1, fun i hi k => ?_⟩
  cases i with
  | zero => exact h.2.2.2.2.2 k
  | succ i =>
    have := (h.2.2.2.2.1 i (by omega)).2.2 k
    rw [show a + (i + 1) = a + 1 + i by omega]
    exact this
theorem mk_4 (h1 : sj_sz s = a + 1) (h2 : s.1.1 a = (4, 0)) (h3 : ∀ k, s.2 a k = 0) : ∃ s', f_X4_init N a s = some ((), s') ∧ Mk s s' a 9 328 nv0 ∧ OK4 s'.1 a := by
  have A0 : AI s s a 4 (fun i => if i < 4 then (100, 41) else (101, 41)) (fun i => i) (fun _ => 0) 0 0 := AI.zero h1 h2 h3
  have A1 := A0.next (kd := 100) (n := Int.toNat 41) (k := 0) (l2 := 41) rfl rfl (fun j hj => by show j ≠ _; omega) rfl
  have A2 := A1.next (kd := 100) (n := Int.toNat 41) (k := 1) (l2 := 82) rfl rfl (fun j hj => by show j ≠ _; omega) rfl
  have A3 := A2.next (kd := 100) (n := Int.toNat 41) (k := 2) (l2 := 123) rfl rfl (fun j hj => by show j ≠ _; omega) rfl
  have A4 := A3.next (kd := 100) (n := Int.toNat 41) (k := 3) (l2 := 164) rfl rfl (fun j hj => by show j ≠ _; omega) rfl
  have A5 := A4.next (kd := 101) (n := Int.toNat 41) (k := 4) (l2 := 205) rfl rfl (fun j hj => by show j ≠ _; omega) rfl
  have A6 := A5.next (kd := 101) (n := Int.toNat 41) (k := 5) (l2 := 246) rfl rfl (fun j hj => by show j ≠ _; omega) rfl
  have A7 := A6.next (kd := 101) (n := Int.toNat 41) (k := 6) (l2 := 287) rfl rfl (fun j hj => by show j ≠ _; omega) rfl
  have A8 := A7.next (kd := 101) (n := Int.toNat 41) (k := 7) (l2 := 328) rfl rfl (fun j hj => by show j ≠ _; omega) rfl
  unfold f_X4_init
  rw [q_arr (by omega) A0.is, q_arr (by omega) A1.is, q_arr (by omega) A2.is, q_arr (by omega) A3.is, q_arr (by omega) A4.is, q_arr (by omega) A5.is, q_arr (by omega) A6.is, q_arr (by omega) A7.is]
  exact ⟨_, rfl, A8.nums, A8.is, ⟨A8.ref (j := 0) (by omega), A8.oka (j := 0) (by omega) rfl (by omega)⟩, ⟨A8.ref (j := 1) (by omega), A8.oka (j := 1) (by omega) rfl (by omega)⟩, ⟨A8.ref (j := 2) (by omega), A8.oka (j := 2) (by omega) rfl (by omega)⟩, ⟨A8.ref (j := 3) (by omega), A8.oka (j := 3) (by omega) rfl (by omega)⟩, ⟨A8.ref (j := 4) (by omega), A8.oka (j := 4) (by omega) rfl (by omega)⟩, ⟨A8.ref (j := 5) (by omega), A8.oka (j := 5) (by omega) rfl (by omega)⟩, ⟨A8.ref (j := 6) (by omega), A8.oka (j := 6) (by omega) rfl (by omega)⟩, ⟨A8.ref (j := 7) (by omega), A8.oka (j := 7) (by omega) rfl (by omega)⟩⟩
end Makes
