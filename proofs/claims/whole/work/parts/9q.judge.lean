/-! TABLES: on the memory itself -/
section QEff
variable {α β : Type}
theorem q_cv {ci a : Nat} {s : sj_Mem} {r : Option (α × sj_Mem)} {K : α → sj_Mem → Option β} (h : sj_is s.1 a ci) : e_cv ci a s r K = e_cl r K := if_pos h
theorem q_cl {v : α} {s : sj_Mem} {K : α → sj_Mem → Option β} : e_cl (some (v, s)) K = K v s := rfl
theorem q_gI {ci k a : Nat} {s : sj_Mem} {K : Int → Option β} (h : sj_is s.1 a ci) : e_gI ci k a s K = K (s.2 a k) := if_pos h
theorem q_gR {ci k a : Nat} {s : sj_Mem} {K : Option Nat → Option β} (h : sj_is s.1 a ci) : e_gR ci k a s K = K (s.1.2.1 a k) := if_pos h
theorem q_pI {ci k a : Nat} {v : Int} {s : sj_Mem} {K : sj_Mem → Option β} (h : sj_is s.1 a ci) : e_pI ci k a v s K = K (s.1, sj_up s.2 a k v) := if_pos h
theorem q_pZ {ci k a : Nat} {v : Int} {s : sj_Mem} {K : sj_Mem → Option β} (h : sj_is s.1 a ci) (h2 : v = 0 ∨ v = 1) : e_pZ ci k a v s K = K (s.1, sj_up s.2 a k v) := if_pos ⟨h, h2⟩
theorem q_pR {ci k a : Nat} {v : Option Nat} {s : sj_Mem} {K : sj_Mem → Option β} (h : sj_is s.1 a ci) : e_pR ci k a v s K = K (sj_putR s a k v) := if_pos h
theorem q_nn {a : Nat} {K : Nat → Option β} : e_nn (some a) K = K a := rfl
end QEff
/-- a memory's shapes and references go on: what was there stands, but the Table's and the reference to it -/
def GE (g g' : sj_G) : Prop := ∀ x, x < g.2.2.1 → x < g'.2.2.1 ∧ g'.1 x = g.1 x ∧ ∀ k, (g.1 x).1 ≠ 6 → ((g.1 x).1 = 8 → k ≠ 11) → g'.2.1 x k = g.2.1 x k
section Grow
variable {g g' g2 : sj_G} {a A kd n ci : Nat}
theorem GE.rf : GE g g := fun _ h => ⟨h, rfl, fun _ _ _ => rfl⟩
theorem GE.tr (h : GE g g') (h2 : GE g' g2) : GE g g2 := fun x hx => by
  obtain ⟨a1, a2, a3⟩ := h x hx
  obtain ⟨b1, b2, b3⟩ := h2 x a1
  exact ⟨b1, b2.trans a2, fun k k1 k2 => (b3 k (by rw [a2]; exact k1) (by rw [a2]; exact k2)).trans (a3 k k1 k2)⟩
theorem is_ge (h : GE g g') (hi : sj_is g a ci) : sj_is g' a ci := ⟨(h a hi.1).1, by rw [(h a hi.1).2.1]; exact hi.2⟩
theorem ref_ge (h : GE g g') (hi : sj_is g a ci) (h6 : ci ≠ 6) {k : Nat} (h8 : ci = 8 → k ≠ 11) : g'.2.1 a k = g.2.1 a k := (h a hi.1).2.2 k (by rw [hi.2]; exact h6) (fun y => h8 (by rw [← hi.2]; exact y))
theorem OKA.ge (h : GE g g') (hi : OKA g kd a n) : OKA g' kd a n := ⟨is_ge h hi.1, by rw [(h a hi.1.1).2.1]; exact hi.2.1, hi.2.2⟩
theorem OK5.ge (h : GE g g') (hi : OK5 g a) : OK5 g' a := ⟨is_ge h hi.1, by rw [ref_ge h hi.1 (by decide) (by decide)]; exact hi.2.1, hi.2.2.ge h⟩
theorem OK0.ge (h : GE g g') (hi : OK0 g a) : OK0 g' a := by
  obtain ⟨h0, h1, h2, h3, h4, h5, h6, h7, h8, h9, h10, h11, h12⟩ := hi
  have e : ∀ k, g'.2.1 a k = g.2.1 a k := fun k => ref_ge h h0 (by decide) (by omega)
  exact ⟨is_ge h h0, ⟨by rw [e]; exact h1.1, h1.2.ge h⟩, ⟨by rw [e]; exact h2.1, h2.2.ge h⟩, ⟨by rw [e]; exact h3.1, h3.2.ge h⟩, ⟨by rw [e]; exact h4.1, h4.2.ge h⟩, ⟨by rw [e]; exact h5.1, h5.2.ge h⟩, ⟨by rw [e]; exact h6.1, h6.2.ge h⟩, ⟨by rw [e]; exact h7.1, h7.2.ge h⟩, ⟨by rw [e]; exact h8.1, h8.2.ge h⟩, ⟨by rw [e]; exact h9.1, h9.2.ge h⟩, ⟨by rw [e]; exact h10.1, h10.2.ge h⟩, ⟨by rw [e]; exact h11.1, h11.2.ge h⟩, ⟨by rw [e]; exact h12.1, h12.2.ge h⟩⟩
theorem OK1.ge (h : GE g g') (hi : OK1 g a) : OK1 g' a := by
  obtain ⟨h0, h1, h2⟩ := hi
  have e : ∀ k, g'.2.1 a k = g.2.1 a k := fun k => ref_ge h h0 (by decide) (by omega)
  exact ⟨is_ge h h0, ⟨by rw [e]; exact h1.1, h1.2.ge h⟩, ⟨by rw [e]; exact h2.1, h2.2.ge h⟩⟩
theorem OK2.ge (h : GE g g') (hi : OK2 g a) : OK2 g' a := by
  obtain ⟨h0, h1⟩ := hi
  have e : ∀ k, g'.2.1 a k = g.2.1 a k := fun k => ref_ge h h0 (by decide) (by omega)
  exact ⟨is_ge h h0, by rw [e]; exact h1.1, h1.2.ge h⟩
theorem OK7.ge (h : GE g g') (hi : OK7 g a) : OK7 g' a := by
  obtain ⟨h0, h1⟩ := hi
  have e : ∀ k, g'.2.1 a k = g.2.1 a k := fun k => ref_ge h h0 (by decide) (by omega)
  exact ⟨is_ge h h0, by rw [e]; exact h1.1, h1.2.ge h⟩
theorem OK4.ge (h : GE g g') (hi : OK4 g a) : OK4 g' a := by
  obtain ⟨h0, h1, h2, h3, h4, h5, h6, h7, h8⟩ := hi
  have e : ∀ k, g'.2.1 a k = g.2.1 a k := fun k => ref_ge h h0 (by decide) (by omega)
  exact ⟨is_ge h h0, ⟨by rw [e]; exact h1.1, h1.2.ge h⟩, ⟨by rw [e]; exact h2.1, h2.2.ge h⟩, ⟨by rw [e]; exact h3.1, h3.2.ge h⟩, ⟨by rw [e]; exact h4.1, h4.2.ge h⟩, ⟨by rw [e]; exact h5.1, h5.2.ge h⟩, ⟨by rw [e]; exact h6.1, h6.2.ge h⟩, ⟨by rw [e]; exact h7.1, h7.2.ge h⟩, ⟨by rw [e]; exact h8.1, h8.2.ge h⟩⟩
theorem OK3.ge (h : GE g g') (hi : OK3 g a) : OK3 g' a := by
  obtain ⟨h0, h1, h2⟩ := hi
  have e : ∀ k, g'.2.1 a k = g.2.1 a k := fun k => ref_ge h h0 (by decide) (by omega)
  exact ⟨is_ge h h0, ⟨by rw [e]; exact h1.1, h1.2.ge h⟩, ⟨by rw [e]; exact h2.1, h2.2.ge h⟩⟩
theorem OK8.ge (h : GE g g') (hi : OK8 g a) : OK8 g' a := by
  obtain ⟨h0, h1, h2, h3, h4, h5, h6, h7, h8, h9, h10, h11⟩ := hi
  have e : ∀ k, k ≠ 11 → g'.2.1 a k = g.2.1 a k := fun k hk => ref_ge h h0 (by decide) (fun _ => hk)
  have e7 : ∀ k, g'.2.1 (a + 51) k = g.2.1 (a + 51) k := fun k => ref_ge h h7.2.1.1 (by decide) (by omega)
  refine ⟨is_ge h h0, ⟨by rw [e _ (by omega)]; exact h1.1, h1.2.ge h⟩, ⟨by rw [e _ (by omega)]; exact h2.1, h2.2.ge h⟩, ⟨by rw [e _ (by omega)]; exact h3.1, h3.2.ge h⟩, ⟨by rw [e _ (by omega)]; exact h4.1, h4.2.ge h⟩, ⟨by rw [e _ (by omega)]; exact h5.1, h5.2.ge h⟩, ⟨by rw [e _ (by omega)]; exact h6.1, h6.2.ge h⟩, ⟨by rw [e _ (by omega)]; exact h7.1, h7.2.1.ge h, fun j hj => ⟨by rw [e7]; exact (h7.2.2 j hj).1, (h7.2.2 j hj).2.ge h⟩⟩, ⟨by rw [e _ (by omega)]; exact h8.1, h8.2.ge h⟩, ⟨by rw [e _ (by omega)]; exact h9.1, h9.2.ge h⟩, ⟨by rw [e _ (by omega)]; exact h10.1, h10.2.ge h⟩, ⟨by rw [e _ (by omega)]; exact h11.1, h11.2.ge h⟩⟩
theorem OK9.ge (h : GE g g') (hi : OK9 g a) : OK9 g' a := by
  obtain ⟨h0, h1, h2, h3, h4, h5, h6, h7, h8, h9, h10, h11⟩ := hi
  have e : ∀ k, g'.2.1 a k = g.2.1 a k := fun k => ref_ge h h0 (by decide) (by omega)
  exact ⟨is_ge h h0, ⟨by rw [e]; exact h1.1, h1.2.ge h⟩, ⟨by rw [e]; exact h2.1, h2.2.ge h⟩, ⟨by rw [e]; exact h3.1, h3.2.ge h⟩, ⟨by rw [e]; exact h4.1, h4.2.ge h⟩, ⟨by rw [e]; exact h5.1, h5.2.ge h⟩, ⟨by rw [e]; exact h6.1, h6.2.ge h⟩, ⟨by rw [e]; exact h7.1, h7.2.ge h⟩, ⟨by rw [e]; exact h8.1, h8.2.ge h⟩, ⟨by rw [e]; exact h9.1, h9.2.ge h⟩, ⟨by rw [e]; exact h10.1, h10.2.ge h⟩, ⟨by rw [e]; exact h11.1, h11.2.ge h⟩⟩
/-- a Table, its ground not yet said -/
def OKT (g : sj_G) (a : Nat) : Prop := sj_is g a 6 ∧ (g.2.1 a 0 = some (a + 1) ∧ OKA g 101 (a + 1) 4141) ∧ (g.2.1 a 1 = some (a + 2) ∧ OKA g 100 (a + 2) 4141) ∧ (g.2.1 a 2 = some (a + 3) ∧ OKA g 100 (a + 3) 4141) ∧ (g.2.1 a 3 = some (a + 4) ∧ OKA g 100 (a + 4) 4) ∧ (g.2.1 a 4 = some (a + 5) ∧ OK5 g (a + 5))
/-- what the memory is like between calls -/
def GI (g : sj_G) : Prop := OK8 g 0 ∧ OK9 g 189 ∧ ((g.2.1 0 11 = none ∧ g.2.2.1 = 201 ∧ g.2.2.2 ≤ 40000) ∨ (g.2.1 0 11 = some 201 ∧ OKT g 201 ∧ g.2.2.1 = 208 ∧ g.2.2.2 ≤ 60000))
end Grow
/-- what a judging of all slips tells -/
def TJ (V : sj_VV) (A : Nat) (w : sj_R) (t lf : Int) : Prop := V A 9 = tF w t lf ∧ (tF w t lf = 20000 → V (A + 5) 1 = -1 ∧ V (A + 5) 2 = -1) ∧ (tF w t lf ≠ 20000 → ∃ (a e : Nat) (v : Int) (bs rs : Nat → Int), SL V (A + 5) a (e + 1) lf bs ∧ (a ≤ e ∧ (e : Int) < w 0) ∧ Pth w t lf (tF w t lf + 1) 48000000000000 a (e + 1) v bs rs ∧ Mn (Ec w t lf (tF w t lf + 1) (w 0).toNat) v ((a : Int) * 41 + ((e : Int) + 1)) ∧ v < 0)
section Judge
variable {g : sj_G} {V V' : sj_VV} {A N : Nat} {w : sj_R} {t lf : Int}
theorem fx_sweep {k x2 : Int} (hO : OK6 g A) (h : g_X6_sweep N A k x2 V = some ((), V')) : f_X6_sweep N A k x2 (g, V) = some ((), (g, V')) := by
  unfold f_X6_sweep
  rw [e_ok_pos hO, h]
  rfl
theorem fx_goBack (hO : OK6 g A) (h : g_X6_goBack N A V = some ((), V')) : f_X6_goBack N A (g, V) = some ((), (g, V')) := by
  unfold f_X6_goBack
  rw [e_ok_pos hO, h]
  rfl
theorem fx_weighAll (hO : OK6 g A) (h : g_X6_weighAll N A V = some ((), V')) : f_X6_weighAll N A (g, V) = some ((), (g, V')) := by
  unfold f_X6_weighAll
  rw [e_ok_pos hO, h]
  rfl
theorem judge_111 (hO : OK6 g A) (hB : WB 500 200 1500 w) (hA : 20 ≤ A) (hN : 10000 ≤ N) (ht : 0 ≤ t ∧ t ≤ 12) (hlf : lf = 0 ∨ lf = 1) (hC : CG V 1 w) (h6 : V A 6 = t) (h7 : V A 7 = lf) (hW : TW V A w) (h9 : V A 9 = tF w t lf) (h1 : V (A + 5) 1 = -1) (h2 : V (A + 5) 2 = -1) : ∃ V', f_X6_judge_111 N A (g, V) = some ((), (g, V')) ∧ Fr A (A + 7) V V' ∧ TJ V' A w t lf := by
  have n0 := hB.1
  have tb := tF_b (w := w) (t := t) (lf := lf)
  unfold f_X6_judge_111
  rw [q_gI hO.1]
  show ∃ V', (e_ile 20000 (V A 9) _ _ = _) ∧ _
  rw [h9, k_lec ⟨by omega, by omega⟩ ⟨by omega, by omega⟩]
  by_cases hx : 20000 ≤ tF w t lf
  · rw [if_pos hx]
    exact ⟨V, rfl, Fr.rf, h9, fun _ => ⟨h1, h2⟩, fun y => by omega⟩
  · rw [if_neg hx, q_gI hO.1]
    show ∃ V', (e_cv 6 A (g, V) (f_X6_sweep N A (V A 9 + 1) 0 (g, V)) _ = _) ∧ _
    rw [h9]
    obtain ⟨V1, q1, q2, q3, q4, q5⟩ := sweep_eq (N := N) (k := tF w t lf + 1) (x2 := 0) hB hA hN ht (by omega) hlf (Or.inl rfl) hC h6 h7 hW
    have up := tF_up (w := w) (t := t) (lf := lf) (by omega)
    rcases q5 with ⟨q5, q6⟩ | ⟨y, _⟩
    · have neg : ∃ v g, v < 0 ∧ Ec w t lf (tF w t lf + 1) (w 0).toNat v g := by
        by_cases y : ∃ v g, v < 0 ∧ Ec w t lf (tF w t lf + 1) (w 0).toNat v g
        · exact y
        · exfalso
          have : tK w t lf (tF w t lf + 1) = true := tK_iff.mpr (fun a c v z1 z2 => by
            rcases (show v < 0 ∨ 0 ≤ v by omega) with z | z
            · exact absurd ⟨v, _, z, a, c, by omega, z2, rfl⟩ y
            · exact z)
          rw [up] at this
          cases this
      have hne : V1 A 11 ≠ -1 := fun y => by
        obtain ⟨v, gg, _, z⟩ := neg
        rcases q6.1 with ⟨_, p⟩ | ⟨p, _⟩
        · exact p _ _ z
        · exact p y
      obtain ⟨V2, a, b, v, bs, rs, s1, s2, s3, s4, s5, s6, s7⟩ := goBack_eq (N := N) hB hA (by omega) ht (by omega) hlf q4 q5 q6 hne
      rw [fx_sweep hO q1, q_cv hO.1, q_cl, fx_goBack hO s1, q_cv hO.1, q_cl]
      obtain ⟨e, ee⟩ : ∃ e, b = e + 1 := ⟨b - 1, by omega⟩
      subst ee
      refine ⟨V2, rfl, fun z hz => ?_, ?_, fun y => by omega, fun _ => ⟨a, e, v, bs, rs, s4, by omega, s6, s7, ?_⟩⟩
      · rw [s2 z (by omega) (by omega) (by omega) (by omega), q2 z (by omega) (by omega) (by omega) (by omega)]
      · rw [s3 _ (by omega), q3 _ (by omega)]; exact h9
      · obtain ⟨v', g', z1, z2⟩ := neg
        have := s7.2 _ _ z2
        omega
    · omega
theorem judge_39 (hO : OK6 g A) (hB : WB 500 200 1500 w) (hA : 20 ≤ A) (hN : 10000 ≤ N) (ht : 0 ≤ t ∧ t ≤ 12) (hlf : lf = 0 ∨ lf = 1) : ∀ (m n : Nat) (lo hi : Int) (V : sj_VV), n ≤ 15 → n < m → 0 ≤ lo → lo < hi → hi ≤ 20001 → hi - lo ≤ 2 ^ n → spFac (tK w t lf) n lo hi = tF w t lf → CG V 1 w → V A 6 = t → V A 7 = lf → TW V A w → V A 9 = lo → V (A + 5) 1 = -1 → V (A + 5) 2 = -1 → ∃ V', f_X6_judge_39 N m A hi (15 - (n : Int)) (g, V) = some ((), (g, V')) ∧ Fr A (A + 7) V V' ∧ TJ V' A w t lf
  | 0, _, _, _, _, _, h, _, _, _, _, _, _, _, _, _, _, _, _ => absurd h (by omega)
  | m + 1, n, lo, hi, V, hn, h0, h1, h2, h3, h4, h5, hC, h6, h7, hW, h9, g1, g2 => by
    unfold f_X6_judge_39 f_X6_judge_39_b
    rw [k_lec ⟨by omega, by omega⟩ ⟨by omega, by omega⟩]
    cases n with
    | zero =>
      rw [if_pos (by omega)]
      rw [spFac] at h5
      exact judge_111 hO hB hA hN ht hlf hC h6 h7 hW (by rw [h9]; exact h5) g1 g2
    | succ n =>
      rw [Int.pow_succ] at h4
      rw [spFac] at h5
      rw [if_neg (by omega), q_gI hO.1]
      show ∃ V', (e_ile (hi - V A 9) 1 _ _ = _) ∧ _
      rw [h9, k_lec ⟨by omega, by omega⟩ ⟨by omega, by omega⟩]
      by_cases hg : hi - lo ≤ 1
      · rw [if_pos hg]
        rw [if_pos hg] at h5
        exact judge_111 hO hB hA hN ht hlf hC h6 h7 hW (by rw [h9]; exact h5) g1 g2
      · rw [if_neg hg] at h5
        have em : (lo + hi).tdiv 2 = (lo + hi) / 2 := Int.tdiv_eq_ediv_of_nonneg (by omega)
        rw [if_neg hg, q_gI hO.1]
        show ∃ V', (e_dI (V A 9 + hi) 2 _ = _) ∧ _
        rw [h9, k_dI ⟨by omega, by omega⟩ ⟨by omega, by omega⟩ (by omega), em]
        obtain ⟨V1, q1, q2, q3, q4, q5⟩ := sweep_eq (N := N) (k := (lo + hi) / 2) (x2 := 1) hB hA hN ht (by omega) hlf (Or.inr rfl) hC h6 h7 hW
        have n0 := hB.1
        have p5 : V1 (A + 5) = V (A + 5) := q2 _ (by omega) (by omega) (by omega) (by omega)
        have f1 : Fr A (A + 7) V V1 := fun z hz => q2 z (by omega) (by omega) (by omega) (by omega)
        rw [fx_sweep hO q1, q_cv hO.1, q_cl, q_gI hO.1]
        show ∃ V', (e_ieq (V1 A 11) (-1) (f_X6_judge_92 N (f_X6_judge_39 N m) A hi (15 - ((n + 1 : Nat) : Int)) ((lo + hi) / 2) (g, V1)) _ = _) ∧ _
        have st : tK w t lf ((lo + hi) / 2) = true → ∃ V', f_X6_judge_92 N (f_X6_judge_39 N m) A hi (15 - ((n + 1 : Nat) : Int)) ((lo + hi) / 2) (g, V1) = some ((), (g, V')) ∧ Fr A (A + 7) V V' ∧ TJ V' A w t lf := fun hP => by
          rw [if_pos hP] at h5
          unfold f_X6_judge_92 f_X6_judge_105
          rw [q_pI hO.1, k_lt, show 15 - ((n + 1 : Nat) : Int) + 1 = 15 - (n : Int) by omega]
          show ∃ V', f_X6_judge_39 N m A hi (15 - (n : Int)) (g, sj_up V1 A 9 ((lo + hi) / 2)) = _ ∧ _
          have u : ∀ z, z ≠ A → sj_up V1 A 9 ((lo + hi) / 2) z = V1 z := fun z hz => up_row _ _ _ hz
          obtain ⟨V3, s1, s2, s3⟩ := judge_39 hO hB hA hN ht hlf m n ((lo + hi) / 2) hi (sj_up V1 A 9 ((lo + hi) / 2)) (by omega) (by omega) (by omega) (by omega) (by omega) (by omega) h5 (q4.1.fr (lo := A) (hi := A + 1) (fun z hz => u z (by omega)) (by omega)) (by rw [up_nk _ _ _ (by omega)]; exact q4.2.1.1) (by rw [up_nk _ _ _ (by omega)]; exact q4.2.1.2.1) (fun c h a1 a2 a3 => by rw [u _ (by omega)]; exact q4.2.2 c h a1 a2 a3) (by rw [up_ss]) (by rw [u _ (by omega), p5]; exact g1) (by rw [u _ (by omega), p5]; exact g2)
          exact ⟨V3, s1, fun z hz => (s2 z hz).trans ((u z (by omega)).trans (f1 z hz)), s3⟩
        have fl : tK w t lf ((lo + hi) / 2) = false → ∃ V', f_X6_judge_105 N (f_X6_judge_39 N m) A ((lo + hi) / 2) (15 - ((n + 1 : Nat) : Int)) (g, V1) = some ((), (g, V')) ∧ Fr A (A + 7) V V' ∧ TJ V' A w t lf := fun hP => by
          rw [if_neg (by rw [hP]; decide)] at h5
          unfold f_X6_judge_105
          rw [k_lt, show 15 - ((n + 1 : Nat) : Int) + 1 = 15 - (n : Int) by omega]
          obtain ⟨V3, s1, s2, s3⟩ := judge_39 hO hB hA hN ht hlf m n lo ((lo + hi) / 2) V1 (by omega) (by omega) (by omega) (by omega) (by omega) (by omega) h5 q4.1 q4.2.1.1 q4.2.1.2.1 q4.2.2 (by rw [q3 _ (by omega)]; exact h9) (by rw [p5]; exact g1) (by rw [p5]; exact g2)
          exact ⟨V3, s1, f1.tr s2, s3⟩
        have neg : (∃ v g, v < 0 ∧ Ec w t lf ((lo + hi) / 2) (w 0).toNat v g) → tK w t lf ((lo + hi) / 2) = false := fun ⟨v, gg, y1, a, c, y2, y3, _⟩ => by
          by_cases hP : tK w t lf ((lo + hi) / 2) = true
          · have := tK_iff.mp hP a c v (by omega) y3; omega
          · simpa using hP
        rcases q5 with ⟨q5, q6⟩ | ⟨_, y1, y2, y3⟩
        · have i11 : sj_i32 (V1 A 11) := by have := q6.2; exact ⟨by omega, by omega⟩
          rw [k_eq i11 ⟨by omega, by omega⟩]
          by_cases hne : V1 A 11 = -1
          · rw [if_pos hne]
            refine st (tK_iff.mpr (fun a c v z1 z2 => ?_))
            rcases q6.1 with ⟨_, p⟩ | ⟨p, _⟩
            · exact absurd ⟨a, c, by omega, z2, rfl⟩ (p v _)
            · exact absurd hne p
          · rcases q6.1 with ⟨p, _⟩ | ⟨_, p⟩
            · exact absurd p hne
            · have hb := Ec_b hB (by omega) ht (by omega) _ _ p.1
              rw [if_neg hne, q_gI hO.1]
              show ∃ V', (e_llt (V1 A 10) 0 (f_X6_judge_105 N (f_X6_judge_39 N m) A ((lo + hi) / 2) (15 - ((n + 1 : Nat) : Int)) (g, V1)) (f_X6_judge_92 N (f_X6_judge_39 N m) A hi (15 - ((n + 1 : Nat) : Int)) ((lo + hi) / 2) (g, V1)) = _) ∧ _
              rw [k_lltc ⟨by omega, by omega⟩ ⟨by omega, by omega⟩]
              by_cases hl : V1 A 10 < 0
              · rw [if_pos hl]
                exact fl (neg ⟨_, _, hl, p.1⟩)
              · rw [if_neg hl]
                refine st (tK_iff.mpr (fun a c v z1 z2 => ?_))
                have := p.2 v _ ⟨a, c, by omega, z2, rfl⟩
                omega
        · rw [k_eqF y1 ⟨by omega, by omega⟩ ⟨by omega, by omega⟩, q_gI hO.1]
          show ∃ V', (e_llt (V1 A 10) 0 (f_X6_judge_105 N (f_X6_judge_39 N m) A ((lo + hi) / 2) (15 - ((n + 1 : Nat) : Int)) (g, V1)) (f_X6_judge_92 N (f_X6_judge_39 N m) A hi (15 - ((n + 1 : Nat) : Int)) ((lo + hi) / 2) (g, V1)) = _) ∧ _
          rw [k_lltc ⟨by omega, by omega⟩ ⟨by omega, by omega⟩, if_pos y2.2.1]
          exact fl (neg y3)
end Judge
