/-! TABLES: a sweep of the class's Table -/
def FB (A : Nat) (V V' : sj_VV) : Prop := (∀ z, z ≠ A → z ≠ A + 1 → z ≠ A + 2 → z ≠ A + 4 → V' z = V z) ∧ ∀ j, (j < 10 ∨ 14 ≤ j) → V' A j = V A j
/-- the least ways to all places of a column -/
def Gs (V : sj_VV) (A : Nat) (w : sj_R) (t lf k : Int) (c : Nat) : Prop := ∀ h, w (44 + c) ≤ h → h ≤ w (3 + c) → Mo (V (A + 2) (pl c h) = -1) (fun v g => ∃ a : Nat, g = a ∧ wGo w t lf k 48000000000000 a c h v) (V (A + 1) (pl c h)) (V (A + 2) (pl c h))
def Fre (V : sj_VV) (A : Nat) (w : sj_R) (c : Nat) : Prop := (∀ h, w (44 + c) ≤ h → h < w (3 + c) → V (A + 2) (pl c h) = -1) ∧ V (A + 2) (pl c (w (3 + c))) = c ∧ V (A + 1) (pl c (w (3 + c))) = 0
/-- what is come to the next column from below h0 -/
def SS (w : sj_R) (t lf k : Int) (c : Nat) (h0 h v g : Int) : Prop := ∃ (a : Nat) (o u : Int), g = a ∧ o < h0 ∧ wGo w t lf k 48000000000000 a c o u ∧ wSt w t lf k 48000000000000 c o h ∧ v = u + wQ w lf k c o h
/-- the ways that end before or at c -/
def Ec (w : sj_R) (t lf k : Int) (c : Nat) (v g : Int) : Prop := ∃ a b : Nat, b < c ∧ wEn w t lf k 48000000000000 a b v ∧ g = (a : Int) * 41 + ((b : Int) + 1)
def Eh (w : sj_R) (t lf k : Int) (c : Nat) (h0 v g : Int) : Prop := Ec w t lf k c v g ∨ ∃ (a : Nat) (o u : Int), g = (a : Int) * 41 + ((c : Int) + 1) ∧ o < h0 ∧ wGo w t lf k 48000000000000 a c o u ∧ wSt w t lf k 48000000000000 c o (w (3 + (c + 1))) ∧ v = u + wQ w lf k c o (w (3 + (c + 1)))
section Sweep
variable {V V1 V2 V' : sj_VV} {A N c : Nat} {w : sj_R} {t lf k o h x f i so : Int} {S : Int → Int → Prop}
theorem FA.b (h : FA A V V') : FB A V V' := ⟨fun z a1 a2 a3 _ => h.1 z a1 a2 a3, h.2⟩
theorem FB.rf : FB A V V := ⟨fun _ _ _ _ _ => rfl, fun _ _ => rfl⟩
theorem FB.tr (h : FB A V V1) (h2 : FB A V1 V2) : FB A V V2 := ⟨fun z a1 a2 a3 a4 => (h2.1 z a1 a2 a3 a4).trans (h.1 z a1 a2 a3 a4), fun j hj => (h2.2 j hj).trans (h.2 j hj)⟩
theorem TS.fb (hA : 20 ≤ A) (hs : TS V A w t lf k) (hF : FB A V V') : TS V' A w t lf k := by
  obtain ⟨h1, ⟨h2, h3, h4⟩, h5⟩ := hs
  refine ⟨h1.fr (lo := A) (hi := A + 5) (fun z hz => hF.1 z (by omega) (by omega) (by omega) (by omega)) (by omega), ⟨?_, ?_, ?_⟩, fun c h a1 a2 a3 => ?_⟩
  · rw [hF.2 _ (by omega)]; exact h2
  · rw [hF.2 _ (by omega)]; exact h3
  · rw [hF.2 _ (by omega)]; exact h4
  · rw [hF.1 _ (by omega) (by omega) (by omega) (by omega)]; exact h5 c h a1 a2 a3
theorem wSt_F (hB : WB 500 200 1500 w) (ht : 0 ≤ t ∧ t ≤ 12) (hk : 0 ≤ k ∧ k ≤ 20001) (hc : c + 1 < 41) (ho : 0 ≤ o ∧ o ≤ 100) : wSt w t lf k 48000000000000 c o h ↔ (max (w (44 + (c + 1))) (o - t) ≤ h ∧ h ≤ min (w (3 + (c + 1))) (o + t) ∧ 0 < slD w lf c o h k) := by
  have b1 := (hB.2.2.2.1 (c + 1) hc).1
  constructor
  · rintro ⟨h1, h2, h3, _⟩
    exact ⟨by omega, by omega, h3⟩
  · rintro ⟨h1, h2, h3⟩
    exact ⟨by omega, by omega, h3, (wR_b hB ht hk hc ho (by omega) (by omega) (by omega) h3).2⟩
theorem stepOn_eq (hB : WB 500 200 1500 w) (hA : 20 ≤ A) (hN : 1000 ≤ N) (hc : (c : Int) < w 0) (ho : w (44 + c) ≤ o ∧ o ≤ w (3 + c)) (ht : 0 ≤ t ∧ t ≤ 12) (hk : 0 ≤ k ∧ k ≤ 20001) (hlf : lf = 0 ∨ lf = 1) {S : Int → Int → Int → Prop} {E : Int → Int → Prop} (hf : 0 ≤ V (A + 2) (pl c o) ∧ V (A + 2) (pl c o) ≤ 40) (hso : -3000000000000000000 ≤ V (A + 1) (pl c o) ∧ V (A + 1) (pl c o) ≤ 3000000000000000000) (hS : TS V A w t lf k) (hT : TT V A w c) (hP : Ps V A w (c + 1) S) (hSb : ∀ h, SB (S h)) (hL : Ls V A E ((c : Int) + 1)) (hE : ∀ v g, E v g → -4000000000000000000 ≤ v ∧ v ≤ 4000000000000000000) : ∃ V', g_X6_stepOn N A c o V = some ((), V') ∧ FA A V V' ∧ (∀ y, (∀ h, w (44 + (c + 1)) ≤ h → h < w (3 + (c + 1)) → y ≠ pl (c + 1) h) → V' (A + 1) y = V (A + 1) y ∧ V' (A + 2) y = V (A + 2) y) ∧ Ps V' A w (c + 1) (fun h v g => S h v g ∨ (wSt w t lf k 48000000000000 c o h ∧ v = V (A + 1) (pl c o) + wQ w lf k c o h ∧ g = V (A + 2) (pl c o))) ∧ Ls V' A (fun v g => E v g ∨ (wSt w t lf k 48000000000000 c o (w (3 + (c + 1))) ∧ v = V (A + 1) (pl c o) + wQ w lf k c o (w (3 + (c + 1))) ∧ g = V (A + 2) (pl c o) * 41 + ((c : Int) + 1))) ((c : Int) + 1) := by
  have n0 := hB.1
  have b0 := (hB.2.2.2.1 c (by omega)).1
  have b1 := (hB.2.2.2.1 (c + 1) (by omega)).1
  unfold g_X6_stepOn
  have g1 := hS.1.2.1 (c + 1) (by omega)
  have hp : ((c : Int) * 101 + o).toNat = pl c o := rfl
  rw [k_ix (by omega) (by omega), k_lt, k_ix (by omega) (by omega), k_lt, hp, k_ix (by omega) (by omega), k_lt, show ((c : Int) + 1).toNat = c + 1 by omega, g1.1, hS.2.1.1, k_min ⟨by omega, by omega⟩ ⟨by omega, by omega⟩, k_ix (by omega) (by omega), g1.2.1, k_max ⟨by omega, by omega⟩ ⟨by omega, by omega⟩]
  obtain ⟨V3, s1, s2, s3, s4, s5⟩ := stepOn_loop (N := N) (o := o) hB hA (by omega) hc ho ht hk hlf hf hso N (max (w (44 + (c + 1))) (o - t)) V S E (by omega) (by omega) (by omega) (by omega) hS hT hP hSb hL hE
  have hF : ∀ h, wSt w t lf k 48000000000000 c o h ↔ (max (w (44 + (c + 1))) (o - t) ≤ h ∧ h ≤ min (w (3 + (c + 1))) (o + t) ∧ 0 < slD w lf c o h k) := fun h => wSt_F hB ht hk (by omega) (by omega)
  refine ⟨V3, s1, s2, s3, fun h a1 a2 => (s4 h a1 a2).iff (fun v g => ?_), s5.1.iff (fun v g => ?_), s5.2⟩
  · exact or_congr Iff.rfl (and_congr (hF h).symm Iff.rfl)
  · exact or_congr Iff.rfl (and_congr (hF (w (3 + (c + 1)))).symm Iff.rfl)
theorem SS_b (hB : WB 500 200 1500 w) (hc : c + 1 < 41) (ht : 0 ≤ t ∧ t ≤ 12) (hk : 0 ≤ k ∧ k ≤ 20001) {h0 : Int} : SB (SS w t lf k c h0 h) := by
  rintro v g ⟨a, o, u, h1, h2, h3, h4, h5⟩
  have e1 := wAr_b hB ht hk hc (lf := lf) ⟨o, u, h3, h4, h5⟩
  have e2 := wGo_le _ _ _ h3
  omega
theorem Ec_b (hB : WB 500 200 1500 w) (hc : c < 41) (ht : 0 ≤ t ∧ t ≤ 12) (hk : 0 ≤ k ∧ k ≤ 20001) : ∀ v g, Ec w t lf k c v g → -4000000000000000000 ≤ v ∧ v ≤ 4000000000000000000 := by
  rintro v g ⟨a, b, h1, h2, h3⟩
  have e1 := wAr_b hB ht hk (by omega) h2
  omega
theorem Eh_b (hB : WB 500 200 1500 w) (hc : c + 1 < 41) (ht : 0 ≤ t ∧ t ≤ 12) (hk : 0 ≤ k ∧ k ≤ 20001) {h0 : Int} : ∀ v g, Eh w t lf k c h0 v g → -4000000000000000000 ≤ v ∧ v ≤ 4000000000000000000 := by
  rintro v g (h1 | ⟨a, o, u, h1, h2, h3, h4, h5⟩)
  · exact Ec_b hB (by omega) ht hk v g h1
  · have e1 := wAr_b hB ht hk hc (lf := lf) ⟨o, u, h3, h4, h5⟩
    omega
/-- all heights of a column -/
theorem sweep_137 (hB : WB 500 200 1500 w) (hA : 20 ≤ A) (hN : 1000 ≤ N) (hc : (c : Int) < w 0) (ht : 0 ≤ t ∧ t ≤ 12) (hk : 0 ≤ k ∧ k ≤ 20001) (hlf : lf = 0 ∨ lf = 1) {kk : Nat → Int → Int → sj_VV → Option (Unit × sj_VV)} {x2 : Int} : ∀ (m : Nat) (h0 : Int) (V : sj_VV), w (44 + c) ≤ h0 → h0 ≤ w (3 + c) + 1 → (w (3 + c) + 1 - h0).toNat < m → TS V A w t lf k → TT V A w c → Gs V A w t lf k c → Ps V A w (c + 1) (SS w t lf k c h0) → Ls V A (Eh w t lf k c h0) ((c : Int) + 1) → ∃ V', g_X6_sweep_137 N kk m A x2 c h0 V = kk A x2 ((c : Int) + 1) V' ∧ FA A V V' ∧ (∀ y, (∀ h, w (44 + (c + 1)) ≤ h → h < w (3 + (c + 1)) → y ≠ pl (c + 1) h) → V' (A + 1) y = V (A + 1) y ∧ V' (A + 2) y = V (A + 2) y) ∧ Ps V' A w (c + 1) (SS w t lf k c (w (3 + c) + 1)) ∧ Ls V' A (Eh w t lf k c (w (3 + c) + 1)) ((c : Int) + 1)
  | 0, _, _, _, _, h', _, _, _, _, _ => absurd h' (by omega)
  | m + 1, h0, V, x1, x2', x3, hS, hT, hG, hP, hL => by
    have n0 := hB.1
    have b0 := (hB.2.2.2.1 c (by omega)).1
    have b1 := (hB.2.2.2.1 (c + 1) (by omega)).1
    unfold g_X6_sweep_137 g_X6_sweep_137_b
    rw [k_ix (by omega) (by omega), tn0, (hS.1.2.1 c (by omega)).1, k_ltc ⟨by omega, by omega⟩ ⟨by omega, by omega⟩]
    by_cases hx : w (3 + c) < h0
    · have e0 : h0 = w (3 + c) + 1 := by omega
      rw [if_pos hx, k_lt]
      rw [e0] at hP hL
      exact ⟨V, rfl, FA.rf, fun _ _ => ⟨rfl, rfl⟩, hP, hL⟩
    · have hm := hG h0 x1 (by omega)
      have hp : ((c : Int) * 101 + h0).toNat = pl c h0 := rfl
      rw [if_neg hx, k_ix (by omega) (by omega), hp]
      unfold g_X6_sweep_174
      have nxt : ∀ V2, FA A V V2 → (∀ y, (∀ h, w (44 + (c + 1)) ≤ h → h < w (3 + (c + 1)) → y ≠ pl (c + 1) h) → V2 (A + 1) y = V (A + 1) y ∧ V2 (A + 2) y = V (A + 2) y) → Gs V2 A w t lf k c := fun V2 _ hy h a1 a2 => by
        have := hy (pl c h) (fun h' _ _ => by unfold pl; omega)
        rw [this.1, this.2]
        exact hG h a1 a2
      by_cases h1 : V (A + 2) (pl c h0) = -1
      · rw [k_eqT h1, k_lt]
        rcases hm with ⟨_, a2⟩ | ⟨a1, _⟩
        · obtain ⟨V3, s1, s2, s3, s4, s5⟩ := sweep_137 hB hA hN hc ht hk hlf (kk := kk) (x2 := x2) m (h0 + 1) V (by omega) (by omega) (by omega) hS hT hG (fun h c1 c2 => (hP h c1 c2).iff (fun v g => ⟨fun ⟨a, o, u, y1, y2, y3⟩ => ⟨a, o, u, y1, by omega, y3⟩, fun ⟨a, o, u, y1, y2, y3, y4⟩ => ⟨a, o, u, y1, by
              rcases (show o < h0 ∨ o = h0 by omega) with q | q
              · exact q
              · rw [q] at y3; exact absurd ⟨a, rfl, y3⟩ (a2 u a), y3, y4⟩⟩)) ⟨hL.1.iff (fun v g => ⟨fun q => q.elim Or.inl (fun ⟨a, o, u, y1, y2, y3⟩ => Or.inr ⟨a, o, u, y1, by omega, y3⟩), fun q => q.elim Or.inl (fun ⟨a, o, u, y1, y2, y3, y4⟩ => Or.inr ⟨a, o, u, y1, by
              rcases (show o < h0 ∨ o = h0 by omega) with q | q
              · exact q
              · rw [q] at y3; exact absurd ⟨a, rfl, y3⟩ (a2 u a), y3, y4⟩)⟩), hL.2⟩
          exact ⟨V3, s1, s2, s3, s4, s5⟩
        · exact absurd h1 a1
      · rcases hm with ⟨a1, _⟩ | ⟨_, a2⟩
        · exact absurd a1 h1
        · obtain ⟨⟨a, ea, hga⟩, hmin⟩ := a2
          have hal := wGo_le _ _ _ hga
          have hvb := wGo_b hB ht hk c _ _ (by omega) hga
          rw [k_eqF h1 ⟨by omega, by omega⟩ ⟨by omega, by omega⟩]
          obtain ⟨V2, q1, q2, q3, q4, q5⟩ := stepOn_eq (N := N) (o := h0) hB hA hN hc ⟨x1, by omega⟩ ht hk hlf (by omega) (by omega) hS hT hP (fun h => SS_b hB (by omega) ht hk) hL (Eh_b hB (by omega) ht hk)
          rw [q1, k_cs, k_lt]
          have hP2 : Ps V2 A w (c + 1) (SS w t lf k c (h0 + 1)) := by
            intro h c1 c2
            refine (q4 h c1 c2).of (fun v g => ?_) (fun v g => ?_)
            · rintro (⟨a, o, u, y1, y2, y3⟩ | ⟨y1, y2, y3⟩)
              · exact ⟨a, o, u, y1, by omega, y3⟩
              · exact ⟨a, h0, V (A + 1) (pl c h0), by omega, by omega, hga, y1, y2⟩
            · rintro ⟨a', o, u, y1, y2, y3, y4, y5⟩
              rcases (show o < h0 ∨ o = h0 by omega) with q | q
              · exact ⟨v, g, Or.inl ⟨a', o, u, y1, q, y3, y4, y5⟩, Or.inr ⟨rfl, Int.le_refl _⟩⟩
              · rw [q] at y3 y4 y5
                have hz := hmin u a' ⟨a', rfl, y3⟩
                exact ⟨_, _, Or.inr ⟨y4, rfl, rfl⟩, by omega⟩
          have hL2 : Ls V2 A (Eh w t lf k c (h0 + 1)) ((c : Int) + 1) := by
            refine ⟨q5.1.of (fun v g => ?_) (fun v g => ?_), q5.2⟩
            · rintro ((y | ⟨a, o, u, y1, y2, y3⟩) | ⟨y1, y2, y3⟩)
              · exact Or.inl y
              · exact Or.inr ⟨a, o, u, y1, by omega, y3⟩
              · exact Or.inr ⟨a, h0, V (A + 1) (pl c h0), by omega, by omega, hga, y1, y2⟩
            · rintro (y | ⟨a', o, u, y1, y2, y3, y4, y5⟩)
              · exact ⟨v, g, Or.inl (Or.inl y), Or.inr ⟨rfl, Int.le_refl _⟩⟩
              · rcases (show o < h0 ∨ o = h0 by omega) with q | q
                · exact ⟨v, g, Or.inl (Or.inr ⟨a', o, u, y1, q, y3, y4, y5⟩), Or.inr ⟨rfl, Int.le_refl _⟩⟩
                · rw [q] at y3 y4 y5
                  have hz := hmin u a' ⟨a', rfl, y3⟩
                  exact ⟨_, _, Or.inr ⟨y4, rfl, rfl⟩, by omega⟩
          obtain ⟨V3, s1, s2, s3, s4, s5⟩ := sweep_137 hB hA hN hc ht hk hlf (kk := kk) (x2 := x2) m (h0 + 1) V2 (by omega) (by omega) (by omega) (hS.fa hA q2) (hT.fa q2) (nxt V2 q2 q3) hP2 hL2
          refine ⟨V3, s1, q2.tr s2, fun y hy => ?_, s4, s5⟩
          have z1 := s3 y hy
          have z2 := q3 y hy
          rw [z2.1, z2.2] at z1
          exact z1
/-- all columns -/
theorem sweep_89 (hB : WB 500 200 1500 w) (hA : 20 ≤ A) (hN : 1000 ≤ N) (ht : 0 ≤ t ∧ t ≤ 12) (hk : 0 ≤ k ∧ k ≤ 20001) (hlf : lf = 0 ∨ lf = 1) {x2 : Int} (hx2 : x2 = 0 ∨ x2 = 1) : ∀ (m c : Nat) (V : sj_VV), (c : Int) ≤ w 0 → 41 - c < m → TS V A w t lf k → (∀ c', c' ≤ c → Gs V A w t lf k c') → (∀ c' : Nat, c < c' → (c' : Int) ≤ w 0 → Fre V A w c') → Ls V A (Ec w t lf k c) c → ∃ V', g_X6_sweep_89 N m A x2 c V = some ((), V') ∧ FB A V V' ∧ (((∀ c' : Nat, (c' : Int) ≤ w 0 → Gs V' A w t lf k c') ∧ Ls V' A (Ec w t lf k (w 0).toNat) (w 0)) ∨ (x2 = 1 ∧ V' A 11 ≠ -1 ∧ (-4000000000000000000 ≤ V' A 10 ∧ V' A 10 < 0 ∧ 0 ≤ V' A 11 ∧ V' A 11 ≤ 40) ∧ ∃ v g, v < 0 ∧ Ec w t lf k (w 0).toNat v g))
  | 0, _, _, _, h', _, _, _, _ => absurd h' (by omega)
  | m + 1, c, V, c1, c2, hS, hG, hF, hL => by
    have n0 := hB.1
    unfold g_X6_sweep_89 g_X6_sweep_89_b
    rw [hS.1.1.1, k_lec ⟨by omega, by omega⟩ ⟨by omega, by omega⟩]
    by_cases hx : w 0 ≤ (c : Int)
    · have e0 : (w 0).toNat = c := by omega
      rw [if_pos hx]
      exact ⟨V, rfl, FB.rf, Or.inl ⟨fun c' h' => hG c' (by omega), by rw [e0, show w 0 = (c : Int) by omega]; exact hL⟩⟩
    · have b1 := (hB.2.2.2.1 (c + 1) (by omega)).1
      have on : ∃ V', g_X6_sweep_121 N (g_X6_sweep_89 N m) A x2 c V = some ((), V') ∧ FB A V V' ∧ (((∀ c' : Nat, (c' : Int) ≤ w 0 → Gs V' A w t lf k c') ∧ Ls V' A (Ec w t lf k (w 0).toNat) (w 0)) ∨ (x2 = 1 ∧ V' A 11 ≠ -1 ∧ (-4000000000000000000 ≤ V' A 10 ∧ V' A 10 < 0 ∧ 0 ≤ V' A 11 ∧ V' A 11 ≤ 40) ∧ ∃ v g, v < 0 ∧ Ec w t lf k (w 0).toNat v g)) := by
        unfold g_X6_sweep_121
        obtain ⟨V1, q1, q2, q3⟩ := addTops_eq (N := N) (c := c) hB hA (by omega) (by omega) hS.1
        have f1 : FB A V V1 := ⟨fun z _ _ _ a4 => q2 z (by omega), fun j _ => by rw [q2 A (by omega)]⟩
        have r1 : V1 (A + 1) = V (A + 1) := q2 _ (by omega)
        have r2 : V1 (A + 2) = V (A + 2) := q2 _ (by omega)
        have rA : V1 A = V A := q2 _ (by omega)
        have hS1 := hS.fb hA f1
        have hG1 : ∀ c', c' ≤ c → Gs V1 A w t lf k c' := fun c' h' h a1 a2 => by rw [r1, r2]; exact hG c' h' h a1 a2
        have hF1 : ∀ c' : Nat, c < c' → (c' : Int) ≤ w 0 → Fre V1 A w c' := fun c' h' h2 => by unfold Fre; rw [r1, r2]; exact hF c' h' h2
        have bc := (hB.2.2.2.1 c (by omega)).1
        rw [q1, k_cs, k_ix (by omega) (by omega), k_lt, tn0, (hS1.1.2.1 c (by omega)).2.1]
        have fr := hF1 (c + 1) (by omega) (by omega)
        obtain ⟨V2, s1, s2, s3, s4, s5⟩ := sweep_137 (N := N) (kk := g_X6_sweep_89 N m) (x2 := x2) hB hA hN (c := c) (by omega) ht hk hlf N (w (44 + c)) V1 (by omega) (by omega) (by omega) hS1 q3 (hG1 c (by omega)) (fun h a1 a2 => Or.inl ⟨fr.1 h a1 a2, fun v g ⟨a, o, u, y1, y2, y3, _⟩ => by have := wGo_r hB (by omega) y3; omega⟩) (by
          unfold Ls; rw [rA]
          refine ⟨hL.1.iff (fun v g => ⟨Or.inl, fun z => z.elim id (fun ⟨a, o, u, y1, y2, y3, _⟩ => by have := wGo_r hB (by omega) y3; omega)⟩), by have := hL.2; omega⟩)
        rw [s1, show ((c : Int) + 1) = ((c + 1 : Nat) : Int) by omega]
        have hS2 := hS1.fa hA s2
        obtain ⟨V3, u1, u2, u3⟩ := sweep_89 hB hA hN ht hk hlf hx2 m (c + 1) V2 (by omega) (by omega) hS2 (fun c' h' h a1 a2 => by
            by_cases z : c' = c + 1
            · subst z
              by_cases zh : h = w (3 + (c + 1))
              · have := s3 (pl (c + 1) h) (fun h' y1 y2 => by unfold pl; omega)
                rw [this.1, this.2, zh, fr.2.1, fr.2.2]
                refine Or.inr ⟨by omega, ⟨c + 1, rfl, wGo_0⟩, fun v' f' hv => ?_⟩
                obtain ⟨a, y1, y2⟩ := hv
                have := wGo_g y2
                omega
              · refine (s4 h a1 (by omega)).iff (fun v g => ⟨fun ⟨a, o, u, y1, y2, y3⟩ => ⟨a, y1, wGo_s.mpr (Or.inr ⟨by omega, o, u, y3⟩)⟩, fun ⟨a, y1, y2⟩ => ?_⟩)
                rcases wGo_s.mp y2 with y | ⟨_, o, u, y3, y4⟩
                · omega
                · exact ⟨a, o, u, y1, by have := wGo_r hB (by omega) y3; omega, y3, y4⟩
            · have hb' := (hB.2.2.2.1 c' (by omega)).1
              have := s3 (pl c' h) (fun h' y1 y2 => by unfold pl; omega)
              rw [this.1, this.2]
              exact hG1 c' (by omega) h a1 a2) (fun c' h' h2 => by
            have hb' := (hB.2.2.2.1 c' (by omega)).1
            have f2 := hF1 c' (by omega) h2
            have same : ∀ h, 0 ≤ h → h ≤ 100 → V2 (A + 1) (pl c' h) = V1 (A + 1) (pl c' h) ∧ V2 (A + 2) (pl c' h) = V1 (A + 2) (pl c' h) := fun h z1 z2 => s3 (pl c' h) (fun h' y1 y2 => by unfold pl; omega)
            refine ⟨fun h a1 a2 => ?_, ?_, ?_⟩
            · rw [(same h (by omega) (by omega)).2]; exact f2.1 h a1 a2
            · rw [(same _ (by omega) (by omega)).2]; exact f2.2.1
            · rw [(same _ (by omega) (by omega)).1]; exact f2.2.2) (by
            refine ⟨s5.1.iff (fun v g => ⟨fun z => z.elim (fun ⟨a, b, y1, y2⟩ => ⟨a, b, by omega, y2⟩) (fun ⟨a, o, u, y1, y2, y3⟩ => ⟨a, c, by omega, ⟨o, u, y3⟩, y1⟩), fun ⟨a, b, y1, y2, y3⟩ => ?_⟩), by have := s5.2; omega⟩
            by_cases z : b = c
            · subst z
              obtain ⟨o, u, y4, y5⟩ := y2
              exact Or.inr ⟨a, o, u, y3, by have := wGo_r hB (by omega) y4; omega, y4, y5⟩
            · exact Or.inl ⟨a, b, by omega, y2, y3⟩)
        exact ⟨V3, u1, (f1.tr s2.b).tr u2, u3⟩
      rw [if_neg hx]
      rcases hx2 with rfl | rfl
      · rw [k_eqT rfl]
        exact on
      · rw [k_eqF (by omega) ⟨by omega, by omega⟩ ⟨by omega, by omega⟩, k_eq ⟨by have := hL.2; omega, by have := hL.2; omega⟩ ⟨by omega, by omega⟩]
        by_cases h1 : V A 11 = -1
        · rw [if_pos h1]
          exact on
        · rcases id hL.1 with ⟨a1, _⟩ | ⟨_, a2⟩
          · exact absurd a1 h1
          · have hb := Ec_b hB (by omega) ht hk _ _ a2.1
            rw [if_neg h1, k_lltc ⟨by omega, by omega⟩ ⟨by omega, by omega⟩]
            by_cases h2 : V A 10 < 0
            · rw [if_pos h2]
              obtain ⟨a, b, y1, y2, y3⟩ := a2.1
              exact ⟨V, rfl, FB.rf, Or.inr ⟨rfl, h1, ⟨hb.1, h2, by have := hL.2; omega, by have := hL.2; omega⟩, _, _, h2, a, b, by omega, y2, y3⟩⟩
            · rw [if_neg h2]
              exact on
end Sweep
