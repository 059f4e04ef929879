/-! TABLES: ways over the columns -/
def wQ (w : sj_R) (lf k : Int) (c : Nat) (o h : Int) : Int := 1000 * slR w lf c o h k - k * slU w lf c o h
/-- a slice of a way, from o at c to h at the next; z: how much it may rub -/
def wSt (w : sj_R) (t lf k z : Int) (c : Nat) (o h : Int) : Prop := (h - t ≤ o ∧ o ≤ h + t) ∧ (w (44 + (c + 1)) ≤ h ∧ h ≤ w (3 + (c + 1))) ∧ 0 < slD w lf c o h k ∧ slR w lf c o h k ≤ z
/-- a way that began at a may go on from h at c, v left over -/
def wGo (w : sj_R) (t lf k z : Int) (a : Nat) : Nat → Int → Int → Prop
  | 0 => fun h v => a = 0 ∧ h = w (3 + 0) ∧ v = 0
  | c + 1 => fun h v => (a = c + 1 ∧ h = w (3 + (c + 1)) ∧ v = 0) ∨ (h < w (3 + (c + 1)) ∧ ∃ o u, wGo w t lf k z a c o u ∧ wSt w t lf k z c o h ∧ v = u + wQ w lf k c o h)
/-- a way comes from c to h at the next -/
def wAr (w : sj_R) (t lf k z : Int) (a c : Nat) (h v : Int) : Prop := ∃ o u, wGo w t lf k z a c o u ∧ wSt w t lf k z c o h ∧ v = u + wQ w lf k c o h
/-- a way from a that ends at the column behind c -/
def wEn (w : sj_R) (t lf k z : Int) (a c : Nat) (v : Int) : Prop := wAr w t lf k z a c (w (3 + (c + 1))) v
section Ways
variable {w : sj_R} {t lf k z : Int} {a c : Nat} {o h v : Int}
theorem wGo_0 : wGo w t lf k z c c (w (3 + c)) 0 := by
  cases c with
  | zero => exact ⟨rfl, rfl, rfl⟩
  | succ c => exact Or.inl ⟨rfl, rfl, rfl⟩
theorem wGo_s : wGo w t lf k z a (c + 1) h v ↔ (a = c + 1 ∧ h = w (3 + (c + 1)) ∧ v = 0) ∨ (h < w (3 + (c + 1)) ∧ wAr w t lf k z a c h v) := Iff.rfl
theorem wGo_le : ∀ (c : Nat) (h v : Int), wGo w t lf k z a c h v → a ≤ c
  | 0, _, _, hg => by rw [hg.1]; exact Nat.le_refl 0
  | c + 1, _, _, hg => by
    rcases hg with h1 | ⟨_, o, u, h2, _⟩
    · omega
    · have := wGo_le c o u h2; omega
theorem wGo_g (hg : wGo w t lf k z a c (w (3 + c)) v) : a = c ∧ v = 0 := by
  cases c with
  | zero => exact ⟨hg.1, hg.2.2⟩
  | succ c =>
    rcases hg with h1 | ⟨h2, _⟩
    · exact ⟨h1.1, h1.2.2⟩
    · omega
theorem wGo_r (hB : WB 500 200 1500 w) (hc : c < 41) (hg : wGo w t lf k z a c h v) : w (44 + c) ≤ h ∧ h ≤ w (3 + c) := by
  have hb := (hB.2.2.2.1 c hc).1
  cases c with
  | zero => rw [hg.2.1]; omega
  | succ c =>
    rcases hg with h1 | ⟨_, o, u, h2, h3, _⟩
    · rw [h1.2.1]; omega
    · exact h3.2.1
theorem wGo_100 (hB : WB 500 200 1500 w) (hc : c < 41) (hg : wGo w t lf k z a c h v) : 0 ≤ h ∧ h ≤ 100 := by
  have h1 := wGo_r hB hc hg
  have hb := (hB.2.2.2.1 c hc).1
  omega
theorem wRise (ht : 0 ≤ t ∧ t ≤ 12) (h1 : h - t ≤ o) (h2 : o ≤ h + t) : -12 ≤ slRise lf o h ∧ slRise lf o h ≤ 12 := by
  unfold slRise
  split <;> omega
theorem wR_b (hB : WB 500 200 1500 w) (ht : 0 ≤ t ∧ t ≤ 12) (hk : 0 ≤ k ∧ k ≤ 20001) (hc : c + 1 < 41) (ho : 0 ≤ o ∧ o ≤ 100) (hh : 0 ≤ h ∧ h ≤ 100) (h1 : h - t ≤ o) (h2 : o ≤ h + t) (hd : 0 < slD w lf c o h k) : 0 ≤ slR w lf c o h k ∧ slR w lf c o h k ≤ 48000000000000 := by
  refine ⟨(slR_b hB (by omega) (by omega) (by omega) hc ho hh hk hd).1, ?_⟩
  have hr := wRise (lf := lf) ht h1 h2
  have hy : slY w c o h < 4 := spLayer_b w c (o + h)
  have hs := hB.2.2.2.2.2.1 (slY w c o h) hy
  have b1 := hB.2.1
  have o1 := spOn_b hB (c := c) (b := o) (by omega) ho.1
  have o2 := spOn_b hB (c := c + 1) (b := h) hc hh.1
  have e1 := mul_b (x := w 1) (y := 7000 - (spOn w c o + spOn w (c + 1) h)) (X := 10) (Y := 7000) (by omega) (by omega) (by omega) (by omega)
  have hW : slW w c o h ≤ w 1 * 7000 := by
    unfold slW
    rw [Int.mul_sub] at e1
    omega
  have hP0 := slP_b hB (by omega) hc ho hh
  have hL0 := slL_b hB hc ho hh
  have hP : slP w c o h ≤ w 1 * 7000 := by
    unfold slP
    omega
  have e2 := mul_b (x := slP w c o h) (y := 1500 - w (292 + 3 * slY w c o h)) (X := 260000) (Y := 1500) hP0.1 hP0.2 (by omega) (by omega)
  rw [Int.mul_sub] at e2
  have e3 := mul_b (x := 200 - w (291 + 3 * slY w c o h)) (y := w 1) (X := 200) (Y := 10) (by omega) (by omega) (by omega) (by omega)
  rw [Int.sub_mul] at e3
  have hS : slS w c o h ≤ 10900000 * w 1 := by
    unfold slS
    rw [Int.mul_assoc]
    omega
  have hS0 := slS_b hB (by omega) (by omega) (by omega) hc ho hh
  have q1 := mul_b (x := w 1) (y := w 1) (X := 10) (Y := 10) (by omega) (by omega) (by omega) (by omega)
  have q2 : 0 ≤ slRise lf o h * slRise lf o h ∧ slRise lf o h * slRise lf o h ≤ 144 := by
    rcases (show 0 ≤ slRise lf o h ∨ slRise lf o h < 0 by omega) with y | y
    · have := mul_b (x := slRise lf o h) (y := slRise lf o h) (X := 12) (Y := 12) (by omega) (by omega) (by omega) (by omega)
      omega
    · have := mul_b (x := -slRise lf o h) (y := -slRise lf o h) (X := 12) (Y := 12) (by omega) (by omega) (by omega) (by omega)
      rw [Int.neg_mul_neg] at this
      omega
  have e4 := mul_b (x := slS w c o h) (y := 244 - (w 1 * w 1 + slRise lf o h * slRise lf o h)) (X := 600000000) (Y := 244) hS0.1 hS0.2 (by omega) (by omega)
  rw [Int.mul_sub] at e4
  have hG : slG w lf c o h ≤ 2659600000 * w 1 := by
    unfold slG
    omega
  have e5 : 0 ≤ (2659600000 * w 1 - slG w lf c o h) * k := Int.mul_nonneg (by omega) hk.1
  rw [Int.sub_mul, Int.mul_assoc] at e5
  have e6 := mul_a (x := w (292 + 3 * slY w c o h)) (y := slRise lf o h) (X := 1500) (Y := 12) (by omega) (by omega) (by omega) (by omega)
  rw [Int.mul_comm (w (292 + 3 * slY w c o h)) (slRise lf o h)] at e6
  have eD : slD w lf c o h k = w 1 * k + slRise lf o h * w (292 + 3 * slY w c o h) := rfl
  unfold slR
  exact Int.ediv_le_of_le_mul hd (by omega)
theorem wU_b (hB : WB 500 200 1500 w) (ht : 0 ≤ t ∧ t ≤ 12) (hk : 0 ≤ k ∧ k ≤ 20001) (hc : c + 1 < 41) (ho : 0 ≤ o ∧ o ≤ 100) (hh : 0 ≤ h ∧ h ≤ 100) (h1 : h - t ≤ o) (h2 : o ≤ h + t) : -24000000000000 ≤ k * slU w lf c o h ∧ k * slU w lf c o h ≤ 24000000000000 := by
  have hr := wRise (lf := lf) ht h1 h2
  have b1 := hB.2.1
  have b2 := hB.2.2.1
  have o1 := spOn_b hB (c := c) (b := o) (by omega) ho.1
  have o2 := spOn_b hB (c := c + 1) (b := h) hc hh.1
  have e1 := mul_b (x := w 1) (y := spOn w c o + spOn w (c + 1) h) (X := 10) (Y := 7000) (by omega) (by omega) (by omega) (by omega)
  have e2 := mul_b (x := w 2) (y := w 1) (X := 500) (Y := 10) (by omega) (by omega) (by omega) (by omega)
  have e3 := mul_a (x := slW w c o h) (y := 1000 * slRise lf o h + w 2 * w 1) (X := 70000) (Y := 17000) (by unfold slW; omega) (by unfold slW; omega) (by omega) (by omega)
  have e4 := mul_kb (x := slU w lf c o h) (X := 1190000000) hk (by unfold slU; omega) (by unfold slU; omega)
  omega
theorem wQ_b (hB : WB 500 200 1500 w) (ht : 0 ≤ t ∧ t ≤ 12) (hk : 0 ≤ k ∧ k ≤ 20001) (hc : c + 1 < 41) (ho : 0 ≤ o ∧ o ≤ 100) (hh : 0 ≤ h ∧ h ≤ 100) (h1 : h - t ≤ o) (h2 : o ≤ h + t) (hd : 0 < slD w lf c o h k) : -24000000000000 ≤ wQ w lf k c o h ∧ wQ w lf k c o h ≤ 49000000000000000 ∧ 1000 * slR w lf c o h k ≤ wQ w lf k c o h + 24000000000000 := by
  have e1 := wR_b (lf := lf) hB ht hk hc ho hh h1 h2 hd
  have e2 := wU_b (lf := lf) hB ht hk hc ho hh h1 h2
  unfold wQ
  omega
theorem wSt_b (hB : WB 500 200 1500 w) (ht : 0 ≤ t ∧ t ≤ 12) (hk : 0 ≤ k ∧ k ≤ 20001) (hc : c + 1 < 41) (ho : 0 ≤ o ∧ o ≤ 100) (hs : wSt w t lf k z c o h) : (0 ≤ h ∧ h ≤ 100) ∧ -24000000000000 ≤ wQ w lf k c o h ∧ wQ w lf k c o h ≤ 49000000000000000 ∧ 1000 * slR w lf c o h k ≤ wQ w lf k c o h + 24000000000000 := by
  have hb := (hB.2.2.2.1 (c + 1) hc).1
  obtain ⟨h1, h2, h3, h4⟩ := hs
  have hh : 0 ≤ h ∧ h ≤ 100 := by omega
  exact ⟨hh, wQ_b hB ht hk hc ho hh h1.1 h1.2 h3⟩
theorem wGo_b (hB : WB 500 200 1500 w) (ht : 0 ≤ t ∧ t ≤ 12) (hk : 0 ≤ k ∧ k ≤ 20001) : ∀ (c : Nat) (h v : Int), c < 41 → wGo w t lf k z a c h v → -(24000000000000 * (c : Int)) ≤ v ∧ v ≤ 49000000000000000 * (c : Int)
  | 0, _, _, _, hg => by rw [hg.2.2]; omega
  | c + 1, h, v, hc, hg => by
    rcases hg with h1 | ⟨_, o, u, h2, h3, h4⟩
    · rw [h1.2.2]; omega
    · have ih := wGo_b hB ht hk c o u (by omega) h2
      have hq := (wSt_b hB ht hk hc (wGo_100 hB (by omega) h2) h3).2
      omega
theorem wAr_b (hB : WB 500 200 1500 w) (ht : 0 ≤ t ∧ t ≤ 12) (hk : 0 ≤ k ∧ k ≤ 20001) (hc : c + 1 < 41) (hg : wAr w t lf k z a c h v) : -1000000000000000 ≤ v ∧ v ≤ 2500000000000000000 := by
  obtain ⟨o, u, h2, h3, h4⟩ := hg
  have ih := wGo_b hB ht hk c o u (by omega) h2
  have hq := (wSt_b hB ht hk hc (wGo_100 hB (by omega) h2) h3).2
  omega
/-- a way that rubs too much is not the least -/
theorem wSt_z {z2 : Int} (hz : z ≤ z2) (hs : wSt w t lf k z c o h) : wSt w t lf k z2 c o h := ⟨hs.1, hs.2.1, hs.2.2.1, Int.le_trans hs.2.2.2 hz⟩
theorem wGo_z {z2 : Int} (hz : z ≤ z2) : ∀ (c : Nat) (h v : Int), wGo w t lf k z a c h v → wGo w t lf k z2 a c h v
  | 0, _, _, hg => hg
  | c + 1, h, v, hg => by
    rcases hg with h1 | ⟨h0, o, u, h2, h3, h4⟩
    · exact Or.inl h1
    · exact Or.inr ⟨h0, o, u, wGo_z hz c o u h2, wSt_z hz h3, h4⟩
theorem wAr_z {z2 : Int} (hz : z ≤ z2) (hg : wAr w t lf k z a c h v) : wAr w t lf k z2 a c h v := by
  obtain ⟨o, u, h2, h3, h4⟩ := hg
  exact ⟨o, u, wGo_z hz c o u h2, wSt_z hz h3, h4⟩
theorem wGo_d (hB : WB 500 200 1500 w) (ht : 0 ≤ t ∧ t ≤ 12) (hk : 0 ≤ k ∧ k ≤ 20001) : ∀ (c : Nat) (h v : Int), c < 41 → wGo w t lf k z a c h v → wGo w t lf k 10000000000000 a c h v ∨ 10000000000000000 - 24000000000000 * ((c : Int) + 1) ≤ v
  | 0, _, _, _, hg => Or.inl hg
  | c + 1, h, v, hc, hg => by
    rcases hg with h1 | ⟨h0, o, u, h2, h3, h4⟩
    · exact Or.inl (Or.inl h1)
    · have ih := wGo_d hB ht hk c o u (by omega) h2
      have hu := wGo_b hB ht hk c o u (by omega) h2
      have hq := (wSt_b hB ht hk hc (wGo_100 hB (by omega) h2) h3).2
      rcases ih with ih | ih
      · by_cases hz : slR w lf c o h k ≤ 10000000000000
        · exact Or.inl (Or.inr ⟨h0, o, u, ih, ⟨h3.1, h3.2.1, h3.2.2.1, hz⟩, h4⟩)
        · exact Or.inr (by omega)
      · exact Or.inr (by omega)
theorem wAr_d (hB : WB 500 200 1500 w) (ht : 0 ≤ t ∧ t ≤ 12) (hk : 0 ≤ k ∧ k ≤ 20001) (hc : c + 1 < 41) (hg : wAr w t lf k z a c h v) : wAr w t lf k 10000000000000 a c h v ∨ 8000000000000000 ≤ v := by
  obtain ⟨o, u, h2, h3, h4⟩ := hg
  have ih := wGo_d hB ht hk c o u (by omega) h2
  have hu := wGo_b hB ht hk c o u (by omega) h2
  have hq := (wSt_b hB ht hk hc (wGo_100 hB (by omega) h2) h3).2
  rcases ih with ih | ih
  · by_cases hz : slR w lf c o h k ≤ 10000000000000
    · exact Or.inl ⟨o, u, ih, ⟨h3.1, h3.2.1, h3.2.2.1, hz⟩, h4⟩
    · exact Or.inr (by omega)
  · exact Or.inr (by omega)
end Ways
/-! the least of a set of pairs -/
def Mn (S : Int → Int → Prop) (v f : Int) : Prop := S v f ∧ ∀ v' f', S v' f' → v < v' ∨ (v = v' ∧ f ≤ f')
def Mo (p : Prop) (S : Int → Int → Prop) (v f : Int) : Prop := (p ∧ ∀ v' f', ¬ S v' f') ∨ (¬ p ∧ Mn S v f)
section Least
variable {S S2 : Int → Int → Prop} {v f v2 f2 : Int} {p : Prop}
theorem Mn.of (hm : Mn S v f) (h1 : S2 v f) (h2 : ∀ v' f', S2 v' f' → ∃ v3 f3, S v3 f3 ∧ (v3 < v' ∨ (v3 = v' ∧ f3 ≤ f'))) : Mn S2 v f := by
  refine ⟨h1, fun v' f' hs => ?_⟩
  obtain ⟨v3, f3, h3, h4⟩ := h2 v' f' hs
  have := hm.2 v3 f3 h3
  omega
theorem Mn.uq (h1 : Mn S v f) (h2 : Mn S v2 f2) : v = v2 ∧ f = f2 := by
  have a1 := h1.2 _ _ h2.1
  have a2 := h2.2 _ _ h1.1
  omega
theorem Mo.of (hm : Mo p S v f) (h1 : ∀ v' f', S v' f' → S2 v' f') (h2 : ∀ v' f', S2 v' f' → ∃ v3 f3, S v3 f3 ∧ (v3 < v' ∨ (v3 = v' ∧ f3 ≤ f'))) : Mo p S2 v f := by
  rcases hm with ⟨a1, a2⟩ | ⟨a1, a2⟩
  · refine Or.inl ⟨a1, fun v' f' hs => ?_⟩
    obtain ⟨v3, f3, h3, _⟩ := h2 v' f' hs
    exact a2 v3 f3 h3
  · exact Or.inr ⟨a1, a2.of (h1 _ _ a2.1) h2⟩
theorem Mo.iff (hm : Mo p S v f) (h1 : ∀ v' f', S v' f' ↔ S2 v' f') : Mo p S2 v f := hm.of (fun v' f' => (h1 v' f').mp) (fun v' f' hs => ⟨v', f', (h1 v' f').mpr hs, Or.inr ⟨rfl, Int.le_refl _⟩⟩)
/-- one more -/
theorem Mo.add (hm : Mo p S v f) {x g v3 f3 : Int} {p2 : Prop} (h : ((p ∨ x < v ∨ (x = v ∧ g < f)) ∧ v3 = x ∧ f3 = g ∧ ¬ p2) ∨ (¬ (p ∨ x < v ∨ (x = v ∧ g < f)) ∧ v3 = v ∧ f3 = f ∧ (p2 → p))) : Mo p2 (fun v' f' => S v' f' ∨ (v' = x ∧ f' = g)) v3 f3 := by
  rcases h with ⟨h1, rfl, rfl, h4⟩ | ⟨h1, rfl, rfl, h4⟩
  · refine Or.inr ⟨h4, Or.inr ⟨rfl, rfl⟩, fun v' f' hs => ?_⟩
    rcases hs with hs | ⟨rfl, rfl⟩
    · rcases hm with ⟨a1, a2⟩ | ⟨a1, a2⟩
      · exact absurd hs (a2 _ _)
      · have := a2.2 _ _ hs
        rcases h1 with h1 | h1 | h1
        · exact absurd h1 a1
        · omega
        · omega
    · omega
  · rcases hm with ⟨a1, a2⟩ | ⟨a1, a2⟩
    · exact absurd (Or.inl a1) h1
    · refine Or.inr ⟨fun y => a1 (h4 y), Or.inl a2.1, fun v' f' hs => ?_⟩
      rcases hs with hs | ⟨rfl, rfl⟩
      · exact a2.2 _ _ hs
      · rcases (show v3 < v' ∨ (v3 = v' ∧ f3 ≤ f') ∨ (v' < v3 ∨ (v' = v3 ∧ f' < f3)) by omega) with y | y | y
        · exact Or.inl y
        · exact Or.inr y
        · exact absurd (Or.inr y) h1
end Least
