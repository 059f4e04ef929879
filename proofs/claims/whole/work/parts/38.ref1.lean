/-! THE REFERENCE: its row is its array w; what its helpers may touch: fields 6 to 12 -/
def Fm (a : Nat) (V V' : sj_VV) : Prop := (∀ x, x ≠ a → V' x = V x) ∧ ∀ k, (k < 6 ∨ 13 ≤ k) → V' a k = V a k
theorem Fm.rf {a : Nat} {V : sj_VV} : Fm a V V := ⟨fun _ _ => rfl, fun _ _ => rfl⟩
theorem Fm.tr {a : Nat} {V V1 V2 : sj_VV} (h : Fm a V V1) (h2 : Fm a V1 V2) : Fm a V V2 := ⟨fun x hx => (h2.1 x hx).trans (h.1 x hx), fun k hk => (h2.2 k hk).trans (h.2 k hk)⟩
theorem Fm.up {a k : Nat} {v : Int} {V V1 : sj_VV} (h : Fm a V V1) (h1 : 6 ≤ k) (h2 : k < 13) : Fm a V (sj_up V1 a k v) := ⟨fun x hx => (up_row V1 k v hx).trans (h.1 x hx), fun j hj => (up_nk V1 a v (by omega)).trans (h.2 j hj)⟩
theorem Fm.w {a : Nat} {V V1 : sj_VV} (h : Fm a V V1) (i : Nat) : V1 (a + (i + 1)) = V (a + (i + 1)) := h.1 _ (by omega)
def SM (V : sj_VV) (a f t : Nat) (lf : Int) (bs : Nat → Int) : Prop := V a 13 = f ∧ V a 14 = t ∧ V a 15 = lf ∧ ∀ c, f ≤ c → c ≤ t → V (a + 5) c = bs c
theorem SM.fm {V V' : sj_VV} {a f t : Nat} {lf : Int} {bs : Nat → Int} (h : SM V a f t lf bs) (hF : Fm a V V') : SM V' a f t lf bs := by
  obtain ⟨h1, h2, h3, h4⟩ := h
  exact ⟨(hF.2 13 (by omega)).trans h1, (hF.2 14 (by omega)).trans h2, (hF.2 15 (by omega)).trans h3, fun c hc hc2 => by rw [hF.1 (a + 5) (by omega)]; exact h4 c hc hc2⟩
/-- the layer, as the reference finds it -/
def spLy (w : sj_R) (x : Nat) (s : Int) : Nat → Nat
  | 0 => 0
  | l + 1 => if spTop w l x + spTop w l (x + 1) > s then l else spLy w x s l
theorem spLy_4 (w : sj_R) (x : Nat) (s : Int) : spLy w x s 4 = spLayer w x s := by
  unfold spLayer
  rw [spLy, spLy, spLy, spLy, spLy]
  repeat' split
  all_goals rfl
def spAc (w : sj_R) (x : Nat) (p q : Int) : Nat → Int
  | 0 => 0
  | l + 1 => spAc w x p q l + w (290 + 3 * l) * (spThick w l x p + spThick w l (x + 1) q)
theorem spAc_4 (w : sj_R) (x : Nat) (p q : Int) : spAc w x p q 4 = spSoil w x p + spSoil w (x + 1) q := by
  simp [spAc, spSoil, Int.mul_add]
  omega
/-- a slice laid out in the reference's fields -/
def LaS (V : sj_VV) (a : Nat) (w : sj_R) (lf : Int) (x : Nat) (p q : Int) : Prop := V a 6 = slRise lf p q ∧ V a 7 = (slY w x p q : Nat) ∧ V a 8 = slW w x p q ∧ V a 9 = slL w x p q ∧ V a 10 = slP w x p q ∧ V a 11 = slS w x p q ∧ V a 12 = slU w lf x p q
section Ref1
variable {V : sj_VV} {a : Nat} {w : sj_R} {lf lv hv rv : Int} {N : Nat}
theorem m_least {x y : Int} (hx : sj_i32 x) (hy : sj_i32 y) : g_X9_least N x y V = some (min x y, V) := by
  unfold g_X9_least
  rw [k_lec hy hx]
  by_cases h : y ≤ x
  · rw [if_pos h, show min x y = y by omega]
  · rw [if_neg h, show min x y = x by omega]
theorem m_most {x y : Int} (hx : sj_i32 x) (hy : sj_i32 y) : g_X9_most N x y V = some (max x y, V) := by
  unfold g_X9_most
  rw [k_lec hx hy]
  by_cases h : x ≤ y
  · rw [if_pos h, show max x y = y by omega]
  · rw [if_neg h, show max x y = x by omega]
theorem m_water (hw : V (a + 1) = w) (hB : WB lv hv rv w) {c : Nat} (hc : c < 41) : g_X9_water N a c V = some (spWater w c, V) := by
  unfold g_X9_water
  have hb := hB.2.2.2.1 c hc
  rw [k_ix (by omega) (by omega), k_ix (by omega) (by omega), show (85 + (c : Int)).toNat = 85 + c by omega, show (3 + (c : Int)).toNat = 3 + c by omega, hw, m_least ⟨by omega, by omega⟩ ⟨by omega, by omega⟩, k_cs]
  rfl
theorem m_top_loop (hw : V (a + 1) = w) (hB : WB lv hv rv w) {c : Nat} (hc : c < 41) : ∀ (n l j : Nat), j ≤ l → l < 4 → l - j < n → g_X9_top_12 N n a l c (spTop w j c) (j + 1) V = some (spTop w l c, V)
  | 0, _, _, _, _, h => absurd h (by omega)
  | n + 1, l, j, h1, h2, h3 => by
    unfold g_X9_top_12 g_X9_top_12_b
    by_cases hj : j = l
    · subst hj
      rw [k_ltT (by omega) ⟨by omega, by omega⟩ ⟨by omega, by omega⟩]
    · have hb := spTop_100 hB hc (l := j) (by omega)
      have hi := hB.2.2.2.2.1 (41 * j + c) (by omega)
      have e1 : ((167 + 41 * ((j : Int) + 1 - 1)) + c).toNat = 167 + (41 * j + c) := by omega
      rw [k_ltF (by omega) ⟨by omega, by omega⟩ ⟨by omega, by omega⟩, k_ix (by omega) (by omega), e1, hw, m_least ⟨by omega, by omega⟩ ⟨by omega, by omega⟩, k_cs, k_lt]
      have ih := m_top_loop hw hB hc n l (j + 1) (by omega) h2 (by omega)
      rw [spTop] at ih
      rw [← Nat.add_assoc]
      exact ih
theorem m_top (hw : V (a + 1) = w) (hB : WB lv hv rv w) {c l : Nat} (hc : c < 41) (hl : l < 4) (hN : 5 ≤ N) : g_X9_top N a l c V = some (spTop w l c, V) := by
  unfold g_X9_top
  rw [k_ix (by omega) (by omega), k_lt, show (3 + (c : Int)).toNat = 3 + c by omega, hw]
  exact m_top_loop hw hB hc N l 0 (by omega) hl (by omega)
theorem m_thick21 (hw : V (a + 1) = w) (hB : WB lv hv rv w) {c l : Nat} {y : Int} (hc : c < 41) (hl : l < 4) (hy : -1000000 ≤ y ∧ y ≤ 1000000) (hN : 5 ≤ N) : g_X9_thick_21 N a l c y V = some (max 0 (spTop w l c - y), V) := by
  unfold g_X9_thick_21
  have h1 := spTop_100 hB hc hl
  rw [m_top hw hB hc hl hN, k_cs, k_lt, k_lec ⟨by omega, by omega⟩ ⟨by omega, by omega⟩]
  by_cases h : spTop w l c - y ≤ 0
  · rw [if_pos h, show max 0 (spTop w l c - y) = 0 by omega]
  · rw [if_neg h, show max 0 (spTop w l c - y) = spTop w l c - y by omega]
theorem m_thick (hw : V (a + 1) = w) (hB : WB lv hv rv w) {c l : Nat} {b : Int} (hc : c < 41) (hl : l < 4) (hb : 0 ≤ b ∧ b ≤ 100) (hN : 5 ≤ N) : g_X9_thick N a l c b V = some (spThick w l c b, V) := by
  unfold g_X9_thick spThick
  by_cases h : l = 3
  · subst h
    rw [k_eqT (by omega), m_thick21 hw hB hc hl (by omega) hN, if_pos rfl]
  · have h2 := spTop_100 hB hc (l := l + 1) (by omega)
    rw [k_eqF (by omega) ⟨by omega, by omega⟩ ⟨by omega, by omega⟩, show ((l : Int) + 1) = ((l + 1 : Nat) : Int) by omega, m_top hw hB hc (by omega) hN, k_cs, m_most ⟨by omega, by omega⟩ ⟨by omega, by omega⟩, k_cs, m_thick21 hw hB hc hl (by omega) hN, if_neg h]
theorem m_lays216 (hw : V (a + 1) = w) (hB : WB lv hv rv w) (hlv : lv ≤ 1100) (hhv : hv ≤ 700) (hrv : rv ≤ 2250) {x : Nat} {p q : Int} (hp : 0 ≤ p ∧ p ≤ 100) (hq : 0 ≤ q ∧ q ≤ 100) (h6 : V a 6 = slRise lf p q) (h7 : V a 7 = (slY w x p q : Nat)) (h8 : V a 8 = slW w x p q) (h9 : V a 9 = slL w x p q) : ∃ V', g_X9_laysSlice_216 N a (slP w x p q) a V = some ((), V') ∧ Fm a V V' ∧ LaS V' a w lf x p q := by
  unfold g_X9_laysSlice_216
  have hy : slY w x p q < 4 := spLayer_b w x (p + q)
  have hs := hB.2.2.2.2.2.1 (slY w x p q) hy
  have hr := slRise_b (lf := lf) hp hq
  have b1 := hB.2.1
  have b2 := hB.2.2.1
  obtain ⟨V1, e⟩ : ∃ V1, V1 = sj_up V a 10 (slP w x p q) := ⟨_, rfl⟩
  have f1 : Fm a V V1 := by rw [e]; exact Fm.rf.up (by omega) (by omega)
  have w1 : V1 (a + 1) = w := (f1.w 0).trans hw
  have a6 : V1 a 6 = slRise lf p q := by rw [e, up_nk _ _ _ (by omega)]; exact h6
  have a7 : V1 a 7 = (slY w x p q : Nat) := by rw [e, up_nk _ _ _ (by omega)]; exact h7
  have a8 : V1 a 8 = slW w x p q := by rw [e, up_nk _ _ _ (by omega)]; exact h8
  have a9 : V1 a 9 = slL w x p q := by rw [e, up_nk _ _ _ (by omega)]; exact h9
  have a10 : V1 a 10 = slP w x p q := by rw [e, up_ss]
  rw [← e, k_lt, a7, k_ix (by omega) (by omega), show (290 + 3 * (slY w x p q : Int) + 1).toNat = 291 + 3 * slY w x p q by omega, w1, k_wid ⟨by omega, by omega⟩, k_ix (by omega) (by omega), show (1 : Int).toNat = 1 from rfl, k_wid ⟨by omega, by omega⟩, k_ix (by omega) (by omega), show (290 + 3 * (slY w x p q : Int) + 2).toNat = 292 + 3 * slY w x p q by omega, k_wid ⟨by omega, by omega⟩, a10]
  obtain ⟨V2, e2⟩ : ∃ V2, V2 = sj_up V1 a 11 (2000 * w (291 + 3 * slY w x p q) * w 1 + slP w x p q * w (292 + 3 * slY w x p q)) := ⟨_, rfl⟩
  have f2 : Fm a V V2 := by rw [e2]; exact f1.up (by omega) (by omega)
  have w2 : V2 (a + 1) = w := (f2.w 0).trans hw
  have c6 : V2 a 6 = slRise lf p q := by rw [e2, up_nk _ _ _ (by omega)]; exact a6
  have c8 : V2 a 8 = slW w x p q := by rw [e2, up_nk _ _ _ (by omega)]; exact a8
  rw [← e2, k_lt, c6, k_wid ⟨by omega, by omega⟩, k_ix (by omega) (by omega), w2, show (2 : Int).toNat = 2 from rfl, k_wid ⟨by omega, by omega⟩, k_ix (by omega) (by omega), k_wid ⟨by omega, by omega⟩, k_lt, c8]
  refine ⟨_, rfl, f2.up (by omega) (by omega), ?_, ?_, ?_, ?_, ?_, ?_, ?_⟩
  · rw [up_nk _ _ _ (by omega)]; exact c6
  · rw [up_nk _ _ _ (by omega), e2, up_nk _ _ _ (by omega)]; exact a7
  · rw [up_nk _ _ _ (by omega)]; exact c8
  · rw [up_nk _ _ _ (by omega), e2, up_nk _ _ _ (by omega)]; exact a9
  · rw [up_nk _ _ _ (by omega), e2, up_nk _ _ _ (by omega)]; exact a10
  · rw [up_nk _ _ _ (by omega), e2, up_ss]; rfl
  · rw [up_ss]; rfl
theorem m_lays_loop (hB : WB lv hv rv w) (hlv : lv ≤ 1100) (hhv : hv ≤ 700) (hrv : rv ≤ 2250) (hN : 5 ≤ N) {x : Nat} (hx : x + 1 < 41) {p q : Int} (hp : 0 ≤ p ∧ p ≤ 100) (hq : 0 ≤ q ∧ q ≤ 100) : ∀ (m l : Nat) (V : sj_VV), l ≤ 4 → 4 - l < m → V (a + 1) = w → V a 6 = slRise lf p q → V a 7 = (spLy w x (p + q) l : Nat) → ∃ V', g_X9_laysSlice_29 N m a x p q (spAc w x p q l) l V = some ((), V') ∧ Fm a V V' ∧ LaS V' a w lf x p q
  | 0, _, _, _, h, _, _, _ => absurd h (by omega)
  | m + 1, l, V, h1, h2, hw, h6, h7 => by
    unfold g_X9_laysSlice_29 g_X9_laysSlice_29_b
    have b1 := hB.2.1
    have exx : ((x : Int) + 1) = ((x + 1 : Nat) : Int) := by omega
    by_cases h4 : l = 4
    · subst h4
      have l1 := (hB.2.2.2.1 x (by omega)).2.2
      have l2 := (hB.2.2.2.1 (x + 1) (by omega)).2.2
      have hd1 := spHead_b hB (c := x) (b := p) (by omega) hp.1
      have hd2 := spHead_b hB (c := x + 1) (b := q) (by omega) hq.1
      have g1 := (hB.2.2.2.1 x (by omega)).2.1
      have g2 := (hB.2.2.2.1 (x + 1) (by omega)).2.1
      have g3 := (hB.2.2.2.1 x (by omega)).1
      have g4 := (hB.2.2.2.1 (x + 1) (by omega)).1
      have hWb := slW_b hB hlv hx hp hq
      have hLb := slL_b hB hx hp hq
      rw [k_leT (by omega) ⟨by omega, by omega⟩ ⟨by omega, by omega⟩, k_ix (by omega) (by omega), hw, show (1 : Int).toNat = 1 from rfl, k_wid ⟨by omega, by omega⟩, k_ix (by omega) (by omega), show (126 + (x : Int)).toNat = 126 + x by omega, k_wid ⟨by omega, by omega⟩, k_ix (by omega) (by omega), show (126 + (x : Int) + 1).toNat = 126 + (x + 1) by omega, k_wid ⟨by omega, by omega⟩]
      have eW : w 1 * (spAc w x p q 4 + w (126 + x) + w (126 + (x + 1))) = slW w x p q := by
        unfold slW
        congr 1
        rw [spAc_4]
        unfold spOn
        omega
      rw [eW]
      obtain ⟨V1, e⟩ : ∃ V1, V1 = sj_up V a 8 (slW w x p q) := ⟨_, rfl⟩
      have f1 : Fm a V V1 := by rw [e]; exact Fm.rf.up (by omega) (by omega)
      have w1 : V1 (a + 1) = w := (f1.w 0).trans hw
      have a6 : V1 a 6 = slRise lf p q := by rw [e, up_nk _ _ _ (by omega)]; exact h6
      have a7 : V1 a 7 = (slY w x p q : Nat) := by rw [e, up_nk _ _ _ (by omega), h7, spLy_4]; rfl
      have a8 : V1 a 8 = slW w x p q := by rw [e, up_ss]
      have u1 : -100 ≤ spWater w x - p ∧ spWater w x - p ≤ 100 := by unfold spWater; omega
      have u2 : -100 ≤ spWater w (x + 1) - q ∧ spWater w (x + 1) - q ≤ 100 := by unfold spWater; omega
      rw [← e, k_lt, k_ix (by omega) (by omega), w1, k_wid ⟨by omega, by omega⟩, m_water w1 hB (by omega), k_cs, m_most ⟨by omega, by omega⟩ ⟨by omega, by omega⟩, k_cs, exx, m_water w1 hB (by omega), k_cs, m_most ⟨by omega, by omega⟩ ⟨by omega, by omega⟩, k_cs]
      have eL : 10 * w 1 * (max 0 (spWater w x - p) + max 0 (spWater w (x + 1) - q)) = slL w x p q := rfl
      rw [k_wid ⟨by omega, by omega⟩, eL]
      obtain ⟨V2, e2⟩ : ∃ V2, V2 = sj_up V1 a 9 (slL w x p q) := ⟨_, rfl⟩
      have f2 : Fm a V V2 := by rw [e2]; exact f1.up (by omega) (by omega)
      have w2 : V2 (a + 1) = w := (f2.w 0).trans hw
      have c6 : V2 a 6 = slRise lf p q := by rw [e2, up_nk _ _ _ (by omega)]; exact a6
      have c7 : V2 a 7 = (slY w x p q : Nat) := by rw [e2, up_nk _ _ _ (by omega)]; exact a7
      have c8 : V2 a 8 = slW w x p q := by rw [e2, up_nk _ _ _ (by omega)]; exact a8
      have c9 : V2 a 9 = slL w x p q := by rw [e2, up_ss]
      obtain ⟨V3, r1, r2, r3⟩ := m_lays216 (N := N) w2 hB hlv hhv hrv hp hq c6 c7 c8 c9
      rw [← e2, k_lt, c8, c9, k_llec ⟨by omega, by omega⟩ ⟨by omega, by omega⟩]
      by_cases hle : slW w x p q ≤ slL w x p q
      · rw [if_pos hle]
        rw [show slP w x p q = 0 by unfold slP; omega] at r1
        exact ⟨V3, r1, f2.tr r2, r3⟩
      · rw [if_neg hle]
        rw [show slP w x p q = slW w x p q - slL w x p q by unfold slP; omega] at r1
        exact ⟨V3, r1, f2.tr r2, r3⟩
    · have hl : l < 4 := by omega
      have hs := (hB.2.2.2.2.2.1 l hl).1
      have t1 := spThick_b hB (c := x) (l := l) (b := p) (by omega) hl hp.1
      have t2 := spThick_b hB (c := x + 1) (l := l) (b := q) (by omega) hl hq.1
      have t3 := spTop_100 hB (c := x) (by omega) hl
      have t4 := spTop_100 hB hx hl
      rw [k_leF (by omega) ⟨by omega, by omega⟩ ⟨by omega, by omega⟩, k_ix (by omega) (by omega), show (290 + 3 * (l : Int)).toNat = 290 + 3 * l by omega, hw, k_wid ⟨by omega, by omega⟩, m_thick hw hB (by omega) hl hp hN, k_cs, exx, m_thick hw hB (by omega) hl hq hN, k_cs, k_wid ⟨by omega, by omega⟩, k_lt, m_top hw hB (by omega) hl hN, k_cs, m_top hw hB (by omega) hl hN, k_cs, k_lec ⟨by omega, by omega⟩ ⟨by omega, by omega⟩]
      unfold g_X9_laysSlice_104
      by_cases hle : spTop w l x + spTop w l (x + 1) ≤ p + q
      · rw [if_pos hle, k_lt]
        have h7' : V a 7 = (spLy w x (p + q) (l + 1) : Nat) := by rw [spLy, if_neg (by omega)]; exact h7
        obtain ⟨V3, r1, r2, r3⟩ := m_lays_loop hB hlv hhv hrv hN hx hp hq m (l + 1) V (by omega) (by omega) hw h6 h7'
        exact ⟨V3, r1, r2, r3⟩
      · rw [if_neg hle, k_lt, k_lt]
        have f1 : Fm a V (sj_up V a 7 l) := Fm.rf.up (by omega) (by omega)
        have h7' : (sj_up V a 7 l) a 7 = (spLy w x (p + q) (l + 1) : Nat) := by rw [spLy, if_pos (by omega), up_ss]
        obtain ⟨V3, r1, r2, r3⟩ := m_lays_loop hB hlv hhv hrv hN hx hp hq m (l + 1) (sj_up V a 7 l) (by omega) (by omega) ((f1.w 0).trans hw) (by rw [up_nk _ _ _ (by omega)]; exact h6) h7'
        exact ⟨V3, r1, f1.tr r2, r3⟩
theorem m_laysSlice (hw : V (a + 1) = w) (hB : WB lv hv rv w) (hlv : lv ≤ 1100) (hhv : hv ≤ 700) (hrv : rv ≤ 2250) (hN : 50 ≤ N) {x : Nat} (hx : x + 1 < 41) {p q : Int} (hp : 0 ≤ p ∧ p ≤ 100) (hq : 0 ≤ q ∧ q ≤ 100) (hlf : lf = 0 ∨ lf = 1) : ∃ V', g_X9_laysSlice N a x p q lf V = some ((), V') ∧ Fm a V V' ∧ LaS V' a w lf x p q := by
  have key : ∃ V', g_X9_laysSlice_15 N a x p q (slRise lf p q) a V = some ((), V') ∧ Fm a V V' ∧ LaS V' a w lf x p q := by
    unfold g_X9_laysSlice_15
    rw [k_lt, k_lt]
    have f1 : Fm a V (sj_up (sj_up V a 6 (slRise lf p q)) a 7 0) := (Fm.rf.up (by omega) (by omega)).up (by omega) (by omega)
    obtain ⟨V3, r1, r2, r3⟩ := m_lays_loop (N := N) (a := a) (lf := lf) hB hlv hhv hrv (by omega) hx hp hq N 0 (sj_up (sj_up V a 6 (slRise lf p q)) a 7 0) (by omega) (by omega) ((f1.w 0).trans hw) (by rw [up_nk _ _ _ (by omega), up_ss]) (by rw [up_ss]; rfl)
    exact ⟨V3, r1, f1.tr r2, r3⟩
  unfold g_X9_laysSlice
  rcases hlf with rfl | rfl
  · rw [k_eqT rfl]
    exact key
  · rw [k_eqF (by omega) ⟨by omega, by omega⟩ ⟨by omega, by omega⟩]
    exact key
end Ref1
