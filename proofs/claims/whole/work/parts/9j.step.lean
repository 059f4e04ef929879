/-! TABLES: one step of the class's Table -/
def SB (S : Int → Int → Prop) : Prop := ∀ v g, S v g → (-4000000000000000000 ≤ v ∧ v ≤ 4000000000000000000) ∧ 0 ≤ g ∧ g ≤ 40
def pl (c : Nat) (h : Int) : Nat := ((c : Int) * 101 + h).toNat
/-- what a sweep may touch -/
def FA (A : Nat) (V V' : sj_VV) : Prop := (∀ z, z ≠ A → z ≠ A + 1 → z ≠ A + 2 → V' z = V z) ∧ ∀ j, (j < 10 ∨ 14 ≤ j) → V' A j = V A j
/-- what stands still in a sweep -/
def TS (V : sj_VV) (A : Nat) (w : sj_R) (t lf k : Int) : Prop := CG V 1 w ∧ (V A 6 = t ∧ V A 7 = lf ∧ V A 8 = k) ∧ TW V A w
/-- the least way found -/
def Ls (V : sj_VV) (A : Nat) (E : Int → Int → Prop) (c : Int) : Prop := Mo (V A 11 = -1) E (V A 10) (V A 11 * 41 + V A 12) ∧ (V A 11 = -1 ∨ ((0 ≤ V A 11 ∧ V A 11 ≤ 40) ∧ 0 ≤ V A 12 ∧ V A 12 ≤ c))
/-- the least ways to the places of a column -/
def Ps (V : sj_VV) (A : Nat) (w : sj_R) (c : Nat) (S : Int → Int → Int → Prop) : Prop := ∀ h, w (44 + c) ≤ h → h < w (3 + c) → Mo (V (A + 2) (pl c h) = -1) (S h) (V (A + 1) (pl c h)) (V (A + 2) (pl c h))
section Step
variable {V V1 V2 V' : sj_VV} {A N c : Nat} {w : sj_R} {t lf k o h x f i so : Int} {S : Int → Int → Prop}
theorem FA.rf : FA A V V := ⟨fun _ _ _ _ => rfl, fun _ _ => rfl⟩
theorem FA.tr (h : FA A V V1) (h2 : FA A V1 V2) : FA A V V2 := ⟨fun z a1 a2 a3 => (h2.1 z a1 a2 a3).trans (h.1 z a1 a2 a3), fun j hj => (h2.2 j hj).trans (h.2 j hj)⟩
theorem TS.fa (hA : 20 ≤ A) (hs : TS V A w t lf k) (hF : FA A V V') : TS V' A w t lf k := by
  obtain ⟨h1, ⟨h2, h3, h4⟩, h5⟩ := hs
  refine ⟨h1.fr (lo := A) (hi := A + 3) (fun z hz => hF.1 z (by omega) (by omega) (by omega)) (by omega), ⟨?_, ?_, ?_⟩, fun c h a1 a2 a3 => ?_⟩
  · rw [hF.2 _ (by omega)]; exact h2
  · rw [hF.2 _ (by omega)]; exact h3
  · rw [hF.2 _ (by omega)]; exact h4
  · rw [hF.1 _ (by omega) (by omega) (by omega)]; exact h5 c h a1 a2 a3
theorem TT.fa (hs : TT V A w c) (hF : FA A V V') : TT V' A w c := fun l hl => by rw [hF.1 _ (by omega) (by omega) (by omega)]; exact hs l hl
theorem pass_eq (hi0 : 0 ≤ i) (hi1 : i < 4141) (hx : -4000000000000000000 ≤ x ∧ x ≤ 4000000000000000000) (hf : 0 ≤ f ∧ f ≤ 40) (hm : Mo (V (A + 2) i.toNat = -1) S (V (A + 1) i.toNat) (V (A + 2) i.toNat)) (hS : SB S) : ∃ V', g_X6_pass N A i f x V = some ((), V') ∧ (∀ z, z ≠ A + 1 → z ≠ A + 2 → V' z = V z) ∧ (∀ y, y ≠ i.toNat → V' (A + 1) y = V (A + 1) y ∧ V' (A + 2) y = V (A + 2) y) ∧ Mo (V' (A + 2) i.toNat = -1) (fun v g => S v g ∨ (v = x ∧ g = f)) (V' (A + 1) i.toNat) (V' (A + 2) i.toNat) := by
  have put : ∃ V', g_X6_pass_42 N A i f x V = some ((), V') ∧ (∀ z, z ≠ A + 1 → z ≠ A + 2 → V' z = V z) ∧ (∀ y, y ≠ i.toNat → V' (A + 1) y = V (A + 1) y ∧ V' (A + 2) y = V (A + 2) y) ∧ V' (A + 1) i.toNat = x ∧ V' (A + 2) i.toNat = f := by
    unfold g_X6_pass_42
    rw [k_ix (by omega) (by omega), k_lt, k_ix (by omega) (by omega), k_lt]
    refine ⟨_, rfl, fun z z1 z2 => ?_, fun y hy => ⟨?_, ?_⟩, ?_, ?_⟩
    · rw [up_row _ _ _ z2, up_row _ _ _ z1]
    · rw [up_na _ _ _ _ (by omega), up_nk _ _ _ hy]
    · rw [up_nk _ _ _ hy, up_na _ _ _ _ (by omega)]
    · rw [up_na _ _ _ _ (by omega), up_ss]
    · rw [up_ss]
  have yes : (V (A + 2) i.toNat = -1 ∨ x < V (A + 1) i.toNat ∨ (x = V (A + 1) i.toNat ∧ f < V (A + 2) i.toNat)) → ∃ V', g_X6_pass_42 N A i f x V = some ((), V') ∧ (∀ z, z ≠ A + 1 → z ≠ A + 2 → V' z = V z) ∧ (∀ y, y ≠ i.toNat → V' (A + 1) y = V (A + 1) y ∧ V' (A + 2) y = V (A + 2) y) ∧ Mo (V' (A + 2) i.toNat = -1) (fun v g => S v g ∨ (v = x ∧ g = f)) (V' (A + 1) i.toNat) (V' (A + 2) i.toNat) := by
    intro hy
    obtain ⟨V2, r1, r2, r3, r4, r5⟩ := put
    exact ⟨V2, r1, r2, r3, hm.add (Or.inl ⟨hy, r4, r5, by rw [r5]; omega⟩)⟩
  unfold g_X6_pass
  rw [k_ix (by omega) (by omega)]
  by_cases h1 : V (A + 2) i.toNat = -1
  · rw [k_eqT h1]
    exact yes (Or.inl h1)
  · rcases id hm with ⟨a1, _⟩ | ⟨_, a2⟩
    · exact absurd a1 h1
    · have hb := hS _ _ a2.1
      rw [k_eqF h1 ⟨by omega, by omega⟩ ⟨by omega, by omega⟩, k_ix (by omega) (by omega), k_lltc ⟨by omega, by omega⟩ ⟨by omega, by omega⟩]
      by_cases h2 : x < V (A + 1) i.toNat
      · rw [if_pos h2]
        exact yes (Or.inr (Or.inl h2))
      · rw [if_neg h2, k_ix (by omega) (by omega), k_leqc ⟨by omega, by omega⟩ ⟨by omega, by omega⟩]
        by_cases h3 : x = V (A + 1) i.toNat
        · rw [if_pos h3, k_ix (by omega) (by omega), k_lec ⟨by omega, by omega⟩ ⟨by omega, by omega⟩]
          by_cases h4 : V (A + 2) i.toNat ≤ f
          · rw [if_pos h4]
            exact ⟨V, rfl, fun _ _ _ => rfl, fun _ _ => ⟨rfl, rfl⟩, hm.add (Or.inr ⟨by omega, rfl, rfl, id⟩)⟩
          · rw [if_neg h4]
            exact yes (Or.inr (Or.inr ⟨h3, by omega⟩))
        · rw [if_neg h3]
          exact ⟨V, rfl, fun _ _ _ => rfl, fun _ _ => ⟨rfl, rfl⟩, hm.add (Or.inr ⟨by omega, rfl, rfl, id⟩)⟩
theorem close_eq {E : Int → Int → Prop} (hc : c ≤ 40) (hx : -4000000000000000000 ≤ x ∧ x ≤ 4000000000000000000) (hf : 0 ≤ f ∧ f ≤ 40) (hm : Ls V A E c) (hE : ∀ v g, E v g → -4000000000000000000 ≤ v ∧ v ≤ 4000000000000000000) : ∃ V', g_X6_close N A c f x V = some ((), V') ∧ (∀ z, z ≠ A → V' z = V z) ∧ (∀ j, (j < 10 ∨ 13 ≤ j) → V' A j = V A j) ∧ Ls V' A (fun v g => E v g ∨ (v = x ∧ g = f * 41 + c)) c := by
  obtain ⟨m1, m2⟩ := hm
  have yes : (V A 11 = -1 ∨ x < V A 10 ∨ (x = V A 10 ∧ f * 41 + c < V A 11 * 41 + V A 12)) → ∃ V', g_X6_close_34 N A c f x V = some ((), V') ∧ (∀ z, z ≠ A → V' z = V z) ∧ (∀ j, (j < 10 ∨ 13 ≤ j) → V' A j = V A j) ∧ Ls V' A (fun v g => E v g ∨ (v = x ∧ g = f * 41 + c)) c := by
    intro hy
    unfold g_X6_close_34
    rw [k_lt, k_lt, k_lt]
    obtain ⟨V2, e⟩ : ∃ V2, V2 = sj_up (sj_up (sj_up V A 10 x) A 11 f) A 12 c := ⟨_, rfl⟩
    have e10 : V2 A 10 = x := by rw [e, up_nk _ _ _ (by omega), up_nk _ _ _ (by omega), up_ss]
    have e11 : V2 A 11 = f := by rw [e, up_nk _ _ _ (by omega), up_ss]
    have e12 : V2 A 12 = c := by rw [e, up_ss]
    rw [← e]
    refine ⟨V2, rfl, fun z hz => by rw [e, up_row _ _ _ hz, up_row _ _ _ hz, up_row _ _ _ hz], fun j hj => by rw [e, up_nk _ _ _ (by omega), up_nk _ _ _ (by omega), up_nk _ _ _ (by omega)], ?_, ?_⟩
    · exact m1.add (Or.inl ⟨hy, e10, by rw [e11, e12], by rw [e11]; omega⟩)
    · right; rw [e11, e12]; omega
  have no : ¬ (V A 11 = -1 ∨ x < V A 10 ∨ (x = V A 10 ∧ f * 41 + c < V A 11 * 41 + V A 12)) → Ls V A (fun v g => E v g ∨ (v = x ∧ g = f * 41 + c)) c := fun hn => ⟨m1.add (Or.inr ⟨hn, rfl, rfl, id⟩), m2⟩
  unfold g_X6_close
  by_cases h1 : V A 11 = -1
  · rw [k_eqT h1]
    exact yes (Or.inl h1)
  · rcases id m1 with ⟨a1, _⟩ | ⟨_, a2⟩
    · exact absurd a1 h1
    · have hb := hE _ _ a2.1
      rw [k_eqF h1 ⟨by omega, by omega⟩ ⟨by omega, by omega⟩, k_lltc ⟨by omega, by omega⟩ ⟨by omega, by omega⟩]
      by_cases h2 : x < V A 10
      · rw [if_pos h2]
        exact yes (Or.inr (Or.inl h2))
      · rw [if_neg h2, k_leqc ⟨by omega, by omega⟩ ⟨by omega, by omega⟩]
        by_cases h3 : x = V A 10
        · rw [if_pos h3, k_lec ⟨by omega, by omega⟩ ⟨by omega, by omega⟩]
          by_cases h4 : V A 11 ≤ f
          · rw [if_pos h4]
            exact ⟨V, rfl, fun _ _ => rfl, fun _ _ => rfl, no (by omega)⟩
          · rw [if_neg h4]
            exact yes (Or.inr (Or.inr ⟨h3, by omega⟩))
        · rw [if_neg h3]
          exact ⟨V, rfl, fun _ _ => rfl, fun _ _ => rfl, no (by omega)⟩
/-- all slices from o at c on -/
theorem stepOn_loop (hB : WB 500 200 1500 w) (hA : 20 ≤ A) (hN : 50 ≤ N) (hc : (c : Int) < w 0) (ho : w (44 + c) ≤ o ∧ o ≤ w (3 + c)) (ht : 0 ≤ t ∧ t ≤ 12) (hk : 0 ≤ k ∧ k ≤ 20001) (hlf : lf = 0 ∨ lf = 1) (hf : 0 ≤ f ∧ f ≤ 40) (hso : -3000000000000000000 ≤ so ∧ so ≤ 3000000000000000000) : ∀ (m : Nat) (x : Int) (V : sj_VV) (S : Int → Int → Int → Prop) (E : Int → Int → Prop), w (44 + (c + 1)) ≤ x → o - t ≤ x → x ≤ min (w (3 + (c + 1))) (o + t) + 1 ∨ x = w (44 + (c + 1)) ∨ x = o - t → (min (w (3 + (c + 1))) (o + t) + 1 - x).toNat < m → TS V A w t lf k → TT V A w c → Ps V A w (c + 1) S → (∀ h, SB (S h)) → Ls V A E ((c : Int) + 1) → (∀ v g, E v g → -4000000000000000000 ≤ v ∧ v ≤ 4000000000000000000) → ∃ V', g_X6_stepOn_73 N m A c o f so (w (3 + (c + 1))) (min (w (3 + (c + 1))) (o + t)) x V = some ((), V') ∧ FA A V V' ∧ (∀ y, (∀ h, w (44 + (c + 1)) ≤ h → h < w (3 + (c + 1)) → y ≠ pl (c + 1) h) → V' (A + 1) y = V (A + 1) y ∧ V' (A + 2) y = V (A + 2) y) ∧ Ps V' A w (c + 1) (fun h v g => S h v g ∨ ((x ≤ h ∧ h ≤ min (w (3 + (c + 1))) (o + t) ∧ 0 < slD w lf c o h k) ∧ v = so + wQ w lf k c o h ∧ g = f)) ∧ Ls V' A (fun v g => E v g ∨ ((x ≤ w (3 + (c + 1)) ∧ w (3 + (c + 1)) ≤ min (w (3 + (c + 1))) (o + t) ∧ 0 < slD w lf c o (w (3 + (c + 1))) k) ∧ v = so + wQ w lf k c o (w (3 + (c + 1))) ∧ g = f * 41 + ((c : Int) + 1))) ((c : Int) + 1)
  | 0, _, _, _, _, _, _, _, h', _, _, _, _, _, _ => absurd h' (by omega)
  | m + 1, x, V, S, E, x1, x2, x3, x4, hS, hT, hP, hSb, hL, hE => by
    have n0 := hB.1
    have b0 := (hB.2.2.2.1 c (by omega)).1
    have b1 := (hB.2.2.2.1 (c + 1) (by omega)).1
    have ec : ((c : Int) + 1) = ((c + 1 : Nat) : Int) := by omega
    unfold g_X6_stepOn_73 g_X6_stepOn_73_b
    rw [k_ltc ⟨by omega, by omega⟩ ⟨by omega, by omega⟩]
    by_cases hx : min (w (3 + (c + 1))) (o + t) < x
    · rw [if_pos hx]
      refine ⟨V, rfl, FA.rf, fun _ _ => ⟨rfl, rfl⟩, fun h a1 a2 => (hP h a1 a2).iff (fun v g => ⟨Or.inl, fun z => z.elim id (fun y => absurd y.1 (by omega))⟩), hL.1.iff (fun v g => ⟨Or.inl, fun z => z.elim id (fun y => absurd y.1 (by omega))⟩), hL.2⟩
    · obtain ⟨hC, ⟨t6, t7, t8⟩, hW⟩ := id hS
      have w1 := hW c o (by omega) ho.1 ho.2
      have w2 : V (A + 3) (((c : Int) + 1) * 101 + x).toNat = spOn w (c + 1) x := by rw [ec]; exact hW (c + 1) x (by omega) (by omega) (by omega)
      rw [if_neg hx, leftOver_eq (lf := lf) (k := k) hC hB hA (by omega) (by omega) (by omega) t7 hlf t8 hk hT w1 w2 hN, k_cs, k_lt, up_ss]
      obtain ⟨V1, e⟩ : ∃ V1, V1 = sj_up V A 13 (if 0 < slD w lf c o x k then 0 else 1) := ⟨_, rfl⟩
      have f1 : FA A V V1 := by
        rw [e]
        exact ⟨fun z a1 _ _ => up_row _ _ _ a1, fun j hj => up_nk _ _ _ (by omega)⟩
      have r1 : V1 (A + 1) = V (A + 1) := by rw [e]; exact up_row _ _ _ (by omega)
      have r2 : V1 (A + 2) = V (A + 2) := by rw [e]; exact up_row _ _ _ (by omega)
      have hS1 := hS.fa hA f1
      have hT1 := hT.fa f1
      have hP1 : Ps V1 A w (c + 1) S := fun h a1 a2 => by rw [r1, r2]; exact hP h a1 a2
      have e10 : V1 A 10 = V A 10 := by rw [e]; exact up_nk _ _ _ (by omega)
      have e11 : V1 A 11 = V A 11 := by rw [e]; exact up_nk _ _ _ (by omega)
      have e12 : V1 A 12 = V A 12 := by rw [e]; exact up_nk _ _ _ (by omega)
      have hL1 : Ls V1 A E ((c : Int) + 1) := by unfold Ls; rw [e10, e11, e12]; exact hL
      rw [← e]
      unfold g_X6_stepOn_139
      by_cases hd : 0 < slD w lf c o x k
      · have hq := wQ_b (lf := lf) hB ht hk (c := c) (o := o) (h := x) (by omega) (by omega) (by omega) (by omega) (by omega) hd
        rw [if_pos hd, if_pos hd, k_eqT rfl, k_eq ⟨by omega, by omega⟩ ⟨by omega, by omega⟩]
        by_cases hg : x = w (3 + (c + 1))
        · rw [if_pos hg]
          obtain ⟨V2, q1, q2, q3, q4⟩ := close_eq (N := N) (c := c + 1) (x := so + wQ w lf k c o x) (f := f) (by omega) (by omega) hf (by rw [← ec]; exact hL1) hE
          have f2 : FA A V1 V2 := ⟨fun z a1 _ _ => q2 z a1, fun j hj => q3 j (by omega)⟩
          rw [← ec] at q1 q4
          rw [q1, k_cs, k_lt]
          obtain ⟨V3, s1, s2, s3, s4, s5⟩ := stepOn_loop hB hA hN hc ho ht hk hlf hf hso m (x + 1) V2 S (fun v g => E v g ∨ (v = so + wQ w lf k c o x ∧ g = f * 41 + ((c : Int) + 1))) (by omega) (by omega) (by omega) (by omega) (hS1.fa hA f2) (hT1.fa f2) (fun h a1 a2 => by rw [q2 _ (by omega), q2 _ (by omega)]; exact hP1 h a1 a2) hSb q4 (fun v g hv => hv.elim (hE v g) (fun y => by omega))
          refine ⟨V3, s1, (f1.tr f2).tr s2, fun y hy => ?_, fun h a1 a2 => (s4 h a1 a2).iff (fun v g => ?_), s5.1.iff (fun v g => ?_), s5.2⟩
          · have := s3 y hy
            rw [q2 _ (by omega), q2 _ (by omega), r1, r2] at this
            exact this
          · constructor
            · rintro (z | z)
              · exact Or.inl z
              · exact Or.inr ⟨⟨by omega, z.1.2⟩, z.2⟩
            · rintro (z | z)
              · exact Or.inl z
              · exact Or.inr ⟨⟨by omega, z.1.2⟩, z.2⟩
          · constructor
            · rintro ((z | z) | z)
              · exact Or.inl z
              · rw [hg] at z hd
                exact Or.inr ⟨⟨by omega, by omega, hd⟩, z⟩
              · exact absurd z.1.1 (by omega)
            · rintro (z | z)
              · exact Or.inl (Or.inl z)
              · rw [← hg] at z
                exact Or.inl (Or.inr z.2)
        · rw [if_neg hg]
          have hpl : (((c : Int) + 1) * 101 + x).toNat = pl (c + 1) x := by unfold pl; rw [ec]
          have hm := hP1 x (by omega) (by omega)
          rw [← hpl] at hm
          obtain ⟨V2, q1, q2, q3, q4⟩ := pass_eq (N := N) (A := A) (i := ((c : Int) + 1) * 101 + x) (x := so + wQ w lf k c o x) (f := f) (by omega) (by omega) (by omega) hf hm (hSb x)
          rw [hpl] at q3 q4
          have f2 : FA A V1 V2 := ⟨fun z _ a2 a3 => q2 z a2 a3, fun j hj => by rw [q2 A (by omega) (by omega)]⟩
          rw [q1, k_cs, k_lt]
          have inj : ∀ h, w (44 + (c + 1)) ≤ h → h < w (3 + (c + 1)) → h ≠ x → pl (c + 1) h ≠ pl (c + 1) x := fun h a1 a2 a3 => by unfold pl; omega
          obtain ⟨V3, s1, s2, s3, s4, s5⟩ := stepOn_loop hB hA hN hc ho ht hk hlf hf hso m (x + 1) V2 (fun h v g => S h v g ∨ (h = x ∧ v = so + wQ w lf k c o x ∧ g = f)) E (by omega) (by omega) (by omega) (by omega) (hS1.fa hA f2) (hT1.fa f2) (fun h a1 a2 => by
              by_cases hh : h = x
              · rw [hh]
                exact q4.iff (fun v g => ⟨fun z => z.elim Or.inl (fun y => Or.inr ⟨rfl, y⟩), fun z => z.elim Or.inl (fun y => Or.inr y.2)⟩)
              · have := q3 _ (inj h a1 a2 hh)
                rw [this.1, this.2]
                exact (hP1 h a1 a2).iff (fun v g => ⟨Or.inl, fun z => z.elim id (fun y => absurd y.1 hh)⟩)) (fun h v g hv => hv.elim (hSb h v g) (fun y => by omega)) (by unfold Ls; rw [q2 A (by omega) (by omega)]; exact hL1) hE
          refine ⟨V3, s1, (f1.tr f2).tr s2, fun y hy => ?_, fun h a1 a2 => (s4 h a1 a2).iff (fun v g => ?_), s5.1.iff (fun v g => ?_), s5.2⟩
          · have h3 := s3 y hy
            have h4 := q3 y (hy x (by omega) (by omega))
            rw [h4.1, h4.2, r1, r2] at h3
            exact h3
          · constructor
            · rintro ((z | z) | z)
              · exact Or.inl z
              · obtain ⟨z1, z2, z3⟩ := z
                rw [z1]
                exact Or.inr ⟨⟨by omega, by omega, hd⟩, z2, z3⟩
              · exact Or.inr ⟨⟨by omega, z.1.2⟩, z.2⟩
            · rintro (z | z)
              · exact Or.inl (Or.inl z)
              · by_cases hh : h = x
                · rw [hh] at z
                  exact Or.inl (Or.inr ⟨hh, z.2⟩)
                · exact Or.inr ⟨⟨by omega, z.1.2⟩, z.2⟩
          · constructor
            · rintro (z | z)
              · exact Or.inl z
              · exact Or.inr ⟨⟨by omega, z.1.2⟩, z.2⟩
            · rintro (z | z)
              · exact Or.inl z
              · exact Or.inr ⟨⟨by omega, z.1.2⟩, z.2⟩
      · rw [if_neg hd, if_neg hd, k_eqF (by omega) ⟨by omega, by omega⟩ ⟨by omega, by omega⟩, k_lt]
        obtain ⟨V3, s1, s2, s3, s4, s5⟩ := stepOn_loop hB hA hN hc ho ht hk hlf hf hso m (x + 1) V1 S E (by omega) (by omega) (by omega) (by omega) hS1 hT1 hP1 hSb hL1 hE
        refine ⟨V3, s1, f1.tr s2, fun y hy => ?_, fun h a1 a2 => (s4 h a1 a2).iff (fun v g => ?_), s5.1.iff (fun v g => ?_), s5.2⟩
        · have := s3 y hy
          rw [r1, r2] at this
          exact this
        · constructor
          · rintro (z | z)
            · exact Or.inl z
            · exact Or.inr ⟨⟨by omega, z.1.2⟩, z.2⟩
          · rintro (z | z)
            · exact Or.inl z
            · by_cases hh : h = x
              · rw [hh] at z
                exact absurd z.1.2.2 hd
              · exact Or.inr ⟨⟨by omega, z.1.2⟩, z.2⟩
        · constructor
          · rintro (z | z)
            · exact Or.inl z
            · exact Or.inr ⟨⟨by omega, z.1.2⟩, z.2⟩
          · rintro (z | z)
            · exact Or.inl z
            · by_cases hh : w (3 + (c + 1)) = x
              · rw [hh] at z
                exact absurd z.1.2.2 hd
              · exact Or.inr ⟨⟨by omega, z.1.2⟩, z.2⟩
end Step
