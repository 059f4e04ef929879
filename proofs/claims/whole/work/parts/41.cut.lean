def spV (w : sj_R) (cx r : Int) (c : Nat) : Int := r * r - (w 1 * c - cx) * (w 1 * c - cx)
def spBase (w : sj_R) (cx cy r : Int) (c : Nat) : Int := max (cy - spRoot (spV w cx r c)) (w (44 + c))
/-- the circle runs under the ground at c -/
def spIn (w : sj_R) (cx cy r : Int) (c : Nat) : Bool := decide (0 ≤ spV w cx r c ∧ spBase w cx cy r c < w (3 + c))
def spSeek (P : Nat → Bool) : Nat → Nat → Nat
  | 0, c => c
  | m + 1, c => if P c = true then c else spSeek P m (c + 1)
theorem spSeek_b (P : Nat → Bool) : ∀ m c, c ≤ spSeek P m c ∧ spSeek P m c ≤ c + m ∧ (∀ d, c ≤ d → d < spSeek P m c → P d ≠ true) ∧ (spSeek P m c < c + m → P (spSeek P m c) = true)
  | 0, c => ⟨Nat.le_refl _, Nat.le_refl _, fun d h1 h2 => by rw [spSeek] at h2; omega, fun h => by rw [spSeek] at h; omega⟩
  | m + 1, c => by
    rw [spSeek]
    by_cases h : P c = true
    · rw [if_pos h]
      exact ⟨by omega, by omega, fun d h1 h2 => by omega, fun _ => h⟩
    · rw [if_neg h]
      obtain ⟨a1, a2, a3, a4⟩ := spSeek_b P m (c + 1)
      refine ⟨by omega, by omega, fun d h1 h2 => ?_, fun z => a4 (by omega)⟩
      by_cases hd : d = c
      · rw [hd]; exact h
      · exact a3 d (by omega) h2
theorem spSeek_s (P : Nat → Bool) {n c : Nat} (h : c ≤ n) : spSeek P (n + 1 - c) c = if P c = true then c else spSeek P (n + 1 - (c + 1)) (c + 1) := by
  rw [show n + 1 - c = (n + 1 - (c + 1)) + 1 by omega, spSeek]
theorem spSeek_e (P : Nat → Bool) (n : Nat) : spSeek P (n + 1 - (n + 1)) (n + 1) = n + 1 := by rw [Nat.sub_self, spSeek]
theorem spNot_T {P : Nat → Bool} {n c : Nat} (h : c ≤ n) (hi : P c = true) : spSeek (fun c => !P c) (n + 1 - c) c = spSeek (fun c => !P c) (n + 1 - (c + 1)) (c + 1) := by
  rw [spSeek_s _ h]
  simp [hi]
theorem spNot_F {P : Nat → Bool} {n c : Nat} (h : c ≤ n) (hi : ¬ P c = true) : spSeek (fun c => !P c) (n + 1 - c) c = c := by
  rw [spSeek_s _ h]
  simp [hi]
def spFst (w : sj_R) (cx cy r : Int) : Nat := spSeek (spIn w cx cy r) ((w 0).toNat + 1 - 0) 0
def spNxt (w : sj_R) (cx cy r : Int) (F : Nat) : Nat := spSeek (fun c => !spIn w cx cy r c) ((w 0).toNat + 1 - F) F
abbrev spOk (w : sj_R) (cx cy r : Int) : Prop := 1 ≤ spFst w cx cy r ∧ spNxt w cx cy r (spFst w cx cy r) ≤ (w 0).toNat
def spFrom (w : sj_R) (cx cy r : Int) : Nat := spFst w cx cy r - 1
def spTo (w : sj_R) (cx cy r : Int) : Nat := spNxt w cx cy r (spFst w cx cy r)
def spEnds (w : sj_R) (cx cy r : Int) (f t c : Nat) : Int := if c = f ∨ c = t then w (3 + c) else spBase w cx cy r c
def spBs (w : sj_R) (cx cy r : Int) (c : Nat) : Int := spEnds w cx cy r (spFrom w cx cy r) (spTo w cx cy r) c
section Cut
variable {V : sj_VV} {a ga f t n : Nat} {w : sj_R} {lf lv hv rv cx cy r : Int} {bs : Nat → Int} {N : Nat}
theorem spV_b (hB : WB lv hv rv w) (hci : spCirc cx cy r) {c : Nat} (hc : c ≤ 40) : -1000000 ≤ spV w cx r c ∧ spV w cx r c ≤ 250000 := by
  have h1 := hB.2.1
  obtain ⟨c1, c2, c3, c4⟩ := hci
  have m1 := mul_b (x := w 1) (y := (c : Int)) (X := 10) (Y := 40) (by omega) (by omega) (by omega) (by omega)
  have m2 := mul_s (y := w 1 * c - cx) (Y := 450) (by omega) (by omega)
  have m3 := mul_b (x := r) (y := r) (X := 500) (Y := 500) (by omega) (by omega) (by omega) (by omega)
  unfold spV
  omega
theorem spBase_b (hB : WB lv hv rv w) (hci : spCirc cx cy r) {c : Nat} (hc : c ≤ 40) (h0 : 0 ≤ spV w cx r c) : 0 ≤ spBase w cx cy r c ∧ spBase w cx cy r c ≤ 450 := by
  have h1 := spRoot_b h0 (spV_b hB hci hc).2
  have h2 := (hB.2.2.2.1 c (by omega)).1
  obtain ⟨c1, c2, c3, c4⟩ := hci
  unfold spBase
  omega
theorem spIn_b (hB : WB lv hv rv w) (hci : spCirc cx cy r) {c : Nat} (hc : c ≤ 40) (h : spIn w cx cy r c = true) : 0 ≤ spBase w cx cy r c ∧ spBase w cx cy r c ≤ 100 := by
  unfold spIn at h
  rw [decide_eq_true_iff] at h
  have h1 := spBase_b hB hci hc h.1
  have h2 := (hB.2.2.2.1 c (by omega)).1
  omega
/-- what a circle cuts is a slip -/
theorem spOk_b (hB : WB lv hv rv w) (hci : spCirc cx cy r) (hlf : lf = 0 ∨ lf = 1) (h : spOk w cx cy r) : BB (spFrom w cx cy r) (spTo w cx cy r) lf (spBs w cx cy r) ∧ spTo w cx cy r ≤ (w 0).toNat ∧ spFrom w cx cy r + 2 ≤ spTo w cx cy r := by
  obtain ⟨h1, h2⟩ := h
  have hn := hB.1
  obtain ⟨a1, a2, a3, a4⟩ := spSeek_b (spIn w cx cy r) ((w 0).toNat + 1 - 0) 0
  obtain ⟨b1, b2, b3, b4⟩ := spSeek_b (fun c => !spIn w cx cy r c) ((w 0).toNat + 1 - spFst w cx cy r) (spFst w cx cy r)
  have e1 : spSeek (spIn w cx cy r) ((w 0).toNat + 1 - 0) 0 = spFst w cx cy r := rfl
  have e2 : spSeek (fun c => !spIn w cx cy r c) ((w 0).toNat + 1 - spFst w cx cy r) (spFst w cx cy r) = spNxt w cx cy r (spFst w cx cy r) := rfl
  rw [e1] at a1 a2 a3 a4
  rw [e2] at b1 b2 b3 b4
  have i1 := a4 (by omega)
  have i2 := b4 (by omega)
  have i3 : spFst w cx cy r < spNxt w cx cy r (spFst w cx cy r) := by
    rcases Nat.lt_or_ge (spFst w cx cy r) (spNxt w cx cy r (spFst w cx cy r)) with z | z
    · exact z
    · rw [show spNxt w cx cy r (spFst w cx cy r) = spFst w cx cy r by omega, i1] at i2
      exact absurd i2 (by decide)
  unfold spFrom spTo
  refine ⟨⟨by omega, by omega, hlf, fun c h3 h4 => ?_⟩, h2, by omega⟩
  unfold spBs spEnds spFrom spTo
  by_cases hc : c = spFst w cx cy r - 1 ∨ c = spNxt w cx cy r (spFst w cx cy r)
  · rw [if_pos hc]
    have := (hB.2.2.2.1 c (by omega)).1
    omega
  · rw [if_neg hc]
    have i4 := b3 c (by omega) (by omega)
    refine spIn_b hB hci (by omega) ?_
    cases hh : spIn w cx cy r c
    · rw [hh] at i4; exact absurd rfl i4
    · rfl
theorem span_eq (hC : CG V ga w) (hd : ga + 12 ≤ a ∨ a + 2 ≤ ga) (hf : f < t) (ht : t ≤ 40) (hlf : lf = 0 ∨ lf = 1) (h : ∀ c, f < c → c < t → V (a + 1) c = bs c) (h1 : bs f = w (3 + f)) (h2 : bs t = w (3 + t)) : ∃ V', g_X5_span N a ga f t lf V = some ((), V') ∧ Fr a (a + 2) V V' ∧ SL V' a f t lf bs := by
  unfold g_X5_span
  rw [k_lt, k_lt, k_zz hlf, k_lt, k_ix (by omega) (by omega), k_ix (by omega) (by omega), k_lt, k_ix (by omega) (by omega), k_ix (by omega) (by omega), k_lt, tn0, tn0]
  refine ⟨_, rfl, ?_, ?_, ?_, ?_, fun c hc hc2 => ?_⟩
  · exact ((((Fr.rf.up (by omega) (by omega)).up (by omega) (by omega)).up (by omega) (by omega)).up (by omega) (by omega)).up (by omega) (by omega)
  · rw [up_na _ _ _ _ (by omega), up_na _ _ _ _ (by omega), up_nk _ _ _ (by omega), up_nk _ _ _ (by omega), up_ss]
  · rw [up_na _ _ _ _ (by omega), up_na _ _ _ _ (by omega), up_nk _ _ _ (by omega), up_ss]
  · rw [up_na _ _ _ _ (by omega), up_na _ _ _ _ (by omega), up_ss]
  · by_cases c1 : c = t
    · subst c1
      rw [up_ss, up_na _ _ _ _ (by omega), up_na _ _ _ _ (by omega), up_na _ _ _ _ (by omega), up_na _ _ _ _ (by omega), h2]
      exact (hC.2.1 c (by omega)).1
    · rw [up_nk _ _ _ c1]
      by_cases c2 : c = f
      · subst c2
        rw [up_ss, up_na _ _ _ _ (by omega), up_na _ _ _ _ (by omega), up_na _ _ _ _ (by omega), h1]
        exact (hC.2.1 c (by omega)).1
      · rw [up_nk _ _ _ c2, up_na _ _ _ _ (by omega), up_na _ _ _ _ (by omega), up_na _ _ _ _ (by omega)]
        exact h c (by omega) (by omega)
theorem cut_one (hC : CG V ga w) (hB : WB lv hv rv w) (hci : spCirc cx cy r) (hN : 1000 ≤ N) (hn : w 0 = (n : Nat)) {c : Nat} (hc : c ≤ n) (K : Nat → Nat → Int → Int → Int → Int → Int → Int → Int → sj_VV → Option (Int × sj_VV)) (F L : Int) (hF : sj_i32 F) : g_X5_cut_9_b N K a ga cx cy r lf F L c V = if spIn w cx cy r c = true then K a ga cx cy r lf (if F = -1 then (c : Int) else F) c (c + 1) (sj_up V (a + 1) c (spBase w cx cy r c)) else if F = -1 then K a ga cx cy r lf F L (c + 1) V else g_X5_cut_129 N a ga lf F L V := by
  have h0 := hB.1
  have hv := spV_b hB hci (c := c) (by omega)
  have hg := hC.2.1 c (by omega)
  have hb := (hB.2.2.2.1 c (by omega)).1
  have hcc : spCirc cx cy r := hci
  obtain ⟨q1, q2, q3, q4⟩ := hcc
  unfold g_X5_cut_9_b
  rw [hC.1.1, k_ltF (by omega) ⟨by omega, by omega⟩ ⟨by omega, by omega⟩, hC.1.2.1, k_lt, k_lt, show r * r - (w 1 * (c : Int) - cx) * (w 1 * (c : Int) - cx) = spV w cx r c from rfl, k_lec ⟨by omega, by omega⟩ ⟨by omega, by omega⟩]
  unfold g_X5_cut_74 g_X5_cut_123
  by_cases hz : 0 ≤ spV w cx r c
  · have hr := spRoot_b hz hv.2
    have hbb := spBase_b hB hci (by omega) hz
    rw [if_pos hz, rootOf_eq hz hv.2 hN, k_cs, k_ix (by omega) (by omega), tn0, hg.2.1, k_max ⟨by omega, by omega⟩ ⟨by omega, by omega⟩, show max (cy - spRoot (spV w cx r c)) (w (44 + c)) = spBase w cx cy r c from rfl, k_ix (by omega) (by omega), hg.1, k_lec ⟨by omega, by omega⟩ ⟨by omega, by omega⟩]
    by_cases hl : w (3 + c) ≤ spBase w cx cy r c
    · rw [if_pos hl, k_eq hF ⟨by omega, by omega⟩, if_neg (show ¬ spIn w cx cy r c = true by unfold spIn; rw [decide_eq_true_iff]; omega)]
      rfl
    · rw [if_neg hl, k_ix (by omega) (by omega), k_lt, k_eq hF ⟨by omega, by omega⟩, if_pos (show spIn w cx cy r c = true by unfold spIn; rw [decide_eq_true_iff]; omega)]
      by_cases hq : F = -1
      · rw [if_pos hq, if_pos hq]; rfl
      · rw [if_neg hq, if_neg hq]; rfl
  · rw [if_neg hz, k_ix (by omega) (by omega), k_ix (by omega) (by omega), tn0, hg.1, k_leT (Int.le_refl _) ⟨by omega, by omega⟩ ⟨by omega, by omega⟩, k_eq hF ⟨by omega, by omega⟩, if_neg (show ¬ spIn w cx cy r c = true by unfold spIn; rw [decide_eq_true_iff]; omega)]
    rfl
theorem cut_end (hC : CG V ga w) (hd : ga + 12 ≤ a ∨ a + 2 ≤ ga) (hB : WB lv hv rv w) (hlf : lf = 0 ∨ lf = 1) (hn : w 0 = (n : Nat)) {F c : Nat} (h1 : F < c) (h2 : c ≤ n + 1) (hb : ∀ d, F ≤ d → d < c → V (a + 1) d = spBase w cx cy r d) : ∃ V', g_X5_cut_129 N a ga lf F ((c : Int) - 1) V = some (if 1 ≤ F ∧ c ≤ n then 1 else 0, V') ∧ Fr a (a + 2) V V' ∧ (1 ≤ F → c ≤ n → SL V' a (F - 1) c lf (spEnds w cx cy r (F - 1) c)) := by
  have h0 := hB.1
  unfold g_X5_cut_129
  rw [k_ltc ⟨by omega, by omega⟩ ⟨by omega, by omega⟩]
  by_cases c1 : (F : Int) < 1
  · rw [if_pos c1, k_zs (Or.inl rfl), if_neg (by omega)]
    exact ⟨V, rfl, Fr.rf, fun z => by omega⟩
  · rw [if_neg c1, hC.1.1, k_ltc ⟨by omega, by omega⟩ ⟨by omega, by omega⟩]
    by_cases c2 : (c : Int) - 1 < w 0
    · obtain ⟨V2, r1, r2, r3⟩ := span_eq (N := N) (f := F - 1) (t := c) (bs := spEnds w cx cy r (F - 1) c) hC hd (by omega) (by omega) hlf (fun d g1 g2 => by rw [hb d (by omega) g2]; unfold spEnds; rw [if_neg (by omega)]) (by unfold spEnds; rw [if_pos (Or.inl rfl)]) (by unfold spEnds; rw [if_pos (Or.inr rfl)])
      rw [if_pos c2, show (F : Int) - 1 = ((F - 1 : Nat) : Int) by omega, show (c : Int) - 1 + 1 = c by omega, r1, k_cs, k_zs (Or.inr rfl), if_pos (by omega)]
      exact ⟨V2, rfl, r2, fun _ _ => r3⟩
    · rw [if_neg c2, k_zs (Or.inl rfl), if_neg (by omega)]
      exact ⟨V, rfl, Fr.rf, fun _ z => by omega⟩
theorem cut_B (hd : ga + 12 ≤ a ∨ a + 2 ≤ ga) (hB : WB lv hv rv w) (hci : spCirc cx cy r) (hlf : lf = 0 ∨ lf = 1) (hN : 1000 ≤ N) (hn : w 0 = (n : Nat)) {F : Nat} : ∀ (m c : Nat) (V : sj_VV), F < c → c ≤ n + 1 → n + 1 - c < m → CG V ga w → (∀ d, F ≤ d → d < c → V (a + 1) d = spBase w cx cy r d) → ∃ V', g_X5_cut_9 N m a ga cx cy r lf F ((c : Int) - 1) c V = some (if 1 ≤ F ∧ spSeek (fun c => !spIn w cx cy r c) (n + 1 - c) c ≤ n then 1 else 0, V') ∧ Fr a (a + 2) V V' ∧ (1 ≤ F → spSeek (fun c => !spIn w cx cy r c) (n + 1 - c) c ≤ n → SL V' a (F - 1) (spSeek (fun c => !spIn w cx cy r c) (n + 1 - c) c) lf (spEnds w cx cy r (F - 1) (spSeek (fun c => !spIn w cx cy r c) (n + 1 - c) c)))
  | 0, _, _, _, _, h, _, _ => absurd h (by omega)
  | m + 1, c, V, h1, h2, h3, hC, hb => by
    have h0 := hB.1
    have hend := cut_end (N := N) hC hd hB hlf hn h1 h2 hb
    unfold g_X5_cut_9
    by_cases hc : c = n + 1
    · subst hc
      unfold g_X5_cut_9_b
      rw [hC.1.1, k_ltT (by omega) ⟨by omega, by omega⟩ ⟨by omega, by omega⟩, spSeek_e]
      exact hend
    · have hle : c ≤ n := by omega
      rw [cut_one hC hB hci hN hn hle _ _ _ ⟨by omega, by omega⟩]
      by_cases hi : spIn w cx cy r c = true
      · have hf : Fr a (a + 2) V (sj_up V (a + 1) c (spBase w cx cy r c)) := Fr.rf.up (by omega) (by omega)
        rw [if_pos hi, if_neg (by omega), spNot_T hle hi]
        obtain ⟨V2, r1, r2, r3⟩ := cut_B hd hB hci hlf hN hn (F := F) m (c + 1) (sj_up V (a + 1) c (spBase w cx cy r c)) (by omega) (by omega) (by omega) (hC.fr hf (by omega)) (fun d g1 g2 => by
          by_cases g3 : d = c
          · subst g3; rw [up_ss]
          · rw [up_nk _ _ _ g3]; exact hb d g1 (by omega))
        rw [show (((c + 1 : Nat) : Int) - 1) = (c : Int) by omega] at r1
        exact ⟨V2, r1, hf.tr r2, r3⟩
      · rw [if_neg hi, if_neg (by omega), spNot_F hle hi]
        exact hend
theorem cut_A (hd : ga + 12 ≤ a ∨ a + 2 ≤ ga) (hC : CG V ga w) (hB : WB lv hv rv w) (hci : spCirc cx cy r) (hlf : lf = 0 ∨ lf = 1) (hN : 1000 ≤ N) (hn : w 0 = (n : Nat)) : ∀ (m c : Nat), c ≤ n + 1 → n + 2 - c < m → ∃ V', g_X5_cut_9 N m a ga cx cy r lf (-1) (-1) c V = some (if 1 ≤ spSeek (spIn w cx cy r) (n + 1 - c) c ∧ spNxt w cx cy r (spSeek (spIn w cx cy r) (n + 1 - c) c) ≤ n then 1 else 0, V') ∧ Fr a (a + 2) V V' ∧ (1 ≤ spSeek (spIn w cx cy r) (n + 1 - c) c → spNxt w cx cy r (spSeek (spIn w cx cy r) (n + 1 - c) c) ≤ n → SL V' a (spSeek (spIn w cx cy r) (n + 1 - c) c - 1) (spNxt w cx cy r (spSeek (spIn w cx cy r) (n + 1 - c) c)) lf (spEnds w cx cy r (spSeek (spIn w cx cy r) (n + 1 - c) c - 1) (spNxt w cx cy r (spSeek (spIn w cx cy r) (n + 1 - c) c))))
  | 0, _, _, h => absurd h (by omega)
  | m + 1, c, h2, h3 => by
    have h0 := hB.1
    have hnn : (w 0).toNat = n := by omega
    unfold g_X5_cut_9
    by_cases hc : c = n + 1
    · subst hc
      unfold g_X5_cut_9_b
      rw [hC.1.1, k_ltT (by omega) ⟨by omega, by omega⟩ ⟨by omega, by omega⟩, spSeek_e]
      have e1 : spNxt w cx cy r (n + 1) = n + 1 := by unfold spNxt; rw [hnn, spSeek_e]
      unfold g_X5_cut_129
      rw [e1, if_neg (by omega), k_ltT (by omega) ⟨by omega, by omega⟩ ⟨by omega, by omega⟩, k_zs (Or.inl rfl)]
      exact ⟨V, rfl, Fr.rf, fun _ z => by omega⟩
    · have hle : c ≤ n := by omega
      rw [cut_one hC hB hci hN hn hle _ _ _ ⟨by omega, by omega⟩, spSeek_s _ hle]
      by_cases hi : spIn w cx cy r c = true
      · have hf : Fr a (a + 2) V (sj_up V (a + 1) c (spBase w cx cy r c)) := Fr.rf.up (by omega) (by omega)
        have e1 : spNxt w cx cy r c = spSeek (fun c => !spIn w cx cy r c) (n + 1 - (c + 1)) (c + 1) := by
          unfold spNxt; rw [hnn, spNot_T hle hi]
        rw [if_pos hi, if_pos rfl, if_pos hi, e1]
        obtain ⟨V2, r1, r2, r3⟩ := cut_B (N := N) hd hB hci hlf hN hn (F := c) m (c + 1) (sj_up V (a + 1) c (spBase w cx cy r c)) (by omega) (by omega) (by omega) (hC.fr hf (by omega)) (fun d g1 g2 => by
          have g3 : d = c := by omega
          subst g3; rw [up_ss])
        rw [show (((c + 1 : Nat) : Int) - 1) = (c : Int) by omega] at r1
        exact ⟨V2, r1, hf.tr r2, r3⟩
      · rw [if_neg hi, if_pos rfl, if_neg hi]
        exact cut_A hd hC hB hci hlf hN hn m (c + 1) (by omega) (by omega)
theorem cut_eq (hd : ga + 12 ≤ a ∨ a + 2 ≤ ga) (hC : CG V ga w) (hB : WB lv hv rv w) (hci : spCirc cx cy r) (hlf : lf = 0 ∨ lf = 1) (hN : 1000 ≤ N) : ∃ V', g_X5_cut N a ga cx cy r lf V = some (if spOk w cx cy r then 1 else 0, V') ∧ Fr a (a + 2) V V' ∧ (spOk w cx cy r → SL V' a (spFrom w cx cy r) (spTo w cx cy r) lf (spBs w cx cy r)) := by
  unfold g_X5_cut
  have h0 := hB.1
  obtain ⟨V2, r1, r2, r3⟩ := cut_A (N := N) (n := (w 0).toNat) (V := V) (lf := lf) hd hC hB hci hlf hN (by omega) N 0 (by omega) (by omega)
  exact ⟨V2, r1, r2, fun z => r3 z.1 z.2⟩
end Cut
