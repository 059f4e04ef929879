/-! what is told: the slip in the row and in the class -/
abbrev wf (w : sj_R) : Nat := (w 320).toNat
abbrev wt (w : sj_R) : Nat := (w 321).toNat
abbrev wb (w : sj_R) : Nat → Int := fun c => w (323 + c)
/-- the slip of a row is none, or a slip -/
def SP (w : sj_R) : Prop := (w 322 = 0 ∨ w 322 = 1) ∧ (w 320 = -1 ∨ (0 ≤ w 320 ∧ 0 ≤ w 321 ∧ w 321 ≤ w 0 ∧ BB (wf w) (wt w) (w 322) (wb w)))
/-- a Slip of the class against the row's -/
def SN (V : sj_VV) (sa : Nat) (w : sj_R) : Prop := (V sa 3 = 0 ∨ V sa 3 = 1) ∧ (w 320 = -1 → V sa 1 = -1 ∧ V sa 2 = -1) ∧ (w 320 ≠ -1 → SL V sa (wf w) (wt w) (w 322) (wb w))
/-- a Ground of the class, slip and all -/
def RG (V : sj_VV) (ga : Nat) (w : sj_R) : Prop := WB 500 200 1500 w ∧ SP w ∧ CG V ga w ∧ SN V (ga + 12) w
theorem SN.fr {V V' : sj_VV} {sa lo hi : Nat} {w : sj_R} (h : SN V sa w) (hF : Fr lo hi V V') (hd : sa + 2 ≤ lo ∨ hi ≤ sa) : SN V' sa w := by
  have e0 : V' sa = V sa := hF _ (by omega)
  obtain ⟨h1, h2, h3⟩ := h
  exact ⟨by rw [e0]; exact h1, fun z => by rw [e0]; exact h2 z, fun z => (h3 z).fr hF hd⟩
theorem RG.fr {V V' : sj_VV} {ga lo hi : Nat} {w : sj_R} (h : RG V ga w) (hF : Fr lo hi V V') (hd : ga + 14 ≤ lo ∨ hi ≤ ga) : RG V' ga w := ⟨h.1, h.2.1, h.2.2.1.fr hF (by omega), h.2.2.2.fr hF (by omega)⟩
section Told
variable {V : sj_VV} {a : Nat} {w : sj_R} {k : Int} {N : Nat}
theorem SP.bb (h : SP w) (h0 : w 320 ≠ -1) : (w 320 = (wf w : Nat) ∧ w 321 = (wt w : Nat) ∧ (wt w : Int) ≤ w 0) ∧ BB (wf w) (wt w) (w 322) (wb w) := by
  rcases h.2 with z | z
  · exact absurd z h0
  · exact ⟨⟨by unfold wf; omega, by unfold wt; omega, by unfold wt; omega⟩, z.2.2.2⟩
theorem isK_eq (hk : sj_i32 k) : g_X8_isK N k V = some (if 1 ≤ k ∧ k ≤ 20000 then 1 else 0, V) := by
  unfold g_X8_isK
  rw [k_ltc hk ⟨by omega, by omega⟩, k_ltc ⟨by omega, by omega⟩ hk, k_zs (Or.inl rfl), k_zs (Or.inr rfl)]
  by_cases h1 : k < 1
  · rw [if_pos h1, if_neg (by omega)]
  · rw [if_neg h1]
    by_cases h2 : 20000 < k
    · rw [if_pos h2, if_neg (by omega)]
    · rw [if_neg h2, if_pos (by omega)]
theorem m_isK (hk : sj_i32 k) : g_X9_isK N k V = some (if 1 ≤ k ∧ k ≤ 20000 then 1 else 0, V) := by
  unfold g_X9_isK
  rw [k_wid hk, m_isIn (sj_i64_of hk) ⟨by omega, by omega⟩ ⟨by omega, by omega⟩, k_cs, k_zs (by split <;> omega)]
theorem isNone_T (hS : SN V (a + 12) w) (h : w 320 = -1) : g_X5_isNone N (a + 12) V = some (1, V) := by
  unfold g_X5_isNone
  rw [(hS.2.1 h).1, k_leF (by omega) ⟨by omega, by omega⟩ ⟨by omega, by omega⟩, k_zs (Or.inr rfl)]
theorem cutUp_0 (hR : RG V (a + 1) w) (h : w 320 = -1) : g_X8_cutUp N a V = some (0, V) := by
  unfold g_X8_cutUp
  rw [isNone_T hR.2.2.2 h, k_cs, k_eqF (by omega) ⟨by omega, by omega⟩ ⟨by omega, by omega⟩, k_zs (Or.inl rfl)]
theorem cutUp_1 (hR : RG V (a + 1) w) (h : w 320 ≠ -1) (hN : 50 ≤ N) : ∃ V', g_X8_cutUp N a V = some (1, V') ∧ Fr (a + 54) (a + 63) V V' ∧ SD V' (a + 54) w (wf w) (wt w) (w 322) (wb w) := by
  obtain ⟨hB, hP, hC, hS⟩ := hR
  have hb := (hP.bb h).2
  have hL := hS.2.2 h
  unfold g_X8_cutUp
  obtain ⟨V2, s1, s2, s3⟩ := weigh_eq (N := N) (a := a + 54) hC hB (by omega) hL hb (by omega) (by omega) hN
  have hC2 : CG V2 (a + 1) w := hC.fr s2 (by omega)
  obtain ⟨V3, t1, t2, t3⟩ := settle_eq (N := N) (more := 0) (ga := a + 1) s3 hB (by omega) (by omega) (by omega) hb (by omega) (fun l hl => by
    have := hC2.2.2.2.1 l hl
    omega) hC2.1.2.2 hN
  rw [isNone_eq hL hb, k_cs, k_eqT rfl, s1, k_cs, t1, k_cs, k_zs (Or.inr rfl)]
  exact ⟨V3, rfl, s2.tr t2, t3⟩
theorem m_takes_loop : ∀ (m c : Nat) (V : sj_VV), c ≤ 41 → 41 - c < m → V (a + 1) = w → sj_i32 (V a 13) → (∀ d, d < c → V (a + 5) d = w (323 + d)) → ∃ V', g_X9_takesSlip_47 N m a c V = some (if V a 13 = -1 then 0 else 1, V') ∧ (∀ x, x ≠ a + 5 → V' x = V x) ∧ ∀ d, d < 41 → V' (a + 5) d = w (323 + d)
  | 0, _, _, _, h, _, _, _ => absurd h (by omega)
  | m + 1, c, V, h1, h2, hw, hi, hb => by
    unfold g_X9_takesSlip_47 g_X9_takesSlip_47_b
    by_cases hc : c = 41
    · subst hc
      rw [k_leT (by omega) ⟨by omega, by omega⟩ ⟨by omega, by omega⟩, k_eq hi ⟨by omega, by omega⟩, k_zs (Or.inl rfl), k_zs (Or.inr rfl)]
      refine ⟨V, ?_, fun _ _ => rfl, hb⟩
      split <;> rfl
    · rw [k_leF (by omega) ⟨by omega, by omega⟩ ⟨by omega, by omega⟩, k_ix (by omega) (by omega), k_ix (by omega) (by omega), k_lt, k_lt, tn0, hw, show (323 + (c : Int)).toNat = 323 + c by omega]
      obtain ⟨V2, r1, r2, r3⟩ := m_takes_loop m (c + 1) (sj_up V (a + 5) c (w (323 + c))) (by omega) (by omega) ((up_row _ _ _ (by omega)).trans hw) (by rw [up_na _ _ _ _ (by omega)]; exact hi) (fun d hd => by
        by_cases z : d = c
        · subst z; rw [up_ss]
        · rw [up_nk _ _ _ z]; exact hb d (by omega))
      rw [up_na _ _ _ _ (by omega)] at r1
      exact ⟨V2, r1, fun x hx => (r2 x hx).trans (up_row _ _ _ hx), r3⟩
theorem m_takesSlip (hw : V (a + 1) = w) (hB : WB 500 200 1500 w) (hP : SP w) (hN : 50 ≤ N) : ∃ V', g_X9_takesSlip N a V = some (if w 320 = -1 then 0 else 1, V') ∧ Fc a V V' ∧ (w 320 ≠ -1 → SM V' a (wf w) (wt w) (w 322) (wb w)) := by
  have hn := hB.1
  unfold g_X9_takesSlip
  have i1 : sj_i32 (w 320) := by
    rcases hP.2 with z | z
    · exact ⟨by omega, by omega⟩
    · have z2 : (w 320).toNat < (w 321).toNat := z.2.2.2.1
      exact ⟨by omega, by omega⟩
  rw [k_ix (by omega) (by omega), k_lt, hw, show (320 : Int).toNat = 320 from rfl, k_ix (by omega) (by omega), up_na _ _ _ _ (by omega), hw, show (321 : Int).toNat = 321 from rfl]
  obtain ⟨V2, e⟩ : ∃ V2, V2 = sj_up (sj_up V a 13 (w 320)) a 14 (w 321) := ⟨_, rfl⟩
  have f2 : Fc a V V2 := by rw [e]; exact (Fc.rf.up (by omega) (by omega)).up (by omega) (by omega)
  have w2 : V2 (a + 1) = w := f2.w.trans hw
  have key : ∃ V', g_X9_takesSlip_42 N a (w 322) a V2 = some (if w 320 = -1 then 0 else 1, V') ∧ Fc a V V' ∧ (w 320 ≠ -1 → SM V' a (wf w) (wt w) (w 322) (wb w)) := by
    unfold g_X9_takesSlip_42
    rw [k_zz hP.1, k_lt]
    obtain ⟨V3, e3⟩ : ∃ V3, V3 = sj_up V2 a 15 (w 322) := ⟨_, rfl⟩
    have f3 : Fc a V V3 := by rw [e3]; exact f2.up (by omega) (by omega)
    have a13 : V3 a 13 = w 320 := by rw [e3, up_nk _ _ _ (by omega), e, up_nk _ _ _ (by omega), up_ss]
    have a14 : V3 a 14 = w 321 := by rw [e3, up_nk _ _ _ (by omega), e, up_ss]
    have a15 : V3 a 15 = w 322 := by rw [e3, up_ss]
    rw [← e3]
    obtain ⟨V4, r1, r2, r3⟩ := m_takes_loop (N := N) (a := a) N 0 V3 (by omega) (by omega) (f3.w.trans hw) (by rw [a13]; exact i1) (fun d hd => by omega)
    rw [a13] at r1
    have e0 : V4 a = V3 a := r2 a (by omega)
    refine ⟨V4, r1, ⟨fun x hx hy => (r2 x hy).trans (f3.1 x hx hy), fun j hj => by rw [e0]; exact f3.2 j hj⟩, fun h0 => ?_⟩
    have hb := hP.bb h0
    exact ⟨by rw [e0, a13]; exact hb.1.1, by rw [e0, a14]; exact hb.1.2.1, by rw [e0]; exact a15, fun c _ hc => r3 c (by have := hb.2.2.1; omega)⟩
  rw [← e, k_lt, k_ix (by omega) (by omega), w2, show (322 : Int).toNat = 322 from rfl]
  rcases hP.1 with z | z
  · rw [z] at key
    rw [z, k_eqF (by omega) ⟨by omega, by omega⟩ ⟨by omega, by omega⟩]
    exact key
  · rw [z] at key
    rw [k_eqT z, z]
    exact key
/-- STANDS as it is asked -/
def spStands (w : sj_R) (k : Int) : Int := if 1 ≤ k ∧ k ≤ 20000 then if w 320 = -1 then -1 else if spStd w (wf w) (wt w) (w 322) (wb w) (spPulls w (wf w) (wt w) (wb w)) k = true then 1 else 0 else -1
theorem c_stands (hR : RG V (a + 1) w) (hk : sj_i32 k) (hN : 50 ≤ N) : ∃ V', g_X8_stands N a k V = some (spStands w k, V') ∧ Fr (a + 54) (a + 63) V V' := by
  unfold g_X8_stands spStands
  rw [isK_eq hk, k_cs]
  by_cases hK : 1 ≤ k ∧ k ≤ 20000
  · rw [if_pos hK, if_pos hK, k_eqF (by omega) ⟨by omega, by omega⟩ ⟨by omega, by omega⟩]
    by_cases h0 : w 320 = -1
    · rw [cutUp_0 hR h0, k_cs, k_eqT rfl, if_pos h0]
      exact ⟨V, rfl, Fr.rf⟩
    · obtain ⟨V2, r1, r2, r3⟩ := cutUp_1 (N := N) hR h0 hN
      rw [r1, k_cs, k_eqF (by omega) ⟨by omega, by omega⟩ ⟨by omega, by omega⟩, hold_eq r3 hR.1 (by omega) (by omega) (by omega) (hR.2.1.bb h0).2 (by omega) hN, k_cs, if_neg h0]
      refine ⟨V2, ?_, r2⟩
      split
      · rw [k_eqF (by omega) ⟨by omega, by omega⟩ ⟨by omega, by omega⟩]
      · rw [k_eqT rfl]
  · rw [if_neg hK, if_neg hK, k_eqT rfl]
    exact ⟨V, rfl, Fr.rf⟩
theorem m_stands (hw : V (a + 1) = w) (hB : WB 500 200 1500 w) (hP : SP w) (hk : sj_i32 k) (hN : 50 ≤ N) : ∃ V', g_X9_stands N a k V = some (spStands w k, V') ∧ Fc a V V' := by
  unfold g_X9_stands spStands
  rw [m_isK hk, k_cs]
  by_cases hK : 1 ≤ k ∧ k ≤ 20000
  · rw [if_pos hK, if_pos hK, k_eqF (by omega) ⟨by omega, by omega⟩ ⟨by omega, by omega⟩]
    obtain ⟨V2, r1, r2, r3⟩ := m_takesSlip (N := N) hw hB hP hN
    rw [r1, k_cs]
    by_cases h0 : w 320 = -1
    · rw [if_pos h0, k_eqT rfl, if_pos h0]
      exact ⟨V2, rfl, r2⟩
    · obtain ⟨V3, s1, s2⟩ := m_isStanding (N := N) (k := k) (r2.w.trans hw) hB (by omega) (by omega) (by omega) hN (r3 h0) (hP.bb h0).2 (by omega)
      rw [if_neg h0, k_eqF (by omega) ⟨by omega, by omega⟩ ⟨by omega, by omega⟩, s1, k_cs, if_neg h0]
      refine ⟨V3, ?_, r2.tr s2.c⟩
      split
      · rw [k_eqF (by omega) ⟨by omega, by omega⟩ ⟨by omega, by omega⟩]
      · rw [k_eqT rfl]
  · rw [if_neg hK, if_neg hK, k_eqT rfl]
    exact ⟨V, rfl, Fc.rf⟩
def spFactorA (w : sj_R) : Int := if w 320 = -1 then -1 else spF w (wf w) (wt w) (w 322) (wb w)
theorem c_factor (hR : RG V (a + 1) w) (hN : 50 ≤ N) : ∃ V', g_X8_factor N a V = some (spFactorA w, V') ∧ Fr (a + 54) (a + 63) V V' := by
  unfold g_X8_factor spFactorA
  by_cases h0 : w 320 = -1
  · rw [cutUp_0 hR h0, k_cs, k_eqT rfl, if_pos h0]
    exact ⟨V, rfl, Fr.rf⟩
  · obtain ⟨V2, r1, r2, r3⟩ := cutUp_1 (N := N) hR h0 hN
    rw [r1, k_cs, k_eqF (by omega) ⟨by omega, by omega⟩ ⟨by omega, by omega⟩, factor_eq r3 hR.1 (by omega) (by omega) (by omega) (hR.2.1.bb h0).2 hN, k_cs, if_neg h0]
    exact ⟨V2, rfl, r2⟩
theorem m_factor (hw : V (a + 1) = w) (hB : WB 500 200 1500 w) (hP : SP w) (hN : 50 ≤ N) : ∃ V', g_X9_factor N a V = some (spFactorA w, V') ∧ Fc a V V' ∧ (w 320 ≠ -1 → SM V' a (wf w) (wt w) (w 322) (wb w)) := by
  unfold g_X9_factor spFactorA
  obtain ⟨V2, r1, r2, r3⟩ := m_takesSlip (N := N) hw hB hP hN
  rw [r1, k_cs]
  by_cases h0 : w 320 = -1
  · rw [if_pos h0, k_eqT rfl, if_pos h0]
    exact ⟨V2, rfl, r2, fun z => absurd h0 z⟩
  · obtain ⟨V3, s1, s2⟩ := m_factorOf (N := N) (r2.w.trans hw) hB (by omega) (by omega) (by omega) hN (r3 h0) (hP.bb h0).2
    rw [if_neg h0, k_eqF (by omega) ⟨by omega, by omega⟩ ⟨by omega, by omega⟩, s1, k_cs, if_neg h0]
    exact ⟨V3, rfl, r2.tr s2.c, fun z => (r3 z).fm s2⟩
end Told
