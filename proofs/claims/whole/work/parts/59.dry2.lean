/-- what a question that lays aside may touch -/
def Fa (a : Nat) (V V' : sj_VV) : Prop := (∀ z, z ≠ a → z ≠ a + 2 → z ≠ a + 5 → V' z = V z) ∧ ∀ j, (j < 6 ∨ j = 16 ∨ 22 ≤ j) → V' a j = V a j
section Dry2
variable {V : sj_VV} {a f t : Nat} {w : sj_R} {lf : Int} {bs : Nat → Int} {N : Nat}
theorem Fs.asd {V1 : sj_VV} (h : Fs a V V1) : Fa a V V1 := ⟨fun z a1 _ a3 => h.1 z a1 a3, h.2⟩
theorem m_back (hN : 1000 ≤ N) (h1 : ∀ d, d < 390 → V (a + 2) d = w d) (h2 : ∀ d, 390 ≤ d → V (a + 1) d = w d) : ∃ V', g_X9_comesBack N a V = some ((), V') ∧ (∀ z, z ≠ a + 1 → V' z = V z) ∧ V' (a + 1) = w := by
  obtain ⟨V2, r1, r2, r3, r4⟩ := m_comesBack (N := N) (a := a) (V := V) hN
  refine ⟨V2, r1, r2, funext fun d => ?_⟩
  by_cases hd : d < 390
  · rw [r3 d hd]; exact h1 d hd
  · rw [r4 d (by omega)]; exact h2 d (by omega)
theorem m_dry_loop (hB : WB 500 200 1500 w) (hb : BB f t lf bs) (hN : 1000 ≤ N) : ∀ (m c : Nat) (V : sj_VV), c ≤ 41 → 41 - c < m → (∀ d, d < c → V (a + 1) (85 + d) = 0) → (∀ j, (j < 85 ∨ 126 ≤ j) → V (a + 1) j = w j) → (∀ d, d < 390 → V (a + 2) d = w d) → SM V a f t lf bs → ∃ V', g_X9_dry_15 N m a c V = some (spF (wDry w) f t lf bs, V') ∧ V' (a + 1) = w ∧ (∀ z, z ≠ a → z ≠ a + 1 → V' z = V z) ∧ ∀ j, (j < 6 ∨ 13 ≤ j) → V' a j = V a j
  | 0, _, _, _, h, _, _, _, _ => absurd h (by omega)
  | m + 1, c, V, h1, h2, hz, hw, ha, hS => by
    unfold g_X9_dry_15 g_X9_dry_15_b
    by_cases hc : c = 41
    · subst hc
      have ew : V (a + 1) = wDry w := by
        funext j
        by_cases hj : 85 ≤ j ∧ j < 126
        · have := hz (j - 85) (by omega)
          rw [show 85 + (j - 85) = j by omega] at this
          rw [this]
          exact (if_pos hj).symm
        · rw [hw j (by omega)]
          exact (if_neg hj).symm
      obtain ⟨V2, r1, r2⟩ := m_factorOf (N := N) ew hB.dry (by omega) (by omega) (by omega) (by omega) hS hb
      have e2 : V2 (a + 2) = V (a + 2) := r2.w 1
      have e1 : V2 (a + 1) = V (a + 1) := r2.w 0
      obtain ⟨V3, s1, s2, s3⟩ := m_back (N := N) (a := a) (V := V2) (w := w) hN (fun d hd => by rw [e2]; exact ha d hd) (fun d hd => by rw [e1]; exact hw d (by omega))
      rw [k_leT (by omega) ⟨by omega, by omega⟩ ⟨by omega, by omega⟩, r1, k_cs, s1, k_cs]
      exact ⟨V3, rfl, s3, fun z z1 z2 => (s2 z z2).trans (r2.1 z z1), fun j hj => by rw [s2 a (by omega)]; exact r2.2 j hj⟩
    · rw [k_leF (by omega) ⟨by omega, by omega⟩ ⟨by omega, by omega⟩, k_ix (by omega) (by omega), k_lt, k_lt, show (85 + (c : Int)).toNat = 85 + c by omega]
      have u : ∀ z, z ≠ a + 1 → sj_up V (a + 1) (85 + c) 0 z = V z := fun z hz => up_row _ _ _ hz
      obtain ⟨V2, r1, r2, r3, r4⟩ := m_dry_loop hB hb hN m (c + 1) (sj_up V (a + 1) (85 + c) 0) (by omega) (by omega) (fun d hd => by
        by_cases z : d = c
        · subst z; rw [up_ss]
        · rw [up_nk _ _ _ (by omega)]; exact hz d (by omega)) (fun j hj => by rw [up_nk _ _ _ (by omega)]; exact hw j hj) (fun d hd => by rw [u _ (by omega)]; exact ha d hd) ⟨by rw [u _ (by omega)]; exact hS.1, by rw [u _ (by omega)]; exact hS.2.1, by rw [u _ (by omega)]; exact hS.2.2.1, fun d d1 d2 => by rw [u _ (by omega)]; exact hS.2.2.2 d d1 d2⟩
      exact ⟨V2, r1, r2, fun z z1 z2 => (r3 z z1 z2).trans (u z z2), fun j hj => by rw [r4 j hj, u _ (by omega)]⟩
theorem m_dry (hw : V (a + 1) = w) (hB : WB 500 200 1500 w) (hP : SP w) (hN : 1000 ≤ N) : ∃ V', g_X9_dry N a V = some (spDry w, V') ∧ V' (a + 1) = w ∧ Fa a V V' := by
  unfold g_X9_dry spDry
  obtain ⟨V2, r1, r2, r3⟩ := m_takesSlip (N := N) hw hB hP (by omega)
  rw [r1, k_cs]
  by_cases h0 : w 320 = -1
  · rw [if_pos h0, if_pos h0, k_eqT rfl]
    exact ⟨V2, rfl, r2.w.trans hw, r2.s.asd⟩
  · have hb := hP.bb h0
    have hS := r3 h0
    obtain ⟨V3, s1, s2, s3⟩ := m_laysAside (N := N) (a := a) (V := V2) hN
    have w2 := r2.w.trans hw
    have w3 : V3 (a + 1) = w := (s2 _ (by omega)).trans w2
    have hS3 : SM V3 a (wf w) (wt w) (w 322) (wb w) := ⟨by rw [s2 _ (by omega)]; exact hS.1, by rw [s2 _ (by omega)]; exact hS.2.1, by rw [s2 _ (by omega)]; exact hS.2.2.1, fun d d1 d2 => by rw [s2 _ (by omega)]; exact hS.2.2.2 d d1 d2⟩
    obtain ⟨V4, t1, t2, t3, t4⟩ := m_dry_loop (N := N) (a := a) hB hb.2 hN N 0 V3 (by omega) (by omega) (fun d hd => by omega) (fun j _ => by rw [w3]) (fun d hd => by rw [s3 d hd, w2]) hS3
    rw [if_neg h0, if_neg h0, k_eqF (by omega) ⟨by omega, by omega⟩ ⟨by omega, by omega⟩, s1, k_cs]
    refine ⟨V4, t1, t2, fun z z1 z2 z3 => ?_, fun j hj => ?_⟩
    · by_cases z4 : z = a + 1
      · rw [z4, t2, hw]
      · rw [t3 z z1 z4, s2 z z2, r2.1 z z1 z3]
    · rw [t4 j (by omega), s2 a (by omega), r2.2 j (by omega)]
end Dry2
