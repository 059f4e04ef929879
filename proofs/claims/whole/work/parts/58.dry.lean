/-! DRY as it is asked -/
section Dry
variable {V : sj_VV} {a : Nat} {w : sj_R} {lv hv rv : Int} {N : Nat}
theorem fill_loop {x0 n : Nat} {v : Int} (hn : n ≤ 100000) : ∀ (m i : Nat) (V : sj_VV), i ≤ n → n - i < m → (∀ y, y < i → V x0 y = v) → ∃ V', g_J7_fill_53178_5 N m x0 n v i n V = some ((), V') ∧ (∀ z, z ≠ x0 → V' z = V z) ∧ (∀ y, y < n → V' x0 y = v) ∧ ∀ y, n ≤ y → V' x0 y = V x0 y
  | 0, _, _, _, h, _ => absurd h (by omega)
  | m + 1, i, V, h1, h2, hb => by
    unfold g_J7_fill_53178_5 g_J7_fill_53178_5_b
    by_cases hi : i = n
    · subst hi
      rw [k_leT (by omega) ⟨by omega, by omega⟩ ⟨by omega, by omega⟩]
      exact ⟨V, rfl, fun _ _ => rfl, hb, fun _ _ => rfl⟩
    · rw [k_leF (by omega) ⟨by omega, by omega⟩ ⟨by omega, by omega⟩, k_ix (by omega) (by omega), k_lt, k_lt, tn0]
      obtain ⟨V2, r1, r2, r3, r4⟩ := fill_loop hn m (i + 1) (sj_up V x0 i v) (by omega) (by omega) (fun y hy => by
        by_cases z : y = i
        · subst z; rw [up_ss]
        · rw [up_nk _ _ _ z]; exact hb y (by omega))
      exact ⟨V2, r1, fun z hz => (r2 z hz).trans (up_row _ _ _ hz), r3, fun y hy => by rw [r4 y hy, up_nk _ _ _ (by omega)]⟩
theorem fill_eq {x0 n : Nat} {v : Int} (hn : n < N) (hn2 : n ≤ 100000) : ∃ V', g_J7_fill_53178 N x0 n v V = some ((), V') ∧ (∀ z, z ≠ x0 → V' z = V z) ∧ (∀ y, y < n → V' x0 y = v) ∧ ∀ y, n ≤ y → V' x0 y = V x0 y := by
  unfold g_J7_fill_53178
  rw [k_lt]
  exact fill_loop hn2 N 0 V (by omega) (by omega) (fun y hy => by omega)
/-- the row without water -/
def wDry (w : sj_R) : sj_R := fun j => if 85 ≤ j ∧ j < 126 then 0 else w j
theorem wDry_n (w : sj_R) {j : Nat} (h : j < 85 ∨ 126 ≤ j) : wDry w j = w j := if_neg (by omega)
theorem wDry_s (w : sj_R) {c : Nat} (h : c < 41) : wDry w (85 + c) = 0 := if_pos (by omega)
theorem WB.dry (h : WB lv hv rv w) : WB lv hv rv (wDry w) := by
  obtain ⟨a1, a2, a3, a4, a5, a6, a7⟩ := h
  have e : ∀ j, (j < 85 ∨ 126 ≤ j) → wDry w j = w j := fun j hj => wDry_n w hj
  refine ⟨by rw [e 0 (by omega)]; exact a1, by rw [e 1 (by omega)]; exact a2, by rw [e 2 (by omega)]; exact a3, fun d hd => ?_, fun i hi => by rw [e _ (by omega)]; exact a5 i hi, fun l hl => by rw [e _ (by omega), e _ (by omega), e _ (by omega)]; exact a6 l hl, fun i hi => by rw [e _ (by omega), e _ (by omega), e _ (by omega), e _ (by omega)]; exact a7 i hi⟩
  rw [e (44 + d) (by omega), e (3 + d) (by omega), e (126 + d) (by omega), wDry_s w hd]
  have b := a4 d hd
  exact ⟨b.1, ⟨by omega, by omega⟩, b.2.2⟩
def spDry (w : sj_R) : Int := if w 320 = -1 then -1 else spF (wDry w) (wf w) (wt w) (w 322) (wb w)
theorem c_dry (hR : RG V (a + 1) w) (hN : 1000 ≤ N) : ∃ V', g_X8_dry N a V = some (spDry w, V') ∧ TL a V V' ∧ ∀ z, ¬ (a + 15 ≤ z ∧ z < a + 29) → ¬ (a + 54 ≤ z ∧ z < a + 63) → V' z = V z := by
  unfold g_X8_dry spDry
  by_cases h0 : w 320 = -1
  · rw [isNone_T hR.2.2.2 h0, k_cs, k_eqF (by omega) ⟨by omega, by omega⟩ ⟨by omega, by omega⟩, if_pos h0]
    exact ⟨V, rfl, id, fun _ _ _ => rfl⟩
  · have hb := hR.2.1.bb h0
    have hL := hR.2.2.2.2.2 h0
    obtain ⟨V2, r1, r2, r3⟩ := copy_eq (N := N) (a := a + 15) (b := a + 1) (by omega) hR
    obtain ⟨V3, s1, s2, s3, s4⟩ := fill_eq (N := N) (V := V2) (x0 := a + 15 + 3) (n := 41) (v := 0) (by omega) (by omega)
    have f3 : Fr (a + 15) (a + 29) V V3 := r2.tr (fun z hz => s2 z (by omega))
    have hC3 : CG V3 (a + 15) (wDry w) := by
      obtain ⟨a1, a2, a3, a4, a5⟩ := r3.2.2.1
      have e : ∀ j, (j < 85 ∨ 126 ≤ j) → wDry w j = w j := fun j hj => wDry_n w hj
      have u : ∀ j, j ≠ a + 15 + 3 → V3 j = V2 j := s2
      refine ⟨by rw [u _ (by omega), e 0 (by omega), e 1 (by omega), e 2 (by omega)]; exact a1, fun d hd => ?_, fun i hi => by rw [u _ (by omega), e _ (by omega)]; exact a3 i hi, fun l hl => by rw [u (a + 15 + 6) (by omega), u (a + 15 + 7) (by omega), u (a + 15 + 8) (by omega), e _ (by omega), e _ (by omega), e _ (by omega)]; exact a4 l hl, fun i hi => by rw [u (a + 15 + 9) (by omega), u (a + 15 + 10) (by omega), u (a + 15 + 11) (by omega), e _ (by omega), e _ (by omega), e _ (by omega)]; exact a5 i hi⟩
      have b := a2 d hd
      rw [u (a + 15 + 1) (by omega), u (a + 15 + 2) (by omega), u (a + 15 + 4) (by omega), e (3 + d) (by omega), e (44 + d) (by omega), e (126 + d) (by omega), wDry_s w hd, s3 d hd]
      exact ⟨b.1, b.2.1, rfl, b.2.2.2⟩
    have hL3 := hL.fr f3 (by omega)
    obtain ⟨V4, t1, t2, t3⟩ := weigh_eq (N := N) (a := a + 54) hC3 hR.1.dry (by omega) hL3 hb.2 (by omega) (by omega) (by omega)
    have hC4 : CG V4 (a + 15) (wDry w) := hC3.fr t2 (by omega)
    obtain ⟨V5, u1, u2, u3⟩ := settle_eq (N := N) (more := 0) (ga := a + 15) t3 hR.1.dry (by omega) (by omega) (by omega) hb.2 (by omega) (fun l hl => by
      have := hC4.2.2.2.1 l hl
      omega) hC4.1.2.2 (by omega)
    unfold g_X0_dryUp
    rw [isNone_eq hL hb.2, k_cs, k_eqT rfl, r1, k_cs, s1, k_cs, k_cs, t1, k_cs, u1, k_cs, factor_eq u3 hR.1.dry (by omega) (by omega) (by omega) hb.2 (by omega), k_cs, if_neg h0]
    exact ⟨V5, rfl, fun _ => by rw [u2 _ (by omega), t2 _ (by omega), s2 _ (by omega)]; exact r3.2.2.2.1, fun z z1 z2 => by rw [u2 z (by omega), t2 z (by omega), f3 z (by omega)]⟩
end Dry
