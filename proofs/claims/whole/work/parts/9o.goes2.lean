/-! TABLES: the reference goes over all columns -/
section Goes2
variable {V V1 V2 V' : sj_VV} {b N c d first : Nat} {w : sj_R} {t lf k any z o h x v g least : Int}
theorem Mo.mr {C : Int → Int → Prop} {Q : Int → Prop} (hm : Mo (x = 4000000000000000000) C x g) (hq : ∀ v, Q v ↔ ∃ g, C v g) : Mr Q x := by
  rcases hm with ⟨h1, h2⟩ | ⟨h1, h2, h3⟩
  · exact Or.inl ⟨h1, fun v y => by obtain ⟨g, y⟩ := (hq v).mp y; exact h2 v g y⟩
  · refine Or.inr ⟨(hq x).mpr ⟨g, h2⟩, fun v y => ?_⟩
    obtain ⟨g', y⟩ := (hq v).mp y
    have := h3 v g' y
    omega
theorem Cc_b (hB : WB 500 200 1500 w) (hc : c < 41) (ht : 0 ≤ t ∧ t ≤ 12) (hk : 0 ≤ k ∧ k ≤ 20001) (hq : Cc w t lf k any first c h v g) : (-1000000000000000 ≤ v ∧ v ≤ 2500000000000000000) ∧ (w (44 + c) ≤ h ∧ h ≤ w (3 + c)) ∧ (0 ≤ g ∧ g ≤ 100) ∧ first < c := by
  obtain ⟨d, rfl, h1, u, ⟨a, h2, h3⟩, h4, h5⟩ := hq
  exact ⟨wAr_b hB ht hk hc (lf := lf) ⟨g, u, h3, h4, h5⟩, h4.2.1, wGo_100 hB (by omega) h3, h1⟩
/-- what comes to a column's end -/
theorem Cc_iff : (∃ g, Cc w t lf k any first (d + 1) h v g) ↔ ∃ a, wA any first a ∧ wAr w t lf k 10000000000000 a d h v := by
  constructor
  · rintro ⟨g, d', e, h1, u, ⟨a, h2, h3⟩, h4, h5⟩
    have e' : d' = d := by omega
    subst e'
    exact ⟨a, h2, g, u, h3, h4, h5⟩
  · rintro ⟨a, h2, g, u, h3, h4, h5⟩
    have := wGo_le _ _ _ h3
    exact ⟨g, d, rfl, by have := h2.2; omega, u, ⟨a, h2, h3⟩, h4, h5⟩
theorem Qg_iff (hh : h ≠ w (3 + c)) : Qg w t lf k any first c h v ↔ ∃ g, Cc w t lf k any first c h v g := by
  cases c with
  | zero =>
    constructor
    · rintro ⟨a, _, h2⟩
      exact absurd h2.2.1 hh
    · rintro ⟨g, d, e, _⟩
      omega
  | succ d =>
    rw [Cc_iff]
    constructor
    · rintro ⟨a, h1, h2⟩
      rcases wGo_s.mp h2 with y | y
      · exact absurd y.2.1 hh
      · exact ⟨a, h1, y.2⟩
    · rintro ⟨a, h1, h2⟩
      refine ⟨a, h1, wGo_s.mpr (Or.inr ⟨?_, h2⟩)⟩
      obtain ⟨o, u, _, h4, _⟩ := h2
      have := h4.2.1.2
      omega
theorem goes_22 (hB : WB 500 200 1500 w) (hN : 1000 ≤ N) (hc : (c : Int) ≤ w 0) (hf : first ≤ c) (ht : 0 ≤ t ∧ t ≤ 12) (hk : 0 ≤ k ∧ k ≤ 20001) (hlf : lf = 0 ∨ lf = 1) (hany : any = 0 ∨ any = 1) (hl : -4000000000000000000 ≤ least ∧ least ≤ 4000000000000000000) {k8 : Nat → Int → Int → Int → Int → Int → Int → Int → sj_VV → Option (Int × sj_VV)} : ∀ (m : Nat) (x : Int) (V : sj_VV), 0 ≤ x → x ≤ 101 → (101 - x).toNat < m → V (b + 1) = w → (∀ d, c = d + 1 → first < c → ∀ o, 0 ≤ o → o ≤ 100 → Mr (Qg w t lf k any first d o) (V (b + 6) (pm d o))) → (∀ h, 0 ≤ h → h < x → Mo (V (b + 6) (pm c h) = 4000000000000000000) (Cc w t lf k any first c h) (V (b + 6) (pm c h)) (V (b + 7) (pm c h))) → ∃ (V' : sj_VV) (l' : Int), g_X9_goes_22 N k8 m b first any t lf k least c x V = k8 b first any t lf k l' ((c : Int) + 1) V' ∧ FR b V V' ∧ (∀ y, (y < 101 * c ∨ 101 * (c + 1) ≤ y) → V' (b + 6) y = V (b + 6) y ∧ V' (b + 7) y = V (b + 7) y) ∧ (∀ j, j ≠ c → V' (b + 8) j = V (b + 8) j) ∧ (∀ h, 0 ≤ h → h ≤ 100 → Mr (Qg w t lf k any first c h) (V' (b + 6) (pm c h))) ∧ (∀ h, 0 ≤ h → h < w (3 + c) → Mo (V' (b + 6) (pm c h) = 4000000000000000000) (Cc w t lf k any first c h) (V' (b + 6) (pm c h)) (V' (b + 7) (pm c h))) ∧ Mo (V' (b + 8) c = 4000000000000000000) (Cc w t lf k any first c (w (3 + c))) (V' (b + 8) c) (V' (b + 7) (pm c (w (3 + c)))) ∧ l' = min least (V' (b + 8) c)
  | 0, _, _, _, _, h', _, _, _ => absurd h' (by omega)
  | m + 1, x, V, x1, x2, x3, hw, hQ, hM => by
    have n0 := hB.1
    have b0 := (hB.2.2.2.1 c (by omega)).1
    unfold g_X9_goes_22 g_X9_goes_22_b
    rw [k_lec ⟨by omega, by omega⟩ ⟨by omega, by omega⟩]
    have eg : (3 + (c : Int)).toNat = 3 + c := by omega
    by_cases hx : 101 ≤ x
    · have ep : (101 * (c : Int) + w (3 + c)).toNat = pm c (w (3 + c)) := rfl
      have hm := hM (w (3 + c)) (by omega) (by omega)
      have ob : -4000000000000000000 ≤ V (b + 6) (pm c (w (3 + c))) ∧ V (b + 6) (pm c (w (3 + c))) ≤ 4000000000000000000 := by
        rcases id hm with ⟨y, _⟩ | ⟨_, y, _⟩
        · omega
        · have := (Cc_b hB (by omega) ht hk y).1; omega
      have tail : ∃ (V' : sj_VV), g_X9_goes_155 N k8 b first any t lf k (min least (V (b + 6) (pm c (w (3 + c))))) c (101 * (c : Int) + w (3 + c)) V = k8 b first any t lf k (min least (V (b + 6) (pm c (w (3 + c))))) ((c : Int) + 1) V' ∧ FR b V V' ∧ (∀ y, (y < 101 * c ∨ 101 * (c + 1) ≤ y) → V' (b + 6) y = V (b + 6) y ∧ V' (b + 7) y = V (b + 7) y) ∧ (∀ j, j ≠ c → V' (b + 8) j = V (b + 8) j) ∧ (∀ h, 0 ≤ h → h ≤ 100 → Mr (Qg w t lf k any first c h) (V' (b + 6) (pm c h))) ∧ (∀ h, 0 ≤ h → h < w (3 + c) → Mo (V' (b + 6) (pm c h) = 4000000000000000000) (Cc w t lf k any first c h) (V' (b + 6) (pm c h)) (V' (b + 7) (pm c h))) ∧ Mo (V' (b + 8) c = 4000000000000000000) (Cc w t lf k any first c (w (3 + c))) (V' (b + 8) c) (V' (b + 7) (pm c (w (3 + c)))) ∧ V' (b + 8) c = V (b + 6) (pm c (w (3 + c))) := by
        unfold g_X9_goes_155
        rw [k_ix (by omega) (by omega), k_ix (by omega) (by omega), k_lt, ep, tn0]
        obtain ⟨V1, e1⟩ : ∃ V1, V1 = sj_up V (b + 8) c (V (b + 6) (pm c (w (3 + c)))) := ⟨_, rfl⟩
        have f1 : FR b V V1 := by rw [e1]; exact FR.rf.up (by omega)
        have key : ∀ val, Mr (Qg w t lf k any first c (w (3 + c))) val → ∃ (V' : sj_VV), g_X9_goes_192 N k8 b first any t lf k (min least (V (b + 6) (pm c (w (3 + c))))) c val (101 * (c : Int) + w (3 + c)) (b + 6) 4141 V1 = k8 b first any t lf k (min least (V (b + 6) (pm c (w (3 + c))))) ((c : Int) + 1) V' ∧ FR b V V' ∧ (∀ y, (y < 101 * c ∨ 101 * (c + 1) ≤ y) → V' (b + 6) y = V (b + 6) y ∧ V' (b + 7) y = V (b + 7) y) ∧ (∀ j, j ≠ c → V' (b + 8) j = V (b + 8) j) ∧ (∀ h, 0 ≤ h → h ≤ 100 → Mr (Qg w t lf k any first c h) (V' (b + 6) (pm c h))) ∧ (∀ h, 0 ≤ h → h < w (3 + c) → Mo (V' (b + 6) (pm c h) = 4000000000000000000) (Cc w t lf k any first c h) (V' (b + 6) (pm c h)) (V' (b + 7) (pm c h))) ∧ Mo (V' (b + 8) c = 4000000000000000000) (Cc w t lf k any first c (w (3 + c))) (V' (b + 8) c) (V' (b + 7) (pm c (w (3 + c)))) ∧ V' (b + 8) c = V (b + 6) (pm c (w (3 + c))) := by
          intro val hv
          unfold g_X9_goes_192
          rw [k_ix (by omega) (by omega), k_lt, ep, k_lt]
          obtain ⟨V2, e2⟩ : ∃ V2, V2 = sj_up V1 (b + 6) (pm c (w (3 + c))) val := ⟨_, rfl⟩
          have f2 : FR b V V2 := by rw [e2]; exact f1.up (by omega)
          have r7 : V2 (b + 7) = V (b + 7) := by rw [e2, up_row _ _ _ (by omega), e1, up_row _ _ _ (by omega)]
          have r6 : ∀ y, y ≠ pm c (w (3 + c)) → V2 (b + 6) y = V (b + 6) y := fun y hy => by rw [e2, up_nk _ _ _ hy, e1, up_na _ _ _ _ (by omega)]
          have r6g : V2 (b + 6) (pm c (w (3 + c))) = val := by rw [e2, up_ss]
          have r8 : V2 (b + 8) c = V (b + 6) (pm c (w (3 + c))) := by rw [e2, up_na _ _ _ _ (by omega), e1, up_ss]
          have inj : ∀ h, 0 ≤ h → h ≠ w (3 + c) → pm c h ≠ pm c (w (3 + c)) := fun h a1 a2 => by unfold pm; omega
          rw [← e2]
          refine ⟨V2, rfl, f2, fun y hy => ⟨r6 y (by unfold pm; omega), by rw [r7]⟩, fun j hj => ?_, fun h a1 a2 => ?_, fun h a1 a2 => ?_, ?_, r8⟩
          · rw [e2, up_na _ _ _ _ (by omega), e1, up_nk _ _ _ hj]
          · by_cases eh : h = w (3 + c)
            · rw [eh, r6g]; exact hv
            · rw [r6 _ (inj h a1 eh)]
              exact (hM h a1 (by omega)).mr (fun v => Qg_iff eh)
          · rw [r6 _ (inj h a1 (by omega)), r7]
            exact hM h a1 (by omega)
          · rw [r8, r7]
            exact hm
        have z0 : wA any first c → Mr (Qg w t lf k any first c (w (3 + c))) 0 := fun ha => Or.inr ⟨⟨c, ha, wGo_0⟩, fun v ⟨a, _, hg⟩ => by have := (wGo_g hg).2; omega⟩
        rw [← e1]
        unfold g_X9_goes_185
        by_cases hcf : c = first
        · rw [k_eqT (by omega)]
          exact key 0 (z0 ⟨Or.inr hcf, hf⟩)
        · rw [k_eqF (by omega) ⟨by omega, by omega⟩ ⟨by omega, by omega⟩]
          rcases hany with ha | ha
          · rw [k_eqT ha]
            refine key _ (Or.inl ⟨rfl, fun v ⟨a, h1, hg⟩ => ?_⟩)
            have h2 := (wGo_g hg).1
            have h3 := h1.1
            omega
          · rw [k_eqF (by omega) ⟨by omega, by omega⟩ ⟨by omega, by omega⟩]
            exact key 0 (z0 ⟨Or.inl ha, hf⟩)
      obtain ⟨V2, s1, s2, s3, s4, s5, s6, s7, s8⟩ := tail
      refine ⟨V2, min least (V (b + 6) (pm c (w (3 + c)))), ?_, s2, s3, s4, s5, s6, s7, by rw [s8]⟩
      rw [if_pos hx, k_ix (by omega) (by omega), k_lt, eg, hw, k_ix (by omega) (by omega), ep, k_llec ⟨by omega, by omega⟩ ⟨by omega, by omega⟩]
      by_cases hle : least ≤ V (b + 6) (pm c (w (3 + c)))
      · rw [if_pos hle]
        rw [show min least (V (b + 6) (pm c (w (3 + c)))) = least by omega] at s1 ⊢
        exact s1
      · rw [if_neg hle, k_ix (by omega) (by omega), k_lt]
        rw [show min least (V (b + 6) (pm c (w (3 + c)))) = V (b + 6) (pm c (w (3 + c))) by omega] at s1 ⊢
        exact s1
    · have ep : (101 * (c : Int) + x).toNat = pm c x := rfl
      obtain ⟨V3, e3⟩ : ∃ V3, V3 = sj_up V (b + 6) (pm c x) 4000000000000000000 := ⟨_, rfl⟩
      have f3 : FR b V V3 := by rw [e3]; exact FR.rf.up (by omega)
      have w3 : V3 (b + 1) = w := f3.row1.trans hw
      have r7 : V3 (b + 7) = V (b + 7) := by rw [e3, up_row _ _ _ (by omega)]
      have r8 : V3 (b + 8) = V (b + 8) := by rw [e3, up_row _ _ _ (by omega)]
      have r6 : ∀ y, y ≠ pm c x → V3 (b + 6) y = V (b + 6) y := fun y hy => by rw [e3, up_nk _ _ _ hy]
      have r6g : V3 (b + 6) (pm c x) = 4000000000000000000 := by rw [e3, up_ss]
      have hQ3 : ∀ d, c = d + 1 → first < c → ∀ o, 0 ≤ o → o ≤ 100 → Mr (Qg w t lf k any first d o) (V3 (b + 6) (pm d o)) := fun d d1 d2 o o1 o2 => by
        rw [r6 _ (by unfold pm; omega)]
        exact hQ d d1 d2 o o1 o2
      rw [if_neg hx, k_ix (by omega) (by omega), k_lt, ep, ← e3]
      -- on to the next height
      have on : ∀ V4, FR b V3 V4 → (∀ y, y ≠ pm c x → V4 (b + 6) y = V3 (b + 6) y ∧ V4 (b + 7) y = V3 (b + 7) y) → V4 (b + 8) = V3 (b + 8) → Mo (V4 (b + 6) (pm c x) = 4000000000000000000) (Cc w t lf k any first c x) (V4 (b + 6) (pm c x)) (V4 (b + 7) (pm c x)) → ∃ (V' : sj_VV) (l' : Int), g_X9_goes_110 N k8 (g_X9_goes_22 N k8 m) b first any t lf k least c x V4 = k8 b first any t lf k l' ((c : Int) + 1) V' ∧ FR b V V' ∧ (∀ y, (y < 101 * c ∨ 101 * (c + 1) ≤ y) → V' (b + 6) y = V (b + 6) y ∧ V' (b + 7) y = V (b + 7) y) ∧ (∀ j, j ≠ c → V' (b + 8) j = V (b + 8) j) ∧ (∀ h, 0 ≤ h → h ≤ 100 → Mr (Qg w t lf k any first c h) (V' (b + 6) (pm c h))) ∧ (∀ h, 0 ≤ h → h < w (3 + c) → Mo (V' (b + 6) (pm c h) = 4000000000000000000) (Cc w t lf k any first c h) (V' (b + 6) (pm c h)) (V' (b + 7) (pm c h))) ∧ Mo (V' (b + 8) c = 4000000000000000000) (Cc w t lf k any first c (w (3 + c))) (V' (b + 8) c) (V' (b + 7) (pm c (w (3 + c)))) ∧ l' = min least (V' (b + 8) c) := by
        intro V4 f4 q6 q8 hm4
        unfold g_X9_goes_110
        rw [k_lt]
        obtain ⟨V5, l5, s1, s2, s3, s4, s5⟩ := goes_22 hB hN hc hf ht hk hlf hany hl (k8 := k8) m (x + 1) V4 (by omega) (by omega) (by omega) (f4.row1.trans w3) (fun d d1 d2 o o1 o2 => by
            rw [(q6 _ (by unfold pm; omega)).1]
            exact hQ3 d d1 d2 o o1 o2) (fun h a1 a2 => by
            by_cases eh : h = x
            · rw [eh]; exact hm4
            · have ne : pm c h ≠ pm c x := by unfold pm; omega
              rw [(q6 _ ne).1, (q6 _ ne).2, r6 _ ne, r7]
              exact hM h a1 (by omega))
        refine ⟨V5, l5, s1, (f3.tr f4).tr s2, fun y hy => ?_, fun j hj => by rw [s4 j hj, q8, r8], s5⟩
        have ne : y ≠ pm c x := by unfold pm; omega
        have h1 := s3 y hy
        rw [(q6 y ne).1, (q6 y ne).2, r6 y ne, r7] at h1
        exact h1
      have skip : (∀ v g, ¬ Cc w t lf k any first c x v g) → ∃ (V' : sj_VV) (l' : Int), g_X9_goes_110 N k8 (g_X9_goes_22 N k8 m) b first any t lf k least c x V3 = k8 b first any t lf k l' ((c : Int) + 1) V' ∧ FR b V V' ∧ (∀ y, (y < 101 * c ∨ 101 * (c + 1) ≤ y) → V' (b + 6) y = V (b + 6) y ∧ V' (b + 7) y = V (b + 7) y) ∧ (∀ j, j ≠ c → V' (b + 8) j = V (b + 8) j) ∧ (∀ h, 0 ≤ h → h ≤ 100 → Mr (Qg w t lf k any first c h) (V' (b + 6) (pm c h))) ∧ (∀ h, 0 ≤ h → h < w (3 + c) → Mo (V' (b + 6) (pm c h) = 4000000000000000000) (Cc w t lf k any first c h) (V' (b + 6) (pm c h)) (V' (b + 7) (pm c h))) ∧ Mo (V' (b + 8) c = 4000000000000000000) (Cc w t lf k any first c (w (3 + c))) (V' (b + 8) c) (V' (b + 7) (pm c (w (3 + c)))) ∧ l' = min least (V' (b + 8) c) := fun no => on V3 FR.rf (fun _ _ => ⟨rfl, rfl⟩) rfl (Or.inl ⟨r6g, no⟩)
      have xi : sj_i32 x := ⟨by omega, by omega⟩
      have gi : sj_i32 (w (3 + c)) := ⟨by omega, by omega⟩
      have ri : sj_i32 (w (44 + c)) := ⟨by omega, by omega⟩
      have ci : sj_i32 (c : Int) := ⟨by omega, by omega⟩
      have fi : sj_i32 (first : Int) := ⟨by omega, by omega⟩
      have i1 : 0 ≤ 3 + (c : Int) := by omega
      have i2 : 3 + (c : Int) < ((390 : Nat) : Int) := by omega
      have i3 : 0 ≤ 44 + (c : Int) := by omega
      have i4 : 44 + (c : Int) < ((390 : Nat) : Int) := by omega
      have i5 : (44 + (c : Int)).toNat = 44 + c := by omega
      have c41 : c < 41 := by omega
      by_cases hcf : c = first
      · rw [k_eqT (by omega)]
        exact skip (fun v g y => by have := (Cc_b hB (by omega) ht hk y).2.2.2; omega)
      · have cne : (c : Int) ≠ first := by omega
        have come : w (44 + c) ≤ x ∧ x ≤ w (3 + c) → ∃ (V' : sj_VV) (l' : Int), g_X9_goes_97 N k8 (g_X9_goes_22 N k8 m) b first any t lf k least c x V3 = k8 b first any t lf k l' ((c : Int) + 1) V' ∧ FR b V V' ∧ (∀ y, (y < 101 * c ∨ 101 * (c + 1) ≤ y) → V' (b + 6) y = V (b + 6) y ∧ V' (b + 7) y = V (b + 7) y) ∧ (∀ j, j ≠ c → V' (b + 8) j = V (b + 8) j) ∧ (∀ h, 0 ≤ h → h ≤ 100 → Mr (Qg w t lf k any first c h) (V' (b + 6) (pm c h))) ∧ (∀ h, 0 ≤ h → h < w (3 + c) → Mo (V' (b + 6) (pm c h) = 4000000000000000000) (Cc w t lf k any first c h) (V' (b + 6) (pm c h)) (V' (b + 7) (pm c h))) ∧ Mo (V' (b + 8) c = 4000000000000000000) (Cc w t lf k any first c (w (3 + c))) (V' (b + 8) c) (V' (b + 7) (pm c (w (3 + c)))) ∧ l' = min least (V' (b + 8) c) := by
          intro hr
          unfold g_X9_goes_97
          obtain ⟨d, ed⟩ : ∃ d, c = d + 1 := ⟨c - 1, by omega⟩
          obtain ⟨V4, q1, q2, q3, q4, q5⟩ := comes_eq (N := N) (b := b) (V := V3) (any := any) (first := first) (d := d) (h := x) (t := t) (lf := lf) (k := k) hB hN (by omega) (by rw [← ed]; exact hr) ht hk hlf w3 (hQ3 d ed (by omega)) (by rw [← ed]; exact r6g)
          rw [← ed] at q3 q5
          have q1' : g_X9_comes N b c x t lf k V3 = some ((), V4) := by rw [show (c : Int) = (d : Int) + 1 by omega]; exact q1
          rw [q1', k_cs]
          refine on V4 q2 q3 q4 (q5.iff (fun v g => ⟨fun y => ⟨d, ed, by omega, y⟩, fun ⟨d', e1, _, y⟩ => ?_⟩))
          have : d' = d := by omega
          rw [this] at y
          exact y
        have no : ¬ (w (44 + c) ≤ x ∧ x ≤ w (3 + c)) → ∀ v g, ¬ Cc w t lf k any first c x v g := fun hn v g y => hn (Cc_b hB c41 ht hk y).2.1
        rw [k_eqF cne ci fi, k_ix i1 i2, eg, w3, k_ltc gi xi]
        by_cases h1 : w (3 + c) < x
        · rw [if_pos h1]
          exact skip (no (fun y => absurd y.2 (Int.not_le.mpr h1)))
        · rw [if_neg h1, k_ix i1 i2, k_lec gi xi]
          by_cases h2 : w (3 + c) ≤ x
          · rw [if_pos h2]
            exact come ⟨Int.le_trans b0.2.1 h2, Int.not_lt.mp h1⟩
          · rw [if_neg h2, k_ix i3 i4, i5, k_lec ri xi]
            by_cases h3 : w (44 + c) ≤ x
            · rw [if_pos h3]
              exact come ⟨h3, Int.not_lt.mp h1⟩
            · rw [if_neg h3]
              exact skip (no (fun y => h3 y.1))
/-- all that a going over the columns tells of a column -/
def Gc (V : sj_VV) (b : Nat) (w : sj_R) (t lf k any : Int) (first c : Nat) : Prop := (∀ h, 0 ≤ h → h < w (3 + c) → Mo (V (b + 6) (pm c h) = 4000000000000000000) (Cc w t lf k any first c h) (V (b + 6) (pm c h)) (V (b + 7) (pm c h))) ∧ Mo (V (b + 8) c = 4000000000000000000) (Cc w t lf k any first c (w (3 + c))) (V (b + 8) c) (V (b + 7) (pm c (w (3 + c))))
theorem goes_8 (hB : WB 500 200 1500 w) (hN : 1000 ≤ N) (ht : 0 ≤ t ∧ t ≤ 12) (hk : 0 ≤ k ∧ k ≤ 20001) (hlf : lf = 0 ∨ lf = 1) (hany : any = 0 ∨ any = 1) : ∀ (m c : Nat) (least : Int) (V : sj_VV), first ≤ c → (c : Int) ≤ w 0 + 1 → 42 - c < m → V (b + 1) = w → (∀ d, c = d + 1 → first < c → ∀ o, 0 ≤ o → o ≤ 100 → Mr (Qg w t lf k any first d o) (V (b + 6) (pm d o))) → (∀ c', first ≤ c' → c' < c → Gc V b w t lf k any first c') → Mr (fun v => ∃ c' g, c' < c ∧ Cc w t lf k any first c' (w (3 + c')) v g) least → ∃ (V' : sj_VV) (l' : Int), g_X9_goes_8 N m b first any t lf k least c V = some (l', V') ∧ FR b V V' ∧ (∀ c' : Nat, first ≤ c' → (c' : Int) ≤ w 0 → Gc V' b w t lf k any first c') ∧ Mr (fun v => ∃ (c' : Nat) (g : Int), (c' : Int) ≤ w 0 ∧ Cc w t lf k any first c' (w (3 + c')) v g) l'
  | 0, _, _, _, _, _, h', _, _, _, _ => absurd h' (by omega)
  | m + 1, c, least, V, c1, c2, c3, hw, hQ, hG, hl => by
    have n0 := hB.1
    unfold g_X9_goes_8 g_X9_goes_8_b
    rw [k_ix (by omega) (by omega), hw, show (0 : Int).toNat = 0 from rfl, k_ltc ⟨by omega, by omega⟩ ⟨by omega, by omega⟩]
    by_cases hx : w 0 < (c : Int)
    · rw [if_pos hx]
      refine ⟨V, least, rfl, FR.rf, fun c' a1 a2 => hG c' a1 (by omega), ?_⟩
      rcases hl with ⟨y1, y2⟩ | ⟨⟨c', g, y1, y2⟩, y3⟩
      · exact Or.inl ⟨y1, fun v ⟨c', g, z1, z2⟩ => y2 v ⟨c', g, by omega, z2⟩⟩
      · exact Or.inr ⟨⟨c', g, by omega, y2⟩, fun v ⟨c', g, z1, z2⟩ => y3 v ⟨c', g, by omega, z2⟩⟩
    · have lb : -4000000000000000000 ≤ least ∧ least ≤ 4000000000000000000 := by
        rcases hl with ⟨y1, _⟩ | ⟨⟨c', g, y1, y2⟩, _⟩
        · omega
        · have := (Cc_b hB (by omega) ht hk y2).1; omega
      rw [if_neg hx]
      obtain ⟨V2, l2, s1, s2, s3, s4, s5, s6, s7, s8⟩ := goes_22 (N := N) hB hN (c := c) (by omega) c1 ht hk hlf hany lb (k8 := g_X9_goes_8 N m) N 0 V (by omega) (by omega) (by omega) hw hQ (fun h a1 a2 => by omega)
      rw [s1, show ((c : Int) + 1) = ((c + 1 : Nat) : Int) by omega]
      obtain ⟨V3, l3, t1, t2, t3, t4⟩ := goes_8 hB hN ht hk hlf hany m (c + 1) l2 V2 (by omega) (by omega) (by omega) (s2.row1.trans hw) (fun d d1 d2 o o1 o2 => by
          have : d = c := by omega
          rw [this]
          exact s5 o o1 o2) (fun c' a1 a2 => by
          by_cases e : c' = c
          · rw [e]; exact ⟨s6, s7⟩
          · have b0 := (hB.2.2.2.1 c' (by omega)).1
            obtain ⟨y1, y2⟩ := hG c' a1 (by omega)
            have sm : ∀ h, 0 ≤ h → h ≤ 100 → V2 (b + 6) (pm c' h) = V (b + 6) (pm c' h) ∧ V2 (b + 7) (pm c' h) = V (b + 7) (pm c' h) := fun h z1 z2 => s3 _ (by unfold pm; omega)
            refine ⟨fun h z1 z2 => ?_, ?_⟩
            · rw [(sm h z1 (by omega)).1, (sm h z1 (by omega)).2]
              exact y1 h z1 z2
            · rw [(sm _ (by omega) (by omega)).2, s4 c' e]
              exact y2) (by
          rw [s8]
          rcases hl with ⟨y1, y2⟩ | ⟨⟨c', g, y1, y2⟩, y3⟩
          · rcases s7 with ⟨z1, z2⟩ | ⟨z1, z2, z3⟩
            · refine Or.inl ⟨by omega, fun v ⟨c', g, q1, q2⟩ => ?_⟩
              by_cases e : c' = c
              · rw [e] at q2; exact z2 v g q2
              · exact y2 v ⟨c', g, by omega, q2⟩
            · have zb := (Cc_b hB (by omega) ht hk z2).1
              rw [show min least (V2 (b + 8) c) = V2 (b + 8) c by omega]
              refine Or.inr ⟨⟨c, _, by omega, z2⟩, fun v ⟨c', g, q1, q2⟩ => ?_⟩
              by_cases e : c' = c
              · rw [e] at q2; have := z3 v g q2; omega
              · exact absurd ⟨c', g, by omega, q2⟩ (y2 v)
          · rcases s7 with ⟨z1, z2⟩ | ⟨z1, z2, z3⟩
            · rw [show min least (V2 (b + 8) c) = least by omega]
              refine Or.inr ⟨⟨c', g, by omega, y2⟩, fun v ⟨c'', g', q1, q2⟩ => ?_⟩
              by_cases e : c'' = c
              · rw [e] at q2; exact absurd q2 (z2 v g')
              · exact y3 v ⟨c'', g', by omega, q2⟩
            · have low : ∀ v, (∃ c' g, c' < c + 1 ∧ Cc w t lf k any first c' (w (3 + c')) v g) → min least (V2 (b + 8) c) ≤ v := fun v ⟨c'', g', q1, q2⟩ => by
                by_cases e : c'' = c
                · rw [e] at q2; have := z3 v g' q2; omega
                · have := y3 v ⟨c'', g', by omega, q2⟩; omega
              rcases (show min least (V2 (b + 8) c) = least ∨ min least (V2 (b + 8) c) = V2 (b + 8) c by omega) with e | e
              · rw [e] at low ⊢
                exact Or.inr ⟨⟨c', g, by omega, y2⟩, low⟩
              · rw [e] at low ⊢
                exact Or.inr ⟨⟨c, _, by omega, z2⟩, low⟩)
      exact ⟨V3, l3, t1, s2.tr t2, t3, t4⟩
theorem goes_eq (hB : WB 500 200 1500 w) (hN : 1000 ≤ N) (ht : 0 ≤ t ∧ t ≤ 12) (hk : 0 ≤ k ∧ k ≤ 20001) (hlf : lf = 0 ∨ lf = 1) (hany : any = 0 ∨ any = 1) (hf : (first : Int) ≤ w 0) (hw : V (b + 1) = w) : ∃ (V' : sj_VV) (l' : Int), g_X9_goes N b first any t lf k V = some (l', V') ∧ FR b V V' ∧ (∀ c' : Nat, first ≤ c' → (c' : Int) ≤ w 0 → Gc V' b w t lf k any first c') ∧ Mr (fun v => ∃ (c' : Nat) (g : Int), (c' : Int) ≤ w 0 ∧ Cc w t lf k any first c' (w (3 + c')) v g) l' := by
  have n0 := hB.1
  unfold g_X9_goes
  exact goes_8 hB hN ht hk hlf hany N first _ V (by omega) (by omega) (by omega) hw (fun d d1 d2 => by omega) (fun c' a1 a2 => by omega) (Or.inl ⟨rfl, fun v ⟨c', g, y1, d, _, y2, _⟩ => by omega⟩)
end Goes2
