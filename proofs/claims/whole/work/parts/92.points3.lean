section Points3
variable {V : sj_VV} {a b n f t N : Nat} {w : sj_R} {lf : Int}
theorem spH_b (h : PT w n) (hf : w 365 = (f : Nat)) (ht : w (365 + (n - 1)) = (t : Nat)) {c : Nat} (h1 : f ≤ c) (h2 : c ≤ t) : -20000 ≤ spH w c ∧ spH w c ≤ 20000 := by
  obtain ⟨p1, p2, p3, p4, p5⟩ := id h
  -- the segment of c
  have hs : ∃ i, i + 1 < n ∧ w (365 + i) ≤ c ∧ (c : Int) ≤ w (365 + (i + 1)) := by
    have key : ∀ k, k + 1 < n → (c : Int) ≤ w (365 + (k + 1)) → ∃ i, i + 1 < n ∧ w (365 + i) ≤ c ∧ (c : Int) ≤ w (365 + (i + 1)) := by
      intro k
      induction k with
      | zero => intro k1 k2; exact ⟨0, k1, by rw [Nat.add_zero]; omega, k2⟩
      | succ k ih =>
        intro k1 k2
        by_cases z : (c : Int) ≤ w (365 + (k + 1))
        · exact ih (by omega) z
        · exact ⟨k + 1, k1, by omega, k2⟩
    exact key (n - 2) (by omega) (by rw [show n - 2 + 1 = n - 1 by omega, ht]; omega)
  obtain ⟨i, i1, i2, i3⟩ := hs
  rw [spH_seg h i1 i2 i3]
  exact (sgH_b h i1 i2 i3).2.2
theorem m_pc67 (h : PT w n) (hB : WB 500 200 1500 w) (hf : w 365 = (f : Nat)) (ht : w (365 + (n - 1)) = (t : Nat)) (htn : (t : Int) ≤ w 0) (hN : 50 ≤ N) : ∀ (m i : Nat) (V : sj_VV), i + 1 ≤ n → n - (i + 1) < m → V (b + 1) = w → V b 13 = (f : Nat) → V b 14 = (t : Nat) → (∀ d : Nat, f ≤ d → (d : Int) ≤ w (365 + i) → i ≠ 0 → V (b + 5) d = spH w d) → ∃ V', g_X9_pointsCan_67 N m b n i V = some (if spAll (spPo w) (t - (f + 1)) (f + 1) = true then 1 else 0, V') ∧ (∀ z, z ≠ b + 5 → V' z = V z) ∧ ∀ d, f ≤ d → d ≤ t → V' (b + 5) d = spPB w f t d
  | 0, _, _, _, h, _, _, _, _ => absurd h (by omega)
  | m + 1, i, V, h1, h2, hw, h13, h14, hb => by
    obtain ⟨p1, p2, p3, p4, p5⟩ := id h
    obtain ⟨f1, f2, f3⟩ := h.ft
    have hn40 := hB.1
    unfold g_X9_pointsCan_67 g_X9_pointsCan_67_b
    by_cases hi : i + 1 = n
    · rw [k_leT (by omega) ⟨by omega, by omega⟩ ⟨by omega, by omega⟩, h13, k_ix (by omega) (by omega), k_ix (by omega) (by omega), k_lt, up_na _ _ _ _ (show b ≠ b + 5 by omega), h14, k_ix (by omega) (by omega), k_ix (by omega) (by omega), k_lt, tn0, tn0, hw, show (3 + (f : Int)).toNat = 3 + f by omega, show (3 + (t : Int)).toNat = 3 + t by omega, up_row _ _ _ (show b + 1 ≠ b + 5 by omega), hw, up_na _ _ _ _ (show b ≠ b + 5 by omega), up_na _ _ _ _ (show b ≠ b + 5 by omega), h13, k_lt]
      obtain ⟨V2, d2⟩ : ∃ V2, V2 = sj_up (sj_up V (b + 5) f (w (3 + f))) (b + 5) t (w (3 + t)) := ⟨_, rfl⟩
      rw [← d2]
      have u1 : ∀ z, z ≠ b + 5 → V2 z = V z := fun z hz => by rw [d2, up_row _ _ _ hz, up_row _ _ _ hz]
      have u2 : ∀ d, d ≠ f → d ≠ t → V2 (b + 5) d = V (b + 5) d := fun d q1 q2 => by rw [d2, up_nk _ _ _ q2, up_nk _ _ _ q1]
      have hlast : w (365 + i) = (t : Nat) := by rw [show i = n - 1 by omega]; exact ht
      have fin : ∀ d, f ≤ d → d ≤ t → V2 (b + 5) d = spPB w f t d := fun d q1 q2 => by
        unfold spPB
        by_cases z1 : d = f
        · subst z1; rw [if_pos (Or.inl rfl), d2, up_nk _ _ _ (by omega), up_ss]
        · by_cases z2 : d = t
          · subst z2; rw [if_pos (Or.inr rfl), d2, up_ss]
          · rw [if_neg (by omega), u2 d z1 z2]
            exact hb d q1 (by omega) (by omega)
      have e : g_X9_pointsCan_225 N N b ((f : Int) + 1) V2 = some (if spAll (spPo w) (t - (f + 1)) (f + 1) = true then 1 else 0, V2) := m_pc225 (N := N) (b := b) (V := V2) (f := f) (t := t) (bs := spH w) hB (by omega) N (f + 1) (by omega) (by omega) (by omega) (by rw [u1 _ (by omega)]; exact hw) (by rw [u1 _ (by omega)]; exact h14) (fun d q1 q2 => ⟨by rw [fin d (by omega) (by omega)]; unfold spPB; rw [if_neg (by omega)], spH_b h hf ht (by omega) (by omega)⟩)
      rw [e]
      exact ⟨V2, rfl, u1, fin⟩
    · have c1 := (p4 i (by omega)).1
      have c2 := (p4 (i + 1) (by omega)).1
      have c3 := p5 i (by omega)
      obtain ⟨p, hp⟩ : ∃ p : Nat, w (365 + i) = p := ⟨(w (365 + i)).toNat, by omega⟩
      obtain ⟨q, hq⟩ : ∃ q : Nat, w (365 + (i + 1)) = q := ⟨(w (365 + (i + 1))).toNat, by omega⟩
      have hfp : f ≤ p := by
        have m := h.mono i 0 (by omega)
        rw [Nat.add_zero, Nat.zero_add] at m
        omega
      obtain ⟨V2, r1, r2, r3⟩ := m_pc102 (N := N) (b := b) (f := f) h (by omega) (g_X9_pointsCan_67 N m) hf hp hq hfp N p V (by omega) (by omega) (by omega) hw (fun d d1 d2 => by
        by_cases z : i = 0
        · subst z
          rw [Nat.add_zero, hf] at hp
          omega
        · exact hb d d1 (by omega) z)
      obtain ⟨V3, s1, s2, s3⟩ := m_pc67 h hB hf ht htn hN m (i + 1) V2 (by omega) (by omega) (by rw [r2 _ (by omega)]; exact hw) (by rw [r2 _ (by omega)]; exact h13) (by rw [r2 _ (by omega)]; exact h14) (fun d d1 d2 _ => r3 d d1 (by omega))
      rw [k_leF (by omega) ⟨by omega, by omega⟩ ⟨by omega, by omega⟩, k_ix (by omega) (by omega), k_lt, k_ix (by omega) (by omega), k_lt, hw, show (365 + (i : Int)).toNat = 365 + i by omega, show (365 + (i : Int) + 1).toNat = 365 + (i + 1) by omega, hp, hq, r1]
      exact ⟨V3, s1, fun z hz => (s2 z hz).trans (r2 z hz), s3⟩
theorem m_pointsCan {V0 : sj_VV} {h : Nat} (hw : V (b + 1) = w) (hB : WB 500 200 1500 w) (hH : HE V0 h w) (hN : 50 ≤ N) : ∃ r V', g_X9_pointsCan N b V = some (r, V') ∧ (r = 0 ∨ r = 1) ∧ (r = 1 ↔ spPtOk w) ∧ Fc b V V' ∧ (spPtOk w → V' b 13 = ((w 365).toNat : Nat) ∧ V' b 14 = ((w (365 + ((w 364).toNat - 1))).toNat : Nat) ∧ ∀ d, (w 365).toNat ≤ d → d ≤ (w (365 + ((w 364).toNat - 1))).toNat → V' (b + 5) d = spPB w (w 365).toNat (w (365 + ((w 364).toNat - 1))).toNat d) := by
  obtain ⟨h1, h2, h3, h4, h5⟩ := id hH
  have hn := hB.1
  unfold g_X9_pointsCan
  rw [k_ix (by omega) (by omega), k_lt, hw, show (364 : Int).toNat = 364 from rfl]
  by_cases z1 : w 364 < 2
  · rw [k_ltT z1 ⟨by omega, by omega⟩ ⟨by omega, by omega⟩, k_zs (Or.inl rfl)]
    exact ⟨0, V, rfl, Or.inl rfl, ⟨fun q => by omega, fun q => by have := q.1; omega⟩, Fc.rf, fun q => by have := q.1; omega⟩
  · have hP := hH.pt (by omega)
    obtain ⟨n, hn2⟩ : ∃ n : Nat, w 364 = n := ⟨(w 364).toNat, by omega⟩
    rw [hn2] at hP ⊢
    rw [tn0] at hP ⊢
    obtain ⟨f1, f2, f3⟩ := hP.ft
    obtain ⟨p1, p2, p3, p4, p5⟩ := id hP
    rw [k_ltF (by omega) ⟨by omega, by omega⟩ ⟨by omega, by omega⟩, k_ix (by omega) (by omega), k_ix (by omega) (by omega), show (365 + (n : Int) - 1).toNat = 365 + (n - 1) by omega, show (0 : Int).toNat = 0 from rfl, k_lec ⟨by omega, by omega⟩ ⟨by omega, by omega⟩]
    by_cases z2 : w (365 + (n - 1)) ≤ w 0
    · obtain ⟨f, hf⟩ : ∃ f : Nat, w 365 = f := ⟨(w 365).toNat, by omega⟩
      obtain ⟨t, ht⟩ : ∃ t : Nat, w (365 + (n - 1)) = t := ⟨(w (365 + (n - 1))).toNat, by omega⟩
      rw [if_pos z2, k_ix (by omega) (by omega), k_lt, k_ix (by omega) (by omega), k_lt, show (365 : Int).toNat = 365 from rfl, up_row _ _ _ (by omega), hw, hf, ht, tn0, tn0]
      obtain ⟨V2, d2⟩ : ∃ V2, V2 = sj_up (sj_up V b 13 f) b 14 t := ⟨_, rfl⟩
      rw [← d2]
      have fc : Fc b V V2 := by rw [d2]; exact (Fc.rf.up (by omega) (by omega)).up (by omega) (by omega)
      have a13 : V2 b 13 = (f : Nat) := by rw [d2, up_nk _ _ _ (by omega), up_ss]
      have a14 : V2 b 14 = (t : Nat) := by rw [d2, up_ss]
      obtain ⟨V3, r1, r2, r3⟩ := m_pc67 (N := N) (b := b) hP hB hf ht (by omega) hN N 0 V2 (by omega) (by omega) (fc.w.trans hw) a13 a14 (fun d d1 d2 d3 => absurd rfl d3)
      have r1' : g_X9_pointsCan_67 N N b n 0 V2 = some (if spAll (spPo w) (t - (f + 1)) (f + 1) = true then 1 else 0, V3) := r1
      have iff : spPtOk w ↔ spAll (spPo w) (t - (f + 1)) (f + 1) = true := by
        unfold spPtOk
        rw [hn2, tn0, hf, ht, tn0, tn0]
        exact ⟨fun q => q.2.2, fun q => ⟨by omega, by omega, q⟩⟩
      rw [r1']
      refine ⟨_, V3, rfl, by split <;> simp, ?_, ⟨fun z z1 z2 => (r2 z z2).trans (fc.1 z z1 z2), fun j hj => by rw [r2 _ (by omega)]; exact fc.2 j hj⟩, fun _ => ⟨by rw [r2 _ (by omega)]; exact a13, by rw [r2 _ (by omega)]; exact a14, r3⟩⟩
      rw [iff]
      by_cases y : spAll (spPo w) (t - (f + 1)) (f + 1) = true
      · rw [if_pos y]; exact ⟨fun _ => y, fun _ => rfl⟩
      · rw [if_neg y]; exact ⟨fun q => absurd q (by omega), fun q => absurd q y⟩
    · rw [if_neg z2, k_zs (Or.inl rfl)]
      have no : ¬ spPtOk w := fun q => z2 (by have := q.2.1; rw [hn2, tn0] at this; exact this)
      exact ⟨0, V, rfl, Or.inl rfl, ⟨fun q => by omega, fun q => absurd q no⟩, Fc.rf, fun q => absurd q no⟩
theorem spPt_bb {V0 : sj_VV} {h : Nat} (hB : WB 500 200 1500 w) (hH : HE V0 h w) (hlf : lf = 0 ∨ lf = 1) (hok : spPtOk w) : BB (w 365).toNat (w (365 + ((w 364).toNat - 1))).toNat lf (spPB w (w 365).toNat (w (365 + ((w 364).toNat - 1))).toNat) ∧ ((w (365 + ((w 364).toNat - 1))).toNat : Int) ≤ w 0 := by
  obtain ⟨o1, o2, o3⟩ := hok
  have hP := hH.pt o1
  obtain ⟨f1, f2, f3⟩ := hP.ft
  have hn := hB.1
  refine ⟨⟨by omega, by omega, hlf, fun c c1 c2 => ?_⟩, by omega⟩
  have hcol := (hB.2.2.2.1 c (by omega)).1
  unfold spPB
  by_cases z : c = (w 365).toNat ∨ c = (w (365 + ((w 364).toNat - 1))).toNat
  · rw [if_pos z]; omega
  · rw [if_neg z]
    have := spAll_T _ _ o3 c (by omega) (by omega)
    unfold spPo at this
    simp only [decide_eq_true_eq] at this
    omega
theorem s_points (hI : INV V a b) (hab : b = a + 189) (hlf : lf = 0 ∨ lf = 1) (hN : 1000 ≤ N) : ST a b (g_X8_points N a lf) (g_X9_points N b lf) V := by
  have hR := hI.1
  have hH := hI.2.1
  unfold ST g_X8_points g_X9_points
  obtain ⟨r, V1, r1, r2, r3, r4, r5⟩ := c_follow (N := N) hR hH hlf (by omega)
  rw [r1, k_cs]
  have w1 : V1 (b + 1) = V (b + 1) := r4 _ (by omega)
  have f1 : Kc a V V1 := ⟨fun z z1 z2 z3 => r4 z (by omega), TL.of (r4 _ (by omega))⟩
  by_cases hok : spPtOk (V (b + 1))
  · obtain ⟨hb, ht⟩ := spPt_bb hR.1 hH hlf hok
    obtain ⟨V2, s1, s2, s3⟩ := takeTrial_eq (N := N) (a := a) (r5 hok) hb
    have e1 : r = 1 := r3.mpr hok
    have w2 : V2 (b + 1) = V (b + 1) := (s2 _ (by omega)).trans w1
    have f2 : Kt a V V2 := fun z z1 z2 z3 => (s2 z (by omega)).trans (r4 z (by omega))
    obtain ⟨q, V3, t1, t2, t3, t4, t5⟩ := m_pointsCan (N := N) (b := b) w2 hR.1 hH (by omega)
    have e2 : q = 1 := t3.mpr hok
    obtain ⟨y1, y2, y3⟩ := t5 hok
    have hS : SM (sj_up V3 b 15 lf) b (V (b + 1) 365).toNat (V (b + 1) (365 + ((V (b + 1) 364).toNat - 1))).toNat lf (spPB (V (b + 1)) (V (b + 1) 365).toNat (V (b + 1) (365 + ((V (b + 1) 364).toNat - 1))).toNat) := ⟨by rw [up_nk _ _ _ (by omega)]; exact y1, by rw [up_nk _ _ _ (by omega)]; exact y2, up_ss _ _ _ _, fun c c1 c2 => by rw [up_row _ _ _ (by omega)]; exact y3 c c1 c2⟩
    obtain ⟨V4, u1, u2, u3⟩ := m_keepsSlip (N := N) hS hb (by omega)
    have t6 : Fc b V2 (sj_up V3 b 15 lf) := t4.up (by omega) (by omega)
    have w3 : sj_up V3 b 15 lf (b + 1) = V (b + 1) := t6.w.trans w2
    rw [w3] at u3
    have hC4 : CG V4 (a + 1) (V (b + 1)) := by
      have q : RG V1 (a + 1) (V (b + 1)) := hR.eq (fun z z1 z2 => r4 z (by omega))
      have q2 : CG V2 (a + 1) (V (b + 1)) := q.2.2.1.fr s2 (by omega)
      exact q2.fr (lo := b) (hi := b + 6) (fun z hz => (u2 z (by omega)).trans (t6.1 z (by omega) (by omega))) (by omega)
    have hS4 : SL V4 (a + 1 + 12) (V (b + 1) 365).toNat (V (b + 1) (365 + ((V (b + 1) 364).toNat - 1))).toNat lf (spPB (V (b + 1)) (V (b + 1) 365).toNat (V (b + 1) (365 + ((V (b + 1) 364).toNat - 1))).toNat) := s3.fr (lo := b) (hi := b + 6) (fun z hz => (u2 z (by omega)).trans (t6.1 z (by omega) (by omega))) (by omega)
    rw [e1, k_eqF (by omega) ⟨by omega, by omega⟩ ⟨by omega, by omega⟩, s1, k_cs]
    refine ⟨_, V2, V4, rfl, ?_, ?_⟩
    · rw [t1, k_cs, e2, k_eqF (by omega) ⟨by omega, by omega⟩ ⟨by omega, by omega⟩, k_zz hlf, k_lt, u1, k_cs]
    · exact hI.now hab f2 ((Km.fc t6).n.tr (Kn.r1 u2)) (RG.ks hR.1 hC4 hS4 u3 hb ht) (fun j j1 j2 => u3.1 j (by omega))
  · have e1 : r = 0 := by
      rcases r2 with z | z
      · exact z
      · exact absurd (r3.mp z) hok
    obtain ⟨q, V3, t1, t2, t3, t4, t5⟩ := m_pointsCan (N := N) (b := b) w1 hR.1 hH (by omega)
    have e2 : q = 0 := by
      rcases t2 with z | z
      · exact z
      · exact absurd (t3.mp z) hok
    rw [e1, k_eqT rfl]
    refine ⟨_, V1, V3, rfl, ?_, hI.ask hab f1 (Km.fc t4)⟩
    rw [t1, k_cs, e2, k_eqT rfl]
end Points3
