/-! calls that change what is told -/
section Gen
variable {V V' V1 V2 : sj_VV} {a b ga f t : Nat} {w w' : sj_R} {lf x y r : Int} {bs : Nat → Int} {N : Nat}
theorem INV.gen (hI : INV V a b) (hR : RG V2 (a + 1) (V2 (b + 1))) (hw : ∀ j, 364 ≤ j → j < 390 → V2 (b + 1) j = V (b + 1) j) (hU : UN V2 a b) (e1 : ∀ z, a + 29 ≤ z → z < a + 54 → V2 z = V z) (e2 : V2 a 12 = V a 12) (e3 : ∀ j, (j = 5 ∨ 22 ≤ j) → V2 b j = V b j) (e4 : V2 (b + 3) = V (b + 3)) (e5 : V2 (b + 9) = V (b + 9)) (e6 : V2 (b + 10) = V (b + 10)) (e7 : V2 (a + 15 + 12) = V (a + 15 + 12)) : INV V2 a b := by
  obtain ⟨h1, h2, h3, h4, h5, h6⟩ := hI
  exact ⟨hR, h2.eq (fun z z1 z2 => e1 z (by omega) (by omega)) hw, hU, h4.eq e2 (e3 5 (by omega)) e4 (fun z z1 z2 => e1 z (by omega) (by omega)) (fun z z1 z2 => e1 z (by omega) (by omega)) (TL.of e7), h5.eq (e1 _ (by omega) (by omega)) (e1 _ (by omega) (by omega)) (fun j j1 j2 => e3 j (by omega)) e6, h6.eq (e1 _ (by omega) (by omega)) (e1 _ (by omega) (by omega)) (e3 26 (by omega)) e5⟩
/-- what a telling may touch in the class -/
def Kt (a : Nat) (V V' : sj_VV) : Prop := ∀ z, (z < a + 1 ∨ a + 15 ≤ z) → (z < a + 54 ∨ a + 77 ≤ z) → z < a + 201 → V' z = V z
/-- and in the reference -/
def Kn (b : Nat) (V V' : sj_VV) : Prop := (∀ z, z ≠ b → z ≠ b + 1 → z ≠ b + 2 → z ≠ b + 5 → (z < b + 6 ∨ b + 9 ≤ z) → V' z = V z) ∧ ∀ j, (j < 6 ∨ 22 ≤ j) → V' b j = V b j
theorem Km.n (h : Km b V V') : Kn b V V' := ⟨fun z z1 _ z3 z4 z5 => h.1 z z1 z3 z4 z5, h.2⟩
theorem Kn.tr (h : Kn b V V1) (h2 : Kn b V1 V2) : Kn b V V2 := ⟨fun z z1 z2 z3 z4 z5 => (h2.1 z z1 z2 z3 z4 z5).trans (h.1 z z1 z2 z3 z4 z5), fun j hj => (h2.2 j hj).trans (h.2 j hj)⟩
theorem Kn.r1 (h : ∀ z, z ≠ b + 1 → V' z = V z) : Kn b V V' := ⟨fun z _ z2 _ _ _ => h z z2, fun j _ => by rw [h b (by omega)]⟩
theorem Kt.tr (h : Kt a V V1) (h2 : Kt a V1 V2) : Kt a V V2 := fun z z1 z2 z3 => (h2 z z1 z2 z3).trans (h z z1 z2 z3)
theorem INV.now (hI : INV V a b) (hab : b = a + 189) (f1 : Kt a V V1) (f2 : Kn b V1 V2) (hR : RG V2 (a + 1) (V2 (b + 1))) (hw : ∀ j, 364 ≤ j → j < 390 → V2 (b + 1) j = V (b + 1) j) : INV V2 a b := by
  subst hab
  have e : ∀ z, (z < a + 1 ∨ a + 15 ≤ z) → (z < a + 54 ∨ a + 77 ≤ z) → z < a + 201 → z ≠ a + 189 → z ≠ a + 190 → z ≠ a + 191 → (z < a + 194 ∨ a + 198 ≤ z) → V2 z = V z := fun z z1 z2 z3 z4 z5 z6 z7 => (f2.1 z z4 (by omega) (by omega) (by omega) (by omega)).trans (f1 z z1 z2 z3)
  have ej : ∀ j, (j < 6 ∨ 22 ≤ j) → V2 (a + 189) j = V (a + 189) j := fun j hj => by rw [f2.2 j hj, f1 _ (by omega) (by omega) (by omega)]
  have ea : V2 a = V a := e _ (by omega) (by omega) (by omega) (by omega) (by omega) (by omega) (by omega)
  refine hI.gen hR hw ?_ (fun z z1 z2 => e z (by omega) (by omega) (by omega) (by omega) (by omega) (by omega) (by omega)) (by rw [ea]) (fun j hj => ej j (by omega)) (e _ (by omega) (by omega) (by omega) (by omega) (by omega) (by omega) (by omega)) (e _ (by omega) (by omega) (by omega) (by omega) (by omega) (by omega) (by omega)) (e _ (by omega) (by omega) (by omega) (by omega) (by omega) (by omega) (by omega)) (e _ (by omega) (by omega) (by omega) (by omega) (by omega) (by omega) (by omega))
  exact hI.2.2.1.eq (by rw [ea]) (by rw [ea]) (ej 4 (by omega)) (e _ (by omega) (by omega) (by omega) (by omega) (by omega) (by omega) (by omega)) (fun z z1 z2 => e z (by omega) (by omega) (by omega) (by omega) (by omega) (by omega) (by omega))
/-- a slip is told -/
def KS (w w' : sj_R) (f t : Nat) (lf : Int) (bs : Nat → Int) : Prop := (∀ j, (j < 320 ∨ 364 ≤ j) → w' j = w j) ∧ (w' 320 = f ∧ w' 321 = t ∧ w' 322 = lf) ∧ ∀ c, f ≤ c → c ≤ t → w' (323 + c) = bs c
theorem RG.ks (hB : WB 500 200 1500 w) (hC : CG V' ga w) (hS : SL V' (ga + 12) f t lf bs) (hk : KS w w' f t lf bs) (hb : BB f t lf bs) (ht : (t : Int) ≤ w 0) : RG V' ga w' := by
  obtain ⟨k1, ⟨k2, k3, k4⟩, k5⟩ := hk
  have he : ∀ j, j < 320 → w' j = w j := fun j hj => k1 j (by omega)
  have ef : wf w' = f := by unfold wf; rw [k2]; rfl
  have et : wt w' = t := by unfold wt; rw [k3]; rfl
  obtain ⟨b1, b2, b3, b4⟩ := hb
  refine ⟨hB.row he, ⟨by rw [k4]; exact b3, Or.inr ⟨by omega, by omega, by rw [he 0 (by omega)]; omega, ?_⟩⟩, hC.row he, ⟨by rw [hS.2.2.1]; exact b3, fun z => by omega, fun _ => ?_⟩⟩
  · rw [ef, et, k4]
    exact ⟨b1, b2, b3, fun c c1 c2 => by show 0 ≤ w' (323 + c) ∧ w' (323 + c) ≤ 100; rw [k5 c c1 c2]; exact b4 c c1 c2⟩
  · rw [ef, et, k4]
    exact ⟨hS.1, hS.2.1, hS.2.2.1, fun c c1 c2 => by rw [hS.2.2.2 c c1 c2]; exact (k5 c c1 c2).symm⟩
theorem m_keep_loop : ∀ (m c : Nat) (V : sj_VV), c ≤ 41 → 41 - c < m → (∀ d, d < c → V (a + 1) (323 + d) = V (a + 5) d) → ∃ V', g_X9_keepsSlip_46 N m a c V = some (V a 14 - V a 13, V') ∧ (∀ z, z ≠ a + 1 → V' z = V z) ∧ (∀ d, d < 41 → V' (a + 1) (323 + d) = V (a + 5) d) ∧ ∀ j, (j < 323 ∨ 364 ≤ j) → V' (a + 1) j = V (a + 1) j
  | 0, _, _, _, h, _ => absurd h (by omega)
  | m + 1, c, V, h1, h2, hb => by
    unfold g_X9_keepsSlip_46 g_X9_keepsSlip_46_b
    by_cases hc : c = 41
    · subst hc
      rw [k_leT (by omega) ⟨by omega, by omega⟩ ⟨by omega, by omega⟩]
      exact ⟨V, rfl, fun _ _ => rfl, hb, fun _ _ => rfl⟩
    · rw [k_leF (by omega) ⟨by omega, by omega⟩ ⟨by omega, by omega⟩, k_ix (by omega) (by omega), k_ix (by omega) (by omega), k_lt, k_lt, tn0, show (323 + (c : Int)).toNat = 323 + c by omega]
      have u : ∀ z, z ≠ a + 1 → sj_up V (a + 1) (323 + c) (V (a + 5) c) z = V z := fun z hz => up_row _ _ _ hz
      obtain ⟨V2, r1, r2, r3, r4⟩ := m_keep_loop m (c + 1) (sj_up V (a + 1) (323 + c) (V (a + 5) c)) (by omega) (by omega) (fun d hd => by
        rw [u (a + 5) (by omega)]
        by_cases z : d = c
        · subst z; rw [up_ss]
        · rw [up_nk _ _ _ (by omega)]; exact hb d (by omega))
      rw [u a (by omega)] at r1
      exact ⟨V2, r1, fun z hz => (r2 z hz).trans (u z hz), fun d hd => by rw [r3 d hd, u _ (by omega)], fun j hj => by rw [r4 j hj, up_nk _ _ _ (by omega)]⟩
theorem m_keepsSlip (hS : SM V a f t lf bs) (hb : BB f t lf bs) (hN : 50 ≤ N) : ∃ V', g_X9_keepsSlip N a V = some ((t : Int) - f, V') ∧ (∀ z, z ≠ a + 1 → V' z = V z) ∧ KS (V (a + 1)) (V' (a + 1)) f t lf bs := by
  obtain ⟨s1, s2, s3, s4⟩ := hS
  obtain ⟨b1, b2, b3, b4⟩ := hb
  unfold g_X9_keepsSlip
  rw [k_ix (by omega) (by omega), k_lt, k_ix (by omega) (by omega), k_lt, show (320 : Int).toNat = 320 from rfl, show (321 : Int).toNat = 321 from rfl, up_na _ _ _ _ (show a ≠ a + 1 by omega), s1, up_na _ _ _ _ (show a ≠ a + 1 by omega), s3, up_na _ _ _ _ (show a ≠ a + 1 by omega), s2]
  obtain ⟨V2, e⟩ : ∃ V2, V2 = sj_up (sj_up V (a + 1) 320 f) (a + 1) 321 t := ⟨_, rfl⟩
  have u : ∀ z, z ≠ a + 1 → V2 z = V z := fun z hz => by rw [e, up_row _ _ _ hz, up_row _ _ _ hz]
  have key : ∃ V', g_X9_keepsSlip_43 N a lf 322 (a + 1) 390 V2 = some ((t : Int) - f, V') ∧ (∀ z, z ≠ a + 1 → V' z = V z) ∧ KS (V (a + 1)) (V' (a + 1)) f t lf bs := by
    unfold g_X9_keepsSlip_43
    rw [k_ix (by omega) (by omega), k_lt, show (322 : Int).toNat = 322 from rfl]
    obtain ⟨V3, e3⟩ : ∃ V3, V3 = sj_up V2 (a + 1) 322 lf := ⟨_, rfl⟩
    have u3 : ∀ z, z ≠ a + 1 → V3 z = V z := fun z hz => by rw [e3, up_row _ _ _ hz, u z hz]
    rw [← e3]
    obtain ⟨V4, r1, r2, r3, r4⟩ := m_keep_loop (N := N) (a := a) N 0 V3 (by omega) (by omega) (fun d hd => by omega)
    rw [u3 a (by omega), s1, s2] at r1
    refine ⟨V4, r1, fun z hz => (r2 z hz).trans (u3 z hz), fun j hj => ?_, ⟨?_, ?_, ?_⟩, fun c c1 c2 => ?_⟩
    · rw [r4 j (by omega), e3, up_nk _ _ _ (by omega), e, up_nk _ _ _ (by omega), up_nk _ _ _ (by omega)]
    · rw [r4 _ (by omega), e3, up_nk _ _ _ (by omega), e, up_nk _ _ _ (by omega), up_ss]
    · rw [r4 _ (by omega), e3, up_nk _ _ _ (by omega), e, up_ss]
    · rw [r4 _ (by omega), e3, up_ss]
    · rw [r3 c (by omega), u3 _ (by omega)]; exact s4 c c1 c2
  rw [← e]
  rcases b3 with z | z
  · rw [k_eqT z]; rw [z] at key ⊢; exact key
  · rw [k_eqF (by omega) ⟨by omega, by omega⟩ ⟨by omega, by omega⟩]; rw [z] at key ⊢; exact key
/-- the class takes its trial as the slip -/
theorem takeTrial_eq (hS : SL V (a + 75) f t lf bs) (hb : BB f t lf bs) : ∃ V', g_X8_takeTrial N a V = some ((t : Int) - f, V') ∧ Fr (a + 13) (a + 15) V V' ∧ SL V' (a + 1 + 12) f t lf bs := by
  unfold g_X8_takeTrial
  obtain ⟨V2, r1, r2, ⟨r3, r4, r5⟩, r6⟩ := slcopy_eq (N := N) (V := V) (sa := a + 1 + 12) (sb := a + 75) (by omega) (by rw [hS.2.2.1]; exact hb.2.2.1)
  have h2 : SL V2 (a + 1 + 12) f t lf bs := ⟨r3.trans hS.1, r4.trans hS.2.1, r5.trans hS.2.2.1, fun c c1 c2 => (r6 c (by have := hb.2.1; omega)).trans (hS.2.2.2 c c1 c2)⟩
  rw [r1, k_cs, count_eq h2, k_cs]
  exact ⟨V2, rfl, r2.wide (by omega) (by omega), h2⟩
theorem s_circle (hI : INV V a b) (hab : b = a + 189) (h1 : sj_i32 x) (h2 : sj_i32 y) (h3 : sj_i32 r) (hlf : lf = 0 ∨ lf = 1) (hN : 1000 ≤ N) : ST a b (g_X8_circle N a x y r lf) (g_X9_circle N b x y r lf) V := by
  have hR := hI.1
  unfold ST g_X8_circle g_X9_circle
  rw [isCircle_eq h1 h2 h3, k_cs]
  by_cases hci : spCirc x y r
  · obtain ⟨V1, r1, r2, r3⟩ := cut_eq (N := N) (a := a + 75) (ga := a + 1) (lf := lf) (by omega) hR.2.2.1 hR.1 hci hlf hN
    rw [if_pos hci, k_eqF (by omega) ⟨by omega, by omega⟩ ⟨by omega, by omega⟩, r1, k_cs]
    have w1 : V1 (b + 1) = V (b + 1) := r2 _ (by omega)
    have f1 : Kc a V V1 := ⟨fun z z1 z2 z3 => r2 z (by omega), TL.of (r2 _ (by omega))⟩
    by_cases hok : spOk (V (b + 1)) x y r
    · obtain ⟨hb, ht, _⟩ := spOk_b hR.1 hci hlf hok
      obtain ⟨V2, s1, s2, s3⟩ := takeTrial_eq (N := N) (a := a) (r3 hok) hb
      have w2 : V2 (b + 1) = V (b + 1) := (s2 _ (by omega)).trans w1
      have f2 : Kt a V V2 := fun z z1 z2 z3 => (s2 z (by omega)).trans (r2 z (by omega))
      obtain ⟨V3, t1, t2, t3⟩ := m_cuts (N := N) (a := b) (lf := lf) w2 hR.1 hci hlf hN
      obtain ⟨V4, u1, u2, u3⟩ := m_keepsSlip (N := N) (t3 hok) hb (by omega)
      have w3 : V3 (b + 1) = V (b + 1) := t2.w.trans w2
      rw [w3] at u3
      have n0 := hR.1.1
      have hC4 : CG V4 (a + 1) (V (b + 1)) := by
        have q : RG V1 (a + 1) (V (b + 1)) := hR.eq (fun z z1 z2 => r2 z (by omega))
        have q2 : CG V2 (a + 1) (V (b + 1)) := q.2.2.1.fr s2 (by omega)
        exact q2.fr (lo := b) (hi := b + 6) (fun z hz => (u2 z (by omega)).trans (t2.1 z (by omega) (by omega))) (by omega)
      have hS4 : SL V4 (a + 1 + 12) (spFrom (V (b + 1)) x y r) (spTo (V (b + 1)) x y r) lf (spBs (V (b + 1)) x y r) := s3.fr (lo := b) (hi := b + 6) (fun z hz => (u2 z (by omega)).trans (t2.1 z (by omega) (by omega))) (by omega)
      rw [if_pos hok, k_eqF (by omega) ⟨by omega, by omega⟩ ⟨by omega, by omega⟩, s1, k_cs]
      refine ⟨_, V2, V4, rfl, ?_, ?_⟩
      · rw [m_isCircle h1 h2 h3, k_cs, if_pos hci, k_eqF (by omega) ⟨by omega, by omega⟩ ⟨by omega, by omega⟩, t1, k_cs, if_pos hok, k_eqF (by omega) ⟨by omega, by omega⟩ ⟨by omega, by omega⟩, u1, k_cs]
      · exact hI.now hab f2 ((Km.fc t2).n.tr (Kn.r1 u2)) (RG.ks hR.1 hC4 hS4 u3 hb (by omega)) (fun j j1 j2 => u3.1 j (by omega))
    · obtain ⟨V3, t1, t2, t3⟩ := m_cuts (N := N) (a := b) (lf := lf) w1 hR.1 hci hlf hN
      rw [if_neg hok, k_eqT rfl]
      refine ⟨_, V1, V3, rfl, ?_, hI.ask hab f1 (Km.fc t2)⟩
      rw [m_isCircle h1 h2 h3, k_cs, if_pos hci, k_eqF (by omega) ⟨by omega, by omega⟩ ⟨by omega, by omega⟩, t1, k_cs, if_neg hok, k_eqT rfl]
  · rw [if_neg hci, k_eqT rfl]
    refine ⟨_, V, V, rfl, ?_, hI⟩
    rw [m_isCircle h1 h2 h3, k_cs, if_neg hci, k_eqT rfl]
end Gen
