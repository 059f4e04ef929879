/-! MIRROR -/
def rv (n c : Nat) : Nat := if c ≤ n then n - c else c
theorem rv_lt {n c : Nat} (hn : n ≤ 40) (hc : c < 41) : rv n c < 41 := by unfold rv; split <;> omega
theorem rv_in {n c : Nat} (hc : c ≤ n) : rv n c = n - c := if_pos hc
section Mirror
variable {V V' V1 : sj_VV} {a b ga x n p n1 N : Nat} {w w' : sj_R}
theorem turnRow_loop {R : Nat → Int} (hp : p + n < n1) (hn1 : n1 ≤ 123) (hx : ga ≠ x) : ∀ (m c : Nat) (V : sj_VV), n < c + m → 2 * c ≤ n + 1 → V ga 0 = (n : Nat) → (∀ d, d < c → V x (p + d) = R (p + (n - d)) ∧ V x (p + (n - d)) = R (p + d)) → (∀ d, c ≤ d → d + c ≤ n → V x (p + d) = R (p + d)) → (∀ j, (j < p ∨ p + n < j) → V x j = R j) → ∃ V', g_X0_turnRow_2 N m ga x n1 p c V = some ((), V') ∧ (∀ z, z ≠ x → V' z = V z) ∧ (∀ d, d ≤ n → V' x (p + d) = R (p + (n - d))) ∧ ∀ j, (j < p ∨ p + n < j) → V' x j = R j
  | 0, c, _, h, h2, _, _, _, _ => by omega
  | m + 1, c, V, h1, h2, h0, hb, hm, ho => by
    unfold g_X0_turnRow_2 g_X0_turnRow_2_b
    rw [h0]
    by_cases hc : n ≤ 2 * c
    · rw [k_leT (by omega) ⟨by omega, by omega⟩ ⟨by omega, by omega⟩]
      refine ⟨V, rfl, fun _ _ => rfl, fun d hd => ?_, ho⟩
      by_cases z1 : d < c
      · exact (hb d z1).1
      · by_cases z2 : n - d < c
        · have := (hb (n - d) z2).2
          rw [show n - (n - d) = d by omega] at this
          exact this
        · rw [hm d (by omega) (by omega), show n - d = d by omega]
    · rw [k_leF (by omega) ⟨by omega, by omega⟩ ⟨by omega, by omega⟩, k_ix (by omega) (by omega), k_lt, k_ix (by omega) (by omega), k_ix (by omega) (by omega), k_lt, up_na _ _ _ _ hx, h0, k_ix (by omega) (by omega), k_lt, k_lt, show ((p : Int) + (c : Int)).toNat = p + c by omega, show ((p : Int) + (n : Int) - (c : Int)).toNat = p + (n - c) by omega]
      have e1 : V x (p + c) = R (p + c) := hm c (by omega) (by omega)
      have e2 : V x (p + (n - c)) = R (p + (n - c)) := hm (n - c) (by omega) (by omega)
      rw [e1, e2]
      obtain ⟨V2, d2⟩ : ∃ V2, V2 = sj_up (sj_up V x (p + c) (R (p + (n - c)))) x (p + (n - c)) (R (p + c)) := ⟨_, rfl⟩
      rw [← d2]
      have q1 : ∀ z, z ≠ x → V2 z = V z := fun z hz => by rw [d2, up_row _ _ _ hz, up_row _ _ _ hz]
      have q2 : ∀ j, j ≠ p + c → j ≠ p + (n - c) → V2 x j = V x j := fun j j1 j2 => by rw [d2, up_nk _ _ _ j2, up_nk _ _ _ j1]
      have q3 : V2 x (p + c) = R (p + (n - c)) := by rw [d2, up_nk _ _ _ (by omega), up_ss]
      have q4 : V2 x (p + (n - c)) = R (p + c) := by rw [d2, up_ss]
      obtain ⟨V3, r1, r2, r3, r4⟩ := turnRow_loop (R := R) hp hn1 hx m (c + 1) V2 (by omega) (by omega) (by rw [q1 _ hx]; exact h0) (fun d hd => by
        by_cases z : d = c
        · subst z; exact ⟨q3, q4⟩
        · rw [q2 _ (by omega) (by omega), q2 _ (by omega) (by omega)]; exact hb d (by omega)) (fun d d1 d2 => by rw [q2 _ (by omega) (by omega)]; exact hm d (by omega) (by omega)) (fun j hj => by rw [q2 _ (by omega) (by omega)]; exact ho j hj)
      exact ⟨V3, r1, fun z hz => (r2 z hz).trans (q1 z hz), r3, r4⟩
theorem turnRow_eq (h0 : V ga 0 = (n : Nat)) (hn : n ≤ 40) (hp : p + 40 < n1) (hn1 : n1 ≤ 123) (hx : ga ≠ x) (hN : 50 ≤ N) : ∃ V', g_X0_turnRow N ga x n1 p V = some ((), V') ∧ (∀ z, z ≠ x → V' z = V z) ∧ (∀ c, c < 41 → V' x (p + c) = V x (p + rv n c)) ∧ ∀ j, (j < p ∨ p + 41 ≤ j) → V' x j = V x j := by
  unfold g_X0_turnRow
  obtain ⟨V2, r1, r2, r3, r4⟩ := turnRow_loop (N := N) (R := V x) (ga := ga) (n := n) (p := p) (n1 := n1) (by omega) hn1 hx N 0 V (by omega) (by omega) h0 (fun d hd => by omega) (fun _ _ _ => rfl) (fun _ _ => rfl)
  refine ⟨V2, r1, r2, fun c hc => ?_, fun j hj => r4 j (by omega)⟩
  by_cases z : c ≤ n
  · rw [rv_in z]; exact r3 c z
  · rw [show rv n c = c from if_neg z]; exact r4 _ (by omega)
theorem m_turn_loop {R : Nat → Int} (hp : p + n < 390) : ∀ (m c : Nat) (V : sj_VV), n < c + m → 2 * c ≤ n + 1 → (∀ d, d < c → V (b + 1) (p + d) = R (p + (n - d)) ∧ V (b + 1) (p + (n - d)) = R (p + d)) → (∀ d, c ≤ d → d + c ≤ n → V (b + 1) (p + d) = R (p + d)) → (∀ j, (j < p ∨ p + n < j) → V (b + 1) j = R j) → ∃ V', g_X9_turnsRound_9 N m b p n c V = some ((), V') ∧ (∀ z, z ≠ b + 1 → V' z = V z) ∧ (∀ d, d ≤ n → V' (b + 1) (p + d) = R (p + (n - d))) ∧ ∀ j, (j < p ∨ p + n < j) → V' (b + 1) j = R j
  | 0, c, _, h, h2, _, _, _ => by omega
  | m + 1, c, V, h1, h2, hb, hm, ho => by
    unfold g_X9_turnsRound_9 g_X9_turnsRound_9_b
    by_cases hc : n ≤ 2 * c
    · rw [k_leT (by omega) ⟨by omega, by omega⟩ ⟨by omega, by omega⟩]
      refine ⟨V, rfl, fun _ _ => rfl, fun d hd => ?_, ho⟩
      by_cases z1 : d < c
      · exact (hb d z1).1
      · by_cases z2 : n - d < c
        · have := (hb (n - d) z2).2
          rw [show n - (n - d) = d by omega] at this
          exact this
        · rw [hm d (by omega) (by omega), show n - d = d by omega]
    · rw [k_leF (by omega) ⟨by omega, by omega⟩ ⟨by omega, by omega⟩, k_ix (by omega) (by omega), k_lt, k_ix (by omega) (by omega), k_ix (by omega) (by omega), k_lt, k_ix (by omega) (by omega), k_lt, k_lt, show ((p : Int) + (c : Int)).toNat = p + c by omega, show ((p : Int) + (n : Int) - (c : Int)).toNat = p + (n - c) by omega]
      have e1 : V (b + 1) (p + c) = R (p + c) := hm c (by omega) (by omega)
      have e2 : V (b + 1) (p + (n - c)) = R (p + (n - c)) := hm (n - c) (by omega) (by omega)
      rw [e1, e2]
      obtain ⟨V2, d2⟩ : ∃ V2, V2 = sj_up (sj_up V (b + 1) (p + c) (R (p + (n - c)))) (b + 1) (p + (n - c)) (R (p + c)) := ⟨_, rfl⟩
      rw [← d2]
      have q1 : ∀ z, z ≠ b + 1 → V2 z = V z := fun z hz => by rw [d2, up_row _ _ _ hz, up_row _ _ _ hz]
      have q2 : ∀ j, j ≠ p + c → j ≠ p + (n - c) → V2 (b + 1) j = V (b + 1) j := fun j j1 j2 => by rw [d2, up_nk _ _ _ j2, up_nk _ _ _ j1]
      have q3 : V2 (b + 1) (p + c) = R (p + (n - c)) := by rw [d2, up_nk _ _ _ (by omega), up_ss]
      have q4 : V2 (b + 1) (p + (n - c)) = R (p + c) := by rw [d2, up_ss]
      obtain ⟨V3, r1, r2, r3, r4⟩ := m_turn_loop (R := R) hp m (c + 1) V2 (by omega) (by omega) (fun d hd => by
        by_cases z : d = c
        · subst z; exact ⟨q3, q4⟩
        · rw [q2 _ (by omega) (by omega), q2 _ (by omega) (by omega)]; exact hb d (by omega)) (fun d d1 d2 => by rw [q2 _ (by omega) (by omega)]; exact hm d (by omega) (by omega)) (fun j hj => by rw [q2 _ (by omega) (by omega)]; exact ho j hj)
      exact ⟨V3, r1, fun z hz => (r2 z hz).trans (q1 z hz), r3, r4⟩
/-- a row turned round at a place -/
def wTurn (w : sj_R) (n p : Nat) : sj_R := fun j => if p ≤ j ∧ j < p + 41 then w (p + rv n (j - p)) else w j
theorem wTurn_n (w : sj_R) (n p : Nat) {j : Nat} (h : j < p ∨ p + 41 ≤ j) : wTurn w n p j = w j := if_neg (by omega)
theorem wTurn_s (w : sj_R) (n p : Nat) {c : Nat} (h : c < 41) : wTurn w n p (p + c) = w (p + rv n c) := by
  unfold wTurn
  rw [if_pos (by omega), show p + c - p = c by omega]
theorem m_turnsRound (hw : V (b + 1) = w) (h0 : w 0 = (n : Nat)) (hn : n ≤ 40) (hp : p + 40 < 390) (hN : 50 ≤ N) : ∃ V', g_X9_turnsRound N b p V = some ((), V') ∧ (∀ z, z ≠ b + 1 → V' z = V z) ∧ V' (b + 1) = wTurn w n p := by
  unfold g_X9_turnsRound
  obtain ⟨V2, r1, r2, r3, r4⟩ := m_turn_loop (N := N) (R := w) (b := b) (n := n) (p := p) (by omega) N 0 V (by omega) (by omega) (fun d hd => by omega) (fun _ _ _ => by rw [hw]) (fun _ _ => by rw [hw])
  rw [k_ix (by omega) (by omega), k_lt, hw, show (0 : Int).toNat = 0 from rfl, h0]
  refine ⟨V2, r1, r2, funext fun j => ?_⟩
  unfold wTurn
  by_cases z : p ≤ j ∧ j < p + 41
  · rw [if_pos z]
    by_cases z2 : j ≤ p + n
    · have := r3 (j - p) (by omega)
      rw [show p + (j - p) = j by omega] at this
      rw [this, rv_in (by omega)]
    · rw [r4 j (by omega), show rv n (j - p) = j - p from if_neg (by omega), show p + (j - p) = j by omega]
  · rw [if_neg z, r4 j (by omega)]
/-- what is mirrored -/
def MR (n : Nat) (w w' : sj_R) : Prop := (∀ j, j < 3 → w' j = w j) ∧ (∀ p, (p = 3 ∨ p = 44 ∨ p = 85 ∨ p = 126 ∨ p = 167 ∨ p = 208 ∨ p = 249) → ∀ c, c < 41 → w' (p + c) = w (p + rv n c)) ∧ (∀ j, 290 ≤ j → j < 302 → w' j = w j) ∧ (∀ i, i < 6 → w' (303 + 3 * i) = w (303 + 3 * i) ∧ w' (304 + 3 * i) = w (304 + 3 * i) ∧ (0 < w (304 + 3 * i) → w' (302 + 3 * i) = w 0 - w (302 + 3 * i))) ∧ (w 320 = -1 → ∀ j, 320 ≤ j → j < 364 → w' j = w j) ∧ (w 320 ≠ -1 → (w' 320 = w 0 - w 321 ∧ w' 321 = w 0 - w 320 ∧ w' 322 = 1 - w 322) ∧ ∀ c, c < 41 → w' (323 + c) = w (323 + rv n c)) ∧ ∀ j, 364 ≤ j → w' j = w j
theorem MR.wb (h : MR n w w') (hB : WB 500 200 1500 w) (hn : w 0 = (n : Nat)) : WB 500 200 1500 w' := by
  obtain ⟨m1, m2, m3, m4, m5, m6, m7⟩ := h
  obtain ⟨a1, a2, a3, a4, a5, a6, a7⟩ := hB
  refine ⟨by rw [m1 0 (by omega)]; exact a1, by rw [m1 1 (by omega)]; exact a2, by rw [m1 2 (by omega)]; exact a3, fun c hc => ?_, fun i hi => ?_, fun l hl => ?_, fun i hi => ?_⟩
  · rw [m2 3 (by omega) c hc, m2 44 (by omega) c hc, m2 85 (by omega) c hc, m2 126 (by omega) c hc]
    exact a4 _ (rv_lt (by omega) hc)
  · have key : ∀ l c, l < 3 → c < 41 → 0 ≤ w' (167 + (41 * l + c)) ∧ w' (167 + (41 * l + c)) ≤ 100 := fun l c hl hc => by
      have e := m2 (167 + 41 * l) (by omega) c hc
      rw [Nat.add_assoc, Nat.add_assoc] at e
      rw [e]
      have := rv_lt (n := n) (c := c) (by omega) hc
      exact a5 (41 * l + rv n c) (by omega)
    have := key (i / 41) (i % 41) (by omega) (by omega)
    rw [show 41 * (i / 41) + i % 41 = i by omega] at this
    exact this
  · rw [m3 _ (by omega) (by omega), m3 _ (by omega) (by omega), m3 _ (by omega) (by omega)]; exact a6 l hl
  · obtain ⟨q1, q2, q3⟩ := m4 i hi
    rw [q1, q2, m1 0 (by omega)]
    refine ⟨(a7 i hi).1, fun h => ?_⟩
    rw [q3 h]
    have := (a7 i hi).2 h
    omega
theorem MR.bb (h : MR n w w') (hP : SP w) (hn : w 0 = (n : Nat)) (h0 : w 320 ≠ -1) : (wf w' = n - wt w ∧ wt w' = n - wf w ∧ wf w < wt w ∧ wt w ≤ n ∧ n ≤ n) ∧ (w' 320 = ((n - wt w : Nat) : Int) ∧ w' 321 = ((n - wf w : Nat) : Int)) ∧ ∀ c, n - wt w ≤ c → c ≤ n - wf w → c ≤ n ∧ wf w ≤ n - c ∧ n - c ≤ wt w := by
  obtain ⟨m1, m2, m3, m4, m5, m6, m7⟩ := h
  obtain ⟨⟨b1, b2, b3⟩, b4⟩ := hP.bb h0
  obtain ⟨⟨q1, q2, q3⟩, q4⟩ := m6 h0
  have b5 := b4.1
  refine ⟨⟨?_, ?_, b5, by omega, Nat.le_refl _⟩, ⟨by rw [q1]; omega, by rw [q2]; omega⟩, fun c c1 c2 => by omega⟩
  · show (w' 320).toNat = _
    rw [q1]; omega
  · show (w' 321).toNat = _
    rw [q2]; omega
theorem MR.sp (h : MR n w w') (hP : SP w) (hn : w 0 = (n : Nat)) (hn4 : n ≤ 40) : SP w' := by
  by_cases h0 : w 320 = -1
  · obtain ⟨m1, m2, m3, m4, m5, m6, m7⟩ := h
    exact ⟨by rw [m5 h0 322 (by omega) (by omega)]; exact hP.1, Or.inl (by rw [m5 h0 320 (by omega) (by omega)]; exact h0)⟩
  · obtain ⟨⟨e1, e2, e3, e4, _⟩, ⟨e5, e6⟩, e7⟩ := h.bb hP hn h0
    obtain ⟨m1, m2, m3, m4, m5, m6, m7⟩ := h
    obtain ⟨⟨q1, q2, q3⟩, q4⟩ := m6 h0
    have l1 := hP.1
    refine ⟨by omega, Or.inr ⟨by omega, by omega, by rw [m1 0 (by omega)]; omega, ?_⟩⟩
    rw [e1, e2]
    refine ⟨by omega, by omega, by omega, fun c c1 c2 => ?_⟩
    obtain ⟨f1, f2, f3⟩ := e7 c c1 c2
    show 0 ≤ w' (323 + c) ∧ w' (323 + c) ≤ 100
    rw [q4 c (by omega), rv_in f1]
    exact (hP.bb h0).2.2.2.2 (n - c) f2 f3
/-- a Ground of the class, turned -/
def TG (V V' : sj_VV) (ga n : Nat) : Prop := V' ga = V ga ∧ (∀ k, 1 ≤ k → k ≤ 4 → ∀ c, c < 41 → V' (ga + k) c = V (ga + k) (rv n c)) ∧ (∀ l c, l < 3 → c < 41 → V' (ga + 5) (41 * l + c) = V (ga + 5) (41 * l + rv n c)) ∧ (V' (ga + 6) = V (ga + 6) ∧ V' (ga + 7) = V (ga + 7) ∧ V' (ga + 8) = V (ga + 8) ∧ V' (ga + 10) = V (ga + 10) ∧ V' (ga + 11) = V (ga + 11)) ∧ (∀ i, i < 6 → V' (ga + 9) i = V ga 0 - V (ga + 9) i) ∧ (∀ c, c < 41 → V' (ga + 13) c = V (ga + 13) (rv n c)) ∧ (V (ga + 12) 1 = -1 → V' (ga + 12) = V (ga + 12)) ∧ (V (ga + 12) 1 ≠ -1 → V' (ga + 12) 1 = V ga 0 - V (ga + 12) 2 ∧ V' (ga + 12) 2 = V ga 0 - V (ga + 12) 1 ∧ V' (ga + 12) 3 = 1 - V (ga + 12) 3)
theorem RG.mir (hR : RG V ga w) (hn : w 0 = (n : Nat)) (hT : TG V V' ga n) (hM : MR n w w') : RG V' ga w' := by
  obtain ⟨hB, hP, ⟨c1, c2, c3, c4, c5⟩, s1, s2, s3⟩ := hR
  have hn4 : n ≤ 40 := by have := hB.1; omega
  obtain ⟨m1, m2, m3, m4, m5, m6, m7⟩ := id hM
  obtain ⟨t1, t2, t3, ⟨t4, t5, t6, t7, t8⟩, t9, t10, t11, t12⟩ := hT
  refine ⟨hM.wb hB hn, hM.sp hP hn hn4, ⟨?_, fun c hc => ?_, fun i hi => ?_, fun l hl => ?_, fun i hi => ?_⟩, ?_⟩
  · rw [t1, m1 0 (by omega), m1 1 (by omega), m1 2 (by omega)]; exact c1
  · rw [t2 1 (by omega) (by omega) c hc, t2 2 (by omega) (by omega) c hc, t2 3 (by omega) (by omega) c hc, t2 4 (by omega) (by omega) c hc, m2 3 (by omega) c hc, m2 44 (by omega) c hc, m2 85 (by omega) c hc, m2 126 (by omega) c hc]
    exact c2 _ (rv_lt hn4 hc)
  · have key : ∀ l c, l < 3 → c < 41 → V' (ga + 5) (41 * l + c) = w' (167 + (41 * l + c)) := fun l c hl hc => by
      have e := m2 (167 + 41 * l) (by omega) c hc
      rw [Nat.add_assoc, Nat.add_assoc] at e
      rw [e, t3 l c hl hc]
      have := rv_lt (n := n) (c := c) hn4 hc
      exact c3 (41 * l + rv n c) (by omega)
    have := key (i / 41) (i % 41) (by omega) (by omega)
    rw [show 41 * (i / 41) + i % 41 = i by omega] at this
    exact this
  · rw [t4, t5, t6, m3 _ (by omega) (by omega), m3 _ (by omega) (by omega), m3 _ (by omega) (by omega)]; exact c4 l hl
  · obtain ⟨q1, q2, q3⟩ := m4 i hi
    rw [t7, t8, q1, q2]
    refine ⟨(c5 i hi).1, fun h => ?_⟩
    have := (c5 i hi).2 h
    rw [q3 h, t9 i hi, c1.1, this.1]
    exact ⟨rfl, this.2⟩
  · by_cases h0 : w 320 = -1
    · have e := t11 (s2 h0).1
      have w320 : w' 320 = -1 := by rw [m5 h0 320 (by omega) (by omega)]; exact h0
      exact ⟨by rw [e]; exact s1, fun _ => by rw [e]; exact s2 h0, fun z => absurd w320 z⟩
    · obtain ⟨q1, q2, q3, q4⟩ := s3 h0
      obtain ⟨⟨e1, e2, e3, e4, _⟩, ⟨e5, e6⟩, e7⟩ := hM.bb hP hn h0
      obtain ⟨u1, u2, u3⟩ := t12 (by rw [q1]; omega)
      obtain ⟨⟨g1, g2, g3⟩, g4⟩ := m6 h0
      refine ⟨by omega, fun z => by omega, fun _ => ⟨?_, ?_, ?_, fun c k1 k2 => ?_⟩⟩
      · rw [u1, q2, c1.1, hn, e1]; omega
      · rw [u2, q1, c1.1, hn, e2]; omega
      · rw [u3, q3, g3]
      · rw [e1] at k1
        rw [e2] at k2
        obtain ⟨f1, f2, f3⟩ := e7 c k1 k2
        show V' (ga + 13) c = w' (323 + c)
        rw [t10 c (by omega), g4 c (by omega), rv_in f1]
        exact q4 (n - c) f2 f3
end Mirror
