/-! TABLES: the reference -/
def pm (c : Nat) (h : Int) : Nat := (101 * (c : Int) + h).toNat
/-- the least of a set of numbers; 4 * 10^18: there is none -/
def Mr (Q : Int → Prop) (x : Int) : Prop := (x = 4000000000000000000 ∧ ∀ v, ¬ Q v) ∨ (Q x ∧ ∀ v, Q v → x ≤ v)
/-- a way may begin there -/
def wA (any : Int) (first a : Nat) : Prop := (any = 1 ∨ a = first) ∧ first ≤ a
def Qg (w : sj_R) (t lf k any : Int) (first c : Nat) (h v : Int) : Prop := ∃ a, wA any first a ∧ wGo w t lf k 10000000000000 a c h v
def Cq (w : sj_R) (t lf k any : Int) (first d : Nat) (h v g : Int) : Prop := ∃ u, Qg w t lf k any first d g u ∧ wSt w t lf k 10000000000000 d g h ∧ v = u + wQ w lf k d g h
def Cc (w : sj_R) (t lf k any : Int) (first c : Nat) (h v g : Int) : Prop := ∃ d, c = d + 1 ∧ first < c ∧ Cq w t lf k any first d h v g
/-- what going over the columns may touch -/
def FR (b : Nat) (V V' : sj_VV) : Prop := (∀ z, z ≠ b → (z < b + 6 ∨ b + 9 ≤ z) → V' z = V z) ∧ ∀ j, (j < 6 ∨ 13 ≤ j) → V' b j = V b j
section Goes
variable {V V1 V2 V' : sj_VV} {b N c d first : Nat} {w : sj_R} {t lf k any z o h x v : Int}
theorem FR.rf : FR b V V := ⟨fun _ _ _ => rfl, fun _ _ => rfl⟩
theorem FR.tr (h : FR b V V1) (h2 : FR b V1 V2) : FR b V V2 := ⟨fun z a1 a2 => (h2.1 z a1 a2).trans (h.1 z a1 a2), fun j hj => (h2.2 j hj).trans (h.2 j hj)⟩
theorem FR.m (h : Fm b V V1) : FR b V V1 := ⟨fun z a1 _ => h.1 z a1, h.2⟩
theorem FR.row1 (h : FR b V V1) : V1 (b + 1) = V (b + 1) := h.1 _ (by omega) (by omega)
theorem FR.up {j : Nat} (h : FR b V V1) {i : Nat} (hi : 6 ≤ i ∧ i < 9) : FR b V (sj_up V1 (b + i) j v) := ⟨fun z a1 a2 => (up_row _ _ _ (by omega)).trans (h.1 z a1 a2), fun j hj => (up_na _ _ _ _ (by omega)).trans (h.2 j hj)⟩
theorem Qg_b (hB : WB 500 200 1500 w) (hc : c < 41) (ht : 0 ≤ t ∧ t ≤ 12) (hk : 0 ≤ k ∧ k ≤ 20001) (hq : Qg w t lf k any first c h v) : (-1000000000000000 ≤ v ∧ v ≤ 2500000000000000000) ∧ (w (44 + c) ≤ h ∧ h ≤ w (3 + c)) := by
  obtain ⟨a, h1, h2⟩ := hq
  have e1 := wGo_b hB ht hk c _ _ hc h2
  have e2 := wGo_r hB hc h2
  omega
theorem m_adds (hw : V (b + 1) = w) (hB : WB 500 200 1500 w) (hN : 50 ≤ N) (hc : c + 1 < 41) (ho : 0 ≤ o ∧ o ≤ 100) (hh : 0 ≤ h ∧ h ≤ 100) (hk : 0 ≤ k ∧ k ≤ 20001) (hlf : lf = 0 ∨ lf = 1) : ∃ V', g_X9_adds N b c o h lf k V = some (if 0 < slD w lf c o h k ∧ slR w lf c o h k ≤ 10000000000000 then wQ w lf k c o h else 4000000000000000000, V') ∧ Fm b V V' := by
  unfold g_X9_adds
  obtain ⟨V1, r1, r2, r3⟩ := m_laysSlice (N := N) (lf := lf) hw hB (by omega) (by omega) (by omega) hN hc ho hh hlf
  have w1 : V1 (b + 1) = w := (r2.w 0).trans hw
  rw [r1, k_cs, m_rubsOf w1 hB (by omega) (by omega) (by omega) hc ho hh r3 hk, k_cs]
  unfold g_X9_adds_35
  by_cases hd : 0 < slD w lf c o h k
  · have hr := slR_b (lf := lf) hB (by omega) (by omega) (by omega) hc ho hh hk hd
    rw [if_pos hd, k_leqF (by omega) ⟨by omega, by omega⟩ ⟨by omega, by omega⟩, k_llec ⟨by omega, by omega⟩ ⟨by omega, by omega⟩]
    by_cases hz : slR w lf c o h k ≤ 10000000000000
    · rw [if_pos hz, k_wid ⟨by omega, by omega⟩, if_pos ⟨hd, hz⟩, r3.2.2.2.2.2.2]
      exact ⟨V1, rfl, r2⟩
    · rw [if_neg hz, if_neg (fun y => hz y.2)]
      exact ⟨V1, rfl, r2⟩
  · rw [if_neg hd, k_leqT rfl, if_neg (fun y => hd y.1)]
    exact ⟨V1, rfl, r2⟩
/-- the best way to a base -/
theorem comes_loop (hB : WB 500 200 1500 w) (hN : 50 ≤ N) (hd : (d : Int) < w 0) (hh : 0 ≤ h ∧ h ≤ 100) (hr : w (44 + (d + 1)) ≤ h ∧ h ≤ w (3 + (d + 1))) (ht : 0 ≤ t ∧ t ≤ 12) (hk : 0 ≤ k ∧ k ≤ 20001) (hlf : lf = 0 ∨ lf = 1) : ∀ (m : Nat) (x : Int) (V : sj_VV), max 0 (h - t) ≤ x → (min 100 (h + t) + 1 - x).toNat < m → x ≤ min 100 (h + t) + 1 → V (b + 1) = w → (∀ o, 0 ≤ o → o ≤ 100 → Mr (Qg w t lf k any first d o) (V (b + 6) (pm d o))) → Mo (V (b + 6) (pm (d + 1) h) = 4000000000000000000) (fun v g => g < x ∧ Cq w t lf k any first d h v g) (V (b + 6) (pm (d + 1) h)) (V (b + 7) (pm (d + 1) h)) → ∃ V', g_X9_comes_17 N m b ((d : Int) + 1) h t lf k (101 * ((d : Int) + 1) + h) x V = some ((), V') ∧ FR b V V' ∧ (∀ y, y ≠ pm (d + 1) h → V' (b + 6) y = V (b + 6) y ∧ V' (b + 7) y = V (b + 7) y) ∧ V' (b + 8) = V (b + 8) ∧ Mo (V' (b + 6) (pm (d + 1) h) = 4000000000000000000) (Cq w t lf k any first d h) (V' (b + 6) (pm (d + 1) h)) (V' (b + 7) (pm (d + 1) h))
  | 0, _, _, _, h', _, _, _, _ => absurd h' (by omega)
  | m + 1, x, V, x1, x2, x3, hw, hQ, hM => by
    have n0 := hB.1
    unfold g_X9_comes_17 g_X9_comes_17_b
    rw [m_least ⟨by omega, by omega⟩ ⟨by omega, by omega⟩, k_cs, k_ltc ⟨by omega, by omega⟩ ⟨by omega, by omega⟩]
    by_cases hx : min 100 (h + t) < x
    · rw [if_pos hx]
      refine ⟨V, rfl, FR.rf, fun _ _ => ⟨rfl, rfl⟩, rfl, hM.iff (fun v g => ⟨fun y => y.2, fun y => ⟨?_, y⟩⟩)⟩
      obtain ⟨u, y1, y2, _⟩ := y
      have e1 := (Qg_b hB (by omega) ht hk y1).2
      have e2 := (hB.2.2.2.1 d (by omega)).1
      have e3 := y2.1
      omega
    · have ep : (101 * ((d : Int) + 1 - 1) + x).toNat = pm d x := by unfold pm; omega
      have eq : (101 * ((d : Int) + 1) + h).toNat = pm (d + 1) h := by unfold pm; omega
      have hq := hQ x (by omega) (by omega)
      rw [if_neg hx, k_ix (by omega) (by omega), k_lt, ep]
      unfold g_X9_comes_123
      have on : ∀ V2, FR b V V2 → V2 (b + 6) = V (b + 6) → V2 (b + 7) = V (b + 7) → V2 (b + 8) = V (b + 8) → Mo (V (b + 6) (pm (d + 1) h) = 4000000000000000000) (fun v g => g < x + 1 ∧ Cq w t lf k any first d h v g) (V (b + 6) (pm (d + 1) h)) (V (b + 7) (pm (d + 1) h)) → ∃ V', g_X9_comes_17 N m b ((d : Int) + 1) h t lf k (101 * ((d : Int) + 1) + h) (x + 1) V2 = some ((), V') ∧ FR b V V' ∧ (∀ y, y ≠ pm (d + 1) h → V' (b + 6) y = V (b + 6) y ∧ V' (b + 7) y = V (b + 7) y) ∧ V' (b + 8) = V (b + 8) ∧ Mo (V' (b + 6) (pm (d + 1) h) = 4000000000000000000) (Cq w t lf k any first d h) (V' (b + 6) (pm (d + 1) h)) (V' (b + 7) (pm (d + 1) h)) := by
        intro V2 f2 r6 r7 r8 hM2
        obtain ⟨V3, s1, s2, s3, s4, s5⟩ := comes_loop hB hN hd hh hr ht hk hlf m (x + 1) V2 (by omega) (by omega) (by omega) (f2.row1.trans hw) (fun o o1 o2 => by rw [r6]; exact hQ o o1 o2) (by rw [r6, r7]; exact hM2)
        exact ⟨V3, s1, f2.tr s2, fun y hy => by have := s3 y hy; rw [r6, r7] at this; exact this, s4.trans r8, s5⟩
      have same : (∀ u, Qg w t lf k any first d x u → wSt w t lf k 10000000000000 d x h → False) → Mo (V (b + 6) (pm (d + 1) h) = 4000000000000000000) (fun v g => g < x + 1 ∧ Cq w t lf k any first d h v g) (V (b + 6) (pm (d + 1) h)) (V (b + 7) (pm (d + 1) h)) := fun no => hM.iff (fun v g => ⟨fun y => ⟨by omega, y.2⟩, fun y => ⟨by
          obtain ⟨y1, u, y2, y3, y4⟩ := y
          rcases (show g < x ∨ g = x by omega) with q | q
          · exact q
          · rw [q] at y2 y3; exact absurd (no u y2 y3) id, y.2⟩⟩)
      rcases hq with ⟨q1, q2⟩ | ⟨q1, q2⟩
      · rw [k_leqT q1, k_lt]
        exact on V FR.rf rfl rfl rfl (same (fun u y _ => q2 u y))
      · have hqb := Qg_b hB (by omega) ht hk q1
        obtain ⟨V1, r1, r2⟩ := m_adds (N := N) (c := d) (o := x) (h := h) (lf := lf) (k := k) hw hB hN (by omega) (by omega) hh hk hlf
        have r6 : V1 (b + 6) = V (b + 6) := r2.1 _ (by omega)
        have r7 : V1 (b + 7) = V (b + 7) := r2.1 _ (by omega)
        have r8 : V1 (b + 8) = V (b + 8) := r2.1 _ (by omega)
        rw [k_leqF (by omega) ⟨by omega, by omega⟩ ⟨by omega, by omega⟩, show ((d : Int) + 1 - 1) = (d : Int) by omega, r1, k_cs]
        by_cases hz : 0 < slD w lf d x h k ∧ slR w lf d x h k ≤ 10000000000000
        · have hw2 := wQ_b (lf := lf) hB ht hk (c := d) (o := x) (h := h) (by omega) (by omega) (by omega) (by omega) (by omega) hz.1
          have hst : wSt w t lf k 10000000000000 d x h := ⟨by omega, hr, hz⟩
          rw [if_pos hz, k_leqF (by omega) ⟨by omega, by omega⟩ ⟨by omega, by omega⟩, k_ix (by omega) (by omega), eq, r6]
          have ob : sj_i64 (V (b + 6) (pm (d + 1) h)) := by
            rcases id hM with ⟨y, _⟩ | ⟨_, ⟨_, u, y1, y2, y3⟩, _⟩
            · rw [y]; exact ⟨by omega, by omega⟩
            · have e1 := (Qg_b hB (by omega) ht hk y1)
              have e2 := (wSt_b hB ht hk (by omega) (by have := (hB.2.2.2.1 d (by omega)).1; omega) y2).2
              rw [y3]; exact ⟨by omega, by omega⟩
          have add : Mo (V (b + 6) (pm (d + 1) h) = 4000000000000000000) (fun v g => g < x ∧ Cq w t lf k any first d h v g) (V (b + 6) (pm (d + 1) h)) (V (b + 7) (pm (d + 1) h)) → ∀ (p2 : Prop) v3 f3, ((V (b + 6) (pm d x) + wQ w lf k d x h < V (b + 6) (pm (d + 1) h) ∧ v3 = V (b + 6) (pm d x) + wQ w lf k d x h ∧ f3 = x ∧ ¬ p2) ∨ (¬ V (b + 6) (pm d x) + wQ w lf k d x h < V (b + 6) (pm (d + 1) h) ∧ v3 = V (b + 6) (pm (d + 1) h) ∧ f3 = V (b + 7) (pm (d + 1) h) ∧ (p2 → V (b + 6) (pm (d + 1) h) = 4000000000000000000))) → Mo p2 (fun v g => g < x + 1 ∧ Cq w t lf k any first d h v g) v3 f3 := by
            intro hM p2 v3 f3 hc
            have bk : ¬ V (b + 6) (pm (d + 1) h) = 4000000000000000000 → V (b + 7) (pm (d + 1) h) < x := fun y => by
              rcases id hM with ⟨y1, _⟩ | ⟨_, ⟨y2, _⟩, _⟩
              · exact absurd y1 y
              · exact y2
            have hM2 := hM.add (x := V (b + 6) (pm d x) + wQ w lf k d x h) (g := x) (v3 := v3) (f3 := f3) (p2 := p2) (by
              rcases hc with ⟨c1, c2, c3, c4⟩ | ⟨c1, c2, c3, c4⟩
              · exact Or.inl ⟨Or.inr (Or.inl c1), c2, c3, c4⟩
              · refine Or.inr ⟨fun y => ?_, c2, c3, c4⟩
                rcases y with y | y | y
                · omega
                · exact c1 y
                · by_cases y4 : V (b + 6) (pm (d + 1) h) = 4000000000000000000
                  · omega
                  · have := bk y4; omega)
            refine hM2.of (fun v g y => ?_) (fun v g y => ?_)
            · rcases y with y | ⟨y1, y2⟩
              · exact ⟨by omega, y.2⟩
              · rw [y1, y2]
                exact ⟨by omega, _, q1, hst, rfl⟩
            · obtain ⟨y1, u, y2, y3, y4⟩ := y
              rcases (show g < x ∨ g = x by omega) with q | q
              · exact ⟨v, g, Or.inl ⟨q, u, y2, y3, y4⟩, Or.inr ⟨rfl, Int.le_refl _⟩⟩
              · rw [q] at y2 y4
                have := q2 u y2
                exact ⟨_, _, Or.inr ⟨rfl, rfl⟩, by omega⟩
          rw [k_lltc ⟨by omega, by omega⟩ ob]
          by_cases hlt : V (b + 6) (pm d x) + wQ w lf k d x h < V (b + 6) (pm (d + 1) h)
          · rw [if_pos hlt, k_ix (by omega) (by omega), k_lt, k_ix (by omega) (by omega), k_lt, k_lt]
            obtain ⟨V2, e2⟩ : ∃ V2, V2 = sj_up (sj_up V1 (b + 6) (pm (d + 1) h) (V (b + 6) (pm d x) + wQ w lf k d x h)) (b + 7) (pm (d + 1) h) x := ⟨_, rfl⟩
            have f2 : FR b V V2 := by rw [e2]; exact ((FR.m r2).up (by omega)).up (by omega)
            have a6 : V2 (b + 6) (pm (d + 1) h) = V (b + 6) (pm d x) + wQ w lf k d x h := by rw [e2, up_na _ _ _ _ (by omega), up_ss]
            have a7 : V2 (b + 7) (pm (d + 1) h) = x := by rw [e2, up_ss]
            have a8 : V2 (b + 8) = V (b + 8) := by rw [e2, up_row _ _ _ (by omega), up_row _ _ _ (by omega)]; exact r8
            have as : ∀ y, y ≠ pm (d + 1) h → V2 (b + 6) y = V (b + 6) y ∧ V2 (b + 7) y = V (b + 7) y := fun y hy => by
              rw [e2, up_na _ _ _ _ (by omega), up_nk _ _ _ hy, up_nk _ _ _ hy, up_na _ _ _ _ (by omega), r6, r7]
              exact ⟨rfl, rfl⟩
            rw [← e2]
            obtain ⟨V3, s1, s2, s3, s4, s5⟩ := comes_loop hB hN hd hh hr ht hk hlf m (x + 1) V2 (by omega) (by omega) (by omega) (f2.row1.trans hw) (fun o o1 o2 => by rw [(as (pm d o) (by unfold pm; omega)).1]; exact hQ o o1 o2) (by rw [a6, a7]; exact add hM _ _ _ (Or.inl ⟨hlt, rfl, rfl, by omega⟩))
            exact ⟨V3, s1, f2.tr s2, fun y hy => by have := s3 y hy; rw [(as y hy).1, (as y hy).2] at this; exact this, s4.trans a8, s5⟩
          · rw [if_neg hlt, k_lt]
            exact on V1 (FR.m r2) r6 r7 r8 (add hM _ _ _ (Or.inr ⟨hlt, rfl, rfl, id⟩))
        · rw [if_neg hz, k_leqT rfl, k_lt]
          exact on V1 (FR.m r2) r6 r7 r8 (same (fun u _ y => hz y.2.2))
theorem comes_eq (hB : WB 500 200 1500 w) (hN : 1000 ≤ N) (hd : (d : Int) < w 0) (hr : w (44 + (d + 1)) ≤ h ∧ h ≤ w (3 + (d + 1))) (ht : 0 ≤ t ∧ t ≤ 12) (hk : 0 ≤ k ∧ k ≤ 20001) (hlf : lf = 0 ∨ lf = 1) (hw : V (b + 1) = w) (hQ : ∀ o, 0 ≤ o → o ≤ 100 → Mr (Qg w t lf k any first d o) (V (b + 6) (pm d o))) (h4 : V (b + 6) (pm (d + 1) h) = 4000000000000000000) : ∃ V', g_X9_comes N b ((d : Int) + 1) h t lf k V = some ((), V') ∧ FR b V V' ∧ (∀ y, y ≠ pm (d + 1) h → V' (b + 6) y = V (b + 6) y ∧ V' (b + 7) y = V (b + 7) y) ∧ V' (b + 8) = V (b + 8) ∧ Mo (V' (b + 6) (pm (d + 1) h) = 4000000000000000000) (Cq w t lf k any first d h) (V' (b + 6) (pm (d + 1) h)) (V' (b + 7) (pm (d + 1) h)) := by
  have n0 := hB.1
  have b1 := (hB.2.2.2.1 (d + 1) (by omega)).1
  unfold g_X9_comes
  rw [k_lt, m_most ⟨by omega, by omega⟩ ⟨by omega, by omega⟩, k_cs]
  refine comes_loop hB (by omega) hd (by omega) hr ht hk hlf N (max 0 (h - t)) V (by omega) (by omega) (by omega) hw hQ (Or.inl ⟨h4, fun v g y => ?_⟩)
  obtain ⟨y1, u, y2, y3, _⟩ := y
  have e1 := (Qg_b hB (by omega) ht hk y2).2
  have e2 := (hB.2.2.2.1 d (by omega)).1
  have e3 := y3.1
  omega
end Goes
