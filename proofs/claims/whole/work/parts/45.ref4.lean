/-! BOXES: the reference's search -/
def Fs (a : Nat) (V V' : sj_VV) : Prop := (∀ x, x ≠ a → x ≠ a + 5 → V' x = V x) ∧ ∀ k, (k < 6 ∨ k = 16 ∨ 22 ≤ k) → V' a k = V a k
theorem Fs.rf {a : Nat} {V : sj_VV} : Fs a V V := ⟨fun _ _ _ => rfl, fun _ _ => rfl⟩
theorem Fs.tr {a : Nat} {V V1 V2 : sj_VV} (h : Fs a V V1) (h2 : Fs a V1 V2) : Fs a V V2 := ⟨fun x hx hy => (h2.1 x hx hy).trans (h.1 x hx hy), fun k hk => (h2.2 k hk).trans (h.2 k hk)⟩
theorem Fc.s {a : Nat} {V V1 : sj_VV} (h : Fc a V V1) : Fs a V V1 := ⟨fun x hx hy => h.1 x hx hy, fun k hk => h.2 k (by omega)⟩
theorem Fs.up {a k : Nat} {v : Int} {V V1 : sj_VV} (h : Fs a V V1) (h1 : 17 ≤ k) (h2 : k < 22) : Fs a V (sj_up V1 a k v) := ⟨fun x hx hy => (up_row V1 k v hx).trans (h.1 x hx hy), fun j hj => (up_nk V1 a v (by omega)).trans (h.2 j hj)⟩
theorem Fs.w {a : Nat} {V V1 : sj_VV} (h : Fs a V V1) : V1 (a + 1) = V (a + 1) := h.1 _ (by omega) (by omega)
/-- -1 for none -/
def spNo (b : Int) : Int := if b = 20001 then -1 else b
/-- the reference stands at a place -/
def MK (V : sj_VV) (a : Nat) (q : spQ) : Prop := V a 17 = q.1 ∧ V a 18 = q.2.1 ∧ V a 19 = q.2.2.1 ∧ V a 20 = spNo q.2.2.2
section Ref4
variable {V : sj_VV} {a : Nat} {w : sj_R} {lf lv hv rv x y r st b : Int} {N : Nat}
theorem m_better_loop (hB : WB lv hv rv w) (hlv : lv ≤ 1100) (hhv : hv ≤ 700) (hrv : rv ≤ 2250) (hlf : lf = 0 ∨ lf = 1) {q : spQ} (hq : spQok q) (hst : 1 ≤ st ∧ st ≤ 64) (hN : 1000 ≤ N) : ∀ (m i : Nat) (x4 x5 x6 : Int) (V : sj_VV), i ≤ 27 → 27 - i < m → V (a + 1) = w → MK V a q → ((spMn (spD w lf q.1 q.2.1 q.2.2.1 st) i).1 < 20001 → x4 = spO q.1 st (((spMn (spD w lf q.1 q.2.1 q.2.2.1 st) i).2 : Int) / 9) ∧ x5 = spO q.2.1 st (((spMn (spD w lf q.1 q.2.1 q.2.2.1 st) i).2 : Int) / 3 % 3) ∧ x6 = spO q.2.2.1 st (((spMn (spD w lf q.1 q.2.1 q.2.2.1 st) i).2 : Int) % 3)) → ∃ V', g_X9_isBetter_14 N m a st lf (spNo (spMn (spD w lf q.1 q.2.1 q.2.2.1 st) i).1) x4 x5 x6 i V = some (if (spNear w lf st q).1 < q.2.2.2 then 1 else 0, V') ∧ Fs a V V' ∧ V' a 21 = V a 21 ∧ MK V' a (if (spNear w lf st q).1 < q.2.2.2 then spMove w lf st q else q)
  | 0, _, _, _, _, _, _, h, _, _, _ => absurd h (by omega)
  | m + 1, i, x4, x5, x6, V, h1, h2, hw, hK, hx => by
    obtain ⟨M1, M2, M3⟩ := spMn_b (spD w lf q.1 q.2.1 q.2.2.1 st) (fun i => (spD_b w lf q.1 q.2.1 q.2.2.1 st i).1) i
    obtain ⟨s1, s2, s3, s4⟩ := id hK
    obtain ⟨q1, q2, q3⟩ := id hq
    unfold g_X9_isBetter_14 g_X9_isBetter_14_b
    by_cases hi : i = 27
    · subst hi
      have en : spMn (spD w lf q.1 q.2.1 q.2.2.1 st) 27 = spNear w lf st q := rfl
      rw [en] at M1 M2 M3 hx ⊢
      have e1 : (spMove w lf st q).1 = spO q.1 st (((spNear w lf st q).2 : Int) / 9) := by simp only [spMove]
      have e2 : (spMove w lf st q).2.1 = spO q.2.1 st (((spNear w lf st q).2 : Int) / 3 % 3) := by simp only [spMove]
      have e3 : (spMove w lf st q).2.2.1 = spO q.2.2.1 st (((spNear w lf st q).2 : Int) % 3) := by simp only [spMove]
      have e4 := spMove_v w lf st q
      generalize hM : (spNear w lf st q).1 = M at *
      rw [k_leT (by omega) ⟨by omega, by omega⟩ ⟨by omega, by omega⟩]
      have yes : M < q.2.2.2 → ∃ V', g_X9_isBetter_146 N a (spNo M) x4 x5 x6 V = some (1, V') ∧ Fs a V V' ∧ V' a 21 = V a 21 ∧ MK V' a (spMove w lf st q) := by
        intro hlt
        obtain ⟨y1, y2, y3⟩ := hx (by omega)
        unfold g_X9_isBetter_146
        rw [k_lt, k_lt, k_lt, k_lt, k_zs (Or.inr rfl)]
        refine ⟨_, rfl, (((Fs.rf.up (by omega) (by omega)).up (by omega) (by omega)).up (by omega) (by omega)).up (by omega) (by omega), ?_, ?_, ?_, ?_, ?_⟩
        · rw [up_nk _ _ _ (by omega), up_nk _ _ _ (by omega), up_nk _ _ _ (by omega), up_nk _ _ _ (by omega)]
        · rw [up_nk _ _ _ (by omega), up_nk _ _ _ (by omega), up_ss, e1]; exact y1
        · rw [up_nk _ _ _ (by omega), up_ss, e2]; exact y2
        · rw [up_ss, e3]; exact y3
        · rw [up_nk _ _ _ (by omega), up_nk _ _ _ (by omega), up_nk _ _ _ (by omega), up_ss, e4]
      by_cases hn : M = 20001
      · rw [show spNo M = -1 by unfold spNo; rw [if_pos hn], k_eqT rfl, k_zs (Or.inl rfl), if_neg (by omega), if_neg (by omega)]
        exact ⟨V, rfl, Fs.rf, rfl, hK⟩
      · have eN : spNo M = M := by unfold spNo; rw [if_neg hn]
        rw [eN] at yes ⊢
        rw [k_eqF (by omega) ⟨by omega, by omega⟩ ⟨by omega, by omega⟩, s4]
        by_cases hb : q.2.2.2 = 20001
        · rw [show spNo q.2.2.2 = -1 by unfold spNo; rw [if_pos hb], k_eqT rfl, if_pos (by omega), if_pos (by omega)]
          exact yes (by omega)
        · have eB : spNo q.2.2.2 = q.2.2.2 := by unfold spNo; rw [if_neg hb]
          rw [eB, k_eqF (by omega) ⟨by omega, by omega⟩ ⟨by omega, by omega⟩, k_ltc ⟨by omega, by omega⟩ ⟨by omega, by omega⟩]
          by_cases hlt : M < q.2.2.2
          · rw [if_pos hlt, if_pos hlt, if_pos hlt]
            exact yes hlt
          · rw [if_neg hlt, if_neg hlt, if_neg hlt, k_zs (Or.inl rfl)]
            exact ⟨V, rfl, Fs.rf, rfl, hK⟩
    · have hi2 : i < 27 := by omega
      obtain ⟨p1, p2, p3⟩ := id q1
      have o1 := spO_b (x := q.1) (st := st) (o := (i : Int) / 9) (by omega) (by omega) (by omega)
      have o2 := spO_b (x := q.2.1) (st := st) (o := (i : Int) / 3 % 3) (by omega) (by omega) (by omega)
      have o3 := spO_b (x := q.2.2.1) (st := st) (o := (i : Int) % 3) (by omega) (by omega) (by omega)
      obtain ⟨V1, a1, a2⟩ := m_factorBy (N := N) (a := a) hw hB hlv hhv hrv (cx := spO q.1 st ((i : Int) / 9)) (cy := spO q.2.1 st ((i : Int) / 3 % 3)) (r := spO q.2.2.1 st ((i : Int) % 3)) ⟨by omega, by omega⟩ ⟨by omega, by omega⟩ ⟨by omega, by omega⟩ hlf hN
      have w1 : V1 (a + 1) = w := a2.w.trans hw
      have eA : spAtF w lf q.1 q.2.1 q.2.2.1 st i = spFBy w (spO q.1 st ((i : Int) / 9)) (spO q.2.1 st ((i : Int) / 3 % 3)) (spO q.2.2.1 st ((i : Int) % 3)) lf := rfl
      have cA := spFBy_b w (spO q.1 st ((i : Int) / 9)) (spO q.2.1 st ((i : Int) / 3 % 3)) (spO q.2.2.1 st ((i : Int) % 3)) lf
      rw [← eA] at cA a1
      have k1 : MK V1 a q := ⟨by rw [a2.2 17 (by omega)]; exact s1, by rw [a2.2 18 (by omega)]; exact s2, by rw [a2.2 19 (by omega)]; exact s3, by rw [a2.2 20 (by omega)]; exact s4⟩
      have e21 : V1 a 21 = V a 21 := a2.2 21 (by omega)
      rw [k_leF (by omega) ⟨by omega, by omega⟩ ⟨by omega, by omega⟩, k_dI ⟨by omega, by omega⟩ ⟨by omega, by omega⟩ (by omega), show ((i : Int).tdiv 9) = (i : Int) / 9 from td9 i 9, k_lt, k_dI ⟨by omega, by omega⟩ ⟨by omega, by omega⟩ (by omega), show ((i : Int).tdiv 3) = (i : Int) / 3 from td9 i 3, k_rI ⟨by omega, by omega⟩ ⟨by omega, by omega⟩ (by omega), show ((i : Int) / 3).tmod 3 = (i : Int) / 3 % 3 from tm3 (by omega) 3, k_lt, k_rI ⟨by omega, by omega⟩ ⟨by omega, by omega⟩ (by omega), show (i : Int).tmod 3 = (i : Int) % 3 from tm3 (by omega) 3, k_lt, s1, s2, s3, show q.1 + st * ((i : Int) / 9 - 1) = spO q.1 st ((i : Int) / 9) from rfl, show q.2.1 + st * ((i : Int) / 3 % 3 - 1) = spO q.2.1 st ((i : Int) / 3 % 3) from rfl, show q.2.2.1 + st * ((i : Int) % 3 - 1) = spO q.2.2.1 st ((i : Int) % 3) from rfl, a1, k_cs]
      have key := m_better_loop hB hlv hhv hrv hlf hq hst hN m (i + 1)
      have eM : spMn (spD w lf q.1 q.2.1 q.2.2.1 st) (i + 1) = if spD w lf q.1 q.2.1 q.2.2.1 st i < (spMn (spD w lf q.1 q.2.1 q.2.2.1 st) i).1 then (spD w lf q.1 q.2.1 q.2.2.1 st i, i) else spMn (spD w lf q.1 q.2.1 q.2.2.1 st) i := rfl
      unfold g_X9_isBetter_102 g_X9_isBetter_117
      have stay : ¬ spD w lf q.1 q.2.1 q.2.2.1 st i < (spMn (spD w lf q.1 q.2.1 q.2.2.1 st) i).1 → ∃ V', g_X9_isBetter_14 N m a st lf (spNo (spMn (spD w lf q.1 q.2.1 q.2.2.1 st) i).1) x4 x5 x6 ((i : Int) + 1) V1 = some (if (spNear w lf st q).1 < q.2.2.2 then 1 else 0, V') ∧ Fs a V V' ∧ V' a 21 = V a 21 ∧ MK V' a (if (spNear w lf st q).1 < q.2.2.2 then spMove w lf st q else q) := by
        intro hD
        rw [eM, if_neg hD] at key
        obtain ⟨V2, b1, b2, b3, b4⟩ := key x4 x5 x6 V1 (by omega) (by omega) w1 k1 hx
        exact ⟨V2, b1, a2.s.tr b2, by rw [b3, e21], b4⟩
      have take : spD w lf q.1 q.2.1 q.2.2.1 st i < (spMn (spD w lf q.1 q.2.1 q.2.2.1 st) i).1 → spD w lf q.1 q.2.1 q.2.2.1 st i = spAtF w lf q.1 q.2.1 q.2.2.1 st i → ∃ V', g_X9_isBetter_14 N m a st lf (spAtF w lf q.1 q.2.1 q.2.2.1 st i) (spO q.1 st ((i : Int) / 9)) (spO q.2.1 st ((i : Int) / 3 % 3)) (spO q.2.2.1 st ((i : Int) % 3)) ((i : Int) + 1) V1 = some (if (spNear w lf st q).1 < q.2.2.2 then 1 else 0, V') ∧ Fs a V V' ∧ V' a 21 = V a 21 ∧ MK V' a (if (spNear w lf st q).1 < q.2.2.2 then spMove w lf st q else q) := by
        intro hD eD
        rw [eM, if_pos hD] at key
        obtain ⟨V2, b1, b2, b3, b4⟩ := key _ _ _ V1 (by omega) (by omega) w1 k1 (fun _ => ⟨rfl, rfl, rfl⟩)
        rw [show spNo (spD w lf q.1 q.2.1 q.2.2.1 st i, i).1 = spAtF w lf q.1 q.2.1 q.2.2.1 st i by show spNo (spD w lf q.1 q.2.1 q.2.2.1 st i) = _; unfold spNo; rw [if_neg (by omega)]; exact eD] at b1
        exact ⟨V2, b1, a2.s.tr b2, by rw [b3, e21], b4⟩
      by_cases hA : spAtF w lf q.1 q.2.1 q.2.2.1 st i = -1
      · have eD : spD w lf q.1 q.2.1 q.2.2.1 st i = 20001 := by unfold spD; rw [if_pos hA]
        rw [k_eqT hA, k_lt]
        exact stay (by omega)
      · have eD : spD w lf q.1 q.2.1 q.2.2.1 st i = spAtF w lf q.1 q.2.1 q.2.2.1 st i := by unfold spD; rw [if_neg hA]
        rw [k_eqF hA ⟨by omega, by omega⟩ ⟨by omega, by omega⟩]
        by_cases hn : (spMn (spD w lf q.1 q.2.1 q.2.2.1 st) i).1 = 20001
        · rw [k_eqT (show spNo (spMn (spD w lf q.1 q.2.1 q.2.2.1 st) i).1 = -1 by unfold spNo; rw [if_pos hn]), k_lt]
          exact take (by omega) eD
        · have eN : spNo (spMn (spD w lf q.1 q.2.1 q.2.2.1 st) i).1 = (spMn (spD w lf q.1 q.2.1 q.2.2.1 st) i).1 := by unfold spNo; rw [if_neg hn]
          rw [k_eqF (by omega) ⟨by omega, by omega⟩ ⟨by omega, by omega⟩, k_ltc ⟨by omega, by omega⟩ ⟨by omega, by omega⟩, k_lt, k_lt]
          by_cases hlt : spAtF w lf q.1 q.2.1 q.2.2.1 st i < spNo (spMn (spD w lf q.1 q.2.1 q.2.2.1 st) i).1
          · rw [if_pos hlt]
            exact take (by omega) eD
          · rw [if_neg hlt]
            exact stay (by omega)
theorem m_isBetter (hw : V (a + 1) = w) (hB : WB lv hv rv w) (hlv : lv ≤ 1100) (hhv : hv ≤ 700) (hrv : rv ≤ 2250) (hlf : lf = 0 ∨ lf = 1) {q : spQ} (hq : spQok q) (hst : 1 ≤ st ∧ st ≤ 64) (hK : MK V a q) (hN : 1000 ≤ N) : ∃ V', g_X9_isBetter N a st lf V = some (if (spNear w lf st q).1 < q.2.2.2 then 1 else 0, V') ∧ Fs a V V' ∧ V' a 21 = V a 21 ∧ MK V' a (if (spNear w lf st q).1 < q.2.2.2 then spMove w lf st q else q) := by
  unfold g_X9_isBetter
  have e0 : spMn (spD w lf q.1 q.2.1 q.2.2.1 st) 0 = (20001, 0) := rfl
  have key := m_better_loop (N := N) (a := a) hB hlv hhv hrv hlf hq hst hN N 0 0 0 0 V (by omega) (by omega) hw hK
  rw [e0] at key
  exact key (fun z => absurd z (by show ¬ (20001 : Int) < 20001; decide))
theorem m_search_loop (hB : WB lv hv rv w) (hlv : lv ≤ 1100) (hhv : hv ≤ 700) (hrv : rv ≤ 2250) (hlf : lf = 0 ∨ lf = 1) (hN : 1000 ≤ N) : ∀ (m n k : Nat) (st : Int) (q : spQ) (V : sj_VV), n < m → k + n = 60 → 0 ≤ st ∧ st ≤ 64 → spQok q → V (a + 1) = w → MK V a q → V a 21 = (k : Nat) → ∃ V', g_X9_searches_37 N m a lf st V = some (spNo (spBx w lf n k st q).1.2.2.2, V') ∧ Fs a V V' ∧ MK V' a (spBx w lf n k st q).1 ∧ V' a 21 = ((spBx w lf n k st q).2 : Nat)
  | 0, _, _, _, _, _, h, _, _, _, _, _, _ => absurd h (by omega)
  | m + 1, n, k, st, q, V, h1, h2, h3, hq, hw, hK, h6 => by
    unfold g_X9_searches_37 g_X9_searches_37_b
    obtain ⟨s1, s2, s3, s4⟩ := id hK
    have hq2 := hq.2
    rw [k_lec ⟨by omega, by omega⟩ ⟨by omega, by omega⟩, h6, k_lec ⟨by omega, by omega⟩ ⟨by omega, by omega⟩]
    cases n with
    | zero =>
      rw [s4, if_pos (show (60 : Int) ≤ (k : Nat) by omega), ite_self]
      exact ⟨V, rfl, Fs.rf, hK, h6⟩
    | succ n =>
      rw [if_neg (show ¬ (60 : Int) ≤ (k : Nat) by omega), spBx]
      by_cases c : st ≤ 0
      · rw [if_pos c, if_pos c, s4]
        exact ⟨V, rfl, Fs.rf, hK, h6⟩
      · obtain ⟨V1, a1, a2, a3, a4⟩ := m_isBetter (N := N) (st := st) hw hB hlv hhv hrv hlf hq (by omega) hK hN
        rw [if_neg c, if_neg c, a1, k_cs]
        unfold g_X9_searches_68
        have f1 : Fs a V (sj_up V1 a 21 (V1 a 21 + 1)) := a2.up (by omega) (by omega)
        have e6 : (sj_up V1 a 21 (V1 a 21 + 1)) a 21 = ((k + 1 : Nat) : Int) := by rw [up_ss, a3, h6]; omega
        have sk : ∀ z, MK V1 a z → MK (sj_up V1 a 21 (V1 a 21 + 1)) a z := fun z hz => ⟨by rw [up_nk _ _ _ (by omega)]; exact hz.1, by rw [up_nk _ _ _ (by omega)]; exact hz.2.1, by rw [up_nk _ _ _ (by omega)]; exact hz.2.2.1, by rw [up_nk _ _ _ (by omega)]; exact hz.2.2.2⟩
        by_cases g : (spNear w lf st q).1 < q.2.2.2
        · rw [if_pos g] at a4
          rw [if_pos g, if_pos g, k_eqF (by omega) ⟨by omega, by omega⟩ ⟨by omega, by omega⟩, k_lt]
          obtain ⟨V2, b1, b2, b3⟩ := m_search_loop hB hlv hhv hrv hlf hN m n (k + 1) st (spMove w lf st q) _ (by omega) (by omega) h3 (spMove_ok (by omega)) (f1.w.trans hw) (sk _ a4) e6
          exact ⟨V2, b1, f1.tr b2, b3⟩
        · rw [if_neg g] at a4
          rw [if_neg g, if_neg g, k_eqT rfl, k_dI ⟨by omega, by omega⟩ ⟨by omega, by omega⟩ (by omega), k_lt, Int.tdiv_eq_ediv_of_nonneg (by omega)]
          obtain ⟨V2, b1, b2, b3⟩ := m_search_loop hB hlv hhv hrv hlf hN m n (k + 1) (st / 2) q _ (by omega) (by omega) (by omega) hq (f1.w.trans hw) (sk _ a4) e6
          exact ⟨V2, b1, f1.tr b2, b3⟩
theorem m_searches (hw : V (a + 1) = w) (hB : WB lv hv rv w) (hlv : lv ≤ 1100) (hhv : hv ≤ 700) (hrv : rv ≤ 2250) (hlf : lf = 0 ∨ lf = 1) (hci : spCirc x y r) (hst : 0 ≤ st ∧ st ≤ 64) (hN : 1000 ≤ N) : ∃ V', g_X9_searches N a x y r st lf V = some (spNo (spBoxes w lf x y r st).1.2.2.2, V') ∧ Fs a V V' ∧ MK V' a (spBoxes w lf x y r st).1 ∧ V' a 21 = ((spBoxes w lf x y r st).2 : Nat) := by
  unfold g_X9_searches
  obtain ⟨c1, c2, c3⟩ := id hci
  rw [k_lt, k_lt, k_lt]
  obtain ⟨V1, e⟩ : ∃ V1, V1 = sj_up (sj_up (sj_up V a 17 x) a 18 y) a 19 r := ⟨_, rfl⟩
  have f1 : Fs a V V1 := by rw [e]; exact ((Fs.rf.up (by omega) (by omega)).up (by omega) (by omega)).up (by omega) (by omega)
  have a2 : V1 a 17 = x := by rw [e, up_nk _ _ _ (by omega), up_nk _ _ _ (by omega), up_ss]
  have a3 : V1 a 18 = y := by rw [e, up_nk _ _ _ (by omega), up_ss]
  have a4 : V1 a 19 = r := by rw [e, up_ss]
  obtain ⟨V2, b1, b2⟩ := m_factorBy (N := N) (a := a) (V := V1) (f1.w.trans hw) hB hlv hhv hrv (cx := x) (cy := y) (r := r) ⟨by omega, by omega⟩ ⟨by omega, by omega⟩ ⟨by omega, by omega⟩ hlf hN
  rw [← e, b1, k_cs, k_lt, k_lt]
  have f2 : Fs a V (sj_up (sj_up V2 a 20 (spFBy w x y r lf)) a 21 0) := ((f1.tr b2.s).up (by omega) (by omega)).up (by omega) (by omega)
  have hF := spFBy_b w x y r lf
  have hbest : spFBy w x y r lf = spNo (spBest (spFBy w x y r lf)) := by
    unfold spNo spBest
    by_cases z : spFBy w x y r lf = -1
    · rw [if_pos z, if_pos rfl]; exact z
    · rw [if_neg z, if_neg (by omega)]
  obtain ⟨V3, d1, d2, d3⟩ := m_search_loop (N := N) (a := a) hB hlv hhv hrv hlf hN N 60 0 st (x, y, r, spBest (spFBy w x y r lf)) _ (by omega) (by omega) hst ⟨hci, spBest_b w x y r lf⟩ (f2.w.trans hw) ⟨by rw [up_nk _ _ _ (by omega), up_nk _ _ _ (by omega), b2.2 17 (by omega)]; exact a2, by rw [up_nk _ _ _ (by omega), up_nk _ _ _ (by omega), b2.2 18 (by omega)]; exact a3, by rw [up_nk _ _ _ (by omega), up_nk _ _ _ (by omega), b2.2 19 (by omega)]; exact a4, by rw [up_nk _ _ _ (by omega), up_ss]; exact hbest⟩ (by rw [up_ss]; rfl)
  exact ⟨V3, d1, f2.tr d2, d3⟩
end Ref4
