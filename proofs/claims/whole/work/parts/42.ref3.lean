/-! what the reference's circle cuts -/
def Fc (a : Nat) (V V' : sj_VV) : Prop := (∀ x, x ≠ a → x ≠ a + 5 → V' x = V x) ∧ ∀ k, (k < 6 ∨ 16 ≤ k) → V' a k = V a k
theorem Fc.rf {a : Nat} {V : sj_VV} : Fc a V V := ⟨fun _ _ _ => rfl, fun _ _ => rfl⟩
theorem Fc.tr {a : Nat} {V V1 V2 : sj_VV} (h : Fc a V V1) (h2 : Fc a V1 V2) : Fc a V V2 := ⟨fun x hx hy => (h2.1 x hx hy).trans (h.1 x hx hy), fun k hk => (h2.2 k hk).trans (h.2 k hk)⟩
theorem Fm.c {a : Nat} {V V1 : sj_VV} (h : Fm a V V1) : Fc a V V1 := ⟨fun x hx _ => h.1 x hx, fun k hk => h.2 k (by omega)⟩
theorem Fc.up {a k : Nat} {v : Int} {V V1 : sj_VV} (h : Fc a V V1) (h1 : 6 ≤ k) (h2 : k < 16) : Fc a V (sj_up V1 a k v) := ⟨fun x hx hy => (up_row V1 k v hx).trans (h.1 x hx hy), fun j hj => (up_nk V1 a v (by omega)).trans (h.2 j hj)⟩
theorem Fc.up5 {a k : Nat} {v : Int} {V V1 : sj_VV} (h : Fc a V V1) : Fc a V (sj_up V1 (a + 5) k v) := ⟨fun x hx hy => (up_row V1 k v hy).trans (h.1 x hx hy), fun j hj => (up_na V1 k j v (by omega)).trans (h.2 j hj)⟩
theorem Fc.w {a : Nat} {V V1 : sj_VV} (h : Fc a V V1) : V1 (a + 1) = V (a + 1) := h.1 _ (by omega) (by omega)
section RefCut
variable {V : sj_VV} {a f t n : Nat} {w : sj_R} {lf lv hv rv cx cy r : Int} {bs : Nat → Int} {N : Nat}
theorem m_isBelow (hw : V (a + 1) = w) (hB : WB lv hv rv w) (hci : spCirc cx cy r) (hN : 1000 ≤ N) (hn : w 0 = (n : Nat)) {c : Nat} (hc : c ≤ n) : ∃ V', g_X9_isBelow N a c cx cy r V = some (if spIn w cx cy r c = true then 1 else 0, V') ∧ Fc a V V' ∧ (∀ d, d ≠ c → V' (a + 5) d = V (a + 5) d) ∧ (spIn w cx cy r c = true → V' (a + 5) c = spBase w cx cy r c) := by
  have h0 := hB.1
  have hv := spV_b hB hci (c := c) (by omega)
  have hb := (hB.2.2.2.1 c (by omega)).1
  have hcc : spCirc cx cy r := hci
  obtain ⟨q1, q2, q3, q4⟩ := hcc
  unfold g_X9_isBelow
  rw [k_ix (by omega) (by omega), k_lt, k_lt, hw, show (1 : Int).toNat = 1 from rfl, show r * r - (w 1 * (c : Int) - cx) * (w 1 * (c : Int) - cx) = spV w cx r c from rfl, k_lec ⟨by omega, by omega⟩ ⟨by omega, by omega⟩]
  by_cases hz : 0 ≤ spV w cx r c
  · have hr := spRoot_b hz hv.2
    have hbb := spBase_b hB hci (by omega) hz
    rw [if_pos hz, (m_root hz hv.2 hN).1, k_cs, k_ix (by omega) (by omega), show (44 + (c : Int)).toNat = 44 + c by omega, hw, m_most ⟨by omega, by omega⟩ ⟨by omega, by omega⟩, k_cs, show max (cy - spRoot (spV w cx r c)) (w (44 + c)) = spBase w cx cy r c from rfl, k_ix (by omega) (by omega), k_lt, k_ix (by omega) (by omega), k_ix (by omega) (by omega), tn0, up_ss, up_na _ _ _ _ (by omega), hw, show (3 + (c : Int)).toNat = 3 + c by omega, k_lec ⟨by omega, by omega⟩ ⟨by omega, by omega⟩]
    refine ⟨sj_up V (a + 5) c (spBase w cx cy r c), ?_, Fc.rf.up5, fun d hd => up_nk _ _ _ hd, fun _ => up_ss _ _ _ _⟩
    by_cases hl : w (3 + c) ≤ spBase w cx cy r c
    · rw [if_pos hl, k_zs (Or.inl rfl), if_neg (show ¬ spIn w cx cy r c = true by unfold spIn; rw [decide_eq_true_iff]; omega)]
    · rw [if_neg hl, k_zs (Or.inr rfl), if_pos (show spIn w cx cy r c = true by unfold spIn; rw [decide_eq_true_iff]; omega)]
  · have hi : ¬ spIn w cx cy r c = true := by unfold spIn; rw [decide_eq_true_iff]; omega
    rw [if_neg hz, k_zs (Or.inl rfl), if_neg hi]
    exact ⟨V, rfl, Fc.rf, fun _ _ => rfl, fun z => absurd z hi⟩
theorem m_cut_end (hw : V (a + 1) = w) (hB : WB lv hv rv w) (hlf : lf = 0 ∨ lf = 1) (hn : w 0 = (n : Nat)) {F c : Nat} (h1 : 1 ≤ F) (h3 : F ≤ c) (h2 : c ≤ n + 1) (hb : ∀ d, F ≤ d → d < c → V (a + 5) d = spBase w cx cy r d) : ∃ V', g_X9_cuts_83 N a lf F c V = some (if c ≤ n then 1 else 0, V') ∧ Fc a V V' ∧ (c ≤ n → SM V' a (F - 1) c lf (spEnds w cx cy r (F - 1) c)) := by
  have h0 := hB.1
  unfold g_X9_cuts_83
  rw [k_ix (by omega) (by omega), hw, show (0 : Int).toNat = 0 from rfl, k_lec ⟨by omega, by omega⟩ ⟨by omega, by omega⟩]
  by_cases c1 : (c : Int) ≤ w 0
  · rw [if_pos c1, if_pos (show c ≤ n by omega), k_lt, k_lt, k_zz hlf]
    obtain ⟨V3, e⟩ : ∃ V3, V3 = sj_up (sj_up (sj_up V a 13 ((F : Int) - 1)) a 14 c) a 15 lf := ⟨_, rfl⟩
    have f3 : Fc a V V3 := by rw [e]; exact ((Fc.rf.up (by omega) (by omega)).up (by omega) (by omega)).up (by omega) (by omega)
    have a13 : V3 a 13 = ((F - 1 : Nat) : Int) := by rw [e, up_nk _ _ _ (by omega), up_nk _ _ _ (by omega), up_ss]; omega
    have a14 : V3 a 14 = (c : Int) := by rw [e, up_nk _ _ _ (by omega), up_ss]
    have a15 : V3 a 15 = lf := by rw [e, up_ss]
    have a5 : V3 (a + 5) = V (a + 5) := by rw [e, up_row _ _ _ (by omega), up_row _ _ _ (by omega), up_row _ _ _ (by omega)]
    have w3 : V3 (a + 1) = w := f3.w.trans hw
    rw [← e, k_lt, a13, k_ix (by omega) (by omega), k_ix (by omega) (by omega), w3, tn0, show (3 + ((F - 1 : Nat) : Int)).toNat = 3 + (F - 1) by omega]
    obtain ⟨V4, e4⟩ : ∃ V4, V4 = sj_up V3 (a + 5) (F - 1) (w (3 + (F - 1))) := ⟨_, rfl⟩
    have f4 : Fc a V V4 := by rw [e4]; exact f3.up5
    have b0 : V4 a = V3 a := by rw [e4]; exact up_row _ _ _ (by omega)
    have w4 : V4 (a + 1) = w := f4.w.trans hw
    rw [← e4, k_lt, b0, a14, k_ix (by omega) (by omega), k_ix (by omega) (by omega), w4, tn0, show (3 + (c : Int)).toNat = 3 + c by omega, k_lt, k_zs (Or.inr rfl)]
    refine ⟨_, rfl, f4.up5, fun _ => ⟨?_, ?_, ?_, fun d g1 g2 => ?_⟩⟩
    · rw [up_row _ _ _ (by omega), b0]; exact a13
    · rw [up_row _ _ _ (by omega), b0]; exact a14
    · rw [up_row _ _ _ (by omega), b0]; exact a15
    · unfold spEnds
      by_cases d1 : d = c
      · subst d1; rw [up_ss, if_pos (Or.inr rfl)]
      · rw [up_nk _ _ _ d1, e4]
        by_cases d2 : d = F - 1
        · subst d2; rw [up_ss, if_pos (Or.inl rfl)]
        · rw [up_nk _ _ _ d2, if_neg (by omega), a5]; exact hb d (by omega) (by omega)
  · rw [if_neg c1, if_neg (by omega), k_zs (Or.inl rfl)]
    exact ⟨V, rfl, Fc.rf, fun z => by omega⟩
theorem m_cut_B (hB : WB lv hv rv w) (hci : spCirc cx cy r) (hlf : lf = 0 ∨ lf = 1) (hN : 1000 ≤ N) (hn : w 0 = (n : Nat)) {F : Nat} (hF : 1 ≤ F) : ∀ (m c : Nat) (V : sj_VV), F ≤ c → c ≤ n + 1 → n + 1 - c < m → V (a + 1) = w → (∀ d, F ≤ d → d < c → V (a + 5) d = spBase w cx cy r d) → ∃ V', g_X9_cuts_54 N m a cx cy r lf F c V = some (if spSeek (fun c => !spIn w cx cy r c) (n + 1 - c) c ≤ n then 1 else 0, V') ∧ Fc a V V' ∧ (spSeek (fun c => !spIn w cx cy r c) (n + 1 - c) c ≤ n → SM V' a (F - 1) (spSeek (fun c => !spIn w cx cy r c) (n + 1 - c) c) lf (spEnds w cx cy r (F - 1) (spSeek (fun c => !spIn w cx cy r c) (n + 1 - c) c)))
  | 0, _, _, _, _, h, _, _ => absurd h (by omega)
  | m + 1, c, V, h1, h2, h3, hw, hb => by
    have h0 := hB.1
    unfold g_X9_cuts_54 g_X9_cuts_54_b
    rw [k_ix (by omega) (by omega), hw, show (0 : Int).toNat = 0 from rfl, k_ltc ⟨by omega, by omega⟩ ⟨by omega, by omega⟩]
    by_cases hc : c = n + 1
    · subst hc
      rw [if_pos (by omega), spSeek_e]
      exact m_cut_end hw hB hlf hn hF h1 h2 hb
    · have hle : c ≤ n := by omega
      obtain ⟨V1, r1, r2, r3, r4⟩ := m_isBelow hw hB hci hN hn hle
      rw [if_neg (by omega), r1, k_cs]
      by_cases hi : spIn w cx cy r c = true
      · rw [if_pos hi, k_eqF (by omega) ⟨by omega, by omega⟩ ⟨by omega, by omega⟩, k_lt, spNot_T hle hi]
        obtain ⟨V2, s1, s2, s3⟩ := m_cut_B hB hci hlf hN hn hF m (c + 1) V1 (by omega) (by omega) (by omega) (r2.w.trans hw) (fun d g1 g2 => by
          by_cases g3 : d = c
          · subst g3; exact r4 hi
          · rw [r3 d g3]; exact hb d g1 (by omega))
        exact ⟨V2, s1, r2.tr s2, s3⟩
      · rw [if_neg hi, k_eqT rfl, spNot_F hle hi]
        obtain ⟨V2, s1, s2, s3⟩ := m_cut_end (N := N) (r2.w.trans hw) hB hlf hn hF h1 h2 (fun d g1 g2 => by rw [r3 d (by omega)]; exact hb d g1 g2)
        exact ⟨V2, s1, r2.tr s2, s3⟩
theorem m_cut_A (hB : WB lv hv rv w) (hci : spCirc cx cy r) (hlf : lf = 0 ∨ lf = 1) (hN : 1000 ≤ N) (hn : w 0 = (n : Nat)) : ∀ (m c : Nat) (V : sj_VV), c ≤ n + 1 → n + 2 - c < m → V (a + 1) = w → ∃ V', g_X9_cuts_3 N m a cx cy r lf c V = some (if 1 ≤ spSeek (spIn w cx cy r) (n + 1 - c) c ∧ spNxt w cx cy r (spSeek (spIn w cx cy r) (n + 1 - c) c) ≤ n then 1 else 0, V') ∧ Fc a V V' ∧ (1 ≤ spSeek (spIn w cx cy r) (n + 1 - c) c → spNxt w cx cy r (spSeek (spIn w cx cy r) (n + 1 - c) c) ≤ n → SM V' a (spSeek (spIn w cx cy r) (n + 1 - c) c - 1) (spNxt w cx cy r (spSeek (spIn w cx cy r) (n + 1 - c) c)) lf (spEnds w cx cy r (spSeek (spIn w cx cy r) (n + 1 - c) c - 1) (spNxt w cx cy r (spSeek (spIn w cx cy r) (n + 1 - c) c))))
  | 0, _, _, _, h, _ => absurd h (by omega)
  | m + 1, c, V, h2, h3, hw => by
    have h0 := hB.1
    have hnn : (w 0).toNat = n := by omega
    unfold g_X9_cuts_3 g_X9_cuts_3_b
    rw [k_ix (by omega) (by omega), hw, show (0 : Int).toNat = 0 from rfl, k_ltc ⟨by omega, by omega⟩ ⟨by omega, by omega⟩]
    by_cases hc : c = n + 1
    · subst hc
      have e1 : spNxt w cx cy r (n + 1) = n + 1 := by unfold spNxt; rw [hnn, spSeek_e]
      unfold g_X9_cuts_32
      rw [if_pos (by omega), spSeek_e, e1, if_neg (by omega), k_eqF (by omega) ⟨by omega, by omega⟩ ⟨by omega, by omega⟩, k_ix (by omega) (by omega), hw, show (0 : Int).toNat = 0 from rfl, k_leF (by omega) ⟨by omega, by omega⟩ ⟨by omega, by omega⟩, k_zs (Or.inl rfl)]
      exact ⟨V, rfl, Fc.rf, fun _ z => by omega⟩
    · have hle : c ≤ n := by omega
      obtain ⟨V1, r1, r2, r3, r4⟩ := m_isBelow hw hB hci hN hn hle
      rw [if_neg (by omega), r1, k_cs, spSeek_s _ hle]
      by_cases hi : spIn w cx cy r c = true
      · rw [if_pos hi, k_eqF (by omega) ⟨by omega, by omega⟩ ⟨by omega, by omega⟩, if_pos hi]
        unfold g_X9_cuts_32
        have w1 : V1 (a + 1) = w := r2.w.trans hw
        by_cases hz : c = 0
        · subst hz
          rw [k_eqT (by omega), k_zs (Or.inl rfl), if_neg (by omega)]
          exact ⟨V1, rfl, r2, fun z => by omega⟩
        · rw [k_eqF (by omega) ⟨by omega, by omega⟩ ⟨by omega, by omega⟩, k_ix (by omega) (by omega), w1, show (0 : Int).toNat = 0 from rfl, k_leT (by omega) ⟨by omega, by omega⟩ ⟨by omega, by omega⟩]
          obtain ⟨V2, s1, s2, s3⟩ := m_cut_B (N := N) (a := a) (lf := lf) hB hci hlf hN hn (F := c) (by omega) N c V1 (by omega) (by omega) (by omega) w1 (fun d g1 g2 => by omega)
          have e1 : spSeek (fun c => !spIn w cx cy r c) (n + 1 - c) c = spNxt w cx cy r c := by unfold spNxt; rw [hnn]
          rw [e1] at s1 s3
          refine ⟨V2, ?_, r2.tr s2, fun _ z => s3 z⟩
          rw [s1]
          by_cases z : spNxt w cx cy r c ≤ n
          · rw [if_pos z, if_pos ⟨by omega, z⟩]
          · rw [if_neg z, if_neg (fun y => z y.2)]
      · rw [if_neg hi, k_eqT rfl, k_lt, if_neg hi]
        obtain ⟨V2, s1, s2, s3⟩ := m_cut_A hB hci hlf hN hn m (c + 1) V1 (by omega) (by omega) (r2.w.trans hw)
        exact ⟨V2, s1, r2.tr s2, s3⟩
theorem m_cuts (hw : V (a + 1) = w) (hB : WB lv hv rv w) (hci : spCirc cx cy r) (hlf : lf = 0 ∨ lf = 1) (hN : 1000 ≤ N) : ∃ V', g_X9_cuts N a cx cy r lf V = some (if spOk w cx cy r then 1 else 0, V') ∧ Fc a V V' ∧ (spOk w cx cy r → SM V' a (spFrom w cx cy r) (spTo w cx cy r) lf (spBs w cx cy r)) := by
  unfold g_X9_cuts
  have h0 := hB.1
  obtain ⟨V2, r1, r2, r3⟩ := m_cut_A (N := N) (a := a) (n := (w 0).toNat) (lf := lf) hB hci hlf hN (by omega) N 0 V (by omega) (by omega) hw
  exact ⟨V2, r1, r2, fun z => r3 z.1 z.2⟩
/-- FACTOR of the slip that a circle cuts, or -1 -/
def spFBy (w : sj_R) (cx cy r lf : Int) : Int := if spCirc cx cy r then if spOk w cx cy r then spF w (spFrom w cx cy r) (spTo w cx cy r) lf (spBs w cx cy r) else -1 else -1
theorem m_factorBy (hw : V (a + 1) = w) (hB : WB lv hv rv w) (hlv : lv ≤ 1100) (hhv : hv ≤ 700) (hrv : rv ≤ 2250) (h1 : sj_i32 cx) (h2 : sj_i32 cy) (h3 : sj_i32 r) (hlf : lf = 0 ∨ lf = 1) (hN : 1000 ≤ N) : ∃ V', g_X9_factorBy N a cx cy r lf V = some (spFBy w cx cy r lf, V') ∧ Fc a V V' := by
  unfold g_X9_factorBy spFBy
  rw [m_isCircle h1 h2 h3, k_cs]
  by_cases hci : spCirc cx cy r
  · obtain ⟨V1, r1, r2, r3⟩ := m_cuts (N := N) (lf := lf) hw hB hci hlf hN
    rw [if_pos hci, if_pos hci, k_eqF (by omega) ⟨by omega, by omega⟩ ⟨by omega, by omega⟩, r1, k_cs]
    by_cases ho : spOk w cx cy r
    · obtain ⟨V2, s1, s2⟩ := m_factorOf (N := N) (r2.w.trans hw) hB hlv hhv hrv (by omega) (r3 ho) (spOk_b hB hci hlf ho).1
      rw [if_pos ho, if_pos ho, k_eqF (by omega) ⟨by omega, by omega⟩ ⟨by omega, by omega⟩, s1, k_cs]
      exact ⟨V2, rfl, r2.tr s2.c⟩
    · rw [if_neg ho, if_neg ho, k_eqT rfl]
      exact ⟨V1, rfl, r2⟩
  · rw [if_neg hci, if_neg hci, k_eqT rfl]
    exact ⟨V, rfl, Fc.rf⟩
theorem spFBy_b (w : sj_R) (cx cy r lf : Int) : -1 ≤ spFBy w cx cy r lf ∧ spFBy w cx cy r lf ≤ 20000 := by
  unfold spFBy
  have := spF_b w (spFrom w cx cy r) (spTo w cx cy r) lf (spBs w cx cy r)
  split
  · split <;> omega
  · omega
end RefCut
