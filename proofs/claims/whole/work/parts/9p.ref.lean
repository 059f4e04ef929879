/-! TABLES: the number at which all slips stand, and the worst, as the reference has them -/
noncomputable def tK (w : sj_R) (t lf k : Int) : Bool := @decide (∀ (a c : Nat) (v : Int), (c : Int) < w 0 → wEn w t lf k 48000000000000 a c v → 0 ≤ v) (Classical.propDecidable _)
noncomputable def tF (w : sj_R) (t lf : Int) : Int := spFac (tK w t lf) 15 0 20001
def E10 (w : sj_R) (t lf k : Int) (v g : Int) : Prop := ∃ a c : Nat, (c : Int) < w 0 ∧ wEn w t lf k 10000000000000 a c v ∧ g = (a : Int) * 41 + ((c : Int) + 1)
/-- what the search for the worst may touch -/
def Fwo (b : Nat) (V V' : sj_VV) : Prop := (∀ z, z ≠ b → (z < b + 5 ∨ b + 9 ≤ z) → V' z = V z) ∧ ∀ j, (j < 6 ∨ 16 ≤ j) → V' b j = V b j
section RefT
variable {V V1 V2 V' : sj_VV} {b N c d first a : Nat} {w : sj_R} {t lf k any z o h x v g least due : Int}
theorem tK_iff : tK w t lf k = true ↔ ∀ (a c : Nat) (v : Int), (c : Int) < w 0 → wEn w t lf k 48000000000000 a c v → 0 ≤ v := by
  unfold tK
  exact @decide_eq_true_iff _ (Classical.propDecidable _)
theorem spFac_up (P : Int → Bool) : ∀ (n : Nat) (lo hi : Int), lo < hi → hi - lo ≤ 2 ^ n → (P hi = false ∨ hi = 20001) → P (spFac P n lo hi + 1) = false ∨ spFac P n lo hi + 1 = 20001
  | 0, lo, hi, h1, h2, h3 => by
    have e : hi = lo + 1 := by simp at h2; omega
    rw [spFac, ← e]; exact h3
  | n + 1, lo, hi, h1, h2, h3 => by
    rw [Int.pow_succ] at h2
    rw [spFac]
    split
    · have e : hi = lo + 1 := by omega
      rw [← e]; exact h3
    · split
      · exact spFac_up P n _ _ (by omega) (by omega) h3
      · rename_i h4
        exact spFac_up P n _ _ (by omega) (by omega) (Or.inl (by simpa using h4))
theorem tF_b : 0 ≤ tF w t lf ∧ tF w t lf ≤ 20000 := by
  have := spFac_ge (tK w t lf) 15 0 20001 (by omega)
  have h2 := this.2 (by omega)
  unfold tF
  omega
theorem tF_up (h : tF w t lf ≠ 20000) : tK w t lf (tF w t lf + 1) = false := by
  rcases spFac_up (tK w t lf) 15 0 20001 (by omega) (by decide) (Or.inr rfl) with y | y
  · exact y
  · unfold tF at h; omega
theorem Fwo.rf : Fwo b V V := ⟨fun _ _ _ => rfl, fun _ _ => rfl⟩
theorem Fwo.tr (h : Fwo b V V1) (h2 : Fwo b V1 V2) : Fwo b V V2 := ⟨fun z a1 a2 => (h2.1 z a1 a2).trans (h.1 z a1 a2), fun j hj => (h2.2 j hj).trans (h.2 j hj)⟩
theorem FR.fwo (h : FR b V V1) : Fwo b V V1 := ⟨fun z a1 a2 => h.1 z a1 (by omega), fun j hj => h.2 j (by omega)⟩
theorem Fwo.row1 (h : Fwo b V V1) : V1 (b + 1) = V (b + 1) := h.1 _ (by omega) (by omega)
theorem E10_iff : (∃ (c' : Nat) (g : Int), (c' : Int) ≤ w 0 ∧ Cc w t lf k any first c' (w (3 + c')) v g) ↔ ∃ (a d : Nat), (d : Int) < w 0 ∧ wA any first a ∧ wEn w t lf k 10000000000000 a d v := by
  constructor
  · rintro ⟨c', g, h1, h2⟩
    obtain ⟨d, e, _⟩ := id h2
    subst e
    obtain ⟨a, h3, h4⟩ := Cc_iff.mp ⟨g, h2⟩
    exact ⟨a, d, by omega, h3, h4⟩
  · rintro ⟨a, d, h1, h2, h3⟩
    obtain ⟨g, h4⟩ := Cc_iff.mpr ⟨a, h2, h3⟩
    exact ⟨d + 1, g, by omega, h4⟩
theorem goes_tK (hB : WB 500 200 1500 w) (ht : 0 ≤ t ∧ t ≤ 12) (hk : 0 ≤ k ∧ k ≤ 20001) {l : Int} (hm : Mr (fun v => ∃ (c' : Nat) (g : Int), (c' : Int) ≤ w 0 ∧ Cc w t lf k 1 0 c' (w (3 + c')) v g) l) : tK w t lf k = true ↔ 0 ≤ l := by
  have n0 := hB.1
  rw [tK_iff]
  constructor
  · intro h
    rcases hm with ⟨h1, _⟩ | ⟨h1, _⟩
    · omega
    · obtain ⟨a, d, h2, _, h3⟩ := E10_iff.mp h1
      exact h a d l h2 (wAr_z (by omega) h3)
  · intro h a c v hc hv
    rcases wAr_d hB ht hk (by omega) hv with y | y
    · rcases hm with ⟨_, h2⟩ | ⟨_, h2⟩
      · exact absurd (E10_iff.mpr ⟨a, c, hc, ⟨Or.inl rfl, by omega⟩, y⟩) (h2 v)
      · have := h2 v (E10_iff.mpr ⟨a, c, hc, ⟨Or.inl rfl, by omega⟩, y⟩)
        omega
    · omega
theorem Mr_b (hB : WB 500 200 1500 w) (ht : 0 ≤ t ∧ t ≤ 12) (hk : 0 ≤ k ∧ k ≤ 20001) {l : Int} (hm : Mr (fun v => ∃ (c' : Nat) (g : Int), (c' : Int) ≤ w 0 ∧ Cc w t lf k any first c' (w (3 + c')) v g) l) : -4000000000000000000 ≤ l ∧ l ≤ 4000000000000000000 := by
  have n0 := hB.1
  rcases hm with ⟨h1, _⟩ | ⟨⟨c, g, h1, h2⟩, _⟩
  · omega
  · have := (Cc_b hB (by omega) ht hk h2).1
    omega
theorem tableK_loop (hB : WB 500 200 1500 w) (hN : 1000 ≤ N) (ht : 0 ≤ t ∧ t ≤ 12) (hlf : lf = 0 ∨ lf = 1) : ∀ (m n : Nat) (lo hi : Int) (V : sj_VV), n < m → 0 ≤ lo → lo < hi → hi ≤ 20001 → hi - lo ≤ 2 ^ n → V (b + 1) = w → ∃ V', g_X9_tableK_7 N m b t lf lo hi V = some (spFac (tK w t lf) n lo hi, V') ∧ FR b V V'
  | 0, _, _, _, _, h, _, _, _, _, _ => absurd h (by omega)
  | m + 1, n, lo, hi, V, h1, h2, h3, h4, h5, hw => by
    unfold g_X9_tableK_7 g_X9_tableK_7_b
    rw [k_lec ⟨by omega, by omega⟩ ⟨by omega, by omega⟩]
    cases n with
    | zero =>
      rw [if_pos (by simpa using h5)]
      exact ⟨V, rfl, FR.rf⟩
    | succ n =>
      rw [Int.pow_succ] at h5
      rw [spFac]
      by_cases hg : hi - lo ≤ 1
      · rw [if_pos hg, if_pos hg]
        exact ⟨V, rfl, FR.rf⟩
      · have em : (lo + hi).tdiv 2 = (lo + hi) / 2 := Int.tdiv_eq_ediv_of_nonneg (by omega)
        have n0 := hB.1
        obtain ⟨V2, l, q1, q2, _, q4⟩ := goes_eq (N := N) (b := b) (V := V) (first := 0) (any := 1) (k := (lo + hi) / 2) hB hN ht (by omega) hlf (Or.inr rfl) (by omega) hw
        have q1' : g_X9_goes N b 0 1 t lf ((lo + hi) / 2) V = some (l, V2) := q1
        have lb := Mr_b hB ht (by omega) q4
        have hP := goes_tK hB ht (by omega) q4
        rw [if_neg hg, if_neg hg, k_dI ⟨by omega, by omega⟩ ⟨by omega, by omega⟩ (by omega), em, q1', k_cs, k_lltc ⟨by omega, by omega⟩ ⟨by omega, by omega⟩]
        unfold g_X9_tableK_48
        by_cases hl : l < 0
        · have hn : ¬ tK w t lf ((lo + hi) / 2) = true := fun y => by have := hP.mp y; omega
          rw [if_pos hl, if_neg hn]
          obtain ⟨V3, r1, r2⟩ := tableK_loop hB hN ht hlf m n lo ((lo + hi) / 2) V2 (by omega) (by omega) (by omega) (by omega) (by omega) (q2.row1.trans hw)
          exact ⟨V3, r1, q2.tr r2⟩
        · have hn : tK w t lf ((lo + hi) / 2) = true := hP.mpr (by omega)
          rw [if_neg hl, if_pos hn]
          obtain ⟨V3, r1, r2⟩ := tableK_loop hB hN ht hlf m n ((lo + hi) / 2) hi V2 (by omega) (by omega) (by omega) (by omega) (by omega) (q2.row1.trans hw)
          exact ⟨V3, r1, q2.tr r2⟩
theorem tableK_eq (hB : WB 500 200 1500 w) (hN : 1000 ≤ N) (ht : 0 ≤ t ∧ t ≤ 12) (hlf : lf = 0 ∨ lf = 1) (hw : V (b + 1) = w) : ∃ V', g_X9_tableK N b t lf V = some (tF w t lf, V') ∧ FR b V V' := by
  unfold g_X9_tableK
  exact tableK_loop hB hN ht hlf N 15 0 20001 V (by omega) (by omega) (by omega) (by omega) (by decide) hw
/-- the way back in the reference -/
theorem fw_119 (hB : WB 500 200 1500 w) (hN : 1000 ≤ N) (ht : 0 ≤ t ∧ t ≤ 12) (hk : 0 ≤ k ∧ k ≤ 20001) : ∀ (m c : Nat) (rc : Int) (V : sj_VV), a ≤ c → (c : Int) ≤ w 0 → c - a < m → (∀ c' : Nat, a ≤ c' → (c' : Int) ≤ w 0 → Gc V b w t lf k 0 a c') → (0 ≤ V (b + 5) c ∧ V (b + 5) c ≤ 100) → (a < c → Mn (Cc w t lf k 0 a c (V (b + 5) c)) rc (V (b + 7) (pm c (V (b + 5) c)))) → ∃ (V' : sj_VV) (rs : Nat → Int), g_X9_findsWorst_119 N m b a c V = some (1, V') ∧ (∀ z, z ≠ b + 5 → V' z = V z) ∧ (∀ j, c ≤ j → V' (b + 5) j = V (b + 5) j) ∧ rs c = rc ∧ ∀ j, a ≤ j → j < c → wGo w t lf k 10000000000000 a j (V' (b + 5) j) (rs j) ∧ wSt w t lf k 10000000000000 j (V' (b + 5) j) (V' (b + 5) (j + 1)) ∧ rs j + wQ w lf k j (V' (b + 5) j) (V' (b + 5) (j + 1)) = rs (j + 1) ∧ ∀ o u, wGo w t lf k 10000000000000 a j o u → wSt w t lf k 10000000000000 j o (V' (b + 5) (j + 1)) → u + wQ w lf k j o (V' (b + 5) (j + 1)) = rs (j + 1) → V' (b + 5) j ≤ o
  | 0, _, _, _, _, _, h', _, _, _ => absurd h' (by omega)
  | m + 1, c, rc, V, c1, c2, c3, hG, hb, hM => by
    have n0 := hB.1
    unfold g_X9_findsWorst_119 g_X9_findsWorst_119_b
    rw [k_lec ⟨by omega, by omega⟩ ⟨by omega, by omega⟩]
    by_cases hx : (c : Int) ≤ a
    · rw [if_pos hx, k_zs (Or.inr rfl)]
      exact ⟨V, fun _ => rc, rfl, fun _ _ => rfl, fun _ _ => rfl, rfl, fun j j1 j2 => by omega⟩
    · obtain ⟨d, ed⟩ : ∃ d, c = d + 1 := ⟨c - 1, by omega⟩
      subst ed
      have hm := hM (by omega)
      obtain ⟨d', e', _, u, ⟨a', ha', hg⟩, hs, hv⟩ := id hm.1
      have e'' : d' = d := by omega
      subst e''
      have ea : a' = a := by have := ha'.1; omega
      rw [ea] at ha' hg
      have ep : (101 * ((d' + 1 : Nat) : Int) + V (b + 5) (d' + 1)).toNat = pm (d' + 1) (V (b + 5) (d' + 1)) := rfl
      have g100 := wGo_100 hB (by omega) hg
      have gr := wGo_r hB (by omega) hg
      rw [if_neg hx, k_ix (by omega) (by omega), tn0, k_ix (by omega) (by omega), k_ix (by omega) (by omega), k_lt, ep, show (((d' + 1 : Nat) : Int) - 1).toNat = d' by omega, k_lt, show (((d' + 1 : Nat) : Int) + -1) = (d' : Int) by omega]
      obtain ⟨gv, egv⟩ : ∃ gv, gv = V (b + 7) (pm (d' + 1) (V (b + 5) (d' + 1))) := ⟨_, rfl⟩
      rw [← egv] at hm hg hs hv g100 gr ⊢
      obtain ⟨V2, e2⟩ : ∃ V2, V2 = sj_up V (b + 5) d' gv := ⟨_, rfl⟩
      have u2 : ∀ z, z ≠ b + 5 → V2 z = V z := fun z hz => by rw [e2, up_row _ _ _ hz]
      have v2 : V2 (b + 5) d' = gv := by rw [e2, up_ss]
      have n2 : ∀ j, j ≠ d' → V2 (b + 5) j = V (b + 5) j := fun j hj => by rw [e2, up_nk _ _ _ hj]
      rw [← e2]
      have hG2 : ∀ c' : Nat, a ≤ c' → (c' : Int) ≤ w 0 → Gc V2 b w t lf k 0 a c' := fun c' y1 y2 => by
        unfold Gc
        rw [u2 (b + 6) (by omega), u2 (b + 7) (by omega), u2 (b + 8) (by omega)]
        exact hG c' y1 y2
      obtain ⟨V3, rs, s1, s2, s3, s4, s5⟩ := fw_119 hB hN ht hk m d' u V2 (by omega) (by omega) (by omega) hG2 (by rw [v2]; exact g100) (fun hlt => by
        rw [v2, u2 (b + 7) (by omega)]
        have ne : gv ≠ w (3 + d') := fun y => by
          rw [y] at hg
          have := (wGo_g hg).1
          omega
        have q0 : Qg w t lf k 0 a d' gv u := ⟨a, ha', hg⟩
        obtain ⟨g2, hg2⟩ := (Qg_iff ne).mp q0
        rcases (hG d' (by omega) (by omega)).1 gv g100.1 (by omega) with ⟨_, y⟩ | ⟨_, y⟩
        · exact absurd hg2 (y _ _)
        · have l1 := y.2 _ _ hg2
          have l2 := hm.2 (V (b + 6) (pm d' gv) + wQ w lf k d' gv (V (b + 5) (d' + 1))) gv ⟨d', rfl, by omega, _, (Qg_iff ne).mpr ⟨_, y.1⟩, hs, rfl⟩
          have eu : V (b + 6) (pm d' gv) = u := by omega
          rw [eu] at y
          exact y)
      rw [s1]
      have k1 : V3 (b + 5) d' = gv := by rw [s3 _ (by omega), v2]
      have k2 : V3 (b + 5) (d' + 1) = V (b + 5) (d' + 1) := by rw [s3 _ (by omega), n2 _ (by omega)]
      refine ⟨V3, fun j => if j = d' + 1 then rc else rs j, rfl, fun z hz => (s2 z hz).trans (u2 z hz), fun j hj => by rw [s3 j (by omega), n2 j (by omega)], if_pos rfl, fun j j1 j2 => ?_⟩
      show wGo w t lf k 10000000000000 a j (V3 (b + 5) j) (if j = d' + 1 then rc else rs j) ∧ wSt w t lf k 10000000000000 j (V3 (b + 5) j) (V3 (b + 5) (j + 1)) ∧ (if j = d' + 1 then rc else rs j) + wQ w lf k j (V3 (b + 5) j) (V3 (b + 5) (j + 1)) = (if j + 1 = d' + 1 then rc else rs (j + 1)) ∧ ∀ o u, wGo w t lf k 10000000000000 a j o u → wSt w t lf k 10000000000000 j o (V3 (b + 5) (j + 1)) → u + wQ w lf k j o (V3 (b + 5) (j + 1)) = (if j + 1 = d' + 1 then rc else rs (j + 1)) → V3 (b + 5) j ≤ o
      rw [if_neg (show ¬ j = d' + 1 by omega)]
      by_cases ej : j = d'
      · subst ej
        rw [if_pos rfl, k1, k2, s4]
        refine ⟨hg, hs, by omega, fun o u' y1 y2 y3 => ?_⟩
        have := hm.2 rc o ⟨j, rfl, by omega, u', ⟨a, ha', y1⟩, y2, by omega⟩
        omega
      · rw [if_neg (show ¬ j + 1 = d' + 1 by omega)]
        exact s5 j j1 (by omega)
/-- the least end -/
theorem fw_63 (hB : WB 500 200 1500 w) (hN : 1000 ≤ N) (ht : 0 ≤ t ∧ t ≤ 12) (hk : 0 ≤ k ∧ k ≤ 20001) (hlf : lf = 0 ∨ lf = 1) (hd : due < 4000000000000000000) (hlow : ∀ (d : Nat) v, (d : Int) < w 0 → wEn w t lf k 10000000000000 a d v → due ≤ v) (hex : ∃ d : Nat, (d : Int) < w 0 ∧ wEn w t lf k 10000000000000 a d due) : ∀ (m c : Nat) (V : sj_VV), a < c → 41 - c < m → V (b + 1) = w → (∀ c' : Nat, a ≤ c' → (c' : Int) ≤ w 0 → Gc V b w t lf k 0 a c') → (∀ d : Nat, (d : Int) < w 0 → wEn w t lf k 10000000000000 a d due → c ≤ d + 1) → ∃ (V' : sj_VV) (e : Nat) (bs rs : Nat → Int), g_X9_findsWorst_63 N m b lf due a c V = some (1, V') ∧ Fwo b V V' ∧ SM V' b a (e + 1) lf bs ∧ Pth w t lf k 10000000000000 a (e + 1) due bs rs ∧ (e : Int) < w 0 ∧ wEn w t lf k 10000000000000 a e due ∧ ∀ d : Nat, (d : Int) < w 0 → wEn w t lf k 10000000000000 a d due → e ≤ d
  | 0, _, _, _, h', _, _, _ => absurd h' (by omega)
  | m + 1, c, V, c1, c2, hw, hG, hlo => by
    have n0 := hB.1
    obtain ⟨d0, y1, y2⟩ := id hex
    have y3 := hlo d0 y1 y2
    obtain ⟨e, ee⟩ : ∃ e, c = e + 1 := ⟨c - 1, by omega⟩
    subst ee
    have hm := (hG (e + 1) (by omega) (by omega)).2
    have b1 := (hB.2.2.2.1 (e + 1) (by omega)).1
    have vb : -4000000000000000000 ≤ V (b + 8) (e + 1) ∧ V (b + 8) (e + 1) ≤ 4000000000000000000 := by
      rcases id hm with ⟨q, _⟩ | ⟨_, q, _⟩
      · omega
      · have := (Cc_b hB (by omega) ht hk q).1; omega
    have db := wAr_b hB ht hk (by omega) y2
    unfold g_X9_findsWorst_63 g_X9_findsWorst_63_b
    rw [k_ix (by omega) (by omega), tn0, k_leqc ⟨by omega, by omega⟩ ⟨by omega, by omega⟩]
    by_cases hx : V (b + 8) (e + 1) = due
    · rw [if_pos hx, k_lt, k_lt, k_zz hlf, k_lt, k_ix (by omega) (by omega), k_ix (by omega) (by omega), k_lt, show (3 + ((e + 1 : Nat) : Int)).toNat = 3 + (e + 1) by omega]
      rcases hm with ⟨q, _⟩ | ⟨_, q⟩
      · omega
      · obtain ⟨V1, e1⟩ : ∃ V1, V1 = sj_up (sj_up (sj_up V b 13 a) b 14 ((e + 1 : Nat) : Int)) b 15 lf := ⟨_, rfl⟩
        have u1 : ∀ z, z ≠ b → V1 z = V z := fun z hz => by rw [e1, up_row _ _ _ hz, up_row _ _ _ hz, up_row _ _ _ hz]
        have j1 : ∀ j, (j < 13 ∨ 16 ≤ j) → V1 b j = V b j := fun j hj => by rw [e1, up_nk _ _ _ (by omega), up_nk _ _ _ (by omega), up_nk _ _ _ (by omega)]
        have e13 : V1 b 13 = a := by rw [e1, up_nk _ _ _ (by omega), up_nk _ _ _ (by omega), up_ss]
        have e14 : V1 b 14 = ((e + 1 : Nat) : Int) := by rw [e1, up_nk _ _ _ (by omega), up_ss]
        have e15 : V1 b 15 = lf := by rw [e1, up_ss]
        rw [← e1, u1 (b + 1) (by omega), hw]
        obtain ⟨V2, e2⟩ : ∃ V2, V2 = sj_up V1 (b + 5) (e + 1) (w (3 + (e + 1))) := ⟨_, rfl⟩
        have u2 : ∀ z, z ≠ b + 5 → V2 z = V1 z := fun z hz => by rw [e2, up_row _ _ _ hz]
        have v2 : V2 (b + 5) (e + 1) = w (3 + (e + 1)) := by rw [e2, up_ss]
        rw [← e2]
        obtain ⟨V3, rs, s1, s2, s3, s4, s5⟩ := fw_119 (N := N) (b := b) (a := a) (lf := lf) hB hN ht hk N (e + 1) due V2 (by omega) (by omega) (by omega) (fun c' z1 z2 => by
            unfold Gc
            rw [u2 (b + 6) (by omega), u2 (b + 7) (by omega), u2 (b + 8) (by omega), u1 (b + 6) (by omega), u1 (b + 7) (by omega), u1 (b + 8) (by omega)]
            exact hG c' z1 z2) (by rw [v2]; omega) (fun _ => by
            rw [v2, u2 (b + 7) (by omega), u1 (b + 7) (by omega), ← hx]
            exact q)
        have en : wEn w t lf k 10000000000000 a e due := by
          obtain ⟨a', z1, z2⟩ := Cc_iff.mp ⟨_, q.1⟩
          have ea : a' = a := by have := z1.1; omega
          rw [ea, hx] at z2
          exact z2
        rw [s1]
        refine ⟨V3, e, fun j => V3 (b + 5) j, rs, rfl, ⟨fun z z1 z2 => ?_, fun j hj => ?_⟩, ⟨?_, ?_, ?_, fun j _ _ => rfl⟩, ⟨?_, s4, s5⟩, by omega, en, fun d z1 z2 => by have := hlo d z1 z2; omega⟩
        · rw [s2 z (by omega), u2 z (by omega), u1 z (by omega)]
        · rw [s2 b (by omega), u2 b (by omega), j1 j (by omega)]
        · rw [s2 b (by omega), u2 b (by omega)]; exact e13
        · rw [s2 b (by omega), u2 b (by omega)]; exact e14
        · rw [s2 b (by omega), u2 b (by omega)]; exact e15
        · show V3 (b + 5) (e + 1) = _
          rw [s3 _ (by omega)]; exact v2
    · rw [if_neg hx, k_lt, show (((e + 1 : Nat) : Int) + 1) = ((e + 1 + 1 : Nat) : Int) by omega]
      refine fw_63 hB hN ht hk hlf hd hlow hex m (e + 1 + 1) V (by omega) (by omega) hw hG (fun d z1 z2 => ?_)
      have z3 := hlo d z1 z2
      rcases (show d = e ∨ e + 1 + 1 ≤ d + 1 by omega) with z4 | z4
      · exfalso
        rw [z4] at z2 z1
        obtain ⟨g, z5⟩ := Cc_iff.mpr ⟨a, (⟨Or.inr rfl, Nat.le_refl _⟩ : wA 0 a a), z2⟩
        rcases hm with ⟨_, q⟩ | ⟨_, q⟩
        · exact q _ _ z5
        · have l1 := q.2 _ _ z5
          obtain ⟨a', z6, z7⟩ := Cc_iff.mp ⟨_, q.1⟩
          have ea : a' = a := by have := z6.1; omega
          rw [ea] at z7
          have := hlow e _ z1 z7
          omega
      · exact z4
theorem fw_25 (hB : WB 500 200 1500 w) (hN : 1000 ≤ N) (ht : 0 ≤ t ∧ t ≤ 12) (hk : 0 ≤ k ∧ k ≤ 20000) (hlf : lf = 0 ∨ lf = 1) (hd : due < 0) (hlow : ∀ (a d : Nat) v, (d : Int) < w 0 → wEn w t lf (k + 1) 10000000000000 a d v → due ≤ v) (hex : ∃ a d : Nat, (d : Int) < w 0 ∧ wEn w t lf (k + 1) 10000000000000 a d due) : ∀ (m a : Nat) (V : sj_VV), (a : Int) ≤ w 0 → 41 - a < m → V (b + 1) = w → (∀ a' d : Nat, (d : Int) < w 0 → wEn w t lf (k + 1) 10000000000000 a' d due → a ≤ a') → ∃ (V' : sj_VV) (s e : Nat) (bs rs : Nat → Int), g_X9_findsWorst_25 N m b t lf k due a V = some (1, V') ∧ Fwo b V V' ∧ SM V' b s (e + 1) lf bs ∧ Pth w t lf (k + 1) 10000000000000 s (e + 1) due bs rs ∧ (s ≤ e ∧ (e : Int) < w 0) ∧ Mn (E10 w t lf (k + 1)) due ((s : Int) * 41 + ((e : Int) + 1))
  | 0, _, _, _, h', _, _ => absurd h' (by omega)
  | m + 1, a, V, a1, a2, hw, hlo => by
    have n0 := hB.1
    obtain ⟨a0, d0, y1, y2⟩ := id hex
    have y3 := hlo a0 d0 y1 y2
    have y4 : a0 ≤ d0 := by obtain ⟨o, u, y, _⟩ := y2; exact wGo_le _ _ _ y
    unfold g_X9_findsWorst_25 g_X9_findsWorst_25_b
    rw [k_ix (by omega) (by omega), hw, show (0 : Int).toNat = 0 from rfl, k_leF (by omega) ⟨by omega, by omega⟩ ⟨by omega, by omega⟩]
    obtain ⟨V2, l, q1, q2, q3, q4⟩ := goes_eq (N := N) (b := b) (V := V) (first := a) (any := 0) (k := k + 1) hB hN ht (by omega) hlf (Or.inl rfl) (by omega) hw
    have lb := Mr_b hB ht (by omega) q4
    have db := wAr_b hB ht (by omega) (by omega) y2
    rw [q1, k_cs, k_leqc ⟨by omega, by omega⟩ ⟨by omega, by omega⟩]
    by_cases hx : l = due
    · rw [if_pos hx, k_lt, show ((a : Int) + 1) = ((a + 1 : Nat) : Int) by omega]
      have ex2 : ∃ d : Nat, (d : Int) < w 0 ∧ wEn w t lf (k + 1) 10000000000000 a d due := by
        rcases q4 with ⟨z, _⟩ | ⟨z, _⟩
        · omega
        · obtain ⟨a', d, z1, z2, z3⟩ := E10_iff.mp z
          have ea : a' = a := by have := z2.1; omega
          rw [ea, hx] at z3
          exact ⟨d, z1, z3⟩
      obtain ⟨V3, e, bs, rs, s1, s2, s3, s4, s5, s6, s7⟩ := fw_63 (N := N) (b := b) (a := a) (lf := lf) hB hN ht (k := k + 1) (by omega) hlf (due := due) (by omega) (fun d v => hlow a d v) ex2 N (a + 1) V2 (by omega) (by omega) (q2.row1.trans hw) q3 (fun d z1 z2 => by
        obtain ⟨o, u, z3, _⟩ := z2
        have := wGo_le _ _ _ z3
        omega)
      have hae : a ≤ e := by obtain ⟨o, u, z3, _⟩ := s6; exact wGo_le _ _ _ z3
      rw [s1]
      refine ⟨V3, a, e, bs, rs, rfl, q2.fwo.tr s2, s3, s4, ⟨hae, s5⟩, ⟨a, e, s5, s6, rfl⟩, fun v' g' hv => ?_⟩
      obtain ⟨a', d, z1, z2, z3⟩ := hv
      have l1 := hlow a' d v' z1 z2
      rcases (show due < v' ∨ v' = due by omega) with z4 | z4
      · exact Or.inl z4
      · rw [z4] at z2
        have l2 := hlo a' d z1 z2
        right
        refine ⟨z4.symm, ?_⟩
        rcases (show a < a' ∨ a' = a by omega) with z5 | z5
        · omega
        · rw [z5] at z2
          have := s7 d z1 z2
          omega
    · rw [if_neg hx, k_lt, show ((a : Int) + 1) = ((a + 1 : Nat) : Int) by omega]
      obtain ⟨V3, a', e, bs, rs, s1, s2, s3⟩ := fw_25 hB hN ht hk hlf hd hlow hex m (a + 1) V2 (by omega) (by omega) (q2.row1.trans hw) (fun a' d z1 z2 => by
        have z3 := hlo a' d z1 z2
        rcases (show a' = a ∨ a + 1 ≤ a' by omega) with z4 | z4
        · exfalso
          rw [z4] at z2
          rcases q4 with ⟨_, q⟩ | ⟨q, q5⟩
          · exact q _ (E10_iff.mpr ⟨a, d, z1, ⟨Or.inr rfl, Nat.le_refl _⟩, z2⟩)
          · have l1 := q5 _ (E10_iff.mpr ⟨a, d, z1, ⟨Or.inr rfl, Nat.le_refl _⟩, z2⟩)
            obtain ⟨a'', d', z5, z6, z7⟩ := E10_iff.mp q
            have l2 := hlow a'' d' _ z5 z7
            omega
        · exact z4)
      exact ⟨V3, a', e, bs, rs, s1, q2.fwo.tr s2, s3⟩
theorem findsWorst_no (hk : k = 20000) : g_X9_findsWorst N b t lf k V = some (0, V) := by
  unfold g_X9_findsWorst
  rw [k_eqT hk, k_zs (Or.inl rfl)]
theorem findsWorst_eq (hB : WB 500 200 1500 w) (hN : 1000 ≤ N) (ht : 0 ≤ t ∧ t ≤ 12) (hk : 0 ≤ k ∧ k < 20000) (hlf : lf = 0 ∨ lf = 1) (hn : tK w t lf (k + 1) = false) (hw : V (b + 1) = w) : ∃ (V' : sj_VV) (a e : Nat) (due : Int) (bs rs : Nat → Int), g_X9_findsWorst N b t lf k V = some (1, V') ∧ Fwo b V V' ∧ SM V' b a (e + 1) lf bs ∧ Pth w t lf (k + 1) 10000000000000 a (e + 1) due bs rs ∧ (a ≤ e ∧ (e : Int) < w 0) ∧ Mn (E10 w t lf (k + 1)) due ((a : Int) * 41 + ((e : Int) + 1)) ∧ due < 0 := by
  have n0 := hB.1
  unfold g_X9_findsWorst
  obtain ⟨V2, l, q1, q2, q3, q4⟩ := goes_eq (N := N) (b := b) (V := V) (first := 0) (any := 1) (k := k + 1) hB hN ht (by omega) hlf (Or.inr rfl) (by omega) hw
  have q1' : g_X9_goes N b 0 1 t lf (k + 1) V = some (l, V2) := q1
  have hP := goes_tK hB ht (by omega) q4
  have hl : l < 0 := by
    rcases (show l < 0 ∨ 0 ≤ l by omega) with z | z
    · exact z
    · rw [hP.mpr z] at hn; cases hn
  rcases q4 with ⟨z, _⟩ | ⟨z, z2⟩
  · omega
  · obtain ⟨a0, d0, y1, _, y2⟩ := E10_iff.mp z
    obtain ⟨V3, a', e, bs, rs, s1, s2, s3, s4, s5, s6⟩ := fw_25 (N := N) (b := b) (k := k) (lf := lf) hB hN ht (by omega) hlf hl (fun a d v y3 y4 => z2 v (E10_iff.mpr ⟨a, d, y3, ⟨Or.inl rfl, by omega⟩, y4⟩)) ⟨a0, d0, y1, y2⟩ N 0 V2 (by omega) (by omega) (q2.row1.trans hw) (fun a' d _ _ => by omega)
    have s1' : g_X9_findsWorst_25 N N b t lf k l 0 V2 = some (1, V3) := s1
    rw [k_eqF (by omega) ⟨by omega, by omega⟩ ⟨by omega, by omega⟩, q1', k_cs, s1']
    exact ⟨V3, a', e, l, bs, rs, rfl, q2.fwo.tr s2, s3, s4, s5, s6, hl⟩
/-- there is one such way -/
theorem Pth_uq (hB : WB 500 200 1500 w) (ht : 0 ≤ t ∧ t ≤ 12) (hk : 0 ≤ k ∧ k ≤ 20001) {e : Nat} {bs bs2 rs rs2 : Nat → Int} (he : (e : Int) < w 0) (hv : v < 0) (h1 : Pth w t lf k 48000000000000 a (e + 1) v bs rs) (h2 : Pth w t lf k 10000000000000 a (e + 1) v bs2 rs2) : ∀ i : Nat, a + i ≤ e + 1 → bs (e + 1 - i) = bs2 (e + 1 - i) ∧ rs (e + 1 - i) = rs2 (e + 1 - i) ∧ rs (e + 1 - i) ≤ 24000000000000 * (i : Int)
  | 0, _ => by
    refine ⟨h1.1.trans h2.1.symm, h1.2.1.trans h2.2.1.symm, ?_⟩
    show rs (e + 1) ≤ _
    rw [h1.2.1]; omega
  | i + 1, hi => by
    obtain ⟨i1, i2, i3⟩ := Pth_uq hB ht hk he hv h1 h2 i (by omega)
    have n0 := hB.1
    obtain ⟨c, ec⟩ : ∃ c, c = e + 1 - (i + 1) := ⟨_, rfl⟩
    have ec2 : e + 1 - i = c + 1 := by omega
    rw [← ec]
    rw [ec2] at i1 i2 i3
    obtain ⟨p1, p2, p3, p4⟩ := h1.2.2 c (by omega) (by omega)
    obtain ⟨q1, q2, q3, q4⟩ := h2.2.2 c (by omega) (by omega)
    have l1 := p4 (bs2 c) (rs2 c) (wGo_z (by omega) _ _ _ q1) (by rw [i1]; exact wSt_z (by omega) q2) (by rw [i1, i2]; exact q3)
    have hq := (wSt_b hB ht hk (by omega) (wGo_100 hB (by omega) p1) p2).2
    have g10 : wGo w t lf k 10000000000000 a c (bs c) (rs c) := by
      rcases wGo_d hB ht hk c _ _ (by omega) p1 with y | y
      · exact y
      · omega
    have vb := wGo_b hB ht hk c _ _ (by omega) p1
    have s10 : wSt w t lf k 10000000000000 c (bs c) (bs (c + 1)) := ⟨p2.1, p2.2.1, p2.2.2.1, by omega⟩
    have l2 := q4 (bs c) (rs c) g10 (by rw [← i1]; exact s10) (by rw [← i1, ← i2]; exact p3)
    have eb : bs c = bs2 c := by omega
    refine ⟨eb, ?_, by omega⟩
    rw [i1, eb] at p3
    omega
end RefT
