/-! TEXT: rows -/
/-- bounds of a row while a text is read -/
def TB (w : sj_R) : Prop := (4 ≤ w 0 ∧ w 0 ≤ 40) ∧ (1 ≤ w 1 ∧ w 1 ≤ 10) ∧ (0 ≤ w 2 ∧ w 2 ≤ 500) ∧ (∀ c, c < 41 → (0 ≤ w (44 + c) ∧ w (44 + c) ≤ 100) ∧ (0 ≤ w (3 + c) ∧ w (3 + c) ≤ 100) ∧ (0 ≤ w (85 + c) ∧ w (85 + c) ≤ 100) ∧ (0 ≤ w (126 + c) ∧ w (126 + c) ≤ 500) ∧ (w 0 < c → w (44 + c) = 0 ∧ w (3 + c) = 20)) ∧ (∀ i, i < 123 → 0 ≤ w (167 + i) ∧ w (167 + i) ≤ 100) ∧ (∀ l, l < 4 → (1 ≤ w (290 + 3 * l) ∧ w (290 + 3 * l) ≤ 30) ∧ (0 ≤ w (291 + 3 * l) ∧ w (291 + 3 * l) ≤ 200) ∧ 0 ≤ w (292 + 3 * l) ∧ w (292 + 3 * l) ≤ 1500) ∧ ∀ i, i < 6 → (0 ≤ w (304 + 3 * i) ∧ w (304 + 3 * i) ≤ 500) ∧ (0 < w (304 + 3 * i) → (0 ≤ w (302 + 3 * i) ∧ w (302 + 3 * i) ≤ w 0) ∧ 0 ≤ w (303 + 3 * i) ∧ w (303 + 3 * i) ≤ 100)
/-- both read on: the reference at q -/
def RX (V W : sj_VV) (t ga b : Nat) (B : Nat → Int) (L : Nat) (w0 : sj_R) (q : Nat) : Prop := TX V W t b B L ∧ TD V W t b ∧ (W b 29 = (q : Nat) ∧ q ≤ L ∧ V t 2 = (sk B L q : Nat)) ∧ ((V t 3 = 0 ∧ V t 4 = -1) ∧ W b 32 = 0 ∧ W b 30 = 0 ∧ W b 31 = -1) ∧ CG V ga (W (b + 1)) ∧ TB (W (b + 1)) ∧ (V (ga + 12) 1 = -1 ∧ V (ga + 12) 2 = -1 ∧ (V (ga + 12) 3 = 0 ∨ V (ga + 12) 3 = 1)) ∧ (W (b + 1) 320 = -1 ∧ W (b + 1) 322 = 0) ∧ ∀ j, 364 ≤ j → W (b + 1) j = w0 j
/-- both found the same fault -/
def BX (V W : sj_VV) (t b : Nat) (L : Nat) : Prop := V t 3 = W b 30 ∧ V t 4 = W b 31 ∧ W b 32 = 1 ∧ ∃ q : Nat, q ≤ L ∧ W b 29 = (q : Nat)
def Fcr (t ga : Nat) (V V' : sj_VV) : Prop := (∀ z, z ≠ t → (z < ga ∨ ga + 14 ≤ z) → V' z = V z) ∧ (∀ j, (j < 2 ∨ 8 ≤ j) → V' t j = V t j) ∧ (ga + 12 ≠ t → V' (ga + 12) 3 = V (ga + 12) 3)
def Fmr (b : Nat) (W W' : sj_VV) : Prop := (∀ z, z ≠ b → z ≠ b + 1 → z ≠ b + 11 → W' z = W z) ∧ (∀ j, (j < 29 ∨ 34 ≤ j) → W' b j = W b j) ∧ ∀ j, (j = 0 ∨ 390 ≤ j) → W' (b + 1) j = W (b + 1) j
section Rows
variable {V V1 V2 V' W W1 W2 W' : sj_VV} {t ga b N L p q c : Nat} {B : Nat → Int} {w w0 : sj_R} {v : Int}
theorem Fcr.rf : Fcr t ga V V := ⟨fun _ _ _ => rfl, fun _ _ => rfl, fun _ => rfl⟩
theorem Fcr.tr (h : Fcr t ga V V1) (h2 : Fcr t ga V1 V2) : Fcr t ga V V2 := ⟨fun z z1 z2 => (h2.1 z z1 z2).trans (h.1 z z1 z2), fun j hj => (h2.2.1 j hj).trans (h.2.1 j hj), fun q => (h2.2.2 q).trans (h.2.2 q)⟩
theorem Fct.r (h : Fct t V V1) : Fcr t ga V V1 := ⟨fun z z1 _ => h.1 z z1, fun j hj => h.2 j (by omega), fun q => by rw [h.1 _ q]⟩
theorem Fmr.rf : Fmr b W W := ⟨fun _ _ _ _ => rfl, fun _ _ => rfl, fun _ _ => rfl⟩
theorem Fmr.tr (h : Fmr b W W1) (h2 : Fmr b W1 W2) : Fmr b W W2 := ⟨fun z z1 z2 z3 => (h2.1 z z1 z2 z3).trans (h.1 z z1 z2 z3), fun j hj => (h2.2.1 j hj).trans (h.2.1 j hj), fun j hj => (h2.2.2 j hj).trans (h.2.2 j hj)⟩
theorem Fmt.r (h : Fmt b W W1) : Fmr b W W1 := ⟨fun z z1 _ _ => h.1 z z1, h.2, fun j _ => by rw [h.1 _ (by omega)]⟩
theorem TD.fr (h : TD V W t b) (h1 : V1 t 7 = V t 7) (h2 : W1 (b + 11) = W (b + 11)) : TD V1 W1 t b := by
  obtain ⟨T, a1, a2, a3⟩ := h
  exact ⟨T, a1, by rw [h1]; exact a2, fun k hk => by rw [h2]; exact a3 k hk⟩
/-- tokens read on both sides -/
theorem RX.step (h : RX V W t ga b B L w0 q) (hd : ga + 14 ≤ t) (f1 : Fct t V V1) (f2 : Fmt b W W1) {q' : Nat} (hq : W1 b 29 = (q' : Nat)) (hq2 : q' ≤ L) (hp : V1 t 2 = (sk B L q' : Nat)) (e1 : V1 t 3 = V t 3 ∧ V1 t 4 = V t 4) (e2 : W1 b 32 = 0 ∧ W1 b 30 = W b 30 ∧ W1 b 31 = W b 31) : RX V1 W1 t ga b B L w0 q' := by
  obtain ⟨a1, a2, a3, a4, a5, a6, a7, a8, a9⟩ := h
  have ew : W1 (b + 1) = W (b + 1) := f2.1 _ (by omega)
  have e12 : V1 (ga + 12) = V (ga + 12) := f1.1 _ (by omega)
  refine ⟨(a1.c f1).m f2, a2.fr (f1.2 7 (by omega)) (f2.1 _ (by omega)), ⟨hq, hq2, hp⟩, ⟨⟨by rw [e1.1]; exact a4.1.1, by rw [e1.2]; exact a4.1.2⟩, e2.1, by rw [e2.2.1]; exact a4.2.2.1, by rw [e2.2.2]; exact a4.2.2.2⟩, ?_, by rw [ew]; exact a6, by rw [e12]; exact a7, by rw [ew]; exact a8, by rw [ew]; exact a9⟩
  rw [ew]
  exact a5.fr (lo := t) (hi := t + 1) (fun z hz => f1.1 z (by omega)) (by omega)
def upN (V : sj_VV) (x k : Nat) (v : Int) : Nat → sj_VV
  | 0 => V
  | i + 1 => sj_up (upN V x k v i) x (k + i) v
def wUpN (w : sj_R) (k : Nat) (v : Int) : Nat → sj_R
  | 0 => w
  | i + 1 => wUp (wUpN w k v i) (k + i) v
theorem upN_row (V : sj_VV) {x : Nat} (k : Nat) (v : Int) {z : Nat} (h : z ≠ x) : ∀ i, upN V x k v i z = V z
  | 0 => rfl
  | i + 1 => by rw [upN, up_row _ _ _ h, upN_row V k v h i]
theorem wUpN_n (w : sj_R) {k : Nat} (v : Int) {j : Nat} : ∀ i, (j < k ∨ k + i ≤ j) → wUpN w k v i j = w j
  | 0, _ => rfl
  | i + 1, h => by rw [wUpN, wUp_n _ _ (by omega), wUpN_n w v i (by omega)]
theorem upN_wUpN {x k : Nat} (h : V x = w) (v : Int) : ∀ i, upN V x k v i x = wUpN w k v i
  | 0 => h
  | i + 1 => by rw [upN, wUpN]; exact up_wUp (upN_wUpN h v i) _ _
/-- a row of the class lies at a place of the reference's row -/
def RP2 (k off pl : Nat) (most : Int) : Prop := (∀ i, i < 41 → CM k (off + i) (pl + i)) ∧ (k ≤ 5 ∧ 1 ≤ k) ∧ 3 ≤ pl ∧ pl + 41 ≤ 290 ∧ 0 ≤ most ∧ most ≤ 500 ∧ ∀ (w : sj_R) (i : Nat) (v : Int), TB w → (i : Int) ≤ w 0 → 0 ≤ v ∧ v ≤ most → TB (wUp w (pl + i) v)
theorem fill_CG {k off pl : Nat} {most : Int} (hr : RP2 k off pl most) (hC : CG V ga w) (hB : TB w) (hv : 0 ≤ v ∧ v ≤ most) : ∀ i, ((c + i : Nat) : Int) ≤ w 0 + 1 → CG (upN V (ga + k) (off + c) v i) ga (wUpN w (pl + c) v i) ∧ TB (wUpN w (pl + c) v i) ∧ wUpN w (pl + c) v i 0 = w 0
  | 0, _ => ⟨hC, hB, rfl⟩
  | i + 1, h => by
    obtain ⟨a1, a2, a3⟩ := fill_CG hr hC hB hv i (by omega)
    obtain ⟨r1, r2, r3, r4, r5, r6, r7⟩ := id hr
    have hn := hB.1
    rw [upN, wUpN]
    have cm := r1 (c + i) (by omega)
    rw [← Nat.add_assoc, ← Nat.add_assoc] at cm
    have tb := r7 (wUpN w (pl + c) v i) (c + i) v a2 (by rw [a3]; omega) hv
    rw [← Nat.add_assoc] at tb
    exact ⟨CG.up1 a1 cm, tb, by rw [wUp_n _ _ (by omega)]; exact a3⟩
theorem c_fill {x1 n1 off n times : Nat} {most : Int} (K : Nat → Nat → Nat → Int → Int → Int → Int → sj_VV → Option (Int × sj_VV)) (hb : off + c + times ≤ n1) (hn1 : n1 ≤ 123) : ∀ (m i : Nat), i ≤ times → times - i < m → g_X7_readRow_43 N K m t x1 n1 off n most c v times i (upN V x1 (off + c) v i) = g_X7_readRow_43_b N K (fun _ _ _ _ _ _ _ _ _ _ _ => none) t x1 n1 off n most c v times times (upN V x1 (off + c) v times)
  | 0, _, _, h => absurd h (by omega)
  | m + 1, i, h1, h2 => by
    by_cases z : i = times
    · subst z
      show g_X7_readRow_43_b N K (g_X7_readRow_43 N K m) t x1 n1 off n most c v i i _ = _
      unfold g_X7_readRow_43_b
      rw [k_leT (by omega) ⟨by omega, by omega⟩ ⟨by omega, by omega⟩, k_leT (by omega) ⟨by omega, by omega⟩ ⟨by omega, by omega⟩]
    · rw [← c_fill K hb hn1 m (i + 1) (by omega) (by omega)]
      show g_X7_readRow_43_b N K (g_X7_readRow_43 N K m) t x1 n1 off n most c v times i _ = _
      unfold g_X7_readRow_43_b
      rw [k_leF (by omega) ⟨by omega, by omega⟩ ⟨by omega, by omega⟩, k_ix (by omega) (by omega), k_lt, k_lt, show ((off : Int) + (c : Int) + (i : Int)).toNat = off + c + i by omega]
      rfl
theorem m_fill {pl times : Nat} {most : Int} (K : Nat → Int → Int → Int → sj_VV → Option (Unit × sj_VV)) (hb : pl + c + times ≤ 390) : ∀ (m i : Nat), i ≤ times → times - i < m → g_X9_runs_105 N K m b pl most c v times i (upN W (b + 1) (pl + c) v i) = K b pl most ((c + times : Nat) : Int) (upN W (b + 1) (pl + c) v times)
  | 0, _, _, h => absurd h (by omega)
  | m + 1, i, h1, h2 => by
    show g_X9_runs_105_b N K (g_X9_runs_105 N K m) b pl most c v times i _ = _
    unfold g_X9_runs_105_b
    by_cases z : i = times
    · subst z
      rw [k_leT (by omega) ⟨by omega, by omega⟩ ⟨by omega, by omega⟩, k_lt]
      rfl
    · rw [← m_fill K hb m (i + 1) (by omega) (by omega), k_leF (by omega) ⟨by omega, by omega⟩ ⟨by omega, by omega⟩, k_ix (by omega) (by omega), k_lt, k_lt, show ((pl : Int) + (c : Int) + (i : Int)).toNat = pl + c + i by omega]
      rfl
theorem BX.fr (h : BX V W t b L) (f1 : ∀ j, j = 3 ∨ j = 4 → V1 t j = V t j) (hw : W1 b 32 = 1 ∧ W1 b 30 = W b 30 ∧ W1 b 31 = W b 31) (hq : ∃ q : Nat, q ≤ L ∧ W1 b 29 = (q : Nat)) : BX V1 W1 t b L := ⟨by rw [f1 3 (by omega), hw.2.1]; exact h.1, by rw [f1 4 (by omega), hw.2.2]; exact h.2.1, hw.1, hq⟩
/-- the end of a line, the reference in fault already -/
theorem m_must1 (hT : TX V W t b B L) (hB : BX V W t b L) (hN : 1000 ≤ N) : ∃ W', g_X9_must N b 59 W = some ((), W') ∧ Fmt b W W' ∧ BX V W' t b L := by
  obtain ⟨h1, h2, h3, q, h4, h5⟩ := id hB
  obtain ⟨W', r1, r2, _, _, r5, r6⟩ := m_must (N := N) hT h4 h5 rfl (Or.inr h3) hN
  exact ⟨W', r1, r2, hB.fr (fun _ _ => rfl) (r5 h3) r6⟩
end Rows
