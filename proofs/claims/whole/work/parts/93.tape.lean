/-! TEXT: places on the tape -/
theorem bmod_b {c : Int} (h : 0 ≤ c ∧ c ≤ 255) : Int.bmod c 256 = if c < 128 then c else c - 256 := by
  rw [Int.bmod_def]
  have e : c % ((256 : Nat) : Int) = c := Int.emod_eq_of_lt h.1 (by omega)
  rw [e]
  split <;> split <;> omega
/-- both tapes: bytes B, L of them -/
def TX (V W : sj_VV) (t b : Nat) (B : Nat → Int) (L : Nat) : Prop := V t 1 = (L : Nat) ∧ W b 28 = (L : Nat) ∧ L ≤ 600 ∧ (∀ i, i < L → V (t + 1) i = B i) ∧ ∀ i, i < L → (0 ≤ B i ∧ B i ≤ 255) ∧ W (b + 10) i = Int.bmod (B i) 256
def isBl (B : Nat → Int) (i : Nat) : Bool := decide (B i ≠ 32)
def isDg (B : Nat → Int) (i : Nat) : Bool := decide (¬ (48 ≤ B i ∧ B i ≤ 57))
def isLt (B : Nat → Int) (i : Nat) : Bool := decide (¬ (97 ≤ B i ∧ B i ≤ 122))
def sk (B : Nat → Int) (L p : Nat) : Nat := spSeek (isBl B) (L - p) p
def de (B : Nat → Int) (L p : Nat) : Nat := spSeek (isDg B) (L - p) p
def we (B : Nat → Int) (L p : Nat) : Nat := spSeek (isLt B) (L - p) p
theorem seek_in (P : Nat → Bool) {L p : Nat} (h : p ≤ L) : p ≤ spSeek P (L - p) p ∧ spSeek P (L - p) p ≤ L := by
  obtain ⟨a1, a2, _, _⟩ := spSeek_b P (L - p) p
  omega
theorem seek_st (P : Nat → Bool) {L p : Nat} (h : p < L) : spSeek P (L - p) p = if P p = true then p else spSeek P (L - (p + 1)) (p + 1) := by
  rw [show L - p = (L - (p + 1)) + 1 by omega, spSeek]
theorem seek_id (P : Nat → Bool) {L p : Nat} (h : p ≤ L) : spSeek P (L - spSeek P (L - p) p) (spSeek P (L - p) p) = spSeek P (L - p) p := by
  obtain ⟨a1, a2, a3, a4⟩ := spSeek_b P (L - p) p
  by_cases z : spSeek P (L - p) p = L
  · rw [z, Nat.sub_self, spSeek]
  · rw [seek_st P (by omega), if_pos (a4 (by omega))]
theorem sk_sk {B : Nat → Int} {L p : Nat} (h : p ≤ L) : sk B L (sk B L p) = sk B L p := seek_id _ h
theorem sk_in {B : Nat → Int} {L p : Nat} (h : p ≤ L) : p ≤ sk B L p ∧ sk B L p ≤ L := seek_in _ h
theorem de_in {B : Nat → Int} {L p : Nat} (h : p ≤ L) : p ≤ de B L p ∧ de B L p ≤ L := seek_in _ h
theorem we_in {B : Nat → Int} {L p : Nat} (h : p ≤ L) : p ≤ we B L p ∧ we B L p ≤ L := seek_in _ h
/-- what a token may touch -/
def Fct (t : Nat) (V V' : sj_VV) : Prop := (∀ z, z ≠ t → V' z = V z) ∧ ∀ j, (j < 2 ∨ 7 ≤ j) → V' t j = V t j
def Fmt (b : Nat) (W W' : sj_VV) : Prop := (∀ z, z ≠ b → W' z = W z) ∧ ∀ j, (j < 29 ∨ 34 ≤ j) → W' b j = W b j
section Tape
variable {V V1 V2 W W1 : sj_VV} {t b N L p q : Nat} {B : Nat → Int} {lo hi ch : Int}
theorem Fct.rf : Fct t V V := ⟨fun _ _ => rfl, fun _ _ => rfl⟩
theorem Fct.tr (h : Fct t V V1) (h2 : Fct t V1 V2) : Fct t V V2 := ⟨fun z hz => (h2.1 z hz).trans (h.1 z hz), fun j hj => (h2.2 j hj).trans (h.2 j hj)⟩
theorem Fct.up {j : Nat} {v : Int} (h : Fct t V V1) (h1 : 2 ≤ j) (h2 : j < 7) : Fct t V (sj_up V1 t j v) := ⟨fun z hz => (up_row _ _ _ hz).trans (h.1 z hz), fun i hi => (up_nk _ _ _ (by omega)).trans (h.2 i hi)⟩
theorem Fmt.rf : Fmt b V V := ⟨fun _ _ => rfl, fun _ _ => rfl⟩
theorem Fmt.tr (h : Fmt b V V1) (h2 : Fmt b V1 V2) : Fmt b V V2 := ⟨fun z hz => (h2.1 z hz).trans (h.1 z hz), fun j hj => (h2.2 j hj).trans (h.2 j hj)⟩
theorem Fmt.up {j : Nat} {v : Int} (h : Fmt b V V1) (h1 : 29 ≤ j) (h2 : j < 34) : Fmt b V (sj_up V1 b j v) := ⟨fun z hz => (up_row _ _ _ hz).trans (h.1 z hz), fun i hi => (up_nk _ _ _ (by omega)).trans (h.2 i hi)⟩
theorem TX.c (h : TX V W t b B L) (f : Fct t V V1) : TX V1 W t b B L := ⟨by rw [f.2 1 (by omega)]; exact h.1, h.2.1, h.2.2.1, fun i hi => by rw [f.1 _ (by omega)]; exact h.2.2.2.1 i hi, h.2.2.2.2⟩
theorem TX.m (h : TX V W t b B L) (f : Fmt b W W1) : TX V W1 t b B L := ⟨h.1, by rw [f.2 28 (by omega)]; exact h.2.1, h.2.2.1, h.2.2.2.1, fun i hi => by rw [f.1 _ (by omega)]; exact h.2.2.2.2 i hi⟩
theorem c_skip_loop (hT : TX V W t b B L) : ∀ (m p : Nat) (V : sj_VV), p ≤ L → L - p < m → V t 1 = (L : Nat) → (∀ i, i < L → V (t + 1) i = B i) → V t 2 = (p : Nat) → ∃ V', g_X7_skip_0 N m t V = some ((), V') ∧ V' t 2 = (sk B L p : Nat) ∧ (∀ z, z ≠ t → V' z = V z) ∧ ∀ j, j ≠ 2 → V' t j = V t j
  | 0, _, _, _, h, _, _, _ => absurd h (by omega)
  | m + 1, p, V, h1, h2, h3, h4, h5 => by
    have hL := hT.2.2.1
    unfold g_X7_skip_0 g_X7_skip_0_b
    rw [h3, h5]
    by_cases hp : p = L
    · rw [k_leT (by omega) ⟨by omega, by omega⟩ ⟨by omega, by omega⟩]
      exact ⟨V, rfl, by rw [h5, hp]; unfold sk; rw [Nat.sub_self, spSeek], fun _ _ => rfl, fun _ _ => rfl⟩
    · have hb := (hT.2.2.2.2 p (by omega)).1
      rw [k_leF (by omega) ⟨by omega, by omega⟩ ⟨by omega, by omega⟩, k_ix (by omega) (by omega), tn0, h4 p (by omega), k_eq ⟨by omega, by omega⟩ ⟨by omega, by omega⟩]
      have es : sk B L p = if isBl B p = true then p else sk B L (p + 1) := seek_st _ (by omega)
      by_cases z : B p = 32
      · have hf : ¬ isBl B p = true := by unfold isBl; simp [z]
        rw [if_neg hf] at es
        rw [if_pos z, k_lt]
        obtain ⟨V2, r1, r2, r3, r4⟩ := c_skip_loop hT m (p + 1) (sj_up V t 2 ((p : Int) + 1)) (by omega) (by omega) (by rw [up_nk _ _ _ (by omega)]; exact h3) (fun i hi => by rw [up_row _ _ _ (by omega)]; exact h4 i hi) (up_ss _ _ _ _)
        exact ⟨V2, r1, by rw [r2, es], fun z hz => (r3 z hz).trans (up_row _ _ _ hz), fun j hj => (r4 j hj).trans (up_nk _ _ _ hj)⟩
      · have hf : isBl B p = true := by unfold isBl; simp [z]
        rw [if_pos hf] at es
        rw [if_neg z]
        exact ⟨V, rfl, by rw [h5, es], fun _ _ => rfl, fun _ _ => rfl⟩
theorem c_skip (hT : TX V W t b B L) (hp : p ≤ L) (h2 : V t 2 = (p : Nat)) (hN : 1000 ≤ N) : ∃ V', g_X7_skip N t V = some ((), V') ∧ V' t 2 = (sk B L p : Nat) ∧ (∀ z, z ≠ t → V' z = V z) ∧ ∀ j, j ≠ 2 → V' t j = V t j := by
  have hL := hT.2.2.1
  unfold g_X7_skip
  exact c_skip_loop hT N p V hp (by omega) hT.1 hT.2.2.2.1 h2
theorem m_blanks_loop (hT : TX V W t b B L) : ∀ (m p : Nat) (W : sj_VV), p ≤ L → L - p < m → W b 28 = (L : Nat) → (∀ i, i < L → W (b + 10) i = Int.bmod (B i) 256) → W b 29 = (p : Nat) → ∃ W', g_X9_blanks_0 N m b W = some ((), W') ∧ W' b 29 = (sk B L p : Nat) ∧ (∀ z, z ≠ b → W' z = W z) ∧ ∀ j, j ≠ 29 → W' b j = W b j
  | 0, _, _, _, h, _, _, _ => absurd h (by omega)
  | m + 1, p, W, h1, h2, h3, h4, h5 => by
    have hL := hT.2.2.1
    unfold g_X9_blanks_0 g_X9_blanks_0_b
    rw [h3, h5]
    by_cases hp : p = L
    · rw [k_leT (by omega) ⟨by omega, by omega⟩ ⟨by omega, by omega⟩]
      exact ⟨W, rfl, by rw [h5, hp]; unfold sk; rw [Nat.sub_self, spSeek], fun _ _ => rfl, fun _ _ => rfl⟩
    · have hb := (hT.2.2.2.2 p (by omega)).1
      have e := bmod_b hb
      rw [k_leF (by omega) ⟨by omega, by omega⟩ ⟨by omega, by omega⟩, k_ix (by omega) (by omega), tn0, h4 p (by omega), e]
      have es : sk B L p = if isBl B p = true then p else sk B L (p + 1) := seek_st _ (by omega)
      by_cases z : B p = 32
      · have hf : ¬ isBl B p = true := by unfold isBl; simp [z]
        rw [if_neg hf] at es
        rw [k_eqT (by rw [if_pos (by omega)]; exact z), k_lt]
        obtain ⟨W2, r1, r2, r3, r4⟩ := m_blanks_loop hT m (p + 1) (sj_up W b 29 ((p : Int) + 1)) (by omega) (by omega) (by rw [up_nk _ _ _ (by omega)]; exact h3) (fun i hi => by rw [up_row _ _ _ (by omega)]; exact h4 i hi) (up_ss _ _ _ _)
        exact ⟨W2, r1, by rw [r2, es], fun z hz => (r3 z hz).trans (up_row _ _ _ hz), fun j hj => (r4 j hj).trans (up_nk _ _ _ hj)⟩
      · have hf : isBl B p = true := by unfold isBl; simp [z]
        rw [if_pos hf] at es
        rw [k_eqF (by split <;> omega) ⟨by split <;> omega, by split <;> omega⟩ ⟨by omega, by omega⟩]
        exact ⟨W, rfl, by rw [h5, es], fun _ _ => rfl, fun _ _ => rfl⟩
theorem m_blanks (hT : TX V W t b B L) (hp : p ≤ L) (h2 : W b 29 = (p : Nat)) (hN : 1000 ≤ N) : ∃ W', g_X9_blanks N b W = some ((), W') ∧ W' b 29 = (sk B L p : Nat) ∧ (∀ z, z ≠ b → W' z = W z) ∧ ∀ j, j ≠ 29 → W' b j = W b j := by
  have hL := hT.2.2.1
  unfold g_X9_blanks
  exact m_blanks_loop hT N p W hp (by omega) hT.2.1 (fun i hi => (hT.2.2.2.2 i hi).2) h2
theorem c_sees (hT : TX V W t b B L) (hp : p ≤ L) (h2 : V t 2 = (p : Nat)) (hc : 0 ≤ ch ∧ ch ≤ 127) : g_X7_sees N t ch V = some (if p < L ∧ B p = ch then 1 else 0, V) := by
  have hL := hT.2.2.1
  unfold g_X7_sees
  rw [hT.1, h2]
  by_cases z : p = L
  · rw [k_leT (by omega) ⟨by omega, by omega⟩ ⟨by omega, by omega⟩, if_neg (by omega), k_zs (Or.inl rfl)]
  · have hb := (hT.2.2.2.2 p (by omega)).1
    rw [k_leF (by omega) ⟨by omega, by omega⟩ ⟨by omega, by omega⟩, k_ix (by omega) (by omega), tn0, hT.2.2.2.1 p (by omega), k_eq ⟨by omega, by omega⟩ ⟨by omega, by omega⟩, k_zs (Or.inl rfl), k_zs (Or.inr rfl)]
    by_cases y : B p = ch
    · rw [if_pos y, if_pos ⟨by omega, y⟩]
    · rw [if_neg y, if_neg (fun q => y q.2)]
theorem c_seesFrom (hT : TX V W t b B L) (hp : p ≤ L) (h2 : V t 2 = (p : Nat)) (hc : sj_i32 lo) (hd : sj_i32 hi) : g_X7_seesFrom N t lo hi V = some (if p < L ∧ lo ≤ B p ∧ B p ≤ hi then 1 else 0, V) := by
  have hL := hT.2.2.1
  unfold g_X7_seesFrom
  rw [hT.1, h2]
  by_cases z : p = L
  · rw [k_leT (by omega) ⟨by omega, by omega⟩ ⟨by omega, by omega⟩, if_neg (by omega), k_zs (Or.inl rfl)]
  · have hb := (hT.2.2.2.2 p (by omega)).1
    rw [k_leF (by omega) ⟨by omega, by omega⟩ ⟨by omega, by omega⟩, k_ix (by omega) (by omega), k_ix (by omega) (by omega), tn0, hT.2.2.2.1 p (by omega), k_ltc ⟨by omega, by omega⟩ hc, k_ltc hd ⟨by omega, by omega⟩, k_zs (Or.inl rfl), k_zs (Or.inr rfl)]
    by_cases y : B p < lo
    · rw [if_pos y, if_neg (by omega)]
    · by_cases x : hi < B p
      · rw [if_neg y, if_pos x, if_neg (by omega)]
      · rw [if_neg y, if_neg x, if_pos (by omega)]
/-- the reference's byte lies between two letters as the class's does -/
theorem m_in_b (hT : TX V W t b B L) (hp : p < L) (hc : 0 ≤ lo) (hd : hi ≤ 127) (h3 : sj_i32 lo) (h4 : sj_i32 hi) : sj_i32 (W (b + 10) p) ∧ g_X9_isIn N (W (b + 10) p) lo hi W = some (if lo ≤ B p ∧ B p ≤ hi then 1 else 0, W) := by
  obtain ⟨hb, hw⟩ := hT.2.2.2.2 p hp
  have e := bmod_b hb
  have h1 : sj_i32 (W (b + 10) p) := by rw [hw, e]; exact ⟨by split <;> omega, by split <;> omega⟩
  refine ⟨h1, ?_⟩
  rw [m_in h1 h3 h4, hw, e]
  by_cases z : lo ≤ B p ∧ B p ≤ hi
  · rw [if_pos z, if_pos]
    split <;> omega
  · rw [if_neg z, if_neg]
    split <;> omega
theorem m_isNext (hT : TX V W t b B L) (hq : q ≤ L) (h2 : W b 29 = (q : Nat)) (hc : 0 ≤ ch ∧ ch ≤ 127) (hN : 1000 ≤ N) : ∃ W', g_X9_isNext N b ch W = some (if sk B L q < L ∧ B (sk B L q) = ch then 1 else 0, W') ∧ W' b 29 = (sk B L q : Nat) ∧ (∀ z, z ≠ b → W' z = W z) ∧ ∀ j, j ≠ 29 → W' b j = W b j := by
  have hL := hT.2.2.1
  obtain ⟨W1, r1, r2, r3, r4⟩ := m_blanks (N := N) hT hq h2 hN
  have hk := sk_in (B := B) hq
  unfold g_X9_isNext
  rw [r1, k_cs, r2, r4 28 (by omega), hT.2.1]
  refine ⟨W1, ?_, r2, r3, r4⟩
  by_cases z : sk B L q = L
  · rw [k_leT (by omega) ⟨by omega, by omega⟩ ⟨by omega, by omega⟩, if_neg (by omega), k_zs (Or.inl rfl)]
  · obtain ⟨hb, hw⟩ := hT.2.2.2.2 (sk B L q) (by omega)
    have e := bmod_b hb
    rw [k_leF (by omega) ⟨by omega, by omega⟩ ⟨by omega, by omega⟩, k_ix (by omega) (by omega), tn0, r3 _ (by omega), hw, e, k_eq ⟨by split <;> omega, by split <;> omega⟩ ⟨by omega, by omega⟩, k_zs (Or.inl rfl), k_zs (Or.inr rfl)]
    by_cases y : B (sk B L q) = ch
    · rw [if_pos (by rw [if_pos (by omega)]; exact y), if_pos ⟨by omega, y⟩]
    · rw [if_neg (by split <;> omega), if_neg (fun q => y q.2)]
theorem m_isDigitNext (hT : TX V W t b B L) (hq : q ≤ L) (h2 : W b 29 = (q : Nat)) (hN : 1000 ≤ N) : ∃ W', g_X9_isDigitNext N b W = some (if sk B L q < L ∧ 48 ≤ B (sk B L q) ∧ B (sk B L q) ≤ 57 then 1 else 0, W') ∧ W' b 29 = (sk B L q : Nat) ∧ (∀ z, z ≠ b → W' z = W z) ∧ ∀ j, j ≠ 29 → W' b j = W b j := by
  have hL := hT.2.2.1
  obtain ⟨W1, r1, r2, r3, r4⟩ := m_blanks (N := N) hT hq h2 hN
  have hk := sk_in (B := B) hq
  unfold g_X9_isDigitNext
  rw [r1, k_cs, r2, r4 28 (by omega), hT.2.1]
  refine ⟨W1, ?_, r2, r3, r4⟩
  by_cases z : sk B L q = L
  · rw [k_leT (by omega) ⟨by omega, by omega⟩ ⟨by omega, by omega⟩, if_neg (by omega), k_zs (Or.inl rfl)]
  · have hT1 : TX V W1 t b B L := ⟨hT.1, by rw [r4 28 (by omega)]; exact hT.2.1, hT.2.2.1, hT.2.2.2.1, fun i hi => by rw [r3 _ (by omega)]; exact hT.2.2.2.2 i hi⟩
    obtain ⟨i1, i2⟩ := m_in_b (N := N) (lo := 48) (hi := 57) hT1 (p := sk B L q) (by omega) (by omega) (by omega) ⟨by omega, by omega⟩ ⟨by omega, by omega⟩
    rw [k_leF (by omega) ⟨by omega, by omega⟩ ⟨by omega, by omega⟩, k_ix (by omega) (by omega), tn0, k_wid i1, i2, k_cs, k_zs (Or.inl rfl), k_zs (Or.inr rfl)]
    by_cases y : 48 ≤ B (sk B L q) ∧ B (sk B L q) ≤ 57
    · rw [if_pos y, if_pos ⟨by omega, y⟩, k_eqF (by omega) ⟨by omega, by omega⟩ ⟨by omega, by omega⟩]
    · rw [if_neg y, if_neg (fun q => y q.2), k_eqT rfl]
end Tape
