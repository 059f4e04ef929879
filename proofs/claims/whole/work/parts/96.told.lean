section Told2
variable {V V1 W W1 : sj_VV} {t b N L p q : Nat} {B : Nat → Int} {x : Int}
theorem m_spells (hT : TX V W t b B L) (l : List Int) (hl : 3 ≤ l.length ∧ l.length ≤ 7) (hc : ∀ i, 0 ≤ l.getD i 0 ∧ l.getD i 0 ≤ 127) (hp : p ≤ L) (h2 : W b 29 = (p : Nat)) (hN : 1000 ≤ N) : ∃ r, g_X9_spells N b (l.length : Nat) (l.getD 0 0) (l.getD 1 0) (l.getD 2 0) (l.getD 3 0) (l.getD 4 0) (l.getD 5 0) (l.getD 6 0) W = some (r, W) ∧ (r = 0 ∨ r = 1) ∧ (r = 1 ↔ isWd B L p l) := by
  have hL := hT.2.2.1
  have hw := we_in (B := B) hp
  unfold g_X9_spells g_X9_spells_80 g_X9_spells_103 g_X9_spells_125 g_X9_spells_148
  rw [m_wordEnd hT hp h2 hN, k_cs, h2]
  have no : ¬ isWd B L p l → ∃ r, e_zs 0 W = some (r, W) ∧ (r = 0 ∨ r = 1) ∧ (r = 1 ↔ isWd B L p l) := fun h => ⟨0, k_zs (Or.inl rfl), Or.inl rfl, fun q => by omega, fun q => absurd q h⟩
  by_cases z : we B L p = p + l.length
  · have eb : ∀ (k : Nat), k < l.length → (((p : Int) + (k : Nat)).toNat = p + k ∧ p + k < L) := fun k hk => ⟨by omega, by omega⟩
    rw [k_eqT (by omega), k_ix (by omega) (by omega), tn0, m_eq_b hT (by omega) (hc 0)]
    have n0 : ∀ k, k < l.length → B (p + k) ≠ l.getD k 0 → ¬ isWd B L p l := fun k hk h q => h (q.2 k hk)
    by_cases y0 : B p = l.getD 0 0
    · have e1 := eb 1 (by omega)
      have e2 := eb 2 (by omega)
      have e1' : ((p : Int) + 1).toNat = p + 1 := e1.1
      have e2' : ((p : Int) + 2).toNat = p + 2 := e2.1
      rw [if_pos y0, k_ix (by omega) (by omega), e1', m_eq_b hT (by omega) (hc 1)]
      by_cases y1 : B (p + 1) = l.getD 1 0
      · rw [if_pos y1, k_ix (by omega) (by omega), e2', m_eq_b hT (by omega) (hc 2)]
        by_cases y2 : B (p + 2) = l.getD 2 0
        · -- the longer ones
          rw [if_pos y2, k_lec ⟨by omega, by omega⟩ ⟨by omega, by omega⟩]
          have all : (∀ k, 3 ≤ k → k < l.length → B (p + k) = l.getD k 0) → isWd B L p l := fun h => ⟨z, fun i hi => by
            rcases (show i = 0 ∨ i = 1 ∨ i = 2 ∨ 3 ≤ i by omega) with q | q | q | q
            · subst q; exact y0
            · subst q; exact y1
            · subst q; exact y2
            · exact h i q hi⟩
          have yes : (∀ k, 3 ≤ k → k < l.length → B (p + k) = l.getD k 0) → ∃ r, e_zs 1 W = some (r, W) ∧ (r = 0 ∨ r = 1) ∧ (r = 1 ↔ isWd B L p l) := fun h => ⟨1, k_zs (Or.inr rfl), Or.inr rfl, fun _ => all h, fun _ => rfl⟩
          have s6 : (∀ k, 3 ≤ k → k < l.length → k ≠ 6 → B (p + k) = l.getD k 0) → ∃ r, e_ilt (l.length : Int) 7 (e_zs 1 W) (e_ix 600 ((p : Int) + 6) fun _ => e_ieq (W (b + 10) ((p : Int) + 6).toNat) (l.getD 6 0) (e_zs 1 W) (e_zs 0 W)) = some (r, W) ∧ (r = 0 ∨ r = 1) ∧ (r = 1 ↔ isWd B L p l) := fun h => by
            rw [k_ltc ⟨by omega, by omega⟩ ⟨by omega, by omega⟩]
            by_cases q : (l.length : Int) < 7
            · rw [if_pos q]; exact yes (fun k k1 k2 => h k k1 k2 (by omega))
            · have e6 : ((p : Int) + 6).toNat = p + 6 := by omega
              rw [if_neg q, k_ix (by omega) (by omega), e6, m_eq_b hT (by omega) (hc 6)]
              by_cases y : B (p + 6) = l.getD 6 0
              · rw [if_pos y]
                exact yes (fun k k1 k2 => by
                  by_cases u : k = 6
                  · subst u; exact y
                  · exact h k k1 k2 u)
              · rw [if_neg y]; exact no (n0 6 (by omega) y)
          have s5 : (∀ k, 3 ≤ k → k < l.length → k < 5 → B (p + k) = l.getD k 0) → ∃ r, e_ilt (l.length : Int) 6 (e_ilt (l.length : Int) 7 (e_zs 1 W) (e_ix 600 ((p : Int) + 6) fun _ => e_ieq (W (b + 10) ((p : Int) + 6).toNat) (l.getD 6 0) (e_zs 1 W) (e_zs 0 W))) (e_ix 600 ((p : Int) + 5) fun _ => e_ieq (W (b + 10) ((p : Int) + 5).toNat) (l.getD 5 0) (e_ilt (l.length : Int) 7 (e_zs 1 W) (e_ix 600 ((p : Int) + 6) fun _ => e_ieq (W (b + 10) ((p : Int) + 6).toNat) (l.getD 6 0) (e_zs 1 W) (e_zs 0 W))) (e_zs 0 W)) = some (r, W) ∧ (r = 0 ∨ r = 1) ∧ (r = 1 ↔ isWd B L p l) := fun h => by
            rw [k_ltc ⟨by omega, by omega⟩ ⟨by omega, by omega⟩]
            by_cases q : (l.length : Int) < 6
            · rw [if_pos q]; exact s6 (fun k k1 k2 _ => h k k1 k2 (by omega))
            · have e5 : ((p : Int) + 5).toNat = p + 5 := by omega
              rw [if_neg q, k_ix (by omega) (by omega), e5, m_eq_b hT (by omega) (hc 5)]
              by_cases y : B (p + 5) = l.getD 5 0
              · rw [if_pos y]
                exact s6 (fun k k1 k2 k3 => by
                  by_cases u : k = 5
                  · subst u; exact y
                  · exact h k k1 k2 (by omega))
              · rw [if_neg y]; exact no (n0 5 (by omega) y)
          have s4 : (∀ k, 3 ≤ k → k < l.length → k < 4 → B (p + k) = l.getD k 0) → ∃ r, e_ile (l.length : Int) 4 (e_ilt (l.length : Int) 6 (e_ilt (l.length : Int) 7 (e_zs 1 W) (e_ix 600 ((p : Int) + 6) fun _ => e_ieq (W (b + 10) ((p : Int) + 6).toNat) (l.getD 6 0) (e_zs 1 W) (e_zs 0 W))) (e_ix 600 ((p : Int) + 5) fun _ => e_ieq (W (b + 10) ((p : Int) + 5).toNat) (l.getD 5 0) (e_ilt (l.length : Int) 7 (e_zs 1 W) (e_ix 600 ((p : Int) + 6) fun _ => e_ieq (W (b + 10) ((p : Int) + 6).toNat) (l.getD 6 0) (e_zs 1 W) (e_zs 0 W))) (e_zs 0 W))) (e_ix 600 ((p : Int) + 4) fun _ => e_ieq (W (b + 10) ((p : Int) + 4).toNat) (l.getD 4 0) (e_ilt (l.length : Int) 6 (e_ilt (l.length : Int) 7 (e_zs 1 W) (e_ix 600 ((p : Int) + 6) fun _ => e_ieq (W (b + 10) ((p : Int) + 6).toNat) (l.getD 6 0) (e_zs 1 W) (e_zs 0 W))) (e_ix 600 ((p : Int) + 5) fun _ => e_ieq (W (b + 10) ((p : Int) + 5).toNat) (l.getD 5 0) (e_ilt (l.length : Int) 7 (e_zs 1 W) (e_ix 600 ((p : Int) + 6) fun _ => e_ieq (W (b + 10) ((p : Int) + 6).toNat) (l.getD 6 0) (e_zs 1 W) (e_zs 0 W))) (e_zs 0 W))) (e_zs 0 W)) = some (r, W) ∧ (r = 0 ∨ r = 1) ∧ (r = 1 ↔ isWd B L p l) := fun h => by
            rw [k_lec ⟨by omega, by omega⟩ ⟨by omega, by omega⟩]
            by_cases q : (l.length : Int) ≤ 4
            · rw [if_pos q]; exact s5 (fun k k1 k2 _ => h k k1 k2 (by omega))
            · have e4 : ((p : Int) + 4).toNat = p + 4 := by omega
              rw [if_neg q, k_ix (by omega) (by omega), e4, m_eq_b hT (by omega) (hc 4)]
              by_cases y : B (p + 4) = l.getD 4 0
              · rw [if_pos y]
                exact s5 (fun k k1 k2 k3 => by
                  by_cases u : k = 4
                  · subst u; exact y
                  · exact h k k1 k2 (by omega))
              · rw [if_neg y]; exact no (n0 4 (by omega) y)
          by_cases q : (l.length : Int) ≤ 3
          · rw [if_pos q]; exact s4 (fun k k1 k2 _ => by omega)
          · have e3 : ((p : Int) + 3).toNat = p + 3 := by omega
            rw [if_neg q, k_ix (by omega) (by omega), e3, m_eq_b hT (by omega) (hc 3)]
            by_cases y : B (p + 3) = l.getD 3 0
            · rw [if_pos y]
              exact s4 (fun k k1 k2 k3 => by rw [show k = 3 by omega]; exact y)
            · rw [if_neg y]; exact no (n0 3 (by omega) y)
        · rw [if_neg y2]; exact no (n0 2 (by omega) y2)
      · rw [if_neg y1]; exact no (n0 1 (by omega) y1)
    · rw [if_neg y0]; exact no (n0 0 (by omega) (by rw [Nat.add_zero]; exact y0))
  · rw [k_eqF (by omega) ⟨by omega, by omega⟩ ⟨by omega, by omega⟩]
    exact no (fun q => z q.1)
theorem and_nat {T S : Nat} (hT : T < 1048576) (hS : S < 1048576) : sj_and (T : Int) (S : Int) = ((T &&& S : Nat) : Int) := by
  have h1 : sj_and (T : Int) (S : Int) = (BitVec.ofInt 32 (T : Int) &&& BitVec.ofInt 32 (S : Int)).toInt := rfl
  have h2 : (BitVec.ofInt 32 (T : Int) &&& BitVec.ofInt 32 (S : Int)).toNat = T &&& S := by
    rw [BitVec.ofInt_natCast, BitVec.ofInt_natCast, BitVec.toNat_and, BitVec.toNat_ofNat, BitVec.toNat_ofNat, Nat.mod_eq_of_lt (by omega), Nat.mod_eq_of_lt (by omega)]
  have h3 : T &&& S ≤ T := Nat.and_le_left
  rw [h1, BitVec.toInt_eq_toNat_of_lt (by rw [h2]; omega), h2]
theorem or_nat {T S : Nat} (hT : T < 1048576) (hS : S < 1048576) : sj_or (T : Int) (S : Int) = ((T ||| S : Nat) : Int) ∧ T ||| S < 1048576 := by
  have h1 : sj_or (T : Int) (S : Int) = (BitVec.ofInt 32 (T : Int) ||| BitVec.ofInt 32 (S : Int)).toInt := rfl
  have h2 : (BitVec.ofInt 32 (T : Int) ||| BitVec.ofInt 32 (S : Int)).toNat = T ||| S := by
    rw [BitVec.ofInt_natCast, BitVec.ofInt_natCast, BitVec.toNat_or, BitVec.toNat_ofNat, BitVec.toNat_ofNat, Nat.mod_eq_of_lt (by omega), Nat.mod_eq_of_lt (by omega)]
  have h3 : T ||| S < 2 ^ 20 := Nat.or_lt_two_pow hT hS
  exact ⟨by rw [h1, BitVec.toInt_eq_toNat_of_lt (by rw [h2]; omega), h2], h3⟩
theorem and_pow (T i : Nat) : T &&& 2 ^ i = if T.testBit i = true then 2 ^ i else 0 := by
  apply Nat.eq_of_testBit_eq
  intro j
  rw [Nat.testBit_and, Nat.testBit_two_pow]
  by_cases z : T.testBit i = true
  · rw [if_pos z, Nat.testBit_two_pow]
    by_cases y : i = j
    · subst y; simp [z]
    · simp [y]
  · rw [if_neg z, Nat.zero_testBit]
    by_cases y : i = j
    · subst y; simpa using z
    · simp [y]
/-- the class's bit of line k of the reference -/
def tdB (k : Nat) : Nat := if k ≤ 4 then k else k + 1
def TD (V W : sj_VV) (t b : Nat) : Prop := ∃ T : Nat, T < 1048576 ∧ V t 7 = (T : Nat) ∧ ∀ k, k < 18 → (W (b + 11) k = 0 ∨ W (b + 11) k = 1) ∧ (W (b + 11) k = 1 ↔ T.testBit (tdB k) = true)
theorem pow_lt20 {k : Nat} (h : k < 20) : 2 ^ k < 1048576 := by
  have : 2 ^ k ≤ 2 ^ 19 := Nat.pow_le_pow_right (by omega) (by omega)
  omega
theorem TD.new {k : Nat} (hD : TD V W t b) (hk : k < 18) (h5 : V t 5 = (p : Nat)) (hw : W b 32 = 0) : ∃ r V' W', g_X7_isNew N t ((tdB k : Nat) : Int) V = some (r, V') ∧ g_X9_tells N b k (p : Nat) W = some ((), W') ∧ ((∀ z, z ≠ t → V' z = V z) ∧ ∀ j, j ≠ 3 → j ≠ 4 → j ≠ 7 → V' t j = V t j) ∧ ((∀ z, z ≠ b → z ≠ b + 11 → W' z = W z) ∧ ∀ j, (j < 30 ∨ 33 ≤ j) → W' b j = W b j) ∧ ((r = 1 ∧ TD V' W' t b ∧ V' t 3 = V t 3 ∧ V' t 4 = V t 4 ∧ W' b 32 = 0 ∧ W' b 30 = W b 30 ∧ W' b 31 = W b 31) ∨ (r = 0 ∧ V' t 3 = 3 ∧ V' t 4 = (p : Nat) ∧ W' b 32 = 1 ∧ W' b 30 = 3 ∧ W' b 31 = (p : Nat))) := by
  obtain ⟨T, hT, h7, hb⟩ := hD
  obtain ⟨b1, b2⟩ := hb k hk
  have hk20 : tdB k < 20 := by unfold tdB; split <;> omega
  have hP := pow_lt20 hk20
  have ep : (1 : Int) * 2 ^ ((tdB k : Nat) : Int).toNat = ((2 ^ tdB k : Nat) : Int) := by rw [Int.one_mul, tn0]; simp
  have ea := and_nat hT hP
  rw [and_pow] at ea
  obtain ⟨eo, lo⟩ := or_nat hT hP
  have hpos : 0 < 2 ^ tdB k := Nat.two_pow_pos _
  have hs : e_shl (1 : Int) ((tdB k : Nat) : Int) = fun (K : Int → Option (Int × sj_VV)) => K ((2 ^ tdB k : Nat) : Int) := by
    funext K
    unfold e_shl
    rw [if_pos (by omega), ep]
  unfold g_X7_isNew g_X9_tells g_X9_tells_23
  rw [hs]
  simp only []
  rw [h7, ea, eo, k_eqT hw, k_ix (by omega) (by omega), tn0, k_lt]
  by_cases z : T.testBit (tdB k) = true
  · have w1 : W (b + 11) k = 1 := b2.mpr z
    rw [if_pos z, k_eqF (by omega) ⟨by omega, by omega⟩ ⟨by omega, by omega⟩, fail_eq, k_cs, k_zs (Or.inl rfl), h5, w1, k_eqF (by omega) ⟨by omega, by omega⟩ ⟨by omega, by omega⟩, m_wrong hw, k_cs, k_ix (by omega) (by omega), k_zz (Or.inr rfl), k_lt]
    refine ⟨0, _, _, rfl, rfl, ⟨fun z hz => by rw [up_row _ _ _ hz, up_row _ _ _ hz], fun j j3 j4 _ => by rw [up_nk _ _ _ j4, up_nk _ _ _ j3]⟩, ⟨fun z z1 z2 => by rw [up_row _ _ _ z2, up_row _ _ _ z1, up_row _ _ _ z1, up_row _ _ _ z1], fun j hj => by rw [up_row _ _ _ (by omega), up_nk _ _ _ (by omega), up_nk _ _ _ (by omega), up_nk _ _ _ (by omega)]⟩, Or.inr ⟨rfl, by rw [up_nk _ _ _ (by omega), up_ss], up_ss _ _ _ _, by rw [up_row _ _ _ (by omega), up_nk _ _ _ (by omega), up_nk _ _ _ (by omega), up_ss], by rw [up_row _ _ _ (by omega), up_nk _ _ _ (by omega), up_ss], by rw [up_row _ _ _ (by omega), up_ss]⟩⟩
  · have w0 : W (b + 11) k = 0 := by
      rcases b1 with y | y
      · exact y
      · exact absurd (b2.mp y) z
    rw [if_neg z, k_eqT (show ((0 : Nat) : Int) = 0 from rfl), k_zs (Or.inr rfl), w0, k_eqT rfl, k_ix (by omega) (by omega), k_zz (Or.inr rfl), k_lt]
    refine ⟨1, _, _, rfl, rfl, ⟨fun z hz => up_row _ _ _ hz, fun j _ _ j7 => up_nk _ _ _ j7⟩, ⟨fun z _ z2 => up_row _ _ _ z2, fun j hj => by rw [up_row _ _ _ (by omega)]⟩, Or.inl ⟨rfl, ⟨T ||| 2 ^ tdB k, lo, up_ss _ _ _ _, fun j hj => ?_⟩, up_nk _ _ _ (by omega), up_nk _ _ _ (by omega), by rw [up_row _ _ _ (by omega)]; exact hw, by rw [up_row _ _ _ (by omega)], by rw [up_row _ _ _ (by omega)]⟩⟩
    rw [Nat.testBit_or, Nat.testBit_two_pow]
    by_cases y : j = k
    · subst y
      rw [up_ss]
      simp
    · have ne : tdB k ≠ tdB j := by unfold tdB; split <;> split <;> omega
      rw [up_nk _ _ _ y]
      simp only [ne, decide_false, Bool.or_false]
      exact hb j hj
end Told2
