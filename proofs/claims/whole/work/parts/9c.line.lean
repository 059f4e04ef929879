section Line
variable {V V1 W W1 : sj_VV} {t ga b N L p q : Nat} {B : Nat → Int} {w w0 : sj_R}
theorem byte_ok (l : List Int) (h7 : l.length ≤ 7) (h : ∀ i, i < 7 → 0 ≤ l.getD i 0 ∧ l.getD i 0 ≤ 127) (i : Nat) : 0 ≤ l.getD i 0 ∧ l.getD i 0 ≤ 127 := by
  rcases Nat.lt_or_ge i 7 with z | z
  · exact h i z
  · have : l.getD i 0 = 0 := by simp [List.getD, List.getElem?_eq_none (show l.length ≤ i by omega)]
    rw [this]; omega
/-- both find the same word -/
theorem jw (hT : TX V W t b B L) (n : Nat) (hn : n < 9) (l : List Int) (hl : (sj_tln.getD n 0 : Nat) = l.length) (hl2 : 3 ≤ l.length ∧ l.length ≤ 7) (h7 : ∀ i, i < 7 → 0 ≤ l.getD i 0 ∧ l.getD i 0 ≤ 127) (hc : ∀ i, i < l.length → sj_tch n i = l.getD i 0) (hp : p ≤ L) (h5 : V t 5 = (p : Nat)) (h6 : V t 6 = (we B L p : Nat)) (h29 : W b 29 = (p : Nat)) (hN : 1000 ≤ N) : ∃ r, g_X7_isWord N t n V = some (r, V) ∧ g_X9_spells N b (l.length : Nat) (l.getD 0 0) (l.getD 1 0) (l.getD 2 0) (l.getD 3 0) (l.getD 4 0) (l.getD 5 0) (l.getD 6 0) W = some (r, W) ∧ (r = 0 ∨ r = 1) ∧ (r = 1 → we B L p = p + l.length) := by
  obtain ⟨r, c1, c2, c3⟩ := c_isWord (N := N) hT hn l hl hl2.2 (fun i hi => ⟨hc i hi, byte_ok l hl2.2 h7 i⟩) hp h5 h6 hN
  obtain ⟨s, m1, m2, m3⟩ := m_spells (N := N) hT l hl2 (byte_ok l hl2.2 h7) hp h29 hN
  have e : s = r := by
    rcases c2 with z | z <;> rcases m2 with y | y
    · omega
    · exact absurd (c3.mpr (m3.mp y)) (by omega)
    · exact absurd (m3.mpr (c3.mp z)) (by omega)
    · omega
  exact ⟨r, c1, by rw [m1, e], c2, fun h => (c3.mp h).1⟩
def ckL (k : Nat) : Int := [0, 1, 2, 3, 4, 5, 9, 13, -1].getD k 0
def mkL (k : Nat) : Int := [0, 1, 2, 3, 4, 5, 6, 7, -1].getD k 0
theorem j_kind (hT : TX V W t b B L) (hp : p ≤ L) (h5 : V t 5 = (p : Nat)) (h6 : V t 6 = (we B L p : Nat)) (h29 : W b 29 = (p : Nat)) (hN : 1000 ≤ N) : ∃ k, k ≤ 8 ∧ g_X7_lineKind N t V = some (ckL k, V) ∧ g_X9_word N b W = some (mkL k, W) := by
  obtain ⟨r1, a1, b1, c1, _⟩ := jw (N := N) hT 1 (by omega) [103, 114, 111, 117, 110, 100] rfl (by decide) (by decide) (by decide) hp h5 h6 h29 hN
  obtain ⟨r2, a2, b2, c2, _⟩ := jw (N := N) hT 2 (by omega) [114, 111, 99, 107] rfl (by decide) (by decide) (by decide) hp h5 h6 h29 hN
  obtain ⟨r3, a3, b3, c3, _⟩ := jw (N := N) hT 3 (by omega) [119, 97, 116, 101, 114] rfl (by decide) (by decide) (by decide) hp h5 h6 h29 hN
  obtain ⟨r4, a4, b4, c4, _⟩ := jw (N := N) hT 4 (by omega) [108, 111, 97, 100] rfl (by decide) (by decide) (by decide) hp h5 h6 h29 hN
  obtain ⟨r5, a5, b5, c5, _⟩ := jw (N := N) hT 5 (by omega) [113, 117, 97, 107, 101] rfl (by decide) (by decide) (by decide) hp h5 h6 h29 hN
  obtain ⟨r6, a6, b6, c6, _⟩ := jw (N := N) hT 6 (by omega) [116, 111, 112] rfl (by decide) (by decide) (by decide) hp h5 h6 h29 hN
  obtain ⟨r7, a7, b7, c7, _⟩ := jw (N := N) hT 7 (by omega) [115, 111, 105, 108] rfl (by decide) (by decide) (by decide) hp h5 h6 h29 hN
  obtain ⟨r8, a8, b8, c8, _⟩ := jw (N := N) hT 8 (by omega) [97, 110, 99, 104, 111, 114] rfl (by decide) (by decide) (by decide) hp h5 h6 h29 hN
  have d1 : g_X9_spells N b 6 103 114 111 117 110 100 0 W = some (r1, W) := b1
  have d2 : g_X9_spells N b 4 114 111 99 107 0 0 0 W = some (r2, W) := b2
  have d3 : g_X9_spells N b 5 119 97 116 101 114 0 0 W = some (r3, W) := b3
  have d4 : g_X9_spells N b 4 108 111 97 100 0 0 0 W = some (r4, W) := b4
  have d5 : g_X9_spells N b 5 113 117 97 107 101 0 0 W = some (r5, W) := b5
  have d6 : g_X9_spells N b 3 116 111 112 0 0 0 0 W = some (r6, W) := b6
  have d7 : g_X9_spells N b 4 115 111 105 108 0 0 0 W = some (r7, W) := b7
  have d8 : g_X9_spells N b 6 97 110 99 104 111 114 0 W = some (r8, W) := b8
  unfold g_X7_lineKind g_X9_word
  rw [a1, k_cs, d1, k_cs]
  rcases c1 with z | z
  · rw [k_eqT z, k_eqT z, a2, k_cs, d2, k_cs]
    rcases c2 with z | z
    · rw [k_eqT z, k_eqT z, a3, k_cs, d3, k_cs]
      rcases c3 with z | z
      · rw [k_eqT z, k_eqT z, a4, k_cs, d4, k_cs]
        rcases c4 with z | z
        · rw [k_eqT z, k_eqT z, a5, k_cs, d5, k_cs]
          rcases c5 with z | z
          · rw [k_eqT z, k_eqT z, a6, k_cs, d6, k_cs]
            rcases c6 with z | z
            · rw [k_eqT z, k_eqT z, a7, k_cs, d7, k_cs]
              rcases c7 with z | z
              · rw [k_eqT z, k_eqT z, a8, k_cs, d8, k_cs]
                rcases c8 with z | z
                · rw [k_eqT z, k_eqT z]; exact ⟨8, by omega, rfl, rfl⟩
                · rw [z, k_eqF (by omega) ⟨by omega, by omega⟩ ⟨by omega, by omega⟩, k_eqF (by omega) ⟨by omega, by omega⟩ ⟨by omega, by omega⟩]; exact ⟨7, by omega, rfl, rfl⟩
              · rw [z, k_eqF (by omega) ⟨by omega, by omega⟩ ⟨by omega, by omega⟩, k_eqF (by omega) ⟨by omega, by omega⟩ ⟨by omega, by omega⟩]; exact ⟨6, by omega, rfl, rfl⟩
            · rw [z, k_eqF (by omega) ⟨by omega, by omega⟩ ⟨by omega, by omega⟩, k_eqF (by omega) ⟨by omega, by omega⟩ ⟨by omega, by omega⟩]; exact ⟨5, by omega, rfl, rfl⟩
          · rw [z, k_eqF (by omega) ⟨by omega, by omega⟩ ⟨by omega, by omega⟩, k_eqF (by omega) ⟨by omega, by omega⟩ ⟨by omega, by omega⟩]; exact ⟨4, by omega, rfl, rfl⟩
        · rw [z, k_eqF (by omega) ⟨by omega, by omega⟩ ⟨by omega, by omega⟩, k_eqF (by omega) ⟨by omega, by omega⟩ ⟨by omega, by omega⟩]; exact ⟨3, by omega, rfl, rfl⟩
      · rw [z, k_eqF (by omega) ⟨by omega, by omega⟩ ⟨by omega, by omega⟩, k_eqF (by omega) ⟨by omega, by omega⟩ ⟨by omega, by omega⟩]; exact ⟨2, by omega, rfl, rfl⟩
    · rw [z, k_eqF (by omega) ⟨by omega, by omega⟩ ⟨by omega, by omega⟩, k_eqF (by omega) ⟨by omega, by omega⟩ ⟨by omega, by omega⟩]; exact ⟨1, by omega, rfl, rfl⟩
  · rw [z, k_eqF (by omega) ⟨by omega, by omega⟩ ⟨by omega, by omega⟩, k_eqF (by omega) ⟨by omega, by omega⟩ ⟨by omega, by omega⟩]; exact ⟨0, by omega, rfl, rfl⟩
theorem RX.wnew {k : Nat} (hX : RX V W t ga b B L w0 p) (hd : ga + 14 ≤ t) (f1 : Fct t V V1) (h2 : V1 t 2 = (sk B L (we B L p) : Nat)) (h5 : V1 t 5 = (p : Nat)) (h3 : V1 t 3 = V t 3) (h4 : V1 t 4 = V t 4) (hk : k < 18) : ∃ r V2 W1, g_X7_isNew N t ((tdB k : Nat) : Int) V1 = some (r, V2) ∧ g_X9_tells N b k (p : Nat) W = some ((), W1) ∧ Fcr t ga V1 V2 ∧ Fmr b W (sj_up W1 b 29 (we B L p : Nat)) ∧ W1 (b + 1) = W (b + 1) ∧ W1 b 29 = W b 29 ∧ TX V2 W1 t b B L ∧ ((r = 1 ∧ W1 b 32 = 0 ∧ RX V2 (sj_up W1 b 29 (we B L p : Nat)) t ga b B L w0 (we B L p)) ∨ (r = 0 ∧ W1 b 32 = 1 ∧ BX V2 (sj_up W1 b 29 (we B L p : Nat)) t b L)) := by
  obtain ⟨a1, a2, ⟨a31, a32, a33⟩, ⟨⟨a41, a42⟩, a43, a44, a45⟩, a5, a6, a7, a8, a9⟩ := id hX
  have hwe := we_in (B := B) a32
  obtain ⟨r, V2, W1, r1, r2, ⟨r3, r4⟩, ⟨r5, r6⟩, r7⟩ := (a2.fr (V1 := V1) (W1 := W) (f1.2 7 (by omega)) rfl).new (N := N) hk h5 a43
  have ew : W1 (b + 1) = W (b + 1) := r5 _ (by omega) (by omega)
  have T1 := a1.c f1
  have hT : TX V2 W1 t b B L := ⟨by rw [r4 1 (by omega) (by omega) (by omega)]; exact T1.1, by rw [r6 28 (by omega)]; exact T1.2.1, T1.2.2.1, fun i hi => by rw [r3 _ (by omega)]; exact T1.2.2.2.1 i hi, fun i hi => by rw [r5 _ (by omega) (by omega)]; exact T1.2.2.2.2 i hi⟩
  have fu : Fmt b W1 (sj_up W1 b 29 (we B L p : Nat)) := Fmt.rf.up (by omega) (by omega)
  refine ⟨r, V2, W1, r1, r2, ⟨fun z z1 _ => r3 z z1, fun j hj => r4 j (by omega) (by omega) (by omega), fun q => by rw [r3 _ q]⟩, Fmr.tr ⟨fun z z1 _ z3 => r5 z z1 z3, fun j hj => r6 j (by omega), fun j _ => by rw [ew]⟩ fu.r, ew, r6 29 (by omega), hT, ?_⟩
  rcases r7 with ⟨s1, s2, s3, s4, s5, s6, s7⟩ | ⟨s1, s2, s3, s4, s5, s6⟩
  · refine Or.inl ⟨s1, s5, hT.m fu, s2.fr rfl (up_row _ _ _ (by omega)), ⟨up_ss _ _ _ _, hwe.2, by rw [r4 2 (by omega) (by omega) (by omega)]; exact h2⟩, ⟨⟨by rw [s3, h3]; exact a41, by rw [s4, h4]; exact a42⟩, by rw [up_nk _ _ _ (by omega)]; exact s5, by rw [up_nk _ _ _ (by omega), s6]; exact a44, by rw [up_nk _ _ _ (by omega), s7]; exact a45⟩, ?_, by rw [up_row _ _ _ (by omega), ew]; exact a6, by rw [r3 _ (by omega), f1.1 _ (by omega)]; exact a7, by rw [up_row _ _ _ (by omega), ew]; exact a8, by rw [up_row _ _ _ (by omega), ew]; exact a9⟩
    rw [up_row _ _ _ (by omega), ew]
    exact a5.fr (lo := t) (hi := t + 1) (fun z hz => by rw [r3 z (by omega), f1.1 z (by omega)]) (by omega)
  · exact Or.inr ⟨s1, s4, by rw [s2, up_nk _ _ _ (by omega), s5], by rw [s3, up_nk _ _ _ (by omega), s6], by rw [up_nk _ _ _ (by omega)]; exact s4, _, hwe.2, up_ss _ _ _ _⟩
end Line
