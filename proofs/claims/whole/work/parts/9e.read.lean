section Read
variable {V V1 W W1 : sj_VV} {t ga b N L p q : Nat} {B : Nat → Int} {w w0 : sj_R}
/-- a text read to its end -/
def DN (V W : sj_VV) (t ga b : Nat) (w0 : sj_R) : Prop := CG V ga (W (b + 1)) ∧ WB 500 200 1500 (W (b + 1)) ∧ (V (ga + 12) 1 = -1 ∧ V (ga + 12) 2 = -1 ∧ (V (ga + 12) 3 = 0 ∨ V (ga + 12) 3 = 1)) ∧ (W (b + 1) 320 = -1 ∧ W (b + 1) 322 = 0) ∧ (∀ j, 364 ≤ j → W (b + 1) j = w0 j) ∧ ((V t 3 = 0 ∧ V t 4 = -1) ∧ W b 32 = 0 ∧ W b 30 = 0 ∧ W b 31 = -1)
def RdE (t ga b L : Nat) (w0 : sj_R) (V W : sj_VV) (A C : Option (Int × sj_VV)) : Prop := ∃ r V' r2 W', A = some (r, V') ∧ C = some (r2, W') ∧ Fcr t ga V V' ∧ Fmr b W W' ∧ ((r = r2 ∧ (1 ≤ r ∧ r ≤ 1000) ∧ DN V' W' t ga b w0) ∨ (r = -1 ∧ BX V' W' t b L))
theorem TB.wb (hB : TB w) {n : Nat} (hn : w 0 = (n : Nat)) (h : ∀ c, c ≤ n → w (44 + c) ≤ w (3 + c)) : WB 500 200 1500 w := by
  obtain ⟨a1, a2, a3, a4, a5, a6, a7⟩ := hB
  refine ⟨a1, a2, a3, fun c hc => ?_, a5, a6, a7⟩
  obtain ⟨q1, q2, q3, q4, q5⟩ := a4 c hc
  refine ⟨⟨q1.1, ?_, q2.2⟩, q3, q4⟩
  rcases Nat.lt_or_ge n c with z | z
  · have := q5 (by omega)
    omega
  · exact h c z
theorem rock_loop {n : Nat} {lines : Int} (hX : RX V W t ga b B L w0 q) (hn : W (b + 1) 0 = (n : Nat)) : ∀ (m c : Nat), c ≤ n + 1 → n + 2 - c < m → (∀ d, d < c → W (b + 1) (44 + d) ≤ W (b + 1) (3 + d)) → ∃ r, g_X0_rockIsBelow_2 N m ga c V = some (r, V) ∧ ((r = 1 ∧ (∀ d, d ≤ n → W (b + 1) (44 + d) ≤ W (b + 1) (3 + d)) ∧ g_X9_reads_128 N m b lines c W = some (lines, W)) ∨ (r = 0 ∧ g_X9_reads_128 N m b lines c W = some (lines, sj_up (sj_up (sj_up W b 32 1) b 30 4) b 31 (L : Nat))))
  | 0, _, _, h, _ => absurd h (by omega)
  | m + 1, c, h1, h2, hb => by
    obtain ⟨a1, a2, _, ⟨⟨a41, a42⟩, a43, a44, a45⟩, a5, a6, _⟩ := id hX
    have n40 := a6.1
    by_cases z : c = n + 1
    · subst z
      have eA : g_X0_rockIsBelow_2 N (m + 1) ga ((n + 1 : Nat) : Int) V = some (1, V) := by
        show g_X0_rockIsBelow_2_b N (g_X0_rockIsBelow_2 N m) ga ((n + 1 : Nat) : Int) V = _
        unfold g_X0_rockIsBelow_2_b
        rw [a5.1.1, hn, k_ltT (by omega) ⟨by omega, by omega⟩ ⟨by omega, by omega⟩, k_zs (Or.inr rfl)]
      have eB : g_X9_reads_128 N (m + 1) b lines ((n + 1 : Nat) : Int) W = some (lines, W) := by
        show g_X9_reads_128_b N (g_X9_reads_128 N m) b lines ((n + 1 : Nat) : Int) W = _
        unfold g_X9_reads_128_b
        rw [k_ix (by omega) (by omega), show (0 : Int).toNat = 0 from rfl, hn, k_ltT (by omega) ⟨by omega, by omega⟩ ⟨by omega, by omega⟩]
      exact ⟨1, eA, Or.inl ⟨rfl, fun d hd => hb d (by omega), eB⟩⟩
    · obtain ⟨q1, q2, _⟩ := a6.2.2.2.1 c (by omega)
      have g := a5.2.1 c (by omega)
      have eA : g_X0_rockIsBelow_2 N (m + 1) ga (c : Int) V = if W (b + 1) (44 + c) ≤ W (b + 1) (3 + c) then g_X0_rockIsBelow_2 N m ga ((c + 1 : Nat) : Int) V else some (0, V) := by
        show g_X0_rockIsBelow_2_b N (g_X0_rockIsBelow_2 N m) ga (c : Int) V = _
        unfold g_X0_rockIsBelow_2_b
        rw [a5.1.1, hn, k_ltF (by omega) ⟨by omega, by omega⟩ ⟨by omega, by omega⟩, k_ix (by omega) (by omega), k_ix (by omega) (by omega), tn0, g.1, g.2.1, k_lec ⟨by omega, by omega⟩ ⟨by omega, by omega⟩, k_lt, k_zs (Or.inl rfl)]
        rfl
      have eB : g_X9_reads_128 N (m + 1) b lines (c : Int) W = if W (b + 1) (44 + c) ≤ W (b + 1) (3 + c) then g_X9_reads_128 N m b lines ((c + 1 : Nat) : Int) W else g_X9_reads_128 N m b lines ((c + 1 : Nat) : Int) (sj_up (sj_up (sj_up W b 32 1) b 30 4) b 31 (L : Nat)) := by
        show g_X9_reads_128_b N (g_X9_reads_128 N m) b lines (c : Int) W = _
        unfold g_X9_reads_128_b g_X9_reads_177
        rw [k_ix (by omega) (by omega), show (0 : Int).toNat = 0 from rfl, hn, k_ltF (by omega) ⟨by omega, by omega⟩ ⟨by omega, by omega⟩, k_eqT a43, k_ix (by omega) (by omega), k_ix (by omega) (by omega), show (44 + (c : Int)).toNat = 44 + c by omega, show (3 + (c : Int)).toNat = 3 + c by omega, k_lec ⟨by omega, by omega⟩ ⟨by omega, by omega⟩, k_lt, m_wrong a43, k_cs, a1.2.1, k_lt]
        rfl
      by_cases y : W (b + 1) (44 + c) ≤ W (b + 1) (3 + c)
      · rw [if_pos y] at eA eB
        rw [eA, eB]
        exact rock_loop hX hn m (c + 1) (by omega) (by omega) (fun d hd => by
          by_cases x : d = c
          · subst x; exact y
          · exact hb d (by omega))
      · rw [if_neg y] at eA eB
        rw [eA, eB]
        refine ⟨0, rfl, Or.inr ⟨rfl, ?_⟩⟩
        obtain ⟨m', hm⟩ : ∃ m', m = m' + 1 := ⟨m - 1, by omega⟩
        subst hm
        show g_X9_reads_128_b N (g_X9_reads_128 N m') b lines ((c + 1 : Nat) : Int) _ = _
        unfold g_X9_reads_128_b
        rw [k_ix (by omega) (by omega), show (0 : Int).toNat = 0 from rfl, up_row _ _ _ (by omega), up_row _ _ _ (by omega), up_row _ _ _ (by omega), hn, up_nk _ _ _ (by omega), up_nk _ _ _ (by omega), up_ss, k_ltc ⟨by omega, by omega⟩ ⟨by omega, by omega⟩, k_eqF (by omega) ⟨by omega, by omega⟩ ⟨by omega, by omega⟩]
        split <;> rfl
theorem lines_loop (hd : ga + 14 ≤ t) (hN : 1000 ≤ N) : ∀ (m p ln : Nat) (V W : sj_VV), RX V W t ga b B L w0 p → sk B L p = p → 1 ≤ ln → ln ≤ p + 1 → L - p + 1 < m → RdE t ga b L w0 V W (g_X7_read_36 N m t ga ln V) (g_X9_reads_93 N m b ln W)
  | 0, _, _, _, _, _, _, _, _, h => absurd h (by omega)
  | m + 1, p, ln, V, W, hX, hp, hl1, hl2, hm => by
    obtain ⟨a1, a2, ⟨a31, a32, a33⟩, ⟨⟨a41, a42⟩, a43, a44, a45⟩, a5, a6, a7, a8, a9⟩ := id hX
    have hL := a1.2.2.1
    have n40 := a6.1
    rw [hp] at a33
    unfold g_X7_read_36 g_X7_read_36_b
    show RdE t ga b L w0 V W _ (g_X9_reads_93_b N (g_X9_reads_93 N m) b ln W)
    unfold g_X9_reads_93_b
    rw [a1.1, a33, a1.2.1, a31]
    by_cases z : p = L
    · rw [k_leT (by omega) ⟨by omega, by omega⟩ ⟨by omega, by omega⟩, k_leT (by omega) ⟨by omega, by omega⟩ ⟨by omega, by omega⟩]
      obtain ⟨n, hn⟩ : ∃ n : Nat, W (b + 1) 0 = n := ⟨(W (b + 1) 0).toNat, by omega⟩
      obtain ⟨r, c1, c2⟩ := rock_loop (N := N) (n := n) (lines := (ln : Int)) hX hn N 0 (by omega) (by omega) (fun d hd => by omega)
      have c1' : g_X0_rockIsBelow_2 N N ga 0 V = some (r, V) := c1
      unfold g_X7_read_70 g_X0_rockIsBelow g_X9_reads_125
      rw [c1', k_cs]
      rcases c2 with ⟨s1, s2, s3⟩ | ⟨s1, s3⟩
      · have s3' : g_X9_reads_128 N N b ln 0 W = some ((ln : Int), W) := s3
        rw [s1, k_eqF (by omega) ⟨by omega, by omega⟩ ⟨by omega, by omega⟩, s3']
        exact ⟨_, V, _, W, rfl, rfl, Fcr.rf, Fmr.rf, Or.inl ⟨rfl, ⟨by omega, by omega⟩, a5, a6.wb hn s2, a7, a8, a9, ⟨a41, a42⟩, a43, a44, a45⟩⟩
      · have s3' : g_X9_reads_128 N N b ln 0 W = some ((ln : Int), sj_up (sj_up (sj_up W b 32 1) b 30 4) b 31 (L : Nat)) := s3
        rw [s1, k_eqT rfl, fail_eq, k_cs, s3', a1.1]
        refine ⟨_, _, _, _, rfl, rfl, ((Fct.rf.up (by omega) (by omega)).up (by omega) (by omega)).r, (((Fmt.rf.up (by omega) (by omega)).up (by omega) (by omega)).up (by omega) (by omega)).r, Or.inr ⟨rfl, ?_, ?_, ?_, p, a32, ?_⟩⟩
        · rw [up_nk _ _ _ (by omega), up_ss, up_nk _ _ _ (by omega), up_ss]
        · rw [up_ss, up_ss]
        · rw [up_nk _ _ _ (by omega), up_nk _ _ _ (by omega), up_ss]
        · rw [up_nk _ _ _ (by omega), up_nk _ _ _ (by omega), up_nk _ _ _ (by omega)]; exact a31
    · rw [k_leF (by omega) ⟨by omega, by omega⟩ ⟨by omega, by omega⟩, k_ltF (by omega) ⟨by omega, by omega⟩ ⟨by omega, by omega⟩, k_leF (by omega) ⟨by omega, by omega⟩ ⟨by omega, by omega⟩, k_eqT a43]
      obtain ⟨r, V1, W1, l1, l2, l3, l4, l5⟩ := j_line (N := N) hX hp hd hN
      rw [l1, k_cs, l2, k_cs, k_lt, k_lt]
      rcases l5 with ⟨s1, ⟨q', s2⟩, s3⟩ | ⟨s1, s2⟩
      · obtain ⟨b1, b2, ⟨b31, b32, b33⟩, ⟨⟨b41, b42⟩, b43, b44, b45⟩, _⟩ := id s2
        have hs := sk_in (B := B) b32
        obtain ⟨W2, m1, m2, m3, m4⟩ := m_blanks (N := N) b1 b32 b31 hN
        have f2 : Fmt b W1 W2 := ⟨m3, fun j hj => m4 j (by omega)⟩
        have hX2 : RX V1 W2 t ga b B L w0 (sk B L q') := s2.step hd Fct.rf f2 m2 hs.2 (by rw [sk_sk b32]; exact b33) ⟨rfl, rfl⟩ ⟨by rw [m4 32 (by omega)]; exact b43, m4 30 (by omega), m4 31 (by omega)⟩
        rw [s1, k_eqF (by omega) ⟨by omega, by omega⟩ ⟨by omega, by omega⟩, m1, k_cs]
        have hq' : p < q' := by rw [a31, b31] at s3; omega
        obtain ⟨r', V3, r2, W3, g1, g2, g3, g4, g5⟩ := lines_loop hd hN m (sk B L q') (ln + 1) V1 W2 hX2 (sk_sk b32) (by omega) (by omega) (by omega)
        exact ⟨r', V3, r2, W3, g1, g2, l3.tr g3, (l4.tr f2.r).tr g4, g5⟩
      · obtain ⟨e1, e2, e3, q', e4, e5⟩ := id s2
        have hT1 : TX V1 W1 t b B L := ⟨by rw [l3.2.1 1 (by omega)]; exact a1.1, by rw [l4.2.1 28 (by omega)]; exact a1.2.1, a1.2.2.1, fun i hi => by rw [l3.1 _ (by omega) (by omega)]; exact a1.2.2.2.1 i hi, fun i hi => by rw [l4.1 _ (by omega) (by omega) (by omega)]; exact a1.2.2.2.2 i hi⟩
        obtain ⟨W2, m1, m2, m3, m4⟩ := m_blanks (N := N) hT1 e4 e5 hN
        have hs := sk_in (B := B) e4
        have f2 : Fmt b W1 W2 := ⟨m3, fun j hj => m4 j (by omega)⟩
        rw [s1, k_eqT rfl, m1, k_cs]
        obtain ⟨m', hm'⟩ : ∃ m', m = m' + 1 := ⟨m - 1, by omega⟩
        subst hm'
        have h125 : g_X9_reads_125 N b ((ln : Int) + 1) W2 = some ((ln : Int) + 1, W2) := by
          unfold g_X9_reads_125
          obtain ⟨N', hN'⟩ : ∃ N', N = N' + 1 := ⟨N - 1, by omega⟩
          have : g_X9_reads_128 N N b ((ln : Int) + 1) 0 W2 = g_X9_reads_128 N (N' + 1) b ((ln : Int) + 1) 0 W2 := by rw [← hN']
          rw [this]
          show g_X9_reads_128_b N (g_X9_reads_128 N N') b ((ln : Int) + 1) 0 W2 = _
          unfold g_X9_reads_128_b
          have h32 : W2 b 32 = 1 := by rw [m4 32 (by omega)]; exact e3
          rw [k_ix (by omega) (by omega), h32, k_eqF (by omega) ⟨by omega, by omega⟩ ⟨by omega, by omega⟩]
          have i0 : sj_i32 (W2 (b + 1) (0 : Int).toNat) := by
            rw [m3 _ (by omega), show (0 : Int).toNat = 0 from rfl, l4.2.2 0 (by omega)]
            exact ⟨by omega, by omega⟩
          rw [k_ltc i0 ⟨by omega, by omega⟩]
          split <;> rfl
        have h93 : g_X9_reads_93 N (m' + 1) b ((ln : Int) + 1) W2 = some ((ln : Int) + 1, W2) := by
          show g_X9_reads_93_b N (g_X9_reads_93 N m') b ((ln : Int) + 1) W2 = _
          unfold g_X9_reads_93_b
          rw [m2, m4 28 (by omega), hT1.2.1, h125, m4 32 (by omega), e3, k_lec ⟨by omega, by omega⟩ ⟨by omega, by omega⟩, k_eqF (by omega) ⟨by omega, by omega⟩ ⟨by omega, by omega⟩]
          split <;> rfl
        rw [h93]
        exact ⟨_, V1, _, W2, rfl, rfl, l3, l4.tr f2.r, Or.inr ⟨rfl, s2.fr (fun _ _ => rfl) ⟨by rw [m4 32 (by omega)]; exact e3, m4 30 (by omega), m4 31 (by omega)⟩ ⟨_, hs.2, m2⟩⟩⟩
end Read
