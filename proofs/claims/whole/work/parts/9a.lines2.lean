section Lines2
variable {V V1 W W1 : sj_VV} {t ga b N L q : Nat} {B : Nat → Int} {w w0 : sj_R} {lo hi v : Int}
def PX (V W : sj_VV) (t b : Nat) (B : Nat → Int) (L q : Nat) : Prop := TX V W t b B L ∧ (W b 29 = (q : Nat) ∧ q ≤ L ∧ V t 2 = (sk B L q : Nat)) ∧ ((V t 3 = 0 ∧ V t 4 = -1) ∧ W b 32 = 0 ∧ W b 30 = 0 ∧ W b 31 = -1)
theorem RX.px (h : RX V W t ga b B L w0 q) : PX V W t b B L q := ⟨h.1, h.2.2.1, h.2.2.2.1⟩
/-- what writing into the row may touch -/
def Fro (b : Nat) (W W' : sj_VV) : Prop := (∀ z, z ≠ b + 1 → W' z = W z) ∧ ∀ j, (j = 0 ∨ 390 ≤ j) → W' (b + 1) j = W (b + 1) j
theorem Fro.rf : Fro b W W := ⟨fun _ _ => rfl, fun _ _ => rfl⟩
theorem Fro.up {j : Nat} (h : Fro b W W1) (hj : 0 < j ∧ j < 390) : Fro b W (sj_up W1 (b + 1) j v) := ⟨fun z hz => (up_row _ _ _ hz).trans (h.1 z hz), fun i hi => (up_nk _ _ _ (by omega)).trans (h.2 i hi)⟩
theorem Fro.mr (h : Fro b W W1) : Fmr b W W1 := ⟨fun z _ z2 _ => h.1 z z2, fun j _ => by rw [h.1 _ (by omega)], h.2⟩
theorem PX.row (h : PX V W t b B L q) (f : Fro b W W1) : PX V W1 t b B L q := by
  obtain ⟨a1, a2, a3⟩ := h
  have eb : W1 b = W b := f.1 _ (by omega)
  exact ⟨⟨a1.1, by rw [eb]; exact a1.2.1, a1.2.2.1, a1.2.2.2.1, fun i hi => by rw [f.1 _ (by omega)]; exact a1.2.2.2.2 i hi⟩, by rw [eb]; exact a2, by rw [eb]; exact a3⟩
theorem TX.row (a1 : TX V W t b B L) (f : Fro b W W1) : TX V W1 t b B L := ⟨a1.1, by rw [f.1 _ (by omega)]; exact a1.2.1, a1.2.2.1, a1.2.2.2.1, fun i hi => by rw [f.1 _ (by omega)]; exact a1.2.2.2.2 i hi⟩
theorem BX.row (h : BX V W t b L) (f : Fro b W W1) : BX V W1 t b L := by
  have eb : W1 b = W b := f.1 _ (by omega)
  unfold BX
  rw [eb]
  exact h
theorem PX.num (hX : PX V W t b B L q) (hlo : 0 ≤ lo ∧ lo ≤ 100) (hhi : 0 ≤ hi ∧ hi ≤ 2000) (hN : 1000 ≤ N) : ∃ V1 W1, Fct t V V1 ∧ Fmt b W W1 ∧ ((∃ (v : Int) (q1 : Nat), g_X7_readNumber N t lo hi V = some (v, V1) ∧ g_X9_number N b lo hi W = some (v, W1) ∧ (lo ≤ v ∧ v ≤ hi) ∧ PX V1 W1 t b B L q1 ∧ W b 29 ≤ W1 b 29) ∨ (g_X7_readNumber N t lo hi V = some (-1, V1) ∧ g_X9_number N b lo hi W = some (lo, W1) ∧ BX V1 W1 t b L ∧ TX V1 W1 t b B L)) := by
  obtain ⟨a1, ⟨a31, a32, a33⟩, ⟨⟨a41, a42⟩, a43, a44, a45⟩⟩ := id hX
  have hsk := sk_in (B := B) a32
  obtain ⟨V1, c1, c2, c3, c4, c5⟩ := c_num (N := N) (lo := lo) (hi := hi) a1 ⟨by omega, by omega⟩ ⟨by omega, by omega⟩ hsk.2 a33 hN
  obtain ⟨W1, m1, m2, m3, m4, m5, m6⟩ := m_num (N := N) (lo := lo) (hi := hi) a1 ⟨by omega, by omega⟩ ⟨by omega, by omega⟩ (by omega) a32 a31 a43 rfl hN
  have hde := de_in (B := B) hsk.2
  refine ⟨V1, W1, c2, m2, ?_⟩
  by_cases ek : nmK B L lo hi (sk B L q) = 0
  · obtain ⟨k1, k2, k3⟩ := c4 ek
    obtain ⟨l1, l2, l3⟩ := m5 ek
    rw [if_pos ek] at c1 m1
    exact Or.inl ⟨_, _, c1, m1, nm_ok ek, ⟨(a1.c c2).m m2, ⟨m3, hde.2, k1⟩, ⟨⟨by rw [k2]; exact a41, by rw [k3]; exact a42⟩, l1, by rw [l2]; exact a44, by rw [l3]; exact a45⟩⟩, by rw [m3, a31]; omega⟩
  · obtain ⟨k1, k2⟩ := c5 ek
    obtain ⟨l1, l2, l3⟩ := m6 ek
    rw [if_neg ek] at c1 m1
    exact Or.inr ⟨c1, m1, ⟨by rw [k1, l2], by rw [k2, l3], l1, _, hde.2, m3⟩, (a1.c c2).m m2⟩
/-- three numbers of a line, in the reference's row -/
def trio (N b : Nat) (l1 h1 l2 h2 l3 h3 : Int) (j1 j2 j3 : Int) (W : sj_VV) : Option (Unit × sj_VV) :=
  e_cs (g_X9_number N b l1 h1 W) fun v5 V4 =>
  e_ix 390 j1 fun _ =>
  e_lt (sj_up V4 (b + 1) j1.toNat v5) fun V6 =>
  e_cs (g_X9_number N b l2 h2 V6) fun v8 V7 =>
  e_ix 390 j2 fun _ =>
  e_lt (sj_up V7 (b + 1) j2.toNat v8) fun V9 =>
  e_cs (g_X9_number N b l3 h3 V9) fun v11 V10 =>
  e_ix 390 j3 fun _ =>
  e_lt (sj_up V10 (b + 1) j3.toNat v11) fun V12 =>
  some ((), V12)
/-- in fault, nothing but the row is touched -/
theorem trio1 {l1 h1 l2 h2 l3 h3 : Int} {j1 j2 j3 : Nat} (hw : W b 32 = 1) (k1 : 0 < j1 ∧ j1 < 390) (k2 : 0 < j2 ∧ j2 < 390) (k3 : 0 < j3 ∧ j3 < 390) : ∃ W', trio N b l1 h1 l2 h2 l3 h3 j1 j2 j3 W = some ((), W') ∧ Fro b W W' := by
  unfold trio
  rw [m_numW hw, k_cs, k_ix (by omega) (by omega), k_lt, m_numW (by rw [up_na _ _ _ _ (by omega)]; exact hw), k_cs, k_ix (by omega) (by omega), k_lt, m_numW (by rw [up_na _ _ _ _ (by omega), up_na _ _ _ _ (by omega)]; exact hw), k_cs, k_ix (by omega) (by omega), k_lt]
  exact ⟨_, rfl, ((Fro.rf.up k1).up k2).up k3⟩
theorem trio_eq {l1 h1 l2 h2 l3 h3 : Int} {j1 j2 j3 : Nat} (hX : PX V W t b B L q) (k1 : 0 < j1 ∧ j1 < 390) (k2 : 0 < j2 ∧ j2 < 390) (k3 : 0 < j3 ∧ j3 < 390) (b1 : 0 ≤ l1 ∧ l1 ≤ 100) (b2 : 0 ≤ h1 ∧ h1 ≤ 2000) (b3 : 0 ≤ l2 ∧ l2 ≤ 100) (b4 : 0 ≤ h2 ∧ h2 ≤ 2000) (b5 : 0 ≤ l3 ∧ l3 ≤ 100) (b6 : 0 ≤ h3 ∧ h3 ≤ 2000) (hN : 1000 ≤ N) : ∃ W', trio N b l1 h1 l2 h2 l3 h3 j1 j2 j3 W = some ((), W') ∧ Fmr b W W' ∧ W' (b + 11) = W (b + 11) ∧ ((∃ V1, g_X7_readNumber N t l1 h1 V = some (-1, V1) ∧ Fct t V V1 ∧ BX V1 W' t b L ∧ TX V1 W' t b B L) ∨ (∃ v1 V1, g_X7_readNumber N t l1 h1 V = some (v1, V1) ∧ Fct t V V1 ∧ (l1 ≤ v1 ∧ v1 ≤ h1) ∧ ((∃ V2, g_X7_readNumber N t l2 h2 V1 = some (-1, V2) ∧ Fct t V1 V2 ∧ BX V2 W' t b L ∧ TX V2 W' t b B L) ∨ (∃ v2 V2, g_X7_readNumber N t l2 h2 V1 = some (v2, V2) ∧ Fct t V1 V2 ∧ (l2 ≤ v2 ∧ v2 ≤ h2) ∧ ((∃ V3, g_X7_readNumber N t l3 h3 V2 = some (-1, V3) ∧ Fct t V2 V3 ∧ BX V3 W' t b L ∧ TX V3 W' t b B L) ∨ (∃ v3 V3 q3, g_X7_readNumber N t l3 h3 V2 = some (v3, V3) ∧ Fct t V2 V3 ∧ (l3 ≤ v3 ∧ v3 ≤ h3) ∧ PX V3 W' t b B L q3 ∧ W' (b + 1) = wUp (wUp (wUp (W (b + 1)) j1 v1) j2 v2) j3 v3 ∧ W b 29 ≤ W' b 29)))))) := by
  obtain ⟨V1, W1, f1, g1, o1⟩ := hX.num (N := N) b1 b2 hN
  unfold trio
  rcases o1 with ⟨v1, q1, c1, m1, d1, X1, y1⟩ | ⟨c1, m1, B1, T1⟩
  · rw [m1, k_cs, k_ix (by omega) (by omega), k_lt, tn0]
    have r1 : Fro b W1 (sj_up W1 (b + 1) j1 v1) := Fro.rf.up k1
    obtain ⟨V2, W2, f2, g2, o2⟩ := (X1.row r1).num (N := N) b3 b4 hN
    rcases o2 with ⟨v2, q2, c2, m2, d2, X2, y2⟩ | ⟨c2, m2, B2, T2⟩
    · rw [m2, k_cs, k_ix (by omega) (by omega), k_lt, tn0]
      have r2 : Fro b W2 (sj_up W2 (b + 1) j2 v2) := Fro.rf.up k2
      obtain ⟨V3, W3, f3, g3, o3⟩ := (X2.row r2).num (N := N) b5 b6 hN
      have e3 : W3 (b + 1) = wUp (wUp (W (b + 1)) j1 v1) j2 v2 := by
        rw [g3.1 _ (by omega)]
        refine up_wUp ?_ _ _
        rw [g2.1 _ (by omega)]
        exact up_wUp (g1.1 _ (by omega)) _ _
      rcases o3 with ⟨v3, q3, c3, m3, d3, X3, y3⟩ | ⟨c3, m3, B3, T3⟩
      · rw [m3, k_cs, k_ix (by omega) (by omega), k_lt, tn0]
        have r3 : Fro b W3 (sj_up W3 (b + 1) j3 v3) := Fro.rf.up k3
        refine ⟨_, rfl, ((((g1.r.tr r1.mr).tr g2.r).tr r2.mr).tr g3.r).tr r3.mr, by rw [up_row _ _ _ (by omega), g3.1 _ (by omega), up_row _ _ _ (by omega), g2.1 _ (by omega), up_row _ _ _ (by omega), g1.1 _ (by omega)], Or.inr ⟨v1, V1, c1, f1, d1, Or.inr ⟨v2, V2, c2, f2, d2, Or.inr ⟨v3, V3, q3, c3, f3, d3, X3.row r3, up_wUp e3 _ _, by rw [up_na _ _ _ _ (by omega)] at y2 y3 ⊢; omega⟩⟩⟩⟩
      · rw [m3, k_cs, k_ix (by omega) (by omega), k_lt, tn0]
        have r3 : Fro b W3 (sj_up W3 (b + 1) j3 l3) := Fro.rf.up k3
        refine ⟨_, rfl, ((((g1.r.tr r1.mr).tr g2.r).tr r2.mr).tr g3.r).tr r3.mr, by rw [up_row _ _ _ (by omega), g3.1 _ (by omega), up_row _ _ _ (by omega), g2.1 _ (by omega), up_row _ _ _ (by omega), g1.1 _ (by omega)], Or.inr ⟨v1, V1, c1, f1, d1, Or.inr ⟨v2, V2, c2, f2, d2, Or.inl ⟨V3, c3, f3, B3.row r3, T3.row r3⟩⟩⟩⟩
    · have hw := B2.2.2.1
      rw [m2, k_cs, k_ix (by omega) (by omega), k_lt, tn0, m_numW (by rw [up_na _ _ _ _ (by omega)]; exact hw), k_cs, k_ix (by omega) (by omega), k_lt, tn0]
      have r3 : Fro b W2 (sj_up (sj_up W2 (b + 1) j2 l2) (b + 1) j3 l3) := (Fro.rf.up k2).up k3
      refine ⟨_, rfl, ((g1.r.tr r1.mr).tr g2.r).tr r3.mr, by rw [up_row _ _ _ (by omega), up_row _ _ _ (by omega), g2.1 _ (by omega), up_row _ _ _ (by omega), g1.1 _ (by omega)], Or.inr ⟨v1, V1, c1, f1, d1, Or.inl ⟨V2, c2, f2, B2.row r3, T2.row r3⟩⟩⟩
  · have hw := B1.2.2.1
    rw [m1, k_cs, k_ix (by omega) (by omega), k_lt, tn0, m_numW (by rw [up_na _ _ _ _ (by omega)]; exact hw), k_cs, k_ix (by omega) (by omega), k_lt, tn0, m_numW (by rw [up_na _ _ _ _ (by omega), up_na _ _ _ _ (by omega)]; exact hw), k_cs, k_ix (by omega) (by omega), k_lt, tn0]
    have r3 : Fro b W1 (sj_up (sj_up (sj_up W1 (b + 1) j1 l1) (b + 1) j2 l2) (b + 1) j3 l3) := ((Fro.rf.up k1).up k2).up k3
    exact ⟨_, rfl, g1.r.tr r3.mr, by rw [up_row _ _ _ (by omega), up_row _ _ _ (by omega), up_row _ _ _ (by omega), g1.1 _ (by omega)], Or.inl ⟨V1, c1, f1, B1.row r3, T1.row r3⟩⟩
theorem RX.of (hX : RX V W t ga b B L w0 q) {V1 W1 : sj_VV} {q1 : Nat} (hP : PX V1 W1 t b B L q1) (h7 : V1 t 7 = V t 7) (h11 : W1 (b + 11) = W (b + 11)) (hC : CG V1 ga (W1 (b + 1))) (hB : TB (W1 (b + 1))) (h12 : V1 (ga + 12) = V (ga + 12)) (h3 : ∀ j, 320 ≤ j → W1 (b + 1) j = W (b + 1) j) : RX V1 W1 t ga b B L w0 q1 := by
  obtain ⟨a1, a2, _, _, a5, a6, a7, a8, a9⟩ := hX
  exact ⟨hP.1, a2.fr h7 h11, hP.2.1, hP.2.2, hC, hB, by rw [h12]; exact a7, by rw [h3 _ (by omega), h3 _ (by omega)]; exact a8, fun j hj => by rw [h3 j (by omega)]; exact a9 j hj⟩
end Lines2
