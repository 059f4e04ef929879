/-! what the class and the reference hold in common, between calls -/
/-- POINTS and STATE -/
def HE (V : sj_VV) (h : Nat) (w : sj_R) : Prop := (V h 2 = w 364 ∧ V h 3 = w 389) ∧ (0 ≤ w 364 ∧ w 364 ≤ 12) ∧ (∀ i, i < 12 → V (h + 1) i = w (365 + i) ∧ V (h + 2) i = w (377 + i)) ∧ (∀ i : Nat, (i : Int) < w 364 → (0 ≤ w (365 + i) ∧ w (365 + i) ≤ 40) ∧ 0 ≤ w (377 + i) ∧ w (377 + i) ≤ 100) ∧ ∀ i : Nat, (i : Int) + 1 < w 364 → w (365 + i) < w (365 + (i + 1))
/-- where act i lies -/
def acAt (a : Nat) (next kept : Int) (i : Nat) : Nat := a + 77 + 14 * ((next.toNat + 8 - kept.toNat + i) % 8)
def UN (V : sj_VV) (a b : Nat) : Prop := V a 13 = V b 4 ∧ (0 ≤ V b 4 ∧ V b 4 ≤ 8) ∧ (0 ≤ V a 14 ∧ V a 14 < 8) ∧ ∀ i : Nat, (i : Int) < V b 4 → RG V (acAt a (V a 14) (V b 4) i) (fun j => V (b + 4) (364 * i + j))
def IM (V : sj_VV) (a b : Nat) : Prop := V a 12 = V b 5 ∧ (V b 5 = 0 ∨ V b 5 = 1) ∧ (V b 5 = 1 → RG V (a + 29) (V (b + 3)) ∧ HE V (a + 46) (V (b + 3))) ∧ (V (a + 15 + 12) 3 = 0 ∨ V (a + 15 + 12) 3 = 1)
def TA (V : sj_VV) (a b : Nat) : Prop := V (a + 52) 1 = V b 28 ∧ (0 ≤ V b 28 ∧ V b 28 ≤ 600) ∧ (V (a + 52) 3 = V b 30 ∧ V (a + 52) 4 = V b 31) ∧ ∀ i : Nat, (i : Int) < V b 28 → (0 ≤ V (a + 53) i ∧ V (a + 53) i ≤ 255) ∧ V (b + 10) i = Int.bmod (V (a + 53) i) 256
def RE (V : sj_VV) (a b : Nat) : Prop := V (a + 49) 1 = V b 26 ∧ (0 ≤ V b 26 ∧ V b 26 ≤ 16) ∧ ∀ i : Nat, (i : Int) < V b 26 → V (a + 50) i = V (b + 9) i
def INV (V : sj_VV) (a b : Nat) : Prop := RG V (a + 1) (V (b + 1)) ∧ HE V (a + 43) (V (b + 1)) ∧ UN V a b ∧ IM V a b ∧ TA V a b ∧ RE V a b
section Frames
variable {V V' V1 V2 : sj_VV} {a b h ga : Nat} {w w' : sj_R}
theorem RG.eq (hR : RG V ga w) (he : ∀ z, ga ≤ z → z < ga + 14 → V' z = V z) : RG V' ga w := by
  have e : ∀ k, k < 14 → V' (ga + k) = V (ga + k) := fun k hk => he _ (by omega) (by omega)
  have e0 : V' ga = V ga := e 0 (by omega)
  obtain ⟨hB, hP, ⟨h1, h2, h3, h4, h5⟩, s1, s2, s3⟩ := hR
  refine ⟨hB, hP, ⟨by rw [e0]; exact h1, fun c hc => ?_, fun i hi => ?_, fun l hl => ?_, fun i hi => ?_⟩, by rw [e 12 (by omega)]; exact s1, fun z => by rw [e 12 (by omega)]; exact s2 z, fun z => ?_⟩
  · rw [e 1 (by omega), e 2 (by omega), e 3 (by omega), e 4 (by omega)]; exact h2 c hc
  · rw [e 5 (by omega)]; exact h3 i hi
  · rw [e 6 (by omega), e 7 (by omega), e 8 (by omega)]; exact h4 l hl
  · rw [e 9 (by omega), e 10 (by omega), e 11 (by omega)]; exact h5 i hi
  · obtain ⟨q1, q2, q3, q4⟩ := s3 z
    have e13 : V' (ga + 12 + 1) = V (ga + 12 + 1) := e 13 (by omega)
    exact ⟨by rw [e 12 (by omega)]; exact q1, by rw [e 12 (by omega)]; exact q2, by rw [e 12 (by omega)]; exact q3, fun c c1 c2 => by rw [e13]; exact q4 c c1 c2⟩
theorem WB.row {lv hv rv : Int} (hB : WB lv hv rv w) (he : ∀ j, j < 320 → w' j = w j) : WB lv hv rv w' := by
  obtain ⟨a1, a2, a3, a4, a5, a6, a7⟩ := hB
  refine ⟨by rw [he 0 (by omega)]; exact a1, by rw [he 1 (by omega)]; exact a2, by rw [he 2 (by omega)]; exact a3, fun d hd => ?_, fun i hi => by rw [he _ (by omega)]; exact a5 i hi, fun l hl => by rw [he _ (by omega), he _ (by omega), he _ (by omega)]; exact a6 l hl, fun i hi => by rw [he _ (by omega), he _ (by omega), he _ (by omega), he _ (by omega)]; exact a7 i hi⟩
  rw [he _ (by omega), he _ (by omega), he _ (by omega), he _ (by omega)]
  exact a4 d hd
theorem CG.row (hC : CG V ga w) (he : ∀ j, j < 320 → w' j = w j) : CG V ga w' := by
  obtain ⟨a1, a2, a3, a4, a5⟩ := hC
  refine ⟨by rw [he 0 (by omega), he 1 (by omega), he 2 (by omega)]; exact a1, fun d hd => ?_, fun i hi => by rw [he _ (by omega)]; exact a3 i hi, fun l hl => by rw [he _ (by omega), he _ (by omega), he _ (by omega)]; exact a4 l hl, fun i hi => by rw [he _ (by omega), he _ (by omega), he _ (by omega)]; exact a5 i hi⟩
  rw [he _ (by omega), he _ (by omega), he _ (by omega), he _ (by omega)]
  exact a2 d hd
/-- a row tells by its first 364 numbers -/
theorem RG.row (hR : RG V ga w) (he : ∀ j, j < 364 → w' j = w j) : RG V ga w' := by
  obtain ⟨hB, hP, hC, s1, s2, s3⟩ := hR
  have ef : wf w' = wf w := by unfold wf; rw [he _ (by omega)]
  have et : wt w' = wt w := by unfold wt; rw [he _ (by omega)]
  refine ⟨hB.row (fun j hj => he j (by omega)), ⟨by rw [he 322 (by omega)]; exact hP.1, ?_⟩, hC.row (fun j hj => he j (by omega)), s1, fun z => s2 (by rw [← he 320 (by omega)]; exact z), fun z => ?_⟩
  · rw [ef, et, he 320 (by omega), he 321 (by omega), he 322 (by omega), he 0 (by omega)]
    rcases hP.2 with z | ⟨z1, z2, z3, y1, y2, y3, y4⟩
    · exact Or.inl z
    · exact Or.inr ⟨z1, z2, z3, y1, y2, y3, fun c c1 c2 => by show 0 ≤ w' (323 + c) ∧ w' (323 + c) ≤ 100; rw [he _ (by omega)]; exact y4 c c1 c2⟩
  · have z0 : w 320 ≠ -1 := by rw [← he 320 (by omega)]; exact z
    obtain ⟨q1, q2, q3, q4⟩ := s3 z0
    have hb := (hP.bb z0).2
    rw [ef, et, he 322 (by omega)]
    exact ⟨q1, q2, q3, fun c c1 c2 => by show V (ga + 12 + 1) c = w' (323 + c); rw [he _ (by have := hb.2.1; omega)]; exact q4 c c1 c2⟩
theorem HE.eq (hH : HE V h w) (he : ∀ z, h ≤ z → z < h + 3 → V' z = V z) (hw : ∀ j, 364 ≤ j → j < 390 → w' j = w j) : HE V' h w' := by
  have e0 : V' h = V h := he h (by omega) (by omega)
  have e1 : V' (h + 1) = V (h + 1) := he _ (by omega) (by omega)
  have e2 : V' (h + 2) = V (h + 2) := he _ (by omega) (by omega)
  obtain ⟨a1, a2, a3, a4, a5⟩ := hH
  refine ⟨by rw [e0, hw 364 (by omega) (by omega), hw 389 (by omega) (by omega)]; exact a1, by rw [hw 364 (by omega) (by omega)]; exact a2, fun i hi => by rw [e1, e2, hw _ (by omega) (by omega), hw _ (by omega) (by omega)]; exact a3 i hi, fun i hi => ?_, fun i hi => ?_⟩
  · rw [hw 364 (by omega) (by omega)] at hi
    rw [hw _ (by omega) (by omega), hw _ (by omega) (by omega)]; exact a4 i hi
  · rw [hw 364 (by omega) (by omega)] at hi
    rw [hw _ (by omega) (by omega), hw _ (by omega) (by omega)]; exact a5 i hi
theorem UN.eq (hU : UN V a b) (h1 : V' a 13 = V a 13) (h2 : V' a 14 = V a 14) (h3 : V' b 4 = V b 4) (h4 : V' (b + 4) = V (b + 4)) (h5 : ∀ z, a + 77 ≤ z → z < a + 189 → V' z = V z) : UN V' a b := by
  obtain ⟨a1, a2, a3, a4⟩ := hU
  refine ⟨by rw [h1, h3]; exact a1, by rw [h3]; exact a2, by rw [h2]; exact a3, fun i hi => ?_⟩
  rw [h3] at hi
  rw [h2, h3, h4]
  refine (a4 i hi).eq (fun z z1 z2 => h5 z ?_ ?_)
  · unfold acAt at z1; omega
  · unfold acAt at z2
    have : ((V a 14).toNat + 8 - (V b 4).toNat + i) % 8 < 8 := Nat.mod_lt _ (by omega)
    omega
theorem IM.eq (hU : IM V a b) (h1 : V' a 12 = V a 12) (h3 : V' b 5 = V b 5) (h4 : V' (b + 3) = V (b + 3)) (h5 : ∀ z, a + 29 ≤ z → z < a + 43 → V' z = V z) (h6 : ∀ z, a + 46 ≤ z → z < a + 49 → V' z = V z) (h7 : TL a V V') : IM V' a b := by
  obtain ⟨a1, a2, a3, a4⟩ := hU
  refine ⟨by rw [h1, h3]; exact a1, by rw [h3]; exact a2, fun z => ?_, h7 a4⟩
  rw [h3] at z
  rw [h4]
  exact ⟨(a3 z).1.eq (fun z z1 z2 => h5 z z1 (by omega)), (a3 z).2.eq (fun z z1 z2 => h6 z z1 (by omega)) (fun _ _ _ => rfl)⟩
theorem TA.eq (hT : TA V a b) (h1 : V' (a + 52) = V (a + 52)) (h2 : V' (a + 53) = V (a + 53)) (h3 : ∀ j, 26 ≤ j → j < 32 → V' b j = V b j) (h4 : V' (b + 10) = V (b + 10)) : TA V' a b := by
  unfold TA
  rw [h1, h2, h4, h3 28 (by omega) (by omega), h3 30 (by omega) (by omega), h3 31 (by omega) (by omega)]
  exact hT
theorem RE.eq (hT : RE V a b) (h1 : V' (a + 49) = V (a + 49)) (h2 : V' (a + 50) = V (a + 50)) (h3 : V' b 26 = V b 26) (h4 : V' (b + 9) = V (b + 9)) : RE V' a b := by
  unfold RE
  rw [h1, h2, h4, h3]
  exact hT
/-- what a question to the class may touch -/
def Kc (a : Nat) (V V' : sj_VV) : Prop := (∀ z, (z < a + 15 ∨ a + 29 ≤ z) → (z < a + 54 ∨ a + 77 ≤ z) → z < a + 201 → V' z = V z) ∧ TL a V V'
theorem TL.of (h : V' (a + 15 + 12) = V (a + 15 + 12)) : TL a V V' := fun q => by rw [h]; exact q
/-- what a question to the reference may touch -/
def Km (b : Nat) (V V' : sj_VV) : Prop := (∀ z, z ≠ b → z ≠ b + 2 → z ≠ b + 5 → (z < b + 6 ∨ b + 9 ≤ z) → V' z = V z) ∧ ∀ j, (j < 6 ∨ 22 ≤ j) → V' b j = V b j
theorem Kc.ff {lo hi : Nat} (h : Fr lo hi V V') (h1 : a + 54 ≤ lo) (h2 : hi ≤ a + 77) : Kc a V V' := ⟨fun z _ z2 _ => h z (by omega), TL.of (h _ (by omega))⟩
theorem Kc.f2 {lo hi : Nat} (h : ∀ z, ¬ (a + 15 ≤ z ∧ z < a + 29) → ¬ (lo ≤ z ∧ z < hi) → V' z = V z) (h1 : a + 54 ≤ lo) (h2 : hi ≤ a + 77) (h3 : TL a V V') : Kc a V V' := ⟨fun z z1 z2 _ => h z (by omega) (by omega), h3⟩
theorem Km.fs (h : Fs b V V') : Km b V V' := ⟨fun z z1 _ z3 _ => h.1 z z1 z3, fun j hj => h.2 j (by omega)⟩
theorem Km.fc (h : Fc b V V') : Km b V V' := Km.fs h.s
theorem Km.fa (h : Fa b V V') : Km b V V' := ⟨fun z z1 z2 z3 _ => h.1 z z1 z2 z3, fun j hj => h.2 j (by omega)⟩
theorem INV.ask (hI : INV V a b) (hab : b = a + 189) (f1 : Kc a V V1) (f2 : Km b V1 V2) : INV V2 a b := by
  subst hab
  have e : ∀ z, (z < a + 15 ∨ a + 29 ≤ z) → (z < a + 54 ∨ a + 77 ≤ z) → z < a + 201 → z ≠ a + 189 → z ≠ a + 191 → (z < a + 194 ∨ a + 198 ≤ z) → V2 z = V z := fun z z1 z2 z3 z4 z5 z6 => (f2.1 z z4 (by omega) (by omega) (by omega)).trans (f1.1 z z1 z2 z3)
  have ej : ∀ j, (j < 6 ∨ 22 ≤ j) → V2 (a + 189) j = V (a + 189) j := fun j hj => by rw [f2.2 j hj, f1.1 _ (by omega) (by omega) (by omega)]
  have ew : V2 (a + 189 + 1) = V (a + 189 + 1) := e _ (by omega) (by omega) (by omega) (by omega) (by omega) (by omega)
  have ea : V2 a = V a := e _ (by omega) (by omega) (by omega) (by omega) (by omega) (by omega)
  obtain ⟨h1, h2, h3, h4, h5, h6⟩ := hI
  refine ⟨?_, ?_, ?_, ?_, ?_, ?_⟩
  · rw [ew]; exact h1.eq (fun z z1 z2 => e z (by omega) (by omega) (by omega) (by omega) (by omega) (by omega))
  · rw [ew]; exact h2.eq (fun z z1 z2 => e z (by omega) (by omega) (by omega) (by omega) (by omega) (by omega)) (fun _ _ _ => rfl)
  · exact h3.eq (by rw [ea]) (by rw [ea]) (ej 4 (by omega)) (e _ (by omega) (by omega) (by omega) (by omega) (by omega) (by omega)) (fun z z1 z2 => e z (by omega) (by omega) (by omega) (by omega) (by omega) (by omega))
  · exact h4.eq (by rw [ea]) (ej 5 (by omega)) (e _ (by omega) (by omega) (by omega) (by omega) (by omega) (by omega)) (fun z z1 z2 => e z (by omega) (by omega) (by omega) (by omega) (by omega) (by omega)) (fun z z1 z2 => e z (by omega) (by omega) (by omega) (by omega) (by omega) (by omega)) (fun q => by rw [f2.1 _ (by omega) (by omega) (by omega) (by omega)]; exact f1.2 q)
  · exact h5.eq (e _ (by omega) (by omega) (by omega) (by omega) (by omega) (by omega)) (e _ (by omega) (by omega) (by omega) (by omega) (by omega) (by omega)) (fun j j1 j2 => ej j (by omega)) (e _ (by omega) (by omega) (by omega) (by omega) (by omega) (by omega))
  · exact h6.eq (e _ (by omega) (by omega) (by omega) (by omega) (by omega) (by omega)) (e _ (by omega) (by omega) (by omega) (by omega) (by omega) (by omega)) (ej 26 (by omega)) (e _ (by omega) (by omega) (by omega) (by omega) (by omega) (by omega))
/-- a call keeps what is common, and both answer the same -/
def ST (a b : Nat) (A B : sj_VV → Option (Int × sj_VV)) (V : sj_VV) : Prop := ∃ r V1 V2, A V = some (r, V1) ∧ B V1 = some (r, V2) ∧ INV V2 a b
theorem ST.ask {A B : sj_VV → Option (Int × sj_VV)} {q : Int} (hI : INV V a b) (hab : b = a + 189) (hA : ∃ V', A V = some (q, V') ∧ Kc a V V') (hB : ∀ V1 : sj_VV, V1 (b + 1) = V (b + 1) → ∃ V', B V1 = some (q, V') ∧ Km b V1 V') : ST a b A B V := by
  obtain ⟨V1, r1, r2⟩ := hA
  obtain ⟨V2, s1, s2⟩ := hB V1 (r2.1 _ (by omega) (by omega) (by omega))
  exact ⟨q, V1, V2, r1, s1, hI.ask hab r2 s2⟩
end Frames
section Steps1
variable {V : sj_VV} {a b N : Nat} {c i k v x y r st lf what : Int}
theorem s_stands (hI : INV V a b) (hab : b = a + 189) (hk : sj_i32 k) (hN : 1000 ≤ N) : ST a b (g_X8_stands N a k) (g_X9_stands N b k) V := by
  obtain ⟨V', r1, r2⟩ := c_stands (N := N) hI.1 hk (by omega)
  refine ST.ask hI hab ⟨V', r1, Kc.ff r2 (by omega) (by omega)⟩ (fun V1 e => ?_)
  obtain ⟨V2, s1, s2⟩ := m_stands (N := N) e hI.1.1 hI.1.2.1 hk (by omega)
  exact ⟨V2, s1, Km.fc s2⟩
theorem s_factor (hI : INV V a b) (hab : b = a + 189) (hN : 1000 ≤ N) : ST a b (g_X8_factor N a) (g_X9_factor N b) V := by
  obtain ⟨V', r1, r2⟩ := c_factor (N := N) hI.1 (by omega)
  refine ST.ask hI hab ⟨V', r1, Kc.ff r2 (by omega) (by omega)⟩ (fun V1 e => ?_)
  obtain ⟨V2, s1, s2, _⟩ := m_factor (N := N) e hI.1.1 hI.1.2.1 (by omega)
  exact ⟨V2, s1, Km.fc s2⟩
theorem s_slice (hI : INV V a b) (hab : b = a + 189) (hi : sj_i32 i) (hw : sj_i32 what) (hN : 1000 ≤ N) : ST a b (g_X8_slice N a i what) (g_X9_slice N b i what) V := by
  obtain ⟨V', r1, r2⟩ := c_slice (N := N) hI.1 hi hw (by omega)
  refine ST.ask hI hab ⟨V', r1, Kc.ff r2 (by omega) (by omega)⟩ (fun V1 e => ?_)
  obtain ⟨V2, s1, s2⟩ := m_slice (N := N) e hI.1.1 hI.1.2.1 hi hw (by omega)
  exact ⟨V2, s1, Km.fc s2⟩
theorem s_rubs (hI : INV V a b) (hab : b = a + 189) (hi : sj_i32 i) (hk : sj_i32 k) (hN : 1000 ≤ N) : ST a b (g_X8_rubs N a i k) (g_X9_rubs N b i k) V := by
  obtain ⟨V', r1, r2⟩ := c_rubs (N := N) hI.1 hi hk (by omega)
  refine ST.ask hI hab ⟨V', r1, Kc.ff r2 (by omega) (by omega)⟩ (fun V1 e => ?_)
  obtain ⟨V2, s1, s2⟩ := m_rubs (N := N) e hI.1.1 hI.1.2.1 hi hk (by omega)
  exact ⟨V2, s1, Km.fc s2⟩
theorem s_sum (hI : INV V a b) (hab : b = a + 189) (hk : sj_i32 what) (hN : 1000 ≤ N) : ST a b (g_X8_sum N a what) (g_X9_sum N b what) V := by
  obtain ⟨V', r1, r2⟩ := c_sum (N := N) hI.1 hk (by omega)
  refine ST.ask hI hab ⟨V', r1, Kc.ff r2 (by omega) (by omega)⟩ (fun V1 e => ?_)
  obtain ⟨V2, s1, s2⟩ := m_sum (N := N) e hI.1.1 hI.1.2.1 hk (by omega)
  exact ⟨V2, s1, Km.fc s2⟩
theorem s_thrust (hI : INV V a b) (hab : b = a + 189) (hi : sj_i32 i) (hk : sj_i32 k) (hN : 1000 ≤ N) : ST a b (g_X8_thrust N a i k) (g_X9_thrust N b i k) V := by
  obtain ⟨V', r1, r2⟩ := c_thrust (N := N) hI.1 hi hk (by omega)
  refine ST.ask hI hab ⟨V', r1, Kc.ff r2 (by omega) (by omega)⟩ (fun V1 e => ?_)
  obtain ⟨V2, s1, s2⟩ := m_thrust (N := N) e hI.1.1 hI.1.2.1 hi hk (by omega)
  exact ⟨V2, s1, Km.fc s2⟩
theorem s_crest (hI : INV V a b) (hab : b = a + 189) (hk : sj_i32 k) (hN : 1000 ≤ N) : ST a b (g_X8_crest N a k) (g_X9_crest N b k) V := by
  obtain ⟨V', r1, r2⟩ := c_crest (N := N) hI.1 hk (by omega)
  refine ST.ask hI hab ⟨V', r1, Kc.ff r2 (by omega) (by omega)⟩ (fun V1 e => ?_)
  obtain ⟨V2, s1, s2⟩ := m_crest (N := N) e hI.1.1 hI.1.2.1 hk (by omega)
  exact ⟨V2, s1, Km.fc s2⟩
theorem s_pull (hI : INV V a b) (hab : b = a + 189) (hk : sj_i32 k) (hN : 1000 ≤ N) : ST a b (g_X8_pull N a k) (g_X9_pull N b k) V := by
  obtain ⟨V', r1, r2⟩ := c_pull (N := N) hI.1 hk (by omega)
  refine ST.ask hI hab ⟨V', r1, Kc.ff r2 (by omega) (by omega)⟩ (fun V1 e => ?_)
  obtain ⟨V2, s1, s2⟩ := m_pull (N := N) e hI.1.1 hI.1.2.1 hk (by omega)
  exact ⟨V2, s1, Km.fc s2⟩
theorem s_needs (hI : INV V a b) (hab : b = a + 189) (hk : sj_i32 k) (hN : 1000 ≤ N) : ST a b (g_X8_needs N a k) (g_X9_needs N b k) V := by
  obtain ⟨V', r1, r2⟩ := c_needs (N := N) hI.1 hk (by omega)
  refine ST.ask hI hab ⟨V', r1, Kc.ff r2 (by omega) (by omega)⟩ (fun V1 e => ?_)
  obtain ⟨V2, s1, _, s2⟩ := m_needs (N := N) e hI.1.1 hI.1.2.1 hk (by omega)
  exact ⟨V2, s1, Km.fa s2⟩
theorem s_dry (hI : INV V a b) (hab : b = a + 189) (hN : 1000 ≤ N) : ST a b (g_X8_dry N a) (g_X9_dry N b) V := by
  obtain ⟨V', r1, r3, r2⟩ := c_dry (N := N) hI.1 (by omega)
  refine ST.ask hI hab ⟨V', r1, Kc.f2 r2 (by omega) (by omega) r3⟩ (fun V1 e => ?_)
  obtain ⟨V2, s1, _, s2⟩ := m_dry (N := N) e hI.1.1 hI.1.2.1 (by omega)
  exact ⟨V2, s1, Km.fa s2⟩
theorem s_bears (hI : INV V a b) (hab : b = a + 189) (hk : sj_i32 k) (hN : 1000 ≤ N) : ST a b (g_X8_bears N a k) (g_X9_bears N b k) V := by
  obtain ⟨V', r1, r3, r2⟩ := c_bears (N := N) hI.1 hk (by omega)
  refine ST.ask hI hab ⟨V', r1, Kc.f2 r2 (by omega) (by omega) r3⟩ (fun V1 e => ?_)
  obtain ⟨V2, s1, _, s2⟩ := m_bears (N := N) e hI.1.1 hI.1.2.1 hk (by omega)
  exact ⟨V2, s1, Km.fa s2⟩
theorem s_tried (hI : INV V a b) (hab : b = a + 189) (h1 : sj_i32 x) (h2 : sj_i32 y) (h3 : sj_i32 r) (hlf : lf = 0 ∨ lf = 1) (hN : 1000 ≤ N) : ST a b (g_X8_tried N a x y r lf) (g_X9_tried N b x y r lf) V := by
  obtain ⟨V', r1, r2⟩ := c_tried (N := N) hI.1 h1 h2 h3 hlf hN
  refine ST.ask hI hab ⟨V', r1, Kc.ff r2 (by omega) (by omega)⟩ (fun V1 e => ?_)
  obtain ⟨V2, s1, s2⟩ := m_tried (N := N) e hI.1.1 h1 h2 h3 hlf hN
  exact ⟨V2, s1, Km.fc s2⟩
theorem s_boxes (hI : INV V a b) (hab : b = a + 189) (h1 : sj_i32 x) (h2 : sj_i32 y) (h3 : sj_i32 r) (h4 : sj_i32 st) (h5 : sj_i32 what) (hlf : lf = 0 ∨ lf = 1) (hN : 1000 ≤ N) : ST a b (g_X8_boxes N a x y r st lf what) (g_X9_boxes N b x y r st lf what) V := by
  obtain ⟨V', r1, r2⟩ := c_boxes (N := N) hI.1 h1 h2 h3 h4 h5 hlf hN
  refine ST.ask hI hab ⟨V', r1, Kc.ff r2 (by omega) (by omega)⟩ (fun V1 e => ?_)
  obtain ⟨V2, s1, s2⟩ := m_boxes (N := N) e hI.1.1 h1 h2 h3 h4 h5 hlf hN
  exact ⟨V2, s1, Km.fs s2⟩
theorem s_scan (hI : INV V a b) (hab : b = a + 189) (h1 : sj_i32 x) (h2 : sj_i32 y) (h3 : sj_i32 r) (h4 : sj_i32 st) (h5 : sj_i32 k) (h6 : sj_i32 what) (hlf : lf = 0 ∨ lf = 1) (hN : 1000 ≤ N) : ST a b (g_X8_scan N a x y r st lf k what) (g_X9_scan N b x y r st lf k what) V := by
  obtain ⟨V', r1, r2⟩ := c_scan (N := N) hI.1 h1 h2 h3 h4 h5 h6 hlf hN
  refine ST.ask hI hab ⟨V', r1, Kc.ff r2 (by omega) (by omega)⟩ (fun V1 e => ?_)
  obtain ⟨V2, s1, s2⟩ := m_scan (N := N) e hI.1.1 h1 h2 h3 h4 h5 h6 hlf hN
  exact ⟨V2, s1, Km.fc s2⟩
theorem s_dug (hI : INV V a b) (hab : b = a + 189) (hc : sj_i32 c) (hv : sj_i32 v) (h1 : sj_i32 x) (h2 : sj_i32 y) (h3 : sj_i32 r) (hlf : lf = 0 ∨ lf = 1) (hN : 1000 ≤ N) : ST a b (g_X8_dug N a c v x y r lf) (g_X9_dug N b c v x y r lf) V := by
  obtain ⟨V', r1, r3, r2⟩ := c_dug (N := N) hI.1 hc hv h1 h2 h3 hlf hN
  refine ST.ask hI hab ⟨V', r1, Kc.f2 r2 (by omega) (by omega) r3⟩ (fun V1 e => ?_)
  obtain ⟨V2, s1, s2⟩ := m_dug (N := N) e hI.1.1 hc hv h1 h2 h3 hlf hN
  exact ⟨V2, s1, Km.fs s2⟩
theorem s_deep (hI : INV V a b) (hab : b = a + 189) (hc : sj_i32 c) (hk : sj_i32 k) (h1 : sj_i32 x) (h2 : sj_i32 y) (h3 : sj_i32 r) (hlf : lf = 0 ∨ lf = 1) (hN : 1000 ≤ N) : ST a b (g_X8_deep N a c k x y r lf) (g_X9_deep N b c k x y r lf) V := by
  obtain ⟨V', r1, r3, r2⟩ := c_deep (N := N) hI.1 hc hk h1 h2 h3 hlf hN
  refine ST.ask hI hab ⟨V', r1, Kc.f2 r2 (by omega) (by omega) r3⟩ (fun V1 e => ?_)
  obtain ⟨V2, s1, s2⟩ := m_deep (N := N) e hI.1.1 hc hk h1 h2 h3 hlf hN
  exact ⟨V2, s1, Km.fs s2⟩
end Steps1
