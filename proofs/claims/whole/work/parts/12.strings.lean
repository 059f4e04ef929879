theorem dJ0_length_8abf5_0 : decode cJ0_length_8abf5 0 = .ok (.aload_n 0, 1) := by decide +kernel
theorem dJ0_length_8abf5_1 : decode cJ0_length_8abf5 1 = .ok (.getfield 9, 3) := by decide +kernel
theorem dJ0_length_8abf5_4 : decode cJ0_length_8abf5 4 = .ok (.arraylength, 1) := by decide +kernel
theorem dJ0_length_8abf5_5 : decode cJ0_length_8abf5 5 = .ok (.aload_n 0, 1) := by decide +kernel
theorem dJ0_length_8abf5_6 : decode cJ0_length_8abf5 6 = .ok (.invokevirtual 335, 3) := by decide +kernel
theorem dJ0_length_8abf5_9 : decode cJ0_length_8abf5 9 = .ok (.ishr, 1) := by decide +kernel
theorem dJ0_length_8abf5_10 : decode cJ0_length_8abf5 10 = .ok (.ireturn, 1) := by decide +kernel
theorem dJ0_charAt_5068e_0 : decode cJ0_charAt_5068e 0 = .ok (.aload_n 0, 1) := by decide +kernel
theorem dJ0_charAt_5068e_1 : decode cJ0_charAt_5068e 1 = .ok (.invokevirtual 492, 3) := by decide +kernel
theorem dJ0_charAt_5068e_4 : decode cJ0_charAt_5068e 4 = .ok (.ifCond .eq 12, 3) := by decide +kernel
theorem dJ0_charAt_5068e_7 : decode cJ0_charAt_5068e 7 = .ok (.aload_n 0, 1) := by decide +kernel
theorem dJ0_charAt_5068e_8 : decode cJ0_charAt_5068e 8 = .ok (.getfield 9, 3) := by decide +kernel
theorem dJ0_charAt_5068e_11 : decode cJ0_charAt_5068e 11 = .ok (.iload_n 1, 1) := by decide +kernel
theorem dJ0_charAt_5068e_12 : decode cJ0_charAt_5068e 12 = .ok (.invokestatic 495, 3) := by decide +kernel
theorem dJ0_charAt_5068e_15 : decode cJ0_charAt_5068e 15 = .ok (.ireturn, 1) := by decide +kernel
theorem dJ0_charAt_5068e_16 : decode cJ0_charAt_5068e 16 = .ok (.aload_n 0, 1) := by decide +kernel
theorem dJ0_charAt_5068e_17 : decode cJ0_charAt_5068e 17 = .ok (.getfield 9, 3) := by decide +kernel
theorem dJ0_charAt_5068e_20 : decode cJ0_charAt_5068e 20 = .ok (.iload_n 1, 1) := by decide +kernel
theorem dJ0_charAt_5068e_21 : decode cJ0_charAt_5068e 21 = .ok (.invokestatic 498, 3) := by decide +kernel
theorem dJ0_charAt_5068e_24 : decode cJ0_charAt_5068e 24 = .ok (.ireturn, 1) := by decide +kernel
theorem dJ0_coder_7d493_0 : decode cJ0_coder_7d493 0 = .ok (.getstatic 38, 3) := by decide +kernel
theorem dJ0_coder_7d493_3 : decode cJ0_coder_7d493 3 = .ok (.ifCond .eq 10, 3) := by decide +kernel
theorem dJ0_coder_7d493_6 : decode cJ0_coder_7d493 6 = .ok (.aload_n 0, 1) := by decide +kernel
theorem dJ0_coder_7d493_7 : decode cJ0_coder_7d493 7 = .ok (.getfield 15, 3) := by decide +kernel
theorem dJ0_coder_7d493_10 : decode cJ0_coder_7d493 10 = .ok (.goto 4, 3) := by decide +kernel
theorem dJ0_coder_7d493_13 : decode cJ0_coder_7d493 13 = .ok (.iconst 1, 1) := by decide +kernel
theorem dJ0_coder_7d493_14 : decode cJ0_coder_7d493 14 = .ok (.ireturn, 1) := by decide +kernel
theorem dJ0_isLatin1_aae02_0 : decode cJ0_isLatin1_aae02 0 = .ok (.getstatic 38, 3) := by decide +kernel
theorem dJ0_isLatin1_aae02_3 : decode cJ0_isLatin1_aae02 3 = .ok (.ifCond .eq 14, 3) := by decide +kernel
theorem dJ0_isLatin1_aae02_6 : decode cJ0_isLatin1_aae02 6 = .ok (.aload_n 0, 1) := by decide +kernel
theorem dJ0_isLatin1_aae02_7 : decode cJ0_isLatin1_aae02 7 = .ok (.getfield 15, 3) := by decide +kernel
theorem dJ0_isLatin1_aae02_10 : decode cJ0_isLatin1_aae02 10 = .ok (.ifCond .ne 7, 3) := by decide +kernel
theorem dJ0_isLatin1_aae02_13 : decode cJ0_isLatin1_aae02 13 = .ok (.iconst 1, 1) := by decide +kernel
theorem dJ0_isLatin1_aae02_14 : decode cJ0_isLatin1_aae02 14 = .ok (.goto 4, 3) := by decide +kernel
theorem dJ0_isLatin1_aae02_17 : decode cJ0_isLatin1_aae02 17 = .ok (.iconst 0, 1) := by decide +kernel
theorem dJ0_isLatin1_aae02_18 : decode cJ0_isLatin1_aae02 18 = .ok (.ireturn, 1) := by decide +kernel
theorem dJ0_checkIndex_df160_0 : decode cJ0_checkIndex_df160 0 = .ok (.iload_n 0, 1) := by decide +kernel
theorem dJ0_checkIndex_df160_1 : decode cJ0_checkIndex_df160 1 = .ok (.iload_n 1, 1) := by decide +kernel
theorem dJ0_checkIndex_df160_2 : decode cJ0_checkIndex_df160 2 = .ok (.getstatic 1053, 3) := by decide +kernel
theorem dJ0_checkIndex_df160_5 : decode cJ0_checkIndex_df160 5 = .ok (.invokestatic 1059, 3) := by decide +kernel
theorem dJ0_checkIndex_df160_8 : decode cJ0_checkIndex_df160 8 = .ok (.pop, 1) := by decide +kernel
theorem dJ0_checkIndex_df160_9 : decode cJ0_checkIndex_df160 9 = .ok (.return_, 1) := by decide +kernel
theorem dJ1_charAt_3b067_0 : decode cJ1_charAt_3b067 0 = .ok (.iload_n 1, 1) := by decide +kernel
theorem dJ1_charAt_3b067_1 : decode cJ1_charAt_3b067 1 = .ok (.aload_n 0, 1) := by decide +kernel
theorem dJ1_charAt_3b067_2 : decode cJ1_charAt_3b067 2 = .ok (.arraylength, 1) := by decide +kernel
theorem dJ1_charAt_3b067_3 : decode cJ1_charAt_3b067 3 = .ok (.invokestatic 9, 3) := by decide +kernel
theorem dJ1_charAt_3b067_6 : decode cJ1_charAt_3b067 6 = .ok (.aload_n 0, 1) := by decide +kernel
theorem dJ1_charAt_3b067_7 : decode cJ1_charAt_3b067 7 = .ok (.iload_n 1, 1) := by decide +kernel
theorem dJ1_charAt_3b067_8 : decode cJ1_charAt_3b067 8 = .ok (.baload, 1) := by decide +kernel
theorem dJ1_charAt_3b067_9 : decode cJ1_charAt_3b067 9 = .ok (.sipush 255, 3) := by decide +kernel
theorem dJ1_charAt_3b067_12 : decode cJ1_charAt_3b067 12 = .ok (.iand, 1) := by decide +kernel
theorem dJ1_charAt_3b067_13 : decode cJ1_charAt_3b067 13 = .ok (.i2c, 1) := by decide +kernel
theorem dJ1_charAt_3b067_14 : decode cJ1_charAt_3b067 14 = .ok (.ireturn, 1) := by decide +kernel
theorem dJ3_checkIndex_8e157_0 : decode cJ3_checkIndex_8e157 0 = .ok (.iload_n 0, 1) := by decide +kernel
theorem dJ3_checkIndex_8e157_1 : decode cJ3_checkIndex_8e157 1 = .ok (.ifCond .lt 8, 3) := by decide +kernel
theorem dJ3_checkIndex_8e157_4 : decode cJ3_checkIndex_8e157 4 = .ok (.iload_n 0, 1) := by decide +kernel
theorem dJ3_checkIndex_8e157_5 : decode cJ3_checkIndex_8e157 5 = .ok (.iload_n 1, 1) := by decide +kernel
theorem dJ3_checkIndex_8e157_6 : decode cJ3_checkIndex_8e157 6 = .ok (.if_icmp .lt 10, 3) := by decide +kernel
theorem dJ3_checkIndex_8e157_9 : decode cJ3_checkIndex_8e157 9 = .ok (.aload_n 2, 1) := by decide +kernel
theorem dJ3_checkIndex_8e157_10 : decode cJ3_checkIndex_8e157 10 = .ok (.iload_n 0, 1) := by decide +kernel
theorem dJ3_checkIndex_8e157_11 : decode cJ3_checkIndex_8e157 11 = .ok (.iload_n 1, 1) := by decide +kernel
theorem dJ3_checkIndex_8e157_12 : decode cJ3_checkIndex_8e157 12 = .ok (.invokestatic 95, 3) := by decide +kernel
theorem dJ3_checkIndex_8e157_15 : decode cJ3_checkIndex_8e157 15 = .ok (.athrow, 1) := by decide +kernel
theorem dJ3_checkIndex_8e157_16 : decode cJ3_checkIndex_8e157 16 = .ok (.iload_n 0, 1) := by decide +kernel
theorem dJ3_checkIndex_8e157_17 : decode cJ3_checkIndex_8e157 17 = .ok (.ireturn, 1) := by decide +kernel
abbrev m_J0_coder : sj_M := (yJ0_coder_7d493, cJ0_coder_7d493, 1, some .byte, 0)
abbrev m_J0_isLatin1 : sj_M := (yJ0_isLatin1_aae02, cJ0_isLatin1_aae02, 1, some .boolean, 0)
abbrev m_J0_length : sj_M := (yJ0_length_8abf5, cJ0_length_8abf5, 1, some .int, 1)
abbrev m_J3_checkIndex : sj_M := (yJ3_checkIndex_8e157, cJ3_checkIndex_8e157, 3, some .int, 0)
abbrev m_J0_checkIndex : sj_M := (yJ0_checkIndex_df160, cJ0_checkIndex_df160, 2, none, 1)
abbrev m_J1_charAt : sj_M := (yJ1_charAt_3b067, cJ1_charAt_3b067, 2, some .char, 2)
abbrev m_J0_charAt : sj_M := (yJ0_charAt_5068e, cJ0_charAt_5068e, 2, some .char, 3)
theorem sj_adv {X : sj_X} {n : Nat} (hn : n < 9) : sj_v X (sj_t n) = .ref (X.2.1.1 n) := by
  show Value.ref (sj_ad X n) = _
  unfold sj_ad
  rw [if_neg (by omega), if_neg (by omega), if_neg (by omega)]
theorem sj_adb {X : sj_X} {n : Nat} (hn : n < 9) : sj_v X (sj_t (2000 + n)) = .ref (X.2.1.2 n) := by
  show Value.ref (sj_ad X (2000 + n)) = _
  unfold sj_ad
  rw [if_neg (by omega), if_neg (by omega), if_pos (by omega), Nat.add_sub_cancel_left]
theorem sj_ada {X : sj_X} {t : Nat} : sj_v X (sj_t (5000 + t)) = .ref t := by
  show Value.ref (sj_ad X (5000 + t)) = _
  unfold sj_ad
  rw [if_neg (by omega), if_pos (by omega), Nat.add_sub_cancel_left]
section RulesS
variable {X : sj_X} {M : sj_M} {s0 s : sj_Mem} {o : Option sj_V × sj_Mem} {pc : Nat} {lo : List (Option sj_V)} {st : List sj_V}
theorem r_gsC (hd : decode M.2.1 pc = .ok (.getstatic 38, 3)) (hc : M.1.cls = RJ0) (k : sj_T X M s0 o (pc + 3) lo (sj_i 1 :: st) s) : sj_T X M s0 o pc lo st s := by
  refine ⟨k.1, fun p e R S m args below meth c Q H ls locs E hR hQ h0 hl hH => ?_⟩
  have kk := k.2 p e R S m args below meth c Q H ls locs E hR hQ h0 hl hH
  obtain ⟨E1, E2, E3, E4, E5, E6, E7, E8, E9⟩ := E
  rw [hc] at E4
  exact va_gets E1 E2 E9.2.2.2.2.2.2.2.1 hH.2.2 E4 (E5 _ kw_480) (fun _ h => h) hd kk
theorem r_gsF (hd : decode M.2.1 pc = .ok (.getstatic 1053, 3)) (hc : M.1.cls = RJ0) (k : ∀ v : sj_V, (v = sj_r none ∨ ∃ t, v = sj_t (5000 + t)) → sj_T X M s0 o (pc + 3) lo (v :: st) s) : sj_T X M s0 o pc lo st s := by
  refine ⟨(k (sj_r none) (Or.inl rfl)).1, fun p e R S m args below meth c Q H ls locs E hR hQ h0 hl hH => ?_⟩
  have kk := fun v hv => (k v hv).2 p e R S m args below meth c Q H ls locs E hR hQ h0 hl hH
  obtain ⟨E1, E2, E3, E4, E5, E6, E7, E8, E9⟩ := E
  rw [hc] at E4
  rcases E9.2.2.2.2.2.2.2.2 with hz | ⟨t, hz⟩
  · exact va_gets E1 E2 hz hH.2.2 E4 (E5 _ kw_496) (fun _ h => h) hd (kk (sj_r none) (Or.inl rfl))
  · have k2 := kk (sj_t (5000 + t)) (Or.inr ⟨t, rfl⟩)
    rw [List.map_cons, sj_ada] at k2
    exact va_gets E1 E2 hz hH.2.2 E4 (E5 _ kw_496) (fun _ h => h) hd k2
theorem r_gcod {n : Nat} (hn : n < 9) (hd : decode M.2.1 pc = .ok (.getfield 15, 3)) (hc : M.1.cls = RJ0) (k : sj_T X M s0 o (pc + 3) lo (sj_i 0 :: st) s) : sj_T X M s0 o pc lo (sj_t n :: st) s := by
  refine ⟨k.1, fun p e R S m args below meth c Q H ls locs E hR hQ h0 hl hH => ?_⟩
  have kk := k.2 p e R S m args below meth c Q H ls locs E hR hQ h0 hl hH
  obtain ⟨E1, E2, E3, E4, E5, E6, E7, E8, E9⟩ := E
  rw [hc] at E4
  rw [List.map_cons, sj_adv hn]
  exact vk_getf E1 E2 (E9.2.2.2.1.1 n hn).2.1 hH.2.2 E4 (E5 _ kw_1692) (fun _ h => h) hd kk
theorem r_gval {n : Nat} (hn : n < 9) (hd : decode M.2.1 pc = .ok (.getfield 9, 3)) (hc : M.1.cls = RJ0) (k : sj_T X M s0 o (pc + 3) lo (sj_t (2000 + n) :: st) s) : sj_T X M s0 o pc lo (sj_t n :: st) s := by
  refine ⟨k.1, fun p e R S m args below meth c Q H ls locs E hR hQ h0 hl hH => ?_⟩
  have kk := k.2 p e R S m args below meth c Q H ls locs E hR hQ h0 hl hH
  obtain ⟨E1, E2, E3, E4, E5, E6, E7, E8, E9⟩ := E
  rw [hc] at E4
  rw [List.map_cons, sj_adb hn] at kk
  rw [List.map_cons, sj_adv hn]
  exact vk_getf E1 E2 (E9.2.2.2.1.1 n hn).2.2.1 hH.2.2 E4 (E5 _ kw_1691) (fun _ h => h) hd kk
theorem r_tblen {n : Nat} (hn : n < 9) (hd : decode M.2.1 pc = .ok (.arraylength, 1)) (k : sj_T X M s0 o (pc + 1) lo (sj_i (sj_tln.getD n 0 : Nat) :: st) s) : sj_T X M s0 o pc lo (sj_t (2000 + n) :: st) s := by
  refine ⟨k.1, fun p e R S m args below meth c Q H ls locs E hR hQ h0 hl hH => ?_⟩
  have kk := k.2 p e R S m args below meth c Q H ls locs E hR hQ h0 hl hH
  obtain ⟨E1, E2, E3, E4, E5, E6, E7, E8, E9⟩ := E
  rw [List.map_cons, sj_adb hn]
  exact va_tlen E1 E2 (E9.2.2.2.1.1 n hn).2.2.2 hH.2.2 rfl hd kk
theorem sj_tlnb : ∀ n, n < 9 → sj_tln.getD n 0 ≤ 7 := by decide
theorem r_tbald {n : Nat} {j : Int} (hn : n < 9) (hj : 0 ≤ j ∧ j < (sj_tln.getD n 0 : Nat)) (hd : decode M.2.1 pc = .ok (.baload, 1)) (k : sj_T X M s0 o (pc + 1) lo (sj_i (sj_tch n j.toNat) :: st) s) : sj_T X M s0 o pc lo (sj_i j :: sj_t (2000 + n) :: st) s := by
  refine ⟨k.1, fun p e R S m args below meth c Q H ls locs E hR hQ h0 hl hH => ?_⟩
  have kk := k.2 p e R S m args below meth c Q H ls locs E hR hQ h0 hl hH
  obtain ⟨E1, E2, E3, E4, E5, E6, E7, E8, E9⟩ := E
  have hb := sj_tlnb n hn
  have hi : sj_i32 j := ⟨by omega, by omega⟩
  rw [List.map_cons, List.map_cons, sj_adb hn]
  refine va_tb E1 E2 (E9.2.2.2.1.1 n hn).2.2.2 hH.2.2 (i := Int32.ofInt j) (sj_inb hj.1 hi (by omega)) (v := sj_v X (sj_i (sj_tch n j.toNat))) ?_ hd kk
  rw [sj_ix hj.1 hi]
  show Value.int _ = Value.int (Int32.ofInt (Int32.toInt _))
  rw [sj_back]
theorem r_ishr0 {x : Int} (hd : decode M.2.1 pc = .ok (.ishr, 1)) (k : sj_T X M s0 o (pc + 1) lo (sj_i x :: st) s) : sj_T X M s0 o pc lo (sj_i 0 :: sj_i x :: st) s := by
  refine ⟨k.1, fun p e R S m args below meth c Q H ls locs E hR hQ h0 hl hH => ?_⟩
  have kk := k.2 p e R S m args below meth c Q H ls locs E hR hQ h0 hl hH
  refine lv_ishr E.1 E.2.1 hd ?_
  have e1 : Int32.ofInt x >>> (Int32.ofInt 0 &&& 31) = Int32.ofInt x := by
    rw [show (Int32.ofInt 0 &&& 31) = 0 by decide]
    simp
  rw [e1]
  exact kk
theorem r_i2c {x : Int} (hx : 0 ≤ x ∧ x ≤ 65535) (hd : decode M.2.1 pc = .ok (.i2c, 1)) (k : sj_T X M s0 o (pc + 1) lo (sj_i x :: st) s) : sj_T X M s0 o pc lo (sj_i x :: st) s := by
  refine ⟨k.1, fun p e R S m args below meth c Q H ls locs E hR hQ h0 hl hH => ?_⟩
  exact lv_i2c E.1 E.2.1 hd (sj_c16 hx) (k.2 p e R S m args below meth c Q H ls locs E hR hQ h0 hl hH)
theorem r_breturn {x : Int} (hx : -128 ≤ x ∧ x ≤ 127) (hr : M.2.2.2.1 = some .byte) (hd : decode M.2.1 pc = .ok (.ireturn, 1)) (ho : o = (some (sj_i x), s)) : sj_T X M s0 o pc lo [sj_i x] s := by
  subst ho
  refine ⟨⟨Nat.le_refl _, Nat.le_refl _⟩, fun p e R S m args below meth c Q H ls locs E hR hQ h0 hl hH => ?_⟩
  exact hQ H locs ls pc hH (by rw [hr]; exact hx) (by rw [hr]; exact hd)
theorem r_creturn {x : Int} (hx : 0 ≤ x ∧ x ≤ 65535) (hr : M.2.2.2.1 = some .char) (hd : decode M.2.1 pc = .ok (.ireturn, 1)) (ho : o = (some (sj_i x), s)) : sj_T X M s0 o pc lo [sj_i x] s := by
  subst ho
  refine ⟨⟨Nat.le_refl _, Nat.le_refl _⟩, fun p e R S m args below meth c Q H ls locs E hR hQ h0 hl hH => ?_⟩
  exact hQ H locs ls pc hH (by rw [hr]; exact hx) (by rw [hr]; exact hd)
/-- a call on a text -/
theorem r_callT {M' : sj_M} {v : sj_V} {n k0 idx : Nat} {As rest st : List sj_V} (hn9 : n < 9) (hd : decode M.2.1 pc = .ok (.invokevirtual idx, 3)) (hw : sj_mw M.1.cls idx M' k0) (hcl : M'.1.cls = RJ0) (hv : Cond.instanceMethod M'.1 ∈ sj_kw ∧ Cond.selects M'.1.cls M'.1 M'.1 ∈ sj_kw) (hC : sj_C X M' (sj_t n :: As) s (some v, s)) (hn : As.length = k0) (hdep : M'.2.2.2.2 + 1 ≤ M.2.2.2.2 ∧ M'.2.2.1 ≤ 21) (hrm : (rest.map sj_w).sum ≤ 8) (hst : st = As.reverse ++ sj_t n :: rest)
    (k : sj_T X M s0 o (pc + 3) lo (v :: rest) s) : sj_T X M s0 o pc lo st s := by
  subst hst
  obtain ⟨hC1, hM⟩ := hC
  refine ⟨k.1, fun p e R S m args below meth c Q H ls locs E hR hQ h0 hl hH => ?_⟩
  have k1 := k.1
  obtain ⟨E1, E2, E3, E4, E5, E6, E7, E8, E9⟩ := id E
  obtain ⟨w1, w2, w3, w4⟩ := hw
  have hrec : ∃ cell : Cell, H[X.2.1.1 n]? = some cell ∧ cell.vm.isStatics = false ∧ S.vm.findClass M'.1.cls = some cell.cls := by rw [hcl]; exact vk_recv E9.2.2.2.1 hn9 hH.2.2
  have e9 := sj_adv (X := X) hn9
  have hpre := sj_pre (as := sj_t n :: As) E hH
  have hM2 := hM
  rw [List.map_cons, e9] at hM2 hpre
  have hrun : va_Run p X.2.2.1 e R S m args below meth c H locs (sj_sz s - sj_sz s0) (sj_sl s - sj_sl s0) (sj_sz s - sj_sz s) (sj_sl s - sj_sl s) (F0 m pc ls ((As.reverse ++ sj_t n :: rest).map (sj_v X))) (rest.map (sj_v X)) (sj_Qc X (some v, s) (Value.ref (X.2.1.1 n) :: As.map (sj_v X)).toArray) (sj_A X) := by
    have hbl : FrameBlind (va_Pc (Value.ref (X.2.1.1 n) :: As.map (sj_v X)) (sj_St X s)) := by
      have := sj_blind (X := X) (s := s) (as := sj_t n :: As)
      rw [List.map_cons, e9] at this
      exact this
    rcases w4 with w4 | ⟨host, w4⟩
    · exact va_runV (As := As.map (sj_v X)) (rest := rest.map (sj_v X)) ⟨E1, E2, E3, E4, E5⟩ hM2 ⟨callB_of k0 E5 (sj_good w1) rfl rfl rfl (E5 _ w2) (E5 _ w4) w3 (sj_rooms hdep E7 E8), E5 _ hv.1, E5 _ hv.2⟩ ⟨hbl, hrec, hpre⟩ rfl (by rw [List.length_map]; exact hn) hl.1.1 (by simp [e9]) (lv_room (by rw [sj_sum]; exact hrm)) hd ⟨by omega, by omega⟩
    · exact va_runVN (As := As.map (sj_v X)) (rest := rest.map (sj_v X)) ⟨E1, E2, E3, E4, E5⟩ hM2 ⟨va_cnB k0 E5 (sj_good w1) rfl rfl rfl (E9.2.1 _ w4) (E5 _ w2) w3 (sj_rooms hdep E7 E8), E5 _ hv.1, E5 _ hv.2⟩ ⟨hbl, hrec, hpre⟩ rfl (by rw [List.length_map]; exact hn) hl.1.1 (by simp [e9]) (lv_room (by rw [sj_sum]; exact hrm)) hd ⟨by omega, by omega⟩
  refine sj_go hrun hH (fun H1 locs1 hH1 => ?_)
  refine W.cs (cells' := sj_sz s - sj_sz s0) (slots' := sj_sl s - sj_sl s0) (by omega) (by omega) ?_
  exact k.2 p e R S m args below meth c Q H1 ls locs1 E hR hQ h0 hl hH1
end RulesS

theorem mw_J0_335 : sj_mw RJ0 335 m_J0_coder 0 := ⟨kw_479, kw_12, ⟨by decide, by decide, by decide +kernel⟩, Or.inl kw_476⟩
theorem mw_J0_492 : sj_mw RJ0 492 m_J0_isLatin1 0 := ⟨kw_489, kw_12, ⟨by decide, by decide, by decide +kernel⟩, Or.inl kw_486⟩
theorem mw_J0_495 : sj_mw RJ0 495 m_J1_charAt 2 := ⟨kw_492, kw_13, ⟨by decide, by decide, by decide +kernel⟩, Or.inl kw_490⟩
theorem mw_J0_1059 : sj_mw RJ0 1059 m_J3_checkIndex 3 := ⟨kw_500, kw_14, ⟨by decide, by decide, by decide +kernel⟩, Or.inl kw_498⟩
theorem mw_J1_9 : sj_mw RJ1 9 m_J0_checkIndex 2 := ⟨kw_495, kw_12, ⟨by decide, by decide, by decide +kernel⟩, Or.inl kw_493⟩
theorem c_J0_coder {X : sj_X} {s : sj_Mem} {n : Nat} (hn : n < 9) : sj_C X m_J0_coder [sj_t n] s (some (sj_i 0), s) := by
  refine sj_C_of (by decide +kernel) (Nat.le_of_ble_eq_true rfl) (lo := [some (sj_t n)]) rfl ?_
  refine r_gsC (pc := 0) dJ0_coder_7d493_0 rfl ?_
  refine r_if_eq (q := ()) (A := none) (B := some ()) (pc := 3) (tgt := 13) (by decide) dJ0_coder_7d493_3 (by decide) (fun h => nomatch h) (fun _ => ?_)
  refine r_tload_n (pc := 6) dJ0_coder_7d493_6 rfl rfl ?_
  refine r_gcod hn (pc := 7) dJ0_coder_7d493_7 rfl ?_
  refine r_goto (pc := 10) (tgt := 14) dJ0_coder_7d493_10 (by decide) ?_
  exact r_breturn (pc := 14) (by decide) rfl dJ0_coder_7d493_14 rfl
theorem c_J0_isLatin1 {X : sj_X} {s : sj_Mem} {n : Nat} (hn : n < 9) : sj_C X m_J0_isLatin1 [sj_t n] s (some (sj_i 1), s) := by
  refine sj_C_of (by decide +kernel) (Nat.le_of_ble_eq_true rfl) (lo := [some (sj_t n)]) rfl ?_
  refine r_gsC (pc := 0) dJ0_isLatin1_aae02_0 rfl ?_
  refine r_if_eq (q := ()) (A := none) (B := some ()) (pc := 3) (tgt := 17) (by decide) dJ0_isLatin1_aae02_3 (by decide) (fun h => nomatch h) (fun _ => ?_)
  refine r_tload_n (pc := 6) dJ0_isLatin1_aae02_6 rfl rfl ?_
  refine r_gcod hn (pc := 7) dJ0_isLatin1_aae02_7 rfl ?_
  refine r_if_ne (q := ()) (A := some ()) (B := none) (pc := 10) (tgt := 17) (by decide) dJ0_isLatin1_aae02_10 (by decide) (fun _ => ?_) (fun h => nomatch h)
  refine r_iconst (pc := 13) dJ0_isLatin1_aae02_13 ?_
  refine r_goto (pc := 14) (tgt := 18) dJ0_isLatin1_aae02_14 (by decide) ?_
  exact r_zreturn (pc := 18) (Or.inr rfl) rfl dJ0_isLatin1_aae02_18 rfl
theorem c_J0_length {X : sj_X} {s : sj_Mem} {n : Nat} (hn : n < 9) : sj_C X m_J0_length [sj_t n] s (some (sj_i (sj_tln.getD n 0 : Nat)), s) := by
  refine sj_C_of (by decide +kernel) (Nat.le_of_ble_eq_true rfl) (lo := [some (sj_t n)]) rfl ?_
  refine r_tload_n (pc := 0) dJ0_length_8abf5_0 rfl rfl ?_
  refine r_gval hn (pc := 1) dJ0_length_8abf5_1 rfl ?_
  refine r_tblen hn (pc := 4) dJ0_length_8abf5_4 ?_
  refine r_tload_n (pc := 5) dJ0_length_8abf5_5 rfl rfl ?_
  refine r_callT hn (pc := 6) (As := []) (rest := [sj_i (sj_tln.getD n 0 : Nat)]) dJ0_length_8abf5_6 mw_J0_335 rfl ⟨kw_477, kw_478⟩ (c_J0_coder hn) rfl ⟨(Nat.le_of_ble_eq_true rfl), (Nat.le_of_ble_eq_true rfl)⟩ (Nat.le_of_ble_eq_true rfl) rfl ?_
  refine r_ishr0 (pc := 9) dJ0_length_8abf5_9 ?_
  exact r_ireturn (pc := 10) rfl dJ0_length_8abf5_10 rfl
theorem c_J3_checkIndex {X : sj_X} {s : sj_Mem} {i j : Int} {v : sj_V} (hj : 0 ≤ i ∧ i < j ∧ j ≤ 7) (hv : sj_isJ v = false) : sj_C X m_J3_checkIndex [sj_i i, sj_i j, v] s (some (sj_i i), s) := by
  have hlo : sj_lo [sj_i i, sj_i j, v] = [some (sj_i i), some (sj_i j), some v] := by
    show (some (sj_i i) :: some (sj_i j) :: (if sj_isJ v then _ else _)) = _
    rw [hv]
    rfl
  refine sj_C_of (by decide +kernel) (by rw [hlo]; exact Nat.le_refl 3) (lo := [some (sj_i i), some (sj_i j), some v]) (by rw [hlo]; rfl) ?_
  refine r_iload_n (pc := 0) dJ3_checkIndex_8e157_0 rfl rfl ?_
  refine r_if_lt (q := ()) (A := none) (B := some ()) (pc := 1) (tgt := 9) (by unfold e_ilt; rw [if_pos ⟨⟨by omega, by omega⟩, ⟨by omega, by omega⟩⟩, if_neg (by omega)]) dJ3_checkIndex_8e157_1 (by decide) (fun h => nomatch h) (fun _ => ?_)
  refine r_iload_n (pc := 4) dJ3_checkIndex_8e157_4 rfl rfl ?_
  refine r_iload_n (pc := 5) dJ3_checkIndex_8e157_5 rfl rfl ?_
  refine r_icmp_lt (q := ()) (A := some ()) (B := none) (pc := 6) (tgt := 16) (by unfold e_ilt; rw [if_pos ⟨⟨by omega, by omega⟩, ⟨by omega, by omega⟩⟩, if_pos (by omega)]) dJ3_checkIndex_8e157_6 (by decide) (fun _ => ?_) (fun h => nomatch h)
  refine r_iload_n (pc := 16) dJ3_checkIndex_8e157_16 rfl rfl ?_
  exact r_ireturn (pc := 17) rfl dJ3_checkIndex_8e157_17 rfl
theorem c_J0_checkIndex {X : sj_X} {s : sj_Mem} {i j : Int} (hj : 0 ≤ i ∧ i < j ∧ j ≤ 7) : sj_C X m_J0_checkIndex [sj_i i, sj_i j] s (none, s) := by
  refine sj_C_of (by decide +kernel) (Nat.le_of_ble_eq_true rfl) (lo := [some (sj_i i), some (sj_i j)]) rfl ?_
  refine r_iload_n (pc := 0) dJ0_checkIndex_df160_0 rfl rfl ?_
  refine r_iload_n (pc := 1) dJ0_checkIndex_df160_1 rfl rfl ?_
  refine r_gsF (pc := 2) dJ0_checkIndex_df160_2 rfl (fun v hv => ?_)
  have hv2 : sj_isJ v = false := by rcases hv with rfl | ⟨t, rfl⟩ <;> rfl
  refine r_callS (β := Int × sj_Mem) (q := (i, s)) (K := fun v s' => some (v, s')) (r := some (i, s)) (pc := 5) (fun v => some (sj_i v)) (As := [sj_i i, sj_i j, v]) (rest := []) rfl dJ0_checkIndex_df160_5 mw_J0_1059 kw_499 (fun _ _ hc => by cases hc; exact c_J3_checkIndex hj hv2) rfl ⟨(Nat.le_of_ble_eq_true rfl), (Nat.le_of_ble_eq_true rfl)⟩ (Nat.le_of_ble_eq_true rfl) rfl (fun v1 s1 h => ?_)
  cases h
  refine r_pop (pc := 8) dJ0_checkIndex_df160_8 rfl ?_
  exact r_return (pc := 9) rfl dJ0_checkIndex_df160_9 rfl
theorem sj_tchb : ∀ n, n < 9 → ∀ k, k < sj_tln.getD n 0 → sj_and (sj_tch n k) 255 = sj_tch n k ∧ 0 ≤ sj_tch n k ∧ sj_tch n k ≤ 65535 := by decide +kernel
theorem c_J1_charAt {X : sj_X} {s : sj_Mem} {n : Nat} {j : Int} (hn : n < 9) (hj : 0 ≤ j ∧ j < (sj_tln.getD n 0 : Nat)) : sj_C X m_J1_charAt [sj_t (2000 + n), sj_i j] s (some (sj_i (sj_tch n j.toNat)), s) := by
  have hb := sj_tlnb n hn
  obtain ⟨b1, b2⟩ := sj_tchb n hn j.toNat (by omega)
  refine sj_C_of (by decide +kernel) (Nat.le_of_ble_eq_true rfl) (lo := [some (sj_t (2000 + n)), some (sj_i j)]) rfl ?_
  refine r_iload_n (pc := 0) dJ1_charAt_3b067_0 rfl rfl ?_
  refine r_tload_n (pc := 1) dJ1_charAt_3b067_1 rfl rfl ?_
  refine r_tblen hn (pc := 2) dJ1_charAt_3b067_2 ?_
  refine r_callS (β := Unit × sj_Mem) (q := ((), s)) (K := fun v s' => some (v, s')) (r := some ((), s)) (pc := 3) (fun _ => none) (As := [sj_i j, sj_i (sj_tln.getD n 0 : Nat)]) (rest := []) rfl dJ1_charAt_3b067_3 mw_J1_9 kw_494 (fun _ _ hc => by cases hc; exact c_J0_checkIndex ⟨hj.1, hj.2, by omega⟩) rfl ⟨(Nat.le_of_ble_eq_true rfl), (Nat.le_of_ble_eq_true rfl)⟩ (Nat.le_of_ble_eq_true rfl) rfl (fun v1 s1 h => ?_)
  cases h
  refine r_tload_n (pc := 6) dJ1_charAt_3b067_6 rfl rfl ?_
  refine r_iload_n (pc := 7) dJ1_charAt_3b067_7 rfl rfl ?_
  refine r_tbald hn hj (pc := 8) dJ1_charAt_3b067_8 ?_
  refine r_sipush (pc := 9) dJ1_charAt_3b067_9 ⟨by decide, by decide⟩ ?_
  refine r_iand (pc := 12) dJ1_charAt_3b067_12 ?_
  rw [b1]
  refine r_i2c b2 (pc := 13) dJ1_charAt_3b067_13 ?_
  exact r_creturn (pc := 14) b2 rfl dJ1_charAt_3b067_14 rfl
theorem c_J0_charAt {X : sj_X} {s : sj_Mem} {n : Nat} {j : Int} (hn : n < 9) (hj : 0 ≤ j ∧ j < (sj_tln.getD n 0 : Nat)) : sj_C X m_J0_charAt [sj_t n, sj_i j] s (some (sj_i (sj_tch n j.toNat)), s) := by
  obtain ⟨b1, b2⟩ := sj_tchb n hn j.toNat (by omega)
  refine sj_C_of (by decide +kernel) (Nat.le_of_ble_eq_true rfl) (lo := [some (sj_t n), some (sj_i j)]) rfl ?_
  refine r_tload_n (pc := 0) dJ0_charAt_5068e_0 rfl rfl ?_
  refine r_callT hn (pc := 1) (As := []) (rest := []) dJ0_charAt_5068e_1 mw_J0_492 rfl ⟨kw_487, kw_488⟩ (c_J0_isLatin1 hn) rfl ⟨(Nat.le_of_ble_eq_true rfl), (Nat.le_of_ble_eq_true rfl)⟩ (Nat.le_of_ble_eq_true rfl) rfl ?_
  refine r_if_eq (q := ()) (A := none) (B := some ()) (pc := 4) (tgt := 16) (by decide) dJ0_charAt_5068e_4 (by decide) (fun h => nomatch h) (fun _ => ?_)
  refine r_tload_n (pc := 7) dJ0_charAt_5068e_7 rfl rfl ?_
  refine r_gval hn (pc := 8) dJ0_charAt_5068e_8 rfl ?_
  refine r_iload_n (pc := 11) dJ0_charAt_5068e_11 rfl rfl ?_
  refine r_callS (β := Int × sj_Mem) (q := (sj_tch n j.toNat, s)) (K := fun v s' => some (v, s')) (r := some (sj_tch n j.toNat, s)) (pc := 12) (fun v => some (sj_i v)) (As := [sj_t (2000 + n), sj_i j]) (rest := []) rfl dJ0_charAt_5068e_12 mw_J0_495 kw_491 (fun _ _ hc => by cases hc; exact c_J1_charAt hn hj) rfl ⟨(Nat.le_of_ble_eq_true rfl), (Nat.le_of_ble_eq_true rfl)⟩ (Nat.le_of_ble_eq_true rfl) rfl (fun v1 s1 h => ?_)
  cases h
  exact r_creturn (pc := 15) b2 rfl dJ0_charAt_5068e_15 rfl
section RulesT
variable {X : sj_X} {M : sj_M} {s0 s : sj_Mem} {o : Option sj_V × sj_Mem} {pc : Nat} {lo : List (Option sj_V)} {st : List sj_V}
theorem r_tlen {β : Type} {q : β} {K : Int → Option β} {n idx : Nat} (h : e_tl n K = some q) (hd : decode M.2.1 pc = .ok (.invokevirtual idx, 3)) (hw : Cond.methodLink M.1.cls idx yJ0_length_8abf5 ∈ sj_kw) (hdp : 8 ≤ M.2.2.2.2) (hrm : (st.map sj_w).sum ≤ 8) (k : ∀ v, K v = some q → sj_T X M s0 o (pc + 3) lo (sj_i v :: st) s) : sj_T X M s0 o pc lo (sj_t n :: st) s := by
  unfold e_tl at h
  by_cases hn : n < 9
  · rw [if_pos hn] at h
    exact r_callT hn (k0 := 0) (As := []) (rest := st) hd ⟨kw_475, kw_12, ⟨by decide, by decide, by decide +kernel⟩, Or.inl hw⟩ rfl ⟨kw_473, kw_474⟩ (c_J0_length hn) rfl ⟨by show 1 + 1 ≤ _; omega, (Nat.le_of_ble_eq_true rfl)⟩ hrm rfl (k _ h)
  · rw [if_neg hn] at h; cases h
theorem r_tchar {β : Type} {q : β} {K : Int → Option β} {n idx : Nat} {j : Int} (h : e_tc n j K = some q) (hd : decode M.2.1 pc = .ok (.invokevirtual idx, 3)) (hw : Cond.methodLink M.1.cls idx yJ0_charAt_5068e ∈ sj_kw) (hdp : 8 ≤ M.2.2.2.2) (hrm : (st.map sj_w).sum ≤ 8) (k : ∀ v, K v = some q → sj_T X M s0 o (pc + 3) lo (sj_i v :: st) s) : sj_T X M s0 o pc lo (sj_i j :: sj_t n :: st) s := by
  unfold e_tc at h
  by_cases hn : n < 9 ∧ 0 ≤ j ∧ j < (sj_tln.getD n 0 : Nat)
  · rw [if_pos hn] at h
    exact r_callT hn.1 (k0 := 1) (As := [sj_i j]) (rest := st) hd ⟨kw_485, kw_12, ⟨by decide, by decide, by decide +kernel⟩, Or.inl hw⟩ rfl ⟨kw_483, kw_484⟩ (c_J0_charAt hn.1 hn.2) rfl ⟨by show 3 + 1 ≤ _; omega, (Nat.le_of_ble_eq_true rfl)⟩ hrm rfl (k _ h)
  · rw [if_neg hn] at h; cases h
end RulesT

