def e_al {β : Type} (a : Nat) (s : sj_Mem) (K : Int → Option β) : Option β := if sj_is s.1 a 100 then K ((s.1.1 a).2 : Int) else none
section RulesG
variable {X : sj_X} {M : sj_M} {s0 s : sj_Mem} {pc : Nat} {lo : List (Option sj_V)} {st : List sj_V}
theorem r_iret {x : Int} {q : Int × sj_Mem} (h : some (x, s) = some q) (hr : M.2.2.2.1 = some .int) (hd : decode M.2.1 pc = .ok (.ireturn, 1)) : sj_T X M s0 (some (sj_i q.1), q.2) pc lo [sj_i x] s := by
  cases h; exact r_ireturn hr hd rfl
theorem r_lret {x : Int} {q : Int × sj_Mem} (h : some (x, s) = some q) (hr : M.2.2.2.1 = some .long) (hd : decode M.2.1 pc = .ok (.lreturn, 1)) : sj_T X M s0 (some (sj_j q.1), q.2) pc lo [sj_j x] s := by
  cases h; exact r_lreturn hr hd rfl
theorem r_aret {x : Option Nat} {C : String} {q : Option Nat × sj_Mem} (h : some (x, s) = some q) (hr : M.2.2.2.1 = some (.object C)) (hd : decode M.2.1 pc = .ok (.areturn, 1)) : sj_T X M s0 (some (sj_r q.1), q.2) pc lo [sj_r x] s := by
  cases h; exact r_areturn hr hd rfl
theorem r_vret {q : Unit × sj_Mem} (h : some ((), s) = some q) (hr : M.2.2.2.1 = none) (hd : decode M.2.1 pc = .ok (.return_, 1)) : sj_T X M s0 (none, q.2) pc lo [] s := by
  cases h; exact r_return hr hd rfl
theorem r_zret {x : Int} {q : Int × sj_Mem} (h : e_z x s = some q) (hr : M.2.2.2.1 = some .boolean) (hd : decode M.2.1 pc = .ok (.ireturn, 1)) : sj_T X M s0 (some (sj_i q.1), q.2) pc lo [sj_i x] s := by
  unfold e_z at h
  by_cases hz : x = 0 ∨ x = 1
  · rw [if_pos hz] at h
    cases h; exact r_zreturn hz hr hd rfl
  · rw [if_neg hz] at h; cases h
theorem r_ldcS {o : Option sj_V × sj_Mem} {n i : Nat} (hd : decode M.2.1 pc = .ok (.ldc i, 2)) (hc : M.1.cls = RX7) (hi : sj_tk.getD n 0 = i) (hn : n < 9) (k : sj_T X M s0 o (pc + 2) lo (sj_t n :: st) s) : sj_T X M s0 o pc lo st s := by
  refine ⟨k.1, fun p e R S m args below meth c Q H ls locs E hR hQ h0 hl hH => ?_⟩
  have kk := k.2 p e R S m args below meth c Q H ls locs E hR hQ h0 hl hH
  obtain ⟨E1, E2, E3, E4, E5, E6, E7, E8, E9⟩ := E
  have hZ := E9.2.2.2.2.1 n hn
  rw [hi] at hZ
  refine va_ldcS E1 E2 (by rw [← hc]; exact E4) hZ hd ?_
  have e1 : sj_v X (sj_t n) = .ref (X.2.1.1 n) := by
    show Value.ref (sj_ad X n) = _
    unfold sj_ad
    rw [if_neg (by omega), if_neg (by omega), if_neg (by omega)]
  rw [← e1]
  exact kk
end RulesG
section RulesH
variable {X : sj_X} {M : sj_M} {s0 s : sj_Mem} {o : Option sj_V × sj_Mem} {pc : Nat} {lo : List (Option sj_V)} {st : List sj_V}
theorem r_al {a : Nat} {β : Type} {q : β} {K : Int → Option β} (h : e_al a s K = some q) (hd : decode M.2.1 pc = .ok (.arraylength, 1)) (k : ∀ v, K v = some q → sj_T X M s0 o (pc + 1) lo (sj_i v :: st) s) : sj_T X M s0 o pc lo (sj_r (some a) :: st) s := r_alen h hd k
end RulesH
