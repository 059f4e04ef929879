theorem sj_len_in {g : sj_G} {kd a : Nat} {j : Int} (h0 : 0 ≤ j) (h : j < sj_len g kd a) : a < g.2.2.1 ∧ (g.1 a).1 = kd ∧ sj_i32 j ∧ j.toNat < (g.1 a).2 := by
  unfold sj_len at h
  by_cases hc : a < g.2.2.1 ∧ (g.1 a).1 = kd ∧ (g.1 a).2 ≤ 65536
  · rw [if_pos hc] at h
    exact ⟨hc.1, hc.2.1, ⟨by omega, by omega⟩, by omega⟩
  · rw [if_neg hc] at h
    omega
theorem sj_ix {j : Int} (h0 : 0 ≤ j) (h : sj_i32 j) : (Int32.ofInt j).toNatClampNeg = j.toNat := by
  show (Int32.ofInt j).toInt.toNat = _
  rw [sj_t32 h]
theorem sj_inb {j : Int} {n : Nat} (h0 : 0 ≤ j) (h : sj_i32 j) (hn : j.toNat < n) : vp_in (Int32.ofInt j) n := by
  rw [vp_in_iff, sj_t32 h]
  exact ⟨h0, by omega⟩
theorem sj_fs_get {X : sj_X} {s : sj_Mem} {a ci k : Nat} (hk : k < sj_nf ci) : (sj_fs X s a ci)[k]? = some (sj_fv X s a (sj_kt ci k) k) := by
  unfold sj_fs
  rw [List.getElem?_map, List.getElem?_range hk]
  rfl
theorem sj_fs_len (X : sj_X) (s : sj_Mem) (a ci : Nat) : (sj_fs X s a ci).length = sj_nf ci := by unfold sj_fs; simp
theorem sj_fs_set {X : sj_X} {s s' : sj_Mem} {a ci k : Nat} {w : Value} (hk : k < sj_nf ci) (h1 : sj_fv X s' a (sj_kt ci k) k = w) (h2 : ∀ j, j ≠ k → sj_fv X s' a (sj_kt ci j) j = sj_fv X s a (sj_kt ci j) j) : sj_fs X s' a ci = (sj_fs X s a ci).set k w := by
  apply List.ext_getElem?
  intro j
  by_cases hj : j < sj_nf ci
  · by_cases hjk : j = k
    · subst hjk
      rw [List.getElem?_set_self (by rw [sj_fs_len]; exact hj), sj_fs_get hj, h1]
    · rw [List.getElem?_set_ne (Ne.symm hjk), sj_fs_get hj, sj_fs_get hj, h2 j hjk]
  · rw [List.getElem?_eq_none (by rw [sj_fs_len]; omega), List.getElem?_eq_none (by rw [List.length_set, sj_fs_len]; omega)]
theorem sj_ent_o {X : sj_X} {s : sj_Mem} {a ci : Nat} (h : (s.1.1 a).1 = ci) (hc : ci < 99) : sj_ent X s a = .inr (ci, sj_fs X s a ci) := by
  subst h
  unfold sj_ent
  rw [if_pos hc]
theorem sj_ent_i {X : sj_X} {s : sj_Mem} {a kd : Nat} (h : (s.1.1 a).1 = kd) (hc : kd = 100 ∨ kd = 102 ∨ kd = 103) : sj_ent X s a = .inl (X.1.2.2 (kd - 100), (s.1.1 a).2, .inl (fun j => Int32.ofInt (s.2 a j))) := by
  subst h
  unfold sj_ent
  rw [if_neg (by omega), if_neg (by omega), if_neg (by omega)]
theorem sj_ent_l {X : sj_X} {s : sj_Mem} {a : Nat} (h : (s.1.1 a).1 = 101) : sj_ent X s a = .inl (X.1.2.2 1, (s.1.1 a).2, .inr (.inl (fun j => Int64.ofInt (s.2 a j)))) := by
  unfold sj_ent
  rw [if_neg (by omega), if_pos h]
theorem sj_ent_r {X : sj_X} {s : sj_Mem} {a : Nat} (h : (s.1.1 a).1 = 104) : sj_ent X s a = .inl (X.1.2.2 4, (s.1.1 a).2, .inr (.inr (.inr (.inr (fun j => (s.1.2.1 a j).map (fun x => X.1.1 + x)))))) := by
  unfold sj_ent
  rw [if_neg (by omega), if_neg (by omega), if_pos h]
/-- an entry is what its own row says -/
theorem sj_ent_same {X : sj_X} {s s' : sj_Mem} {x : Nat} (h1 : s'.1.1 x = s.1.1 x) (h2 : ∀ k, s'.1.2.1 x k = s.1.2.1 x k) (h3 : ∀ k, s'.2 x k = s.2 x k) : sj_ent X s' x = sj_ent X s x := by
  have e2 : s'.1.2.1 x = s.1.2.1 x := funext h2
  have e3 : s'.2 x = s.2 x := funext h3
  have ef : ∀ ci, sj_fs X s' x ci = sj_fs X s x ci := fun ci => by
    unfold sj_fs sj_fv
    rw [e2, e3]
  unfold sj_ent
  rw [h1, e2, e3, ef]
theorem sj_ent_put {X : sj_X} {s : sj_Mem} {a k x : Nat} {v : Int} (h : x ≠ a) : sj_ent X (sj_put s a k v) x = sj_ent X s x :=
  sj_ent_same rfl (fun _ => rfl) (fun y => by show sj_up s.2 a k v x y = _; unfold sj_up; rw [if_neg (fun q => h q.1)])
theorem sj_ent_putR {X : sj_X} {s : sj_Mem} {a k x : Nat} {v : Option Nat} (h : x ≠ a) : sj_ent X (sj_putR s a k v) x = sj_ent X s x :=
  sj_ent_same rfl (fun y => by show sj_up s.1.2.1 a k v x y = _; unfold sj_up; rw [if_neg (fun q => h q.1)]) (fun _ => rfl)
theorem sj_ent_cp {X : sj_X} {s : sj_Mem} {a0 sp a1 dp n x : Nat} (h : x ≠ a1) : sj_ent X (sj_cp s a0 sp a1 dp n) x = sj_ent X s x :=
  sj_ent_same rfl (fun _ => rfl) (fun y => by show (if x = a1 then _ else _) = _; rw [if_neg h])
theorem sj_ent_new {X : sj_X} {s : sj_Mem} {kd len sl x : Nat} (h : x < sj_sz s) : sj_ent X (sj_new s kd len sl) x = sj_ent X s x :=
  sj_ent_same (by show (if x = sj_sz s then _ else _) = _; rw [if_neg (by omega)]) (fun y => by show (if x = sj_sz s then _ else _) = _; rw [if_neg (by omega)]) (fun y => by show (if x = sj_sz s then _ else _) = _; rw [if_neg (by omega)])
/-- the field that a pool entry names -/
def sj_fw (own : String) (idx ci k : Nat) : Prop := ∃ q : vw_C, vwCl[ci]? = some q ∧ k < q.2.2 ∧ (Cond.fieldLink own idx (q.2.1 k).1 (q.2.1 k).2.1 (q.2.1 k).2.2.1 ∈ sj_kw ∨ ∃ host : String, Cond.fieldLinkNest own idx (q.2.1 k).1 (q.2.1 k).2.1 (q.2.1 k).2.2.1 host ∈ sj_nest)
theorem sj_ci {ci : Nat} {q : vw_C} (h : vwCl[ci]? = some q) : ci < 10 := (List.getElem?_eq_some_iff.mp h).1
section WRows
variable {X : sj_X} {M : sj_M} {s : sj_Mem} {p : Program} {e : Env} {R : Room} {S : State} {m : MethodId} {args : Array Value} {below : List Frame} {meth : Method} {c : Code} {Q : State → Prop} {H : Heap} {ls : Array Slot} {locs : List Loc} {cells slots pc : Nat} {rest : List Value}
theorem sj_getW {idx ci k a : Nat} (E : sj_Cx X M p R S m args meth c) (hH : sj_Hd X s S H locs) (hw : sj_fw M.1.cls idx ci k) (hc : sj_is s.1 a ci) (hd : decode M.2.1 pc = .ok (.getfield idx, 3)) (kk : W p X.2.2.1 e R S m args below meth c H locs cells slots Q (F0 m (pc + 3) ls (sj_fv X s a (sj_kt ci k) k :: rest))) : W p X.2.2.1 e R S m args below meth c H locs cells slots Q (F0 m pc ls (.ref (X.1.1 + a) :: rest)) := by
  obtain ⟨⟨C, T, N⟩, hq, hk, hlk⟩ := hw
  have hcl := sj_cls hq
  have hci := sj_ci hq
  obtain ⟨E1, E2, E3, E4, E5, E6, E7, E8, E9⟩ := E
  have he : (sj_ws X s)[a]? = some (X.1.1 + a, .inr (ci, sj_fs X s a ci)) := by rw [sj_ws_get hc.1, sj_ent_o hc.2 (by omega)]
  have hv := sj_fs_get (X := X) (s := s) (a := a) (ci := ci) (k := k) (by rw [hcl.2.2.2.1]; exact hk)
  rcases hlk with hlk | ⟨host, hlk⟩
  · exact va_get E1 E2 E5 hcl.1 E4 E9.1 hH.2.1 a he hq k hk (E5 _ hlk) (fun _ h => h) hv hd kk
  · exact va_getN E1 E2 E5 hcl.1 E4 E9.1 hH.2.1 a he hq k hk (va_Nw.use rfl (E9.2.1 _ hlk)) (fun _ h => h) hv hd kk
theorem sj_Hd_set {s' : sj_Mem} {a : Nat} {w : va_E} {H1 : Heap} {locs1 : List Loc} (hH : sj_Hd X s S H locs) (ha : a < sj_sz s) (hz : sj_sz s' = sj_sz s) (h1 : sj_ent X s' a = w) (h2 : ∀ x, x ≠ a → sj_ent X s' x = sj_ent X s x) (hsz : H1.size = H.size) (hP : va_P X.1.2.1 vwCl ((sj_ws X s).set a (X.1.1 + a, w)) H1) (hS : va_S (sj_A X) S.heap H1 locs1) : sj_Hd X s' S H1 locs1 := by
  rw [sj_ws_set hz ha h1 h2] at hP
  exact ⟨by rw [hsz, hz]; exact hH.1, hP, hS⟩
theorem sj_putW {idx ci k a : Nat} {v : Value} {s' : sj_Mem} (E : sj_Cx X M p R S m args meth c) (hH : sj_Hd X s S H locs) (hw : sj_fw M.1.cls idx ci k) (hc : sj_is s.1 a ci) (hfin : ∀ q : vw_C, vwCl[ci]? = some q → (q.2.1 k).2.2.2 = false) (hn : narrow (sj_ty ci k) v = v) (hfit : fits (sj_ty ci k) v = true) (hz : sj_sz s' = sj_sz s) (h1 : sj_ent X s' a = .inr (ci, (sj_fs X s a ci).set k v)) (h2 : ∀ x, x ≠ a → sj_ent X s' x = sj_ent X s x) (hd : decode M.2.1 pc = .ok (.putfield idx, 3))
    (kk : ∀ (H1 : Heap) (locs1 : List Loc), sj_Hd X s' S H1 locs1 → W p X.2.2.1 e R S m args below meth c H1 locs1 cells slots Q (F0 m (pc + 3) ls rest)) : W p X.2.2.1 e R S m args below meth c H locs cells slots Q (F0 m pc ls (v :: .ref (X.1.1 + a) :: rest)) := by
  obtain ⟨⟨C, T, N⟩, hq, hk, hlk⟩ := hw
  have hcl := sj_cls hq
  have hci := sj_ci hq
  obtain ⟨E1, E2, E3, E4, E5, E6, E7, E8, E9⟩ := E
  have he : (sj_ws X s)[a]? = some (X.1.1 + a, .inr (ci, sj_fs X s a ci)) := by rw [sj_ws_get hc.1, sj_ent_o hc.2 (by omega)]
  have hap := va_apart (own := M.1.cls) E5 hcl.1 (sj_ty ci) hcl.2.1 hcl.2.2.1 E9.1 hq
  obtain ⟨r, g1, cell, q1, q2, q3, q4⟩ := hH.2.1 a _ he
  have hr : r = (C, T, N) := Option.some.inj (g1.symm.trans hq)
  subst hr
  obtain ⟨hS, hfc, kC, hkC, hkind⟩ := E9.1.1 ci _ hq
  obtain ⟨cf, kf, fi, f, hi, hsl⟩ := hS k hk
  have hlay := E5 _ (hcl.1 _ (u_in_lay hk))
  unfold u_lay at hlay
  rw [if_neg (by rw [hfin _ hq]; decide)] at hlay
  have hst := (u_facts hfc hkC (u_lays E5 hcl.1 hk) hi).1
  have h6 := u_store hfc hkC hkind hlay hi (hcl.2.1 k hk) hn hfit
  have hl : k < (sj_fs X s a ci).length := by rw [sj_fs_len, hcl.2.2.2.1]; exact hk
  have fin : ∀ H' : Heap, H'[X.1.1 + a]? = some (cell.setSlot (X.1.2.1.2 ci k) v) → H'.size = H.size → (∀ q, q ≠ X.1.1 + a → H'[q]? = H[q]?) → W p X.2.2.1 e R S m args below meth c H' (locs ++ [⟨X.1.1 + a, X.1.2.1.2 ci k⟩]) cells slots Q (F0 m (pc + 3) ls rest) := by
    intro H' e1 e2 e3
    refine kk H' _ (sj_Hd_set hH hc.1 hz h1 h2 e2 ?_ (hH.2.2.put e2 e3 (Nat.le_add_right _ _)))
    exact hH.2.1.set (sj_wsD X s) he ⟨_, hq, t_OB.to (V := updV (vp_V (sj_fs X s a ci)) k v) ⟨_, e1, q2, q3, t_set q4 hap hk v⟩ (fun j _ => vp_updV_set hl v j)⟩ e3
  rcases hlk with hlk | ⟨host, hlk⟩
  · refine W.putK E1 E2 (f := f) ⟨E4, E5 _ hlk, ⟨_, _, _, hi⟩, hst⟩ (by rw [q2]; exact h6) q1 q3 (by rw [hsl]; exact k2_hasslot (q4 k hk)) rfl rfl hd fun H' e1 e2 e3 => ?_
    rw [hsl] at e1 ⊢
    exact fin H' e1 e2 e3
  · refine va_WputK E1 E2 (f := f) E4 (va_Nw.use rfl (E9.2.1 _ hlk)) hi hst (by rw [q2]; exact h6) q1 q3 (by rw [hsl]; exact k2_hasslot (q4 k hk)) rfl rfl hd fun H' e1 e2 e3 => ?_
    rw [hsl] at e1 ⊢
    exact fin H' e1 e2 e3
theorem sj_putFW {idx ci k a : Nat} {v : Value} {s' : sj_Mem} (E : sj_Cx X M p R S m args meth c) (hH : sj_Hd X s S H locs) (hw : ∃ q : vw_C, vwCl[ci]? = some q ∧ k < q.2.2 ∧ Cond.fieldLink M.1.cls idx (q.2.1 k).1 (q.2.1 k).2.1 (q.2.1 k).2.2.1 ∈ sj_kw ∧ (q.2.1 k).2.2.2 = true ∧ (q.2.1 k).1 = M.1.cls) (hin2 : M.1.name = "<init>") (hc : sj_is s.1 a ci) (hn : narrow (sj_ty ci k) v = v) (hfit : fits (sj_ty ci k) v = true) (hz : sj_sz s' = sj_sz s) (h1 : sj_ent X s' a = .inr (ci, (sj_fs X s a ci).set k v)) (h2 : ∀ x, x ≠ a → sj_ent X s' x = sj_ent X s x) (hd : decode M.2.1 pc = .ok (.putfield idx, 3))
    (kk : ∀ (H1 : Heap) (locs1 : List Loc), sj_Hd X s' S H1 locs1 → W p X.2.2.1 e R S m args below meth c H1 locs1 cells slots Q (F0 m (pc + 3) ls rest)) : W p X.2.2.1 e R S m args below meth c H locs cells slots Q (F0 m pc ls (v :: .ref (X.1.1 + a) :: rest)) := by
  obtain ⟨⟨C, T, N⟩, hq, hk, hlk, hfin, hdecl⟩ := hw
  have hcl := sj_cls hq
  have hci := sj_ci hq
  obtain ⟨E1, E2, E3, E4, E5, E6, E7, E8, E9⟩ := E
  have he : (sj_ws X s)[a]? = some (X.1.1 + a, .inr (ci, sj_fs X s a ci)) := by rw [sj_ws_get hc.1, sj_ent_o hc.2 (by omega)]
  have hap := va_apart (own := M.1.cls) E5 hcl.1 (sj_ty ci) hcl.2.1 hcl.2.2.1 E9.1 hq
  obtain ⟨r, g1, cell, q1, q2, q3, q4⟩ := hH.2.1 a _ he
  have hr : r = (C, T, N) := Option.some.inj (g1.symm.trans hq)
  subst hr
  obtain ⟨hS, hfc, kC, hkC, hkind⟩ := E9.1.1 ci _ hq
  obtain ⟨cf, kf, fi, f, hi, hsl⟩ := hS k hk
  have hlay := E5 _ (hcl.1 _ (u_in_lay hk))
  unfold u_lay at hlay
  rw [if_pos hfin] at hlay
  have hst := (u_facts hfc hkC (u_lays E5 hcl.1 hk) hi).1
  have hcf : m.cls = cf := by
    obtain ⟨_, _, c', _, _, _, -, -, hf', -, -, -, hown2, -⟩ := Cond.laysFinal_spec hlay
    have e1 : c' = cf := by have := hi.symm.trans hf'; simp at this; exact this.1.symm
    rw [hdecl] at hown2
    rw [← e1]; exact Option.some.inj (E4.symm.trans hown2)
  have h6 := u_fits hfc hkC hkind (Or.inr hlay) hi (hcl.2.1 k hk) hn hfit
  have hl : k < (sj_fs X s a ci).length := by rw [sj_fs_len, hcl.2.2.2.1]; exact hk
  refine W.putFinK E1 E2 E4 (E5 _ hlk) hi hst hcf (E6.trans hin2) (by rw [q2]; exact h6) q1 q3 (by rw [hsl]; exact k2_hasslot (q4 k hk)) rfl rfl hd fun H' e1 e2 e3 => ?_
  rw [hsl] at e1 ⊢
  refine kk H' _ (sj_Hd_set hH hc.1 hz h1 h2 e2 ?_ (hH.2.2.put e2 e3 (Nat.le_add_right _ _)))
  exact hH.2.1.set (sj_wsD X s) he ⟨_, hq, t_OB.to (V := updV (vp_V (sj_fs X s a ci)) k v) ⟨_, e1, q2, q3, t_set q4 hap hk v⟩ (fun j _ => vp_updV_set hl v j)⟩ e3
end WRows
section RulesD
variable {X : sj_X} {M : sj_M} {s0 s : sj_Mem} {o : Option sj_V × sj_Mem} {pc : Nat} {lo : List (Option sj_V)} {st : List sj_V}
theorem r_gI {β : Type} {q : β} {K : Int → Option β} {ci k0 a idx : Nat} (h : e_gI ci k0 a s K = some q) (hd : decode M.2.1 pc = .ok (.getfield idx, 3)) (hw : sj_fw M.1.cls idx ci k0) (hk : sj_kt ci k0 = 0) (k : ∀ v, K v = some q → sj_T X M s0 o (pc + 3) lo (sj_i v :: st) s) : sj_T X M s0 o pc lo (sj_r (some a) :: st) s := by
  unfold e_gI at h
  by_cases hc : sj_is s.1 a ci
  · rw [if_pos hc] at h
    have k := k _ h
    refine ⟨k.1, fun p e R S m args below meth c Q H ls locs E hR hQ h0 hl hH => ?_⟩
    have kk := k.2 p e R S m args below meth c Q H ls locs E hR hQ h0 hl hH
    refine sj_getW E hH hw hc hd ?_
    rw [hk]
    exact kk
  · rw [if_neg hc] at h; cases h

theorem r_gJ {β : Type} {q : β} {K : Int → Option β} {ci k0 a idx : Nat} (h : e_gI ci k0 a s K = some q) (hd : decode M.2.1 pc = .ok (.getfield idx, 3)) (hw : sj_fw M.1.cls idx ci k0) (hk : sj_kt ci k0 = 1) (k : ∀ v, K v = some q → sj_T X M s0 o (pc + 3) lo (sj_j v :: st) s) : sj_T X M s0 o pc lo (sj_r (some a) :: st) s := by
  unfold e_gI at h
  by_cases hc : sj_is s.1 a ci
  · rw [if_pos hc] at h
    have k := k _ h
    refine ⟨k.1, fun p e R S m args below meth c Q H ls locs E hR hQ h0 hl hH => ?_⟩
    have kk := k.2 p e R S m args below meth c Q H ls locs E hR hQ h0 hl hH
    refine sj_getW E hH hw hc hd ?_
    rw [hk]
    exact kk
  · rw [if_neg hc] at h; cases h

theorem r_gR {β : Type} {q : β} {K : Option Nat → Option β} {ci k0 a idx : Nat} (h : e_gR ci k0 a s K = some q) (hd : decode M.2.1 pc = .ok (.getfield idx, 3)) (hw : sj_fw M.1.cls idx ci k0) (hk : sj_kt ci k0 = 2) (k : ∀ v, K v = some q → sj_T X M s0 o (pc + 3) lo (sj_r v :: st) s) : sj_T X M s0 o pc lo (sj_r (some a) :: st) s := by
  unfold e_gR at h
  by_cases hc : sj_is s.1 a ci
  · rw [if_pos hc] at h
    have k := k _ h
    refine ⟨k.1, fun p e R S m args below meth c Q H ls locs E hR hQ h0 hl hH => ?_⟩
    have kk := k.2 p e R S m args below meth c Q H ls locs E hR hQ h0 hl hH
    refine sj_getW E hH hw hc hd ?_
    rw [hk]
    exact kk
  · rw [if_neg hc] at h; cases h

theorem sj_ent_pI {X : sj_X} {s : sj_Mem} {a ci k : Nat} {v : Int} (hci : ci < 99) (hc : (s.1.1 a).1 = ci) (hk : k < sj_nf ci) (h0 : sj_kt ci k = 0) : sj_ent X (sj_put s a k v) a = .inr (ci, (sj_fs X s a ci).set k (.int (Int32.ofInt v))) := by
  rw [sj_ent_o (s := sj_put s a k v) hc hci, sj_fs_set (s := s) (s' := sj_put s a k v) hk (w := .int (Int32.ofInt v)) ?_ ?_]
  · rw [h0]
    show Value.int (Int32.ofInt (sj_up s.2 a k v a k)) = _
    unfold sj_up; rw [if_pos ⟨rfl, rfl⟩]
  · intro j hj
    have : (sj_put s a k v).2 a j = s.2 a j := by show sj_up s.2 a k v a j = _; unfold sj_up; rw [if_neg (fun q => hj q.2)]
    unfold sj_fv
    rw [this]; rfl
theorem sj_ent_pJ {X : sj_X} {s : sj_Mem} {a ci k : Nat} {v : Int} (hci : ci < 99) (hc : (s.1.1 a).1 = ci) (hk : k < sj_nf ci) (h0 : sj_kt ci k = 1) : sj_ent X (sj_put s a k v) a = .inr (ci, (sj_fs X s a ci).set k (.long (Int64.ofInt v))) := by
  rw [sj_ent_o (s := sj_put s a k v) hc hci, sj_fs_set (s := s) (s' := sj_put s a k v) hk (w := .long (Int64.ofInt v)) ?_ ?_]
  · rw [h0]
    show Value.long (Int64.ofInt (sj_up s.2 a k v a k)) = _
    unfold sj_up; rw [if_pos ⟨rfl, rfl⟩]
  · intro j hj
    have : (sj_put s a k v).2 a j = s.2 a j := by show sj_up s.2 a k v a j = _; unfold sj_up; rw [if_neg (fun q => hj q.2)]
    unfold sj_fv
    rw [this]; rfl
theorem sj_ent_pR {X : sj_X} {s : sj_Mem} {a ci k : Nat} {v : Option Nat} (hci : ci < 99) (hc : (s.1.1 a).1 = ci) (hk : k < sj_nf ci) (h0 : sj_kt ci k = 2) : sj_ent X (sj_putR s a k v) a = .inr (ci, (sj_fs X s a ci).set k (sj_rv X v)) := by
  rw [sj_ent_o (s := sj_putR s a k v) hc hci, sj_fs_set (s := s) (s' := sj_putR s a k v) hk (w := sj_rv X v) ?_ ?_]
  · rw [h0]
    show sj_rv X (sj_up s.1.2.1 a k v a k) = _
    unfold sj_up; rw [if_pos ⟨rfl, rfl⟩]
  · intro j hj
    have : (sj_putR s a k v).1.2.1 a j = s.1.2.1 a j := by show sj_up s.1.2.1 a k v a j = _; unfold sj_up; rw [if_neg (fun q => hj q.2)]
    unfold sj_fv
    rw [this]; rfl
theorem sj_fwk {own : String} {idx ci k : Nat} (hw : sj_fw own idx ci k) : ci < 99 ∧ k < sj_nf ci := by
  obtain ⟨q, hq, hk, -⟩ := hw
  exact ⟨by have := sj_ci hq; omega, by rw [(sj_cls hq).2.2.2.1]; exact hk⟩

theorem r_pI {β : Type} {q : β} {K : sj_Mem → Option β} {ci k0 a idx : Nat} {v : Int} (h : e_pI ci k0 a v s K = some q) (hd : decode M.2.1 pc = .ok (.putfield idx, 3)) (hw : sj_fw M.1.cls idx ci k0) (hk : sj_kt ci k0 = 0) (hty : sj_ty ci k0 = .int) (hfin : ∀ q : vw_C, vwCl[ci]? = some q → (q.2.1 k0).2.2.2 = false) (k : ∀ s', K s' = some q → sj_T X M s0 o (pc + 3) lo (st) s') : sj_T X M s0 o pc lo (sj_i v :: sj_r (some a) :: st) s := by
  unfold e_pI at h
  by_cases hc : sj_is s.1 a ci
  · rw [if_pos hc] at h
    have k := k _ h
    refine ⟨k.1, fun p e R S m args below meth c Q H ls locs E hR hQ h0 hl hH => ?_⟩
    have hb := sj_fwk hw
    refine sj_putW E hH hw hc hfin (v := .int (Int32.ofInt v)) (by rw [hty]; exact rfl) (by rw [hty]; exact rfl) (s' := sj_put s a k0 v) rfl (sj_ent_pI hb.1 hc.2 hb.2 hk) (fun x hx => sj_ent_put hx) hd (fun H locs hH => ?_)
    exact k.2 p e R S m args below meth c Q H ls locs E hR hQ h0 hl hH
  · rw [if_neg hc] at h; cases h

theorem r_pZ {β : Type} {q : β} {K : sj_Mem → Option β} {ci k0 a idx : Nat} {v : Int} (h : e_pZ ci k0 a v s K = some q) (hd : decode M.2.1 pc = .ok (.putfield idx, 3)) (hw : sj_fw M.1.cls idx ci k0) (hk : sj_kt ci k0 = 0) (hty : sj_ty ci k0 = .boolean) (hfin : ∀ q : vw_C, vwCl[ci]? = some q → (q.2.1 k0).2.2.2 = false) (k : ∀ s', K s' = some q → sj_T X M s0 o (pc + 3) lo (st) s') : sj_T X M s0 o pc lo (sj_i v :: sj_r (some a) :: st) s := by
  unfold e_pZ at h
  by_cases hc : sj_is s.1 a ci ∧ (v = 0 ∨ v = 1)
  · rw [if_pos hc] at h
    have k := k _ h
    refine ⟨k.1, fun p e R S m args below meth c Q H ls locs E hR hQ h0 hl hH => ?_⟩
    have hb := sj_fwk hw
    refine sj_putW E hH hw hc.1 hfin (v := .int (Int32.ofInt v)) (by rw [hty]; exact (by rcases hc.2 with rfl | rfl <;> rfl)) (by rw [hty]; exact (by rcases hc.2 with rfl | rfl <;> rfl)) (s' := sj_put s a k0 v) rfl (sj_ent_pI hb.1 hc.1.2 hb.2 hk) (fun x hx => sj_ent_put hx) hd (fun H locs hH => ?_)
    exact k.2 p e R S m args below meth c Q H ls locs E hR hQ h0 hl hH
  · rw [if_neg hc] at h; cases h

theorem r_pJ {β : Type} {q : β} {K : sj_Mem → Option β} {ci k0 a idx : Nat} {v : Int} (h : e_pI ci k0 a v s K = some q) (hd : decode M.2.1 pc = .ok (.putfield idx, 3)) (hw : sj_fw M.1.cls idx ci k0) (hk : sj_kt ci k0 = 1) (hty : sj_ty ci k0 = .long) (hfin : ∀ q : vw_C, vwCl[ci]? = some q → (q.2.1 k0).2.2.2 = false) (k : ∀ s', K s' = some q → sj_T X M s0 o (pc + 3) lo (st) s') : sj_T X M s0 o pc lo (sj_j v :: sj_r (some a) :: st) s := by
  unfold e_pI at h
  by_cases hc : sj_is s.1 a ci
  · rw [if_pos hc] at h
    have k := k _ h
    refine ⟨k.1, fun p e R S m args below meth c Q H ls locs E hR hQ h0 hl hH => ?_⟩
    have hb := sj_fwk hw
    refine sj_putW E hH hw hc hfin (v := .long (Int64.ofInt v)) (by rw [hty]; exact rfl) (by rw [hty]; exact rfl) (s' := sj_put s a k0 v) rfl (sj_ent_pJ hb.1 hc.2 hb.2 hk) (fun x hx => sj_ent_put hx) hd (fun H locs hH => ?_)
    exact k.2 p e R S m args below meth c Q H ls locs E hR hQ h0 hl hH
  · rw [if_neg hc] at h; cases h

theorem sj_by8 {v : Int} (h : -128 ≤ v ∧ v ≤ 127) : (Int32.ofInt v).toInt8.toInt32 = Int32.ofInt v := by
  rw [sj_i2b]
  congr 1
  exact Int.bmod_eq_of_le (by omega) (by omega)
theorem sj_nrR {X : sj_X} {ty : FieldType} (h : (∃ C, ty = .object C) ∨ ∃ t, ty = .array t) (r : Option Nat) : narrow ty (sj_rv X r) = sj_rv X r ∧ fits ty (sj_rv X r) = true := by
  rcases h with ⟨C, rfl⟩ | ⟨t, rfl⟩ <;> cases r <;> exact ⟨rfl, rfl⟩

theorem r_pR {β : Type} {q : β} {K : sj_Mem → Option β} {ci k0 a idx : Nat} {v : Option Nat} (h : e_pR ci k0 a v s K = some q) (hd : decode M.2.1 pc = .ok (.putfield idx, 3)) (hw : sj_fw M.1.cls idx ci k0) (hfin : ∀ q : vw_C, vwCl[ci]? = some q → (q.2.1 k0).2.2.2 = false) (hk : sj_kt ci k0 = 2) (hty : (∃ C, sj_ty ci k0 = .object C) ∨ ∃ t, sj_ty ci k0 = .array t) (k : ∀ s', K s' = some q → sj_T X M s0 o (pc + 3) lo (st) s') : sj_T X M s0 o pc lo (sj_r v :: sj_r (some a) :: st) s := by
  unfold e_pR at h
  by_cases hc : sj_is s.1 a ci
  · rw [if_pos hc] at h
    have k := k _ h
    refine ⟨k.1, fun p e R S m args below meth c Q H ls locs E hR hQ h0 hl hH => ?_⟩
    have hb := sj_fwk hw
    have hnf := sj_nrR (X := X) hty v
    refine sj_putW E hH hw hc hfin (v := sj_rv X v) hnf.1 hnf.2 (s' := sj_putR s a k0 v) rfl (sj_ent_pR hb.1 hc.2 hb.2 hk) (fun x hx => sj_ent_putR hx) hd (fun H locs hH => ?_)
    exact k.2 p e R S m args below meth c Q H ls locs E hR hQ h0 hl hH
  · rw [if_neg hc] at h; cases h

theorem r_pF {β : Type} {q : β} {K : sj_Mem → Option β} {ci k0 a idx : Nat} {v : Option Nat} (h : e_pR ci k0 a v s K = some q) (hd : decode M.2.1 pc = .ok (.putfield idx, 3)) (hw : ∃ q : vw_C, vwCl[ci]? = some q ∧ k0 < q.2.2 ∧ Cond.fieldLink M.1.cls idx (q.2.1 k0).1 (q.2.1 k0).2.1 (q.2.1 k0).2.2.1 ∈ sj_kw ∧ (q.2.1 k0).2.2.2 = true ∧ (q.2.1 k0).1 = M.1.cls) (hin2 : M.1.name = "<init>") (hk : sj_kt ci k0 = 2) (hty : (∃ C, sj_ty ci k0 = .object C) ∨ ∃ t, sj_ty ci k0 = .array t) (k : ∀ s', K s' = some q → sj_T X M s0 o (pc + 3) lo (st) s') : sj_T X M s0 o pc lo (sj_r v :: sj_r (some a) :: st) s := by
  unfold e_pR at h
  by_cases hc : sj_is s.1 a ci
  · rw [if_pos hc] at h
    have k := k _ h
    refine ⟨k.1, fun p e R S m args below meth c Q H ls locs E hR hQ h0 hl hH => ?_⟩
    have hb : ci < 99 ∧ k0 < sj_nf ci := by
      obtain ⟨q, hq, hk, -⟩ := hw
      exact ⟨by have := sj_ci hq; omega, by rw [(sj_cls hq).2.2.2.1]; exact hk⟩
    have hnf := sj_nrR (X := X) hty v
    refine sj_putFW E hH hw hin2 hc  (v := sj_rv X v) hnf.1 hnf.2 (s' := sj_putR s a k0 v) rfl (sj_ent_pR hb.1 hc.2 hb.2 hk) (fun x hx => sj_ent_putR hx) hd (fun H locs hH => ?_)
    exact k.2 p e R S m args below meth c Q H ls locs E hR hQ h0 hl hH
  · rw [if_neg hc] at h; cases h

theorem r_iaload {β : Type} {q : β} {K : Int → Option β} {a : Nat} {j : Int} (h : e_aI 100 a j s K = some q) (hd : decode M.2.1 pc = .ok (.iaload, 1)) (k : ∀ v, K v = some q → sj_T X M s0 o (pc + 1) lo (sj_i v :: st) s) : sj_T X M s0 o pc lo (sj_i j :: sj_r (some a) :: st) s := by
  unfold e_aI at h
  by_cases hc : 0 ≤ j ∧ j < sj_len s.1 100 a
  · rw [if_pos hc] at h
    have k := k _ h
    refine ⟨k.1, fun p e R S m args below meth c Q H ls locs E hR hQ h0 hl hH => ?_⟩
    obtain ⟨ha, hb, hi, hlt⟩ := sj_len_in hc.1 hc.2
    have kk := k.2 p e R S m args below meth c Q H ls locs E hR hQ h0 hl hH
    refine va_iald E.1 E.2.1 E.2.2.2.2.2.2.2.2.1 hH.2.1 a 0 (by rw [sj_ws_get ha, sj_ent_i hb (Or.inl rfl)]) rfl (sj_inb hc.1 hi hlt) hd ?_
    rw [sj_ix hc.1 hi]
    exact kk
  · rw [if_neg hc] at h; cases h

theorem r_zaload {β : Type} {q : β} {K : Int → Option β} {a : Nat} {j : Int} (h : e_aI 102 a j s K = some q) (hd : decode M.2.1 pc = .ok (.baload, 1)) (k : ∀ v, K v = some q → sj_T X M s0 o (pc + 1) lo (sj_i v :: st) s) : sj_T X M s0 o pc lo (sj_i j :: sj_r (some a) :: st) s := by
  unfold e_aI at h
  by_cases hc : 0 ≤ j ∧ j < sj_len s.1 102 a
  · rw [if_pos hc] at h
    have k := k _ h
    refine ⟨k.1, fun p e R S m args below meth c Q H ls locs E hR hQ h0 hl hH => ?_⟩
    obtain ⟨ha, hb, hi, hlt⟩ := sj_len_in hc.1 hc.2
    have kk := k.2 p e R S m args below meth c Q H ls locs E hR hQ h0 hl hH
    refine va_zald E.1 E.2.1 E.2.2.2.2.2.2.2.2.1 hH.2.1 a 2 (by rw [sj_ws_get ha, sj_ent_i hb (Or.inr (Or.inl rfl))]) rfl (sj_inb hc.1 hi hlt) hd ?_
    rw [sj_ix hc.1 hi]
    exact kk
  · rw [if_neg hc] at h; cases h

theorem r_baload {β : Type} {q : β} {K : Int → Option β} {a : Nat} {j : Int} (h : e_aI 103 a j s K = some q) (hd : decode M.2.1 pc = .ok (.baload, 1)) (k : ∀ v, K v = some q → sj_T X M s0 o (pc + 1) lo (sj_i v :: st) s) : sj_T X M s0 o pc lo (sj_i j :: sj_r (some a) :: st) s := by
  unfold e_aI at h
  by_cases hc : 0 ≤ j ∧ j < sj_len s.1 103 a
  · rw [if_pos hc] at h
    have k := k _ h
    refine ⟨k.1, fun p e R S m args below meth c Q H ls locs E hR hQ h0 hl hH => ?_⟩
    obtain ⟨ha, hb, hi, hlt⟩ := sj_len_in hc.1 hc.2
    have kk := k.2 p e R S m args below meth c Q H ls locs E hR hQ h0 hl hH
    refine va_bald E.1 E.2.1 E.2.2.2.2.2.2.2.2.1 hH.2.1 a 3 (by rw [sj_ws_get ha, sj_ent_i hb (Or.inr (Or.inr rfl))]) rfl (sj_inb hc.1 hi hlt) hd ?_
    rw [sj_ix hc.1 hi]
    exact kk
  · rw [if_neg hc] at h; cases h

theorem r_laload {β : Type} {q : β} {K : Int → Option β} {a : Nat} {j : Int} (h : e_aI 101 a j s K = some q) (hd : decode M.2.1 pc = .ok (.laload, 1)) (k : ∀ v, K v = some q → sj_T X M s0 o (pc + 1) lo (sj_j v :: st) s) : sj_T X M s0 o pc lo (sj_i j :: sj_r (some a) :: st) s := by
  unfold e_aI at h
  by_cases hc : 0 ≤ j ∧ j < sj_len s.1 101 a
  · rw [if_pos hc] at h
    have k := k _ h
    refine ⟨k.1, fun p e R S m args below meth c Q H ls locs E hR hQ h0 hl hH => ?_⟩
    obtain ⟨ha, hb, hi, hlt⟩ := sj_len_in hc.1 hc.2
    have kk := k.2 p e R S m args below meth c Q H ls locs E hR hQ h0 hl hH
    refine va_lald E.1 E.2.1 E.2.2.2.2.2.2.2.2.1 hH.2.1 a 1 (by rw [sj_ws_get ha, sj_ent_l hb]) rfl (sj_inb hc.1 hi hlt) hd ?_
    rw [sj_ix hc.1 hi]
    exact kk
  · rw [if_neg hc] at h; cases h

theorem r_aaload {β : Type} {q : β} {K : Option Nat → Option β} {a : Nat} {j : Int} (h : e_aR a j s K = some q) (hd : decode M.2.1 pc = .ok (.aaload, 1)) (k : ∀ v, K v = some q → sj_T X M s0 o (pc + 1) lo (sj_r v :: st) s) : sj_T X M s0 o pc lo (sj_i j :: sj_r (some a) :: st) s := by
  unfold e_aR at h
  by_cases hc : 0 ≤ j ∧ j < sj_len s.1 104 a
  · rw [if_pos hc] at h
    have k := k _ h
    refine ⟨k.1, fun p e R S m args below meth c Q H ls locs E hR hQ h0 hl hH => ?_⟩
    obtain ⟨ha, hb, hi, hlt⟩ := sj_len_in hc.1 hc.2
    have kk := k.2 p e R S m args below meth c Q H ls locs E hR hQ h0 hl hH
    refine va_aldq E.1 E.2.1 E.2.2.2.2.2.2.2.2.1 hH.2.1 a 4 (by rw [sj_ws_get ha, sj_ent_r hb]) rfl (sj_inb hc.1 hi hlt) hd ?_
    rw [sj_ix hc.1 hi]
    exact kk
  · rw [if_neg hc] at h; cases h

theorem r_iastore {β : Type} {q : β} {K : sj_Mem → Option β} {a : Nat} {j v : Int} (h : e_uI 100 a j v s K = some q) (hd : decode M.2.1 pc = .ok (.iastore, 1)) (k : ∀ s', K s' = some q → sj_T X M s0 o (pc + 1) lo (st) s') : sj_T X M s0 o pc lo (sj_i v :: sj_i j :: sj_r (some a) :: st) s := by
  unfold e_uI at h
  by_cases hc : 0 ≤ j ∧ j < sj_len s.1 100 a
  · rw [if_pos hc] at h
    have k := k _ h
    refine ⟨k.1, fun p e R S m args below meth c Q H ls locs E hR hQ h0 hl hH => ?_⟩
    obtain ⟨ha, hb, hi, hlt⟩ := sj_len_in hc.1 hc.2
    have he : (sj_ws X s)[a]? = some (X.1.1 + a, .inl (X.1.2.2 (100 - 100), (s.1.1 a).2, .inl (fun j => Int32.ofInt (s.2 a j)))) := by rw [sj_ws_get ha, sj_ent_i hb (Or.inl rfl)]
    refine W.iast E.1 E.2.1 (hH.2.1 a _ he) ((E.2.2.2.2.2.2.2.2.1.2 0 _ rfl).1 (s.1.1 a).2 (fun j => .int (Int32.ofInt (s.2 a j)))) (fun q => by cases q) (by show ¬ (_ < 0 ∨ (arrV _ _ _).slots.size ≤ _); rw [arrV_size]; exact sj_inb hc.1 hi hlt) rfl rfl hd fun H1 e1 z oq => ?_
    refine k.2 p e R S m args below meth c Q H1 ls _ E hR hQ h0 hl (sj_Hd_set hH ha rfl (sj_ent_i (s := sj_put s a j.toNat v) hb (Or.inl rfl)) (fun x hx => sj_ent_put hx) z (hH.2.1.set (sj_wsD X s) he ?_ oq) (hH.2.2.put z oq (Nat.le_add_right _ _)))
    show H1[X.1.1 + a]? = some (vp_cell _ _)
    rw [e1]
    rw [vp_cell_i, vp_cell_i, arrV_store]
    congr 2
    funext y
    rw [sj_ix hc.1 hi]
    show _ = (fun z => Value.int (Int32.ofInt z)) (sj_up s.2 a j.toNat v a y)
    by_cases hy : y = j.toNat
    · subst hy
      have e9 : sj_up s.2 a j.toNat v a j.toNat = v := by unfold sj_up; rw [if_pos ⟨rfl, rfl⟩]
      rw [e9]
      simp [updV]
      
    · have e9 : sj_up s.2 a j.toNat v a y = s.2 a y := by unfold sj_up; rw [if_neg (fun q => hy q.2)]
      rw [e9]
      simp [updV, hy]
  · rw [if_neg hc] at h; cases h

theorem r_lastore {β : Type} {q : β} {K : sj_Mem → Option β} {a : Nat} {j v : Int} (h : e_uI 101 a j v s K = some q) (hd : decode M.2.1 pc = .ok (.lastore, 1)) (k : ∀ s', K s' = some q → sj_T X M s0 o (pc + 1) lo (st) s') : sj_T X M s0 o pc lo (sj_j v :: sj_i j :: sj_r (some a) :: st) s := by
  unfold e_uI at h
  by_cases hc : 0 ≤ j ∧ j < sj_len s.1 101 a
  · rw [if_pos hc] at h
    have k := k _ h
    refine ⟨k.1, fun p e R S m args below meth c Q H ls locs E hR hQ h0 hl hH => ?_⟩
    obtain ⟨ha, hb, hi, hlt⟩ := sj_len_in hc.1 hc.2
    have he : (sj_ws X s)[a]? = some (X.1.1 + a, .inl (X.1.2.2 1, (s.1.1 a).2, .inr (.inl (fun j => Int64.ofInt (s.2 a j))))) := by rw [sj_ws_get ha, sj_ent_l hb]
    refine W.last E.1 E.2.1 (hH.2.1 a _ he) ((E.2.2.2.2.2.2.2.2.1.2 1 _ rfl).1 (s.1.1 a).2 (fun j => .long (Int64.ofInt (s.2 a j)))) (fun q => by cases q) (by show ¬ (_ < 0 ∨ (arrV _ _ _).slots.size ≤ _); rw [arrV_size]; exact sj_inb hc.1 hi hlt) rfl rfl hd fun H1 e1 z oq => ?_
    refine k.2 p e R S m args below meth c Q H1 ls _ E hR hQ h0 hl (sj_Hd_set hH ha rfl (sj_ent_l (s := sj_put s a j.toNat v) hb) (fun x hx => sj_ent_put hx) z (hH.2.1.set (sj_wsD X s) he ?_ oq) (hH.2.2.put z oq (Nat.le_add_right _ _)))
    show H1[X.1.1 + a]? = some (vp_cell _ _)
    rw [e1]
    rw [vp_cell_l, vp_cell_l, arrV_store]
    congr 2
    funext y
    rw [sj_ix hc.1 hi]
    show _ = (fun z => Value.long (Int64.ofInt z)) (sj_up s.2 a j.toNat v a y)
    by_cases hy : y = j.toNat
    · subst hy
      have e9 : sj_up s.2 a j.toNat v a j.toNat = v := by unfold sj_up; rw [if_pos ⟨rfl, rfl⟩]
      rw [e9]
      simp [updV]
      
    · have e9 : sj_up s.2 a j.toNat v a y = s.2 a y := by unfold sj_up; rw [if_neg (fun q => hy q.2)]
      rw [e9]
      simp [updV, hy]
  · rw [if_neg hc] at h; cases h

theorem r_zastore {β : Type} {q : β} {K : sj_Mem → Option β} {a : Nat} {j v : Int} (h : e_uZ a j v s K = some q) (hd : decode M.2.1 pc = .ok (.bastore, 1)) (k : ∀ s', K s' = some q → sj_T X M s0 o (pc + 1) lo (st) s') : sj_T X M s0 o pc lo (sj_i v :: sj_i j :: sj_r (some a) :: st) s := by
  unfold e_uZ at h
  by_cases hc : (0 ≤ j ∧ j < sj_len s.1 102 a) ∧ (v = 0 ∨ v = 1)
  · rw [if_pos hc] at h
    have k := k _ h
    refine ⟨k.1, fun p e R S m args below meth c Q H ls locs E hR hQ h0 hl hH => ?_⟩
    obtain ⟨ha, hb, hi, hlt⟩ := sj_len_in hc.1.1 hc.1.2
    have he : (sj_ws X s)[a]? = some (X.1.1 + a, .inl (X.1.2.2 (102 - 100), (s.1.1 a).2, .inl (fun j => Int32.ofInt (s.2 a j)))) := by rw [sj_ws_get ha, sj_ent_i hb (Or.inr (Or.inl rfl))]
    refine W.zast E.1 E.2.1 (hH.2.1 a _ he) ((E.2.2.2.2.2.2.2.2.1.2 2 _ rfl).1 (s.1.1 a).2 (fun j => .int (Int32.ofInt (s.2 a j)))) (fun q => by cases q) (by show ¬ (_ < 0 ∨ (arrV _ _ _).slots.size ≤ _); rw [arrV_size]; exact sj_inb hc.1.1 hi hlt) rfl rfl hd fun H1 e1 z oq => ?_
    refine k.2 p e R S m args below meth c Q H1 ls _ E hR hQ h0 hl (sj_Hd_set hH ha rfl (sj_ent_i (s := sj_put s a j.toNat v) hb (Or.inr (Or.inl rfl))) (fun x hx => sj_ent_put hx) z (hH.2.1.set (sj_wsD X s) he ?_ oq) (hH.2.2.put z oq (Nat.le_add_right _ _)))
    show H1[X.1.1 + a]? = some (vp_cell _ _)
    rw [e1]
    rw [vp_cell_i, vp_cell_i, arrV_store]
    congr 2
    funext y
    rw [sj_ix hc.1.1 hi]
    show _ = (fun z => Value.int (Int32.ofInt z)) (sj_up s.2 a j.toNat v a y)
    by_cases hy : y = j.toNat
    · subst hy
      have e9 : sj_up s.2 a j.toNat v a j.toNat = v := by unfold sj_up; rw [if_pos ⟨rfl, rfl⟩]
      rw [e9]
      simp [updV]
      rcases hc.2 with rfl | rfl <;> rfl
    · have e9 : sj_up s.2 a j.toNat v a y = s.2 a y := by unfold sj_up; rw [if_neg (fun q => hy q.2)]
      rw [e9]
      simp [updV, hy]
  · rw [if_neg hc] at h; cases h

theorem r_bastore {β : Type} {q : β} {K : sj_Mem → Option β} {a : Nat} {j v : Int} (h : e_uB a j v s K = some q) (hd : decode M.2.1 pc = .ok (.bastore, 1)) (k : ∀ s', K s' = some q → sj_T X M s0 o (pc + 1) lo (st) s') : sj_T X M s0 o pc lo (sj_i v :: sj_i j :: sj_r (some a) :: st) s := by
  unfold e_uB at h
  by_cases hc : (0 ≤ j ∧ j < sj_len s.1 103 a) ∧ (-128 ≤ v ∧ v ≤ 127)
  · rw [if_pos hc] at h
    have k := k _ h
    refine ⟨k.1, fun p e R S m args below meth c Q H ls locs E hR hQ h0 hl hH => ?_⟩
    obtain ⟨ha, hb, hi, hlt⟩ := sj_len_in hc.1.1 hc.1.2
    have he : (sj_ws X s)[a]? = some (X.1.1 + a, .inl (X.1.2.2 (103 - 100), (s.1.1 a).2, .inl (fun j => Int32.ofInt (s.2 a j)))) := by rw [sj_ws_get ha, sj_ent_i hb (Or.inr (Or.inr rfl))]
    refine W.bast E.1 E.2.1 (hH.2.1 a _ he) ((E.2.2.2.2.2.2.2.2.1.2 3 _ rfl).1 (s.1.1 a).2 (fun j => .int (Int32.ofInt (s.2 a j)))) (fun q => by cases q) (by show ¬ (_ < 0 ∨ (arrV _ _ _).slots.size ≤ _); rw [arrV_size]; exact sj_inb hc.1.1 hi hlt) rfl rfl hd fun H1 e1 z oq => ?_
    refine k.2 p e R S m args below meth c Q H1 ls _ E hR hQ h0 hl (sj_Hd_set hH ha rfl (sj_ent_i (s := sj_put s a j.toNat v) hb (Or.inr (Or.inr rfl))) (fun x hx => sj_ent_put hx) z (hH.2.1.set (sj_wsD X s) he ?_ oq) (hH.2.2.put z oq (Nat.le_add_right _ _)))
    show H1[X.1.1 + a]? = some (vp_cell _ _)
    rw [e1]
    rw [vp_cell_i, vp_cell_i, arrV_store]
    congr 2
    funext y
    rw [sj_ix hc.1.1 hi]
    show _ = (fun z => Value.int (Int32.ofInt z)) (sj_up s.2 a j.toNat v a y)
    by_cases hy : y = j.toNat
    · subst hy
      have e9 : sj_up s.2 a j.toNat v a j.toNat = v := by unfold sj_up; rw [if_pos ⟨rfl, rfl⟩]
      rw [e9]
      simp [updV]
      exact congrArg Value.int (sj_by8 hc.2)
    · have e9 : sj_up s.2 a j.toNat v a y = s.2 a y := by unfold sj_up; rw [if_neg (fun q => hy q.2)]
      rw [e9]
      simp [updV, hy]
  · rw [if_neg hc] at h; cases h

end RulesD
