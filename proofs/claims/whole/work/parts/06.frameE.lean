section CopyRow
variable {p : Program} {l : Launch} {e : Env} {R : Room} {s : State} {m : MethodId} {args : Array Value} {below : List Frame} {meth : Method} {c : Code} {H : Heap} {locs : List Loc} {cells slots : Nat} {Q : State → Prop} {cc : ByteArray} {pc : Nat} {ls : Array Slot} {rest : List Value} {D : va_G} {cl : List vw_C} {A : Nat → Prop} {tys : List (ClassId × FieldType)} {ws : va_W} {H0 : Heap}
/-- System.arraycopy between two int arrays of the world; the heap keeps its size -/
theorem sj_copyi (hexec : p.tables.exec = Jvm.exec) (hb : c.code = cc) (hml : c.maxLocals = ls.size) {own : String} {index : Nat} (hown : s.vm.findClass own = some m.cls) (w1 : (Cond.methodLink own index arraycopyName).before args s = true) (w2 : (Cond.native arraycopyName).before args s = true) (w3 : (Cond.static arraycopyName).before args s = true) (w4 : (Cond.initialized "java/lang/System").before args s = true)
    (hK : va_K D cl tys s) (hP : va_P D cl ws H) (hD : va_D A ws) (hS : va_S A H0 H locs) (q0 q1 t0 t1 : Nat) {a0 a1 : Nat} {c0 c1 : ClassId} {n0 n1 : Nat} {f g : Nat → Int32} (ha0 : ws[q0]? = some (a0, .inl (c0, n0, .inl f))) (ha1 : ws[q1]? = some (a1, .inl (c1, n1, .inl g))) (ht0 : tys[t0]? = some (c0, .int)) (ht1 : tys[t1]? = some (c1, .int)) (hprim : refKind .int = false)
    {sp dp n : Int32} (h1 : ¬ sp < 0) (h2 : ¬ dp < 0) (h3 : ¬ n < 0) (h4 : sp.toNatClampNeg + n.toNatClampNeg ≤ n0) (h5 : dp.toNatClampNeg + n.toNatClampNeg ≤ n1) (hfit : ∀ i, i < n.toNatClampNeg → fits .int (.int (f (sp.toNatClampNeg + i))) = true)
    (hframes : 1 ≤ R.frames) (hlocals : (rest.map fun v => v.category).sum + (nativeFrameWords "java/lang/System" "arraycopy" 5 + 11) ≤ R.locals) (hdg : decode cc pc = .ok (.invokestatic index, 3))
    (kk : ∀ (H1 : Heap) (locs1 : List Loc), H1.size = H.size → va_P D cl (ws.set q1 (a1, .inl (c1, n1, .inl (va_cpy f g sp.toNatClampNeg dp.toNatClampNeg n.toNatClampNeg)))) H1 → va_S A H0 H1 locs1 → W p l e R s m args below meth c H1 locs1 cells slots Q (F0 m (pc + 3) ls rest)) : W p l e R s m args below meth c H locs cells slots Q (F0 m pc ls (.int n :: .int dp :: .ref a1 :: .int sp :: .ref a0 :: rest)) := by
  have nn : ∀ z : Int32, ¬ z < 0 → z.toInt = (z.toNatClampNeg : Int) := fun z hz => by
    have : (0 : Int) ≤ z.toInt := by simpa using Int32.le_iff_toInt_le.mp (Int32.not_lt.mp hz)
    show z.toInt = ((z.toInt.toNat : Nat) : Int)
    omega
  intro T hT X
  have hc0 : H[a0]? = some (vp_cell c0 (n0, .inl f)) := hP q0 _ ha0
  have hc1 : H[a1]? = some (vp_cell c1 (n1, .inl g)) := hP q1 _ ha1
  have lt1 : a1 < H.size := (Array.getElem?_eq_some_iff.mp hc1).1
  obtain ⟨-, k0, hk0, cm0, hkk0⟩ := (hK.2 t0 _ ht0).1 n0 (fun j => .int (f j))
  obtain ⟨-, k1, hk1, cm1, hkk1⟩ := (hK.2 t1 _ ht1).1 n1 (fun j => .int (g j))
  have rd : ∀ i, i < n.toNatClampNeg → (vp_cell c0 (n0, .inl f)).slots.getD (sp.toNatClampNeg + i) .null = .int (f (sp.toNatClampNeg + i)) := fun i hi => by
    show (arrV c0 n0 (fun j => .int (f j))).slots.getD _ _ = _
    rw [Array.getD_eq_getD_getElem?, arrV_read _ _ (by omega)]
    rfl
  obtain ⟨vm', X', step⟩ := X.arraycopy hexec hown w1 w2 w3 w4 (src := a0) (dst := a1) (cs := vp_cell c0 (n0, .inl f)) (cd := vp_cell c1 (n1, .inl g)) (srcPos := sp) (destPos := dp) (n := n) (by rw [hT]; exact hc0) (by rw [hT]; exact hc1)
    (fun _ h => by cases h) (fun _ h => by cases h) (fun h => by cases h) (fun h => by cases h) hk0 hk1 hkk0 hkk1 (by simp [hprim]) h1 h2 h3
    (by rw [nn sp h1, nn n h3]; show ¬ _ > ((arrV c0 n0 (fun j => .int (f j))).slots.size : Int); rw [arrV_size]; omega)
    (by rw [nn dp h2, nn n h3]; show ¬ _ > ((arrV c1 n1 (fun j => .int (g j))).slots.size : Int); rw [arrV_size]; omega)
    (fun vm₁ _ i hi => ⟨by rw [rd i hi]; exact hfit i hi, by rw [rd i hi]; exact trivial⟩)
    (g := F0 m pc ls (.int n :: .int dp :: .ref a1 :: .int sp :: .ref a0 :: rest)) rfl (by rw [hml]) (rest := rest) rfl (by rw [hb]; exact hdg) hframes (by show 2 * 0 + _ + _ ≤ _; omega)
  rw [show copied (vp_cell c0 (n0, .inl f)) (vp_cell c1 (n1, .inl g)) sp dp n = vp_cell c1 (n1, .inl (va_cpy f g sp.toNatClampNeg dp.toNatClampNeg n.toNatClampNeg)) from va_copied (fun z => .int z) c0 c1 f g h4] at X' step
  generalize hw : vp_cell c1 (n1, .inl (va_cpy f g sp.toNatClampNeg dp.toNatClampNeg n.toNatClampNeg)) = w at X' step
  have hheap : ((T.setVm vm').setCell a1 w).heap = H.setIfInBounds a1 w := by rw [← hT]; rfl
  have oq : ∀ q : Nat, q ≠ a1 → (H.setIfInBounds a1 w)[q]? = H[q]? := fun q hq => by simp [Array.getElem?_setIfInBounds, Ne.symm hq]
  have sq : (H.setIfInBounds a1 w)[a1]? = some w := by simp [Array.getElem?_setIfInBounds, lt1]
  obtain ⟨t, b1, b2⟩ := kk (H.setIfInBounds a1 w) _ (by simp) (hP.set hD ha1 (show (H.setIfInBounds a1 w)[a1]? = some _ by rw [sq, hw]) oq) ⟨by simp; exact hS.1, fun q g1 g2 => by
      rw [oq q (fun e => g2 (by rw [e]; exact hD.2 q1 _ ha1))]
      exact hS.2.1 q g1 g2, fun q hq => by
      rcases List.mem_append.mp hq with h | h
      · exact hS.2.2 q h
      · obtain ⟨z, -, hz⟩ := List.mem_map.mp h
        rw [← hz]
        exact hD.2 q1 _ ha1⟩ _ hheap X'
  exact ⟨t, step t b1, b2⟩
end CopyRow

/-- a class that a pool entry names can be made -/
def sj_nw (own : String) (idx ci n : Nat) : Prop := ∃ q : vw_C, vwCl[ci]? = some q ∧ Cond.classLink own idx q.1 ∈ sj_kw ∧ Cond.instantiable q.1 q.2.2 ∈ sj_kw ∧ Cond.initialized q.1 ∈ sj_kw ∧ q.2.2 = n
section RulesE
variable {X : sj_X} {M : sj_M} {s0 s : sj_Mem} {o : Option sj_V × sj_Mem} {pc : Nat} {lo : List (Option sj_V)} {st : List sj_V}
theorem r_new {β : Type} {q : β} {K : Nat → sj_Mem → Option β} {ci n idx : Nat} (h : e_nO ci n s K = some q) (hd : decode M.2.1 pc = .ok (.new idx, 3)) (hw : sj_nw M.1.cls idx ci n) (k : ∀ a s', K a s' = some q → sj_T X M s0 o (pc + 3) lo (sj_r (some a) :: st) s') : sj_T X M s0 o pc lo (st) s := by
  unfold e_nO at h
  have k := k _ _ h
  obtain ⟨⟨C, T, N⟩, hq, w1, w2, w3, w4⟩ := hw
  have hcl := sj_cls hq
  have hci := sj_ci hq
  have w4 : N = n := w4
  subst w4
  have k1 : sj_sz s + 1 ≤ sj_sz o.2 ∧ sj_sl s + N ≤ sj_sl o.2 := k.1
  refine ⟨⟨by omega, by omega⟩, fun p e R S m args below meth c Q H ls locs E hR hQ h0 hl hH => ?_⟩
  obtain ⟨E1, E2, E3, E4, E5, E6, E7, E8, E9⟩ := id E
  have hKn := E9.1.1 ci _ hq
  refine W.newcK E1 E2 E4 (E5 _ w1) (E5 _ w2) (E5 _ w3) rfl hd (by omega) (by omega) hKn.2.1 hH.1 fun H1 kC hkC e1 z1 o1 => ?_
  refine W.cs (cells' := sj_sz s + 1 - sj_sz s0) (slots' := sj_sl s + N - sj_sl s0) (by omega) (by omega) ?_
  refine k.2 p e R S m args below meth c Q H1 ls locs E hR hQ ⟨by show _ ≤ sj_sz s + 1; omega, by show _ ≤ sj_sl s + N; omega⟩ hl ⟨by rw [z1]; rfl, ?_, ?_⟩
  · rw [← sj_ws_push (s := s) (s' := sj_new s ci 0 N) rfl rfl (fun x hx => sj_ent_new hx)]
    refine (hH.2.1.kept (fun k x hx => o1 x.1 (by rw [← hH.1]; exact (hH.2.1 k x hx).lt))).app (fun k x hx => ?_)
    have hz : k < 1 := (List.getElem?_eq_some_iff.mp hx).1
    rw [show k = 0 by omega] at hx
    cases hx
    have hk0 : ((sj_new s ci 0 N).1.1 (sj_sz s)).1 = ci := by show (if sj_sz s = sj_sz s then (ci, 0) else _).1 = ci; rw [if_pos rfl]
    rw [sj_ent_o hk0 (by omega)]
    refine ⟨_, hq, (u_born (sj_ty ci) E5 hcl.1 hKn hkC e1 hcl.2.1).to (fun j hj => ?_)⟩
    have hj2 : j < sj_nf ci := by rw [hcl.2.2.2.1]; exact hj
    unfold vp_V
    rw [List.getD_eq_getElem?_getD, sj_fs_get hj2, hcl.2.2.2.2 j hj]
    show _ = sj_fv X (sj_new s ci 0 N) (sj_sz s) (sj_kt ci j) j
    have e3 : (sj_new s ci 0 N).2 (sj_sz s) j = 0 := by show (if sj_sz s = sj_sz s then _ else _) = _; rw [if_pos rfl]
    have e4 : (sj_new s ci 0 N).1.2.1 (sj_sz s) j = none := by show (if sj_sz s = sj_sz s then _ else _) = _; rw [if_pos rfl]
    unfold sj_fv sj_zv
    rw [e3, e4]
    rfl
  · exact ⟨Nat.le_trans hH.2.2.1 (by rw [z1, hH.1]; omega), fun x g1 g2 => (o1 x (by rw [← hH.1]; exact Nat.lt_of_lt_of_le g1 hH.2.2.1)).trans (hH.2.2.2.1 x g1 g2), hH.2.2.2.2⟩

theorem r_nA_I {β : Type} {q : β} {K : Nat → sj_Mem → Option β} {n : Int} (h : e_nA 100 n s K = some q) (hd : decode M.2.1 pc = .ok (.newarray .int, 2)) (hw : Cond.arrayClass .int ∈ sj_kw) (k : ∀ a s', K a s' = some q → sj_T X M s0 o (pc + 2) lo (sj_r (some a) :: st) s') : sj_T X M s0 o pc lo (sj_i n :: st) s := by
  unfold e_nA at h
  by_cases hc : 0 ≤ n ∧ n ≤ 65536
  · rw [if_pos hc] at h
    have k := k _ _ h
    have k1 : sj_sz s + 1 ≤ sj_sz o.2 ∧ sj_sl s + n.toNat ≤ sj_sl o.2 := k.1
    refine ⟨⟨by omega, by omega⟩, fun p e R S m args below meth c Q H ls locs E hR hQ h0 hl hH => ?_⟩
    obtain ⟨E1, E2, E3, E4, E5, E6, E7, E8, E9⟩ := id E
    have hi : sj_i32 n := ⟨by omega, by omega⟩
    have hby : n.toNat * componentBytes (newarray.typeOf .int) ≤ 536870912 := Nat.le_trans (Nat.mul_le_mul_right _ (show n.toNat ≤ 65536 by omega)) (by decide)
    refine va_newaK E1 E2 (atype := .int) (E5 _ hw) rfl hd rfl (n := Int32.ofInt n) (N := n.toNat) (by rw [Int32.lt_iff_toInt_lt, sj_t32 hi, Int32.toInt_zero]; omega) (sj_ix hc.1 hi) hby (by omega) (by omega) hH.1 fun H1 cA e1 z1 o1 hAr hNm => ?_
    have hcA : cA = X.1.2.2 0 := Option.some.inj (hNm.symm.trans (E9.1.2 0 _ rfl).2)
    subst hcA
    refine W.cs (cells' := sj_sz s + 1 - sj_sz s0) (slots' := sj_sl s + n.toNat - sj_sl s0) (by omega) (by omega) ?_
    refine k.2 p e R S m args below meth c Q H1 ls locs E hR hQ ⟨by show _ ≤ sj_sz s + 1; omega, by show _ ≤ sj_sl s + n.toNat; omega⟩ hl ⟨by rw [z1]; rfl, ?_, ?_⟩
    · rw [← sj_ws_push (s := s) (s' := sj_new s 100 n.toNat n.toNat) rfl rfl (fun x hx => sj_ent_new hx)]
      refine (hH.2.1.kept (fun k x hx => o1 x.1 (by rw [← hH.1]; exact (hH.2.1 k x hx).lt))).app (fun k x hx => ?_)
      have hz : k < 1 := (List.getElem?_eq_some_iff.mp hx).1
      rw [show k = 0 by omega] at hx
      cases hx
      have hk0 : ((sj_new s 100 n.toNat n.toNat).1.1 (sj_sz s)).1 = 100 := by show (if sj_sz s = sj_sz s then (100, n.toNat) else _).1 = 100; rw [if_pos rfl]
      have hk1 : ((sj_new s 100 n.toNat n.toNat).1.1 (sj_sz s)).2 = n.toNat := by show (if sj_sz s = sj_sz s then (100, n.toNat) else _).2 = n.toNat; rw [if_pos rfl]
      rw [sj_ent_i (s := sj_new s 100 n.toNat n.toNat) hk0 (Or.inl rfl), hk1]
      show H1[X.1.1 + sj_sz s]? = some (vp_cell _ _)
      rw [e1, vp_cell_i]
      congr 2
      funext y
      have e3 : (sj_new s 100 n.toNat n.toNat).2 (sj_sz s) y = 0 := by show (if sj_sz s = sj_sz s then _ else _) = _; rw [if_pos rfl]
      rw [e3]
      rfl
    · exact ⟨Nat.le_trans hH.2.2.1 (by rw [z1, hH.1]; omega), fun x g1 g2 => (o1 x (by rw [← hH.1]; exact Nat.lt_of_lt_of_le g1 hH.2.2.1)).trans (hH.2.2.2.1 x g1 g2), hH.2.2.2.2⟩
  · rw [if_neg hc] at h; cases h

theorem r_nA_J {β : Type} {q : β} {K : Nat → sj_Mem → Option β} {n : Int} (h : e_nA 101 n s K = some q) (hd : decode M.2.1 pc = .ok (.newarray .long, 2)) (hw : Cond.arrayClass .long ∈ sj_kw) (k : ∀ a s', K a s' = some q → sj_T X M s0 o (pc + 2) lo (sj_r (some a) :: st) s') : sj_T X M s0 o pc lo (sj_i n :: st) s := by
  unfold e_nA at h
  by_cases hc : 0 ≤ n ∧ n ≤ 65536
  · rw [if_pos hc] at h
    have k := k _ _ h
    have k1 : sj_sz s + 1 ≤ sj_sz o.2 ∧ sj_sl s + n.toNat ≤ sj_sl o.2 := k.1
    refine ⟨⟨by omega, by omega⟩, fun p e R S m args below meth c Q H ls locs E hR hQ h0 hl hH => ?_⟩
    obtain ⟨E1, E2, E3, E4, E5, E6, E7, E8, E9⟩ := id E
    have hi : sj_i32 n := ⟨by omega, by omega⟩
    have hby : n.toNat * componentBytes (newarray.typeOf .long) ≤ 536870912 := Nat.le_trans (Nat.mul_le_mul_right _ (show n.toNat ≤ 65536 by omega)) (by decide)
    refine va_newaK E1 E2 (atype := .long) (E5 _ hw) rfl hd rfl (n := Int32.ofInt n) (N := n.toNat) (by rw [Int32.lt_iff_toInt_lt, sj_t32 hi, Int32.toInt_zero]; omega) (sj_ix hc.1 hi) hby (by omega) (by omega) hH.1 fun H1 cA e1 z1 o1 hAr hNm => ?_
    have hcA : cA = X.1.2.2 1 := Option.some.inj (hNm.symm.trans (E9.1.2 1 _ rfl).2)
    subst hcA
    refine W.cs (cells' := sj_sz s + 1 - sj_sz s0) (slots' := sj_sl s + n.toNat - sj_sl s0) (by omega) (by omega) ?_
    refine k.2 p e R S m args below meth c Q H1 ls locs E hR hQ ⟨by show _ ≤ sj_sz s + 1; omega, by show _ ≤ sj_sl s + n.toNat; omega⟩ hl ⟨by rw [z1]; rfl, ?_, ?_⟩
    · rw [← sj_ws_push (s := s) (s' := sj_new s 101 n.toNat n.toNat) rfl rfl (fun x hx => sj_ent_new hx)]
      refine (hH.2.1.kept (fun k x hx => o1 x.1 (by rw [← hH.1]; exact (hH.2.1 k x hx).lt))).app (fun k x hx => ?_)
      have hz : k < 1 := (List.getElem?_eq_some_iff.mp hx).1
      rw [show k = 0 by omega] at hx
      cases hx
      have hk0 : ((sj_new s 101 n.toNat n.toNat).1.1 (sj_sz s)).1 = 101 := by show (if sj_sz s = sj_sz s then (101, n.toNat) else _).1 = 101; rw [if_pos rfl]
      have hk1 : ((sj_new s 101 n.toNat n.toNat).1.1 (sj_sz s)).2 = n.toNat := by show (if sj_sz s = sj_sz s then (101, n.toNat) else _).2 = n.toNat; rw [if_pos rfl]
      rw [sj_ent_l (s := sj_new s 101 n.toNat n.toNat) hk0, hk1]
      show H1[X.1.1 + sj_sz s]? = some (vp_cell _ _)
      rw [e1, vp_cell_l]
      congr 2
      funext y
      have e3 : (sj_new s 101 n.toNat n.toNat).2 (sj_sz s) y = 0 := by show (if sj_sz s = sj_sz s then _ else _) = _; rw [if_pos rfl]
      rw [e3]
      rfl
    · exact ⟨Nat.le_trans hH.2.2.1 (by rw [z1, hH.1]; omega), fun x g1 g2 => (o1 x (by rw [← hH.1]; exact Nat.lt_of_lt_of_le g1 hH.2.2.1)).trans (hH.2.2.2.1 x g1 g2), hH.2.2.2.2⟩
  · rw [if_neg hc] at h; cases h

theorem r_nA_Z {β : Type} {q : β} {K : Nat → sj_Mem → Option β} {n : Int} (h : e_nA 102 n s K = some q) (hd : decode M.2.1 pc = .ok (.newarray .boolean, 2)) (hw : Cond.arrayClass .boolean ∈ sj_kw) (k : ∀ a s', K a s' = some q → sj_T X M s0 o (pc + 2) lo (sj_r (some a) :: st) s') : sj_T X M s0 o pc lo (sj_i n :: st) s := by
  unfold e_nA at h
  by_cases hc : 0 ≤ n ∧ n ≤ 65536
  · rw [if_pos hc] at h
    have k := k _ _ h
    have k1 : sj_sz s + 1 ≤ sj_sz o.2 ∧ sj_sl s + n.toNat ≤ sj_sl o.2 := k.1
    refine ⟨⟨by omega, by omega⟩, fun p e R S m args below meth c Q H ls locs E hR hQ h0 hl hH => ?_⟩
    obtain ⟨E1, E2, E3, E4, E5, E6, E7, E8, E9⟩ := id E
    have hi : sj_i32 n := ⟨by omega, by omega⟩
    have hby : n.toNat * componentBytes (newarray.typeOf .boolean) ≤ 536870912 := Nat.le_trans (Nat.mul_le_mul_right _ (show n.toNat ≤ 65536 by omega)) (by decide)
    refine va_newaK E1 E2 (atype := .boolean) (E5 _ hw) rfl hd rfl (n := Int32.ofInt n) (N := n.toNat) (by rw [Int32.lt_iff_toInt_lt, sj_t32 hi, Int32.toInt_zero]; omega) (sj_ix hc.1 hi) hby (by omega) (by omega) hH.1 fun H1 cA e1 z1 o1 hAr hNm => ?_
    have hcA : cA = X.1.2.2 2 := Option.some.inj (hNm.symm.trans (E9.1.2 2 _ rfl).2)
    subst hcA
    refine W.cs (cells' := sj_sz s + 1 - sj_sz s0) (slots' := sj_sl s + n.toNat - sj_sl s0) (by omega) (by omega) ?_
    refine k.2 p e R S m args below meth c Q H1 ls locs E hR hQ ⟨by show _ ≤ sj_sz s + 1; omega, by show _ ≤ sj_sl s + n.toNat; omega⟩ hl ⟨by rw [z1]; rfl, ?_, ?_⟩
    · rw [← sj_ws_push (s := s) (s' := sj_new s 102 n.toNat n.toNat) rfl rfl (fun x hx => sj_ent_new hx)]
      refine (hH.2.1.kept (fun k x hx => o1 x.1 (by rw [← hH.1]; exact (hH.2.1 k x hx).lt))).app (fun k x hx => ?_)
      have hz : k < 1 := (List.getElem?_eq_some_iff.mp hx).1
      rw [show k = 0 by omega] at hx
      cases hx
      have hk0 : ((sj_new s 102 n.toNat n.toNat).1.1 (sj_sz s)).1 = 102 := by show (if sj_sz s = sj_sz s then (102, n.toNat) else _).1 = 102; rw [if_pos rfl]
      have hk1 : ((sj_new s 102 n.toNat n.toNat).1.1 (sj_sz s)).2 = n.toNat := by show (if sj_sz s = sj_sz s then (102, n.toNat) else _).2 = n.toNat; rw [if_pos rfl]
      rw [sj_ent_i (s := sj_new s 102 n.toNat n.toNat) hk0 (Or.inr (Or.inl rfl)), hk1]
      show H1[X.1.1 + sj_sz s]? = some (vp_cell _ _)
      rw [e1, vp_cell_i]
      congr 2
      funext y
      have e3 : (sj_new s 102 n.toNat n.toNat).2 (sj_sz s) y = 0 := by show (if sj_sz s = sj_sz s then _ else _) = _; rw [if_pos rfl]
      rw [e3]
      rfl
    · exact ⟨Nat.le_trans hH.2.2.1 (by rw [z1, hH.1]; omega), fun x g1 g2 => (o1 x (by rw [← hH.1]; exact Nat.lt_of_lt_of_le g1 hH.2.2.1)).trans (hH.2.2.2.1 x g1 g2), hH.2.2.2.2⟩
  · rw [if_neg hc] at h; cases h

theorem r_nA_B {β : Type} {q : β} {K : Nat → sj_Mem → Option β} {n : Int} (h : e_nA 103 n s K = some q) (hd : decode M.2.1 pc = .ok (.newarray .byte, 2)) (hw : Cond.arrayClass .byte ∈ sj_kw) (k : ∀ a s', K a s' = some q → sj_T X M s0 o (pc + 2) lo (sj_r (some a) :: st) s') : sj_T X M s0 o pc lo (sj_i n :: st) s := by
  unfold e_nA at h
  by_cases hc : 0 ≤ n ∧ n ≤ 65536
  · rw [if_pos hc] at h
    have k := k _ _ h
    have k1 : sj_sz s + 1 ≤ sj_sz o.2 ∧ sj_sl s + n.toNat ≤ sj_sl o.2 := k.1
    refine ⟨⟨by omega, by omega⟩, fun p e R S m args below meth c Q H ls locs E hR hQ h0 hl hH => ?_⟩
    obtain ⟨E1, E2, E3, E4, E5, E6, E7, E8, E9⟩ := id E
    have hi : sj_i32 n := ⟨by omega, by omega⟩
    have hby : n.toNat * componentBytes (newarray.typeOf .byte) ≤ 536870912 := Nat.le_trans (Nat.mul_le_mul_right _ (show n.toNat ≤ 65536 by omega)) (by decide)
    refine va_newaK E1 E2 (atype := .byte) (E5 _ hw) rfl hd rfl (n := Int32.ofInt n) (N := n.toNat) (by rw [Int32.lt_iff_toInt_lt, sj_t32 hi, Int32.toInt_zero]; omega) (sj_ix hc.1 hi) hby (by omega) (by omega) hH.1 fun H1 cA e1 z1 o1 hAr hNm => ?_
    have hcA : cA = X.1.2.2 3 := Option.some.inj (hNm.symm.trans (E9.1.2 3 _ rfl).2)
    subst hcA
    refine W.cs (cells' := sj_sz s + 1 - sj_sz s0) (slots' := sj_sl s + n.toNat - sj_sl s0) (by omega) (by omega) ?_
    refine k.2 p e R S m args below meth c Q H1 ls locs E hR hQ ⟨by show _ ≤ sj_sz s + 1; omega, by show _ ≤ sj_sl s + n.toNat; omega⟩ hl ⟨by rw [z1]; rfl, ?_, ?_⟩
    · rw [← sj_ws_push (s := s) (s' := sj_new s 103 n.toNat n.toNat) rfl rfl (fun x hx => sj_ent_new hx)]
      refine (hH.2.1.kept (fun k x hx => o1 x.1 (by rw [← hH.1]; exact (hH.2.1 k x hx).lt))).app (fun k x hx => ?_)
      have hz : k < 1 := (List.getElem?_eq_some_iff.mp hx).1
      rw [show k = 0 by omega] at hx
      cases hx
      have hk0 : ((sj_new s 103 n.toNat n.toNat).1.1 (sj_sz s)).1 = 103 := by show (if sj_sz s = sj_sz s then (103, n.toNat) else _).1 = 103; rw [if_pos rfl]
      have hk1 : ((sj_new s 103 n.toNat n.toNat).1.1 (sj_sz s)).2 = n.toNat := by show (if sj_sz s = sj_sz s then (103, n.toNat) else _).2 = n.toNat; rw [if_pos rfl]
      rw [sj_ent_i (s := sj_new s 103 n.toNat n.toNat) hk0 (Or.inr (Or.inr rfl)), hk1]
      show H1[X.1.1 + sj_sz s]? = some (vp_cell _ _)
      rw [e1, vp_cell_i]
      congr 2
      funext y
      have e3 : (sj_new s 103 n.toNat n.toNat).2 (sj_sz s) y = 0 := by show (if sj_sz s = sj_sz s then _ else _) = _; rw [if_pos rfl]
      rw [e3]
      rfl
    · exact ⟨Nat.le_trans hH.2.2.1 (by rw [z1, hH.1]; omega), fun x g1 g2 => (o1 x (by rw [← hH.1]; exact Nat.lt_of_lt_of_le g1 hH.2.2.1)).trans (hH.2.2.2.1 x g1 g2), hH.2.2.2.2⟩
  · rw [if_neg hc] at h; cases h

theorem r_nA_R {β : Type} {q : β} {K : Nat → sj_Mem → Option β} {n : Int} {idx : Nat} (h : e_nA 104 n s K = some q) (hd : decode M.2.1 pc = .ok (.anewarray idx, 3)) (hw : Cond.classLink M.1.cls idx RX0 ∈ sj_kw) (k : ∀ a s', K a s' = some q → sj_T X M s0 o (pc + 3) lo (sj_r (some a) :: st) s') : sj_T X M s0 o pc lo (sj_i n :: st) s := by
  unfold e_nA at h
  by_cases hc : 0 ≤ n ∧ n ≤ 65536
  · rw [if_pos hc] at h
    have k := k _ _ h
    have k1 : sj_sz s + 1 ≤ sj_sz o.2 ∧ sj_sl s + n.toNat ≤ sj_sl o.2 := k.1
    refine ⟨⟨by omega, by omega⟩, fun p e R S m args below meth c Q H ls locs E hR hQ h0 hl hH => ?_⟩
    obtain ⟨E1, E2, E3, E4, E5, E6, E7, E8, E9⟩ := id E
    have hi : sj_i32 n := ⟨by omega, by omega⟩
    have hix := sj_ix hc.1 hi
    refine W.anew E1 E2 E4 (E5 _ hw) (va_AO.use E9.2.2.1) rfl hd (n := Int32.ofInt n) rfl (by rw [Int32.lt_iff_toInt_lt, sj_t32 hi, Int32.toInt_zero]; omega) (by rw [hix]; omega) (by omega) (by rw [hix]; omega) fun cA kA comp f1 f2 f3 f4 => ?_
    rw [hix, hH.1]
    obtain ⟨-, -, -, -, -, g5⟩ := (E9.1.2 4 _ rfl).2
    have hcA : cA = X.1.2.2 4 := Option.some.inj (f1.symm.trans g5)
    subst hcA
    generalize hH1 : H.push ({ cls := X.1.2.2 4, slots := Array.replicate n.toNat .null, vm := .none } : Cell) = H1
    have z1 : H1.size = X.1.1 + sj_sz s + 1 := by rw [← hH1, Array.size_push, hH.1]
    have e1 : H1[X.1.1 + sj_sz s]? = some (arrV (X.1.2.2 4) n.toNat (fun _ => .null)) := by rw [← hH.1, ← hH1, Array.getElem?_push_size, ← arrV_new]
    have o1 : ∀ q : Nat, q < X.1.1 + sj_sz s → H1[q]? = H[q]? := fun q hq => by rw [← hH1, Array.getElem?_push, if_neg (by rw [hH.1]; omega)]
    refine W.cs (cells' := sj_sz s + 1 - sj_sz s0) (slots' := sj_sl s + n.toNat - sj_sl s0) (by omega) (by omega) ?_
    refine k.2 p e R S m args below meth c Q H1 ls locs E hR hQ ⟨by show _ ≤ sj_sz s + 1; omega, by show _ ≤ sj_sl s + n.toNat; omega⟩ hl ⟨by rw [z1]; rfl, ?_, ?_⟩
    · rw [← sj_ws_push (s := s) (s' := sj_new s 104 n.toNat n.toNat) rfl rfl (fun x hx => sj_ent_new hx)]
      refine (hH.2.1.kept (fun k x hx => o1 x.1 (by rw [← hH.1]; exact (hH.2.1 k x hx).lt))).app (fun k x hx => ?_)
      have hz : k < 1 := (List.getElem?_eq_some_iff.mp hx).1
      rw [show k = 0 by omega] at hx
      cases hx
      have hk0 : ((sj_new s 104 n.toNat n.toNat).1.1 (sj_sz s)).1 = 104 := by show (if sj_sz s = sj_sz s then (104, n.toNat) else _).1 = 104; rw [if_pos rfl]
      have hk1 : ((sj_new s 104 n.toNat n.toNat).1.1 (sj_sz s)).2 = n.toNat := by show (if sj_sz s = sj_sz s then (104, n.toNat) else _).2 = n.toNat; rw [if_pos rfl]
      rw [sj_ent_r hk0, hk1]
      show H1[X.1.1 + sj_sz s]? = some (vp_cell _ _)
      rw [e1, vp_cell_q]
      congr 2
      funext y
      have e3 : (sj_new s 104 n.toNat n.toNat).1.2.1 (sj_sz s) y = none := by show (if sj_sz s = sj_sz s then _ else _) = _; rw [if_pos rfl]
      rw [e3]
      rfl
    · exact ⟨Nat.le_trans hH.2.2.1 (by rw [z1, hH.1]; omega), fun x g1 g2 => (o1 x (by rw [← hH.1]; exact Nat.lt_of_lt_of_le g1 hH.2.2.1)).trans (hH.2.2.2.1 x g1 g2), hH.2.2.2.2⟩
  · rw [if_neg hc] at h; cases h
theorem r_aastore {β : Type} {q : β} {K : sj_Mem → Option β} {a v : Nat} {j : Int} (h : e_uR a j v s K = some q) (hd : decode M.2.1 pc = .ok (.aastore, 1)) (k : ∀ s', K s' = some q → sj_T X M s0 o (pc + 1) lo (st) s') : sj_T X M s0 o pc lo (sj_r (some v) :: sj_i j :: sj_r (some a) :: st) s := by
  unfold e_uR at h
  by_cases hc : (0 ≤ j ∧ j < sj_len s.1 104 a) ∧ sj_is s.1 v 0
  · rw [if_pos hc] at h
    have k := k _ h
    refine ⟨k.1, fun p e R S m args below meth c Q H ls locs E hR hQ h0 hl hH => ?_⟩
    obtain ⟨ha, hb, hi, hlt⟩ := sj_len_in hc.1.1 hc.1.2
    have he : (sj_ws X s)[a]? = some (X.1.1 + a, .inl (X.1.2.2 4, (s.1.1 a).2, .inr (.inr (.inr (.inr (fun j => (s.1.2.1 a j).map (fun x => X.1.1 + x))))))) := by rw [sj_ws_get ha, sj_ent_r hb]
    have hv : (sj_ws X s)[v]? = some (X.1.1 + v, .inr (0, sj_fs X s v 0)) := by rw [sj_ws_get hc.2.1, sj_ent_o hc.2.2 (by decide)]
    obtain ⟨E1, E2, E3, E4, E5, E6, E7, E8, E9⟩ := id E
    obtain ⟨r', hr', cellV, g1, g2, g3, -⟩ := hH.2.1 v _ hv
    have hcls := (E9.1.1 0 _ rfl).2
    obtain ⟨kA, comp, k1, k2, k3, -⟩ := (E9.1.2 4 _ rfl).2
    have hcomp : comp = X.1.2.1.1 0 := Option.some.inj (k3.symm.trans hcls.1)
    subst hcomp
    obtain ⟨kC, hkC, -⟩ := hcls.2
    have hix := sj_ix hc.1.1 hi
    have hin := sj_inb hc.1.1 hi hlt
    refine W.aast E1 E2 (hH.2.1 a _ he) (fun q h => by cases h) (fun h => by cases h) k1 k2 rfl hkC ⟨fun z => hin (Or.inl z), by show _ < (arrV _ _ _).slots.size; rw [arrV_size, hix]; exact hlt⟩ g1 (fun q h => by rw [g3] at h; cases h) (by rw [g2]; exact hkC) (by rw [g2]; exact va_assign hcls) rfl rfl hd fun H1 e1 z oq => ?_
    refine k.2 p e R S m args below meth c Q H1 ls _ E hR hQ h0 hl (sj_Hd_set hH ha rfl (sj_ent_r (s := sj_putR s a j.toNat (some v)) hb) (fun x hx => sj_ent_putR hx) z (hH.2.1.set (sj_wsD X s) he ?_ oq) (hH.2.2.put z oq (Nat.le_add_right _ _)))
    show H1[X.1.1 + a]? = some (vp_cell _ _)
    rw [e1, vp_cell_q, vp_cell_q, arrV_store]
    congr 2
    funext y
    rw [hix]
    show _ = va_rf ((sj_up s.1.2.1 a j.toNat (some v) a y).map _)
    by_cases hy : y = j.toNat
    · subst hy
      have e9 : sj_up s.1.2.1 a j.toNat (some v) a j.toNat = some v := by unfold sj_up; rw [if_pos ⟨rfl, rfl⟩]
      rw [e9]
      simp [updV, va_rf]
    · have e9 : sj_up s.1.2.1 a j.toNat (some v) a y = s.1.2.1 a y := by unfold sj_up; rw [if_neg (fun q => hy q.2)]
      rw [e9]
      simp [updV, hy]
  · rw [if_neg hc] at h; cases h

/-- arraycopy, by a pool entry -/
def sj_yw (own : String) (idx : Nat) : Prop := Cond.methodLink own idx arraycopyName ∈ sj_kw ∧ Cond.native arraycopyName ∈ sj_kw ∧ Cond.static arraycopyName ∈ sj_kw ∧ Cond.initialized "java/lang/System" ∈ sj_kw
theorem r_copy {β : Type} {q : β} {K : sj_Mem → Option β} {a0 a1 idx : Nat} {sp dp n : Int} (h : e_cp a0 sp a1 dp n s K = some q) (hd : decode M.2.1 pc = .ok (.invokestatic idx, 3)) (hw : sj_yw M.1.cls idx) (hdp : 1 ≤ M.2.2.2.2) (hrm : (st.map sj_w).sum ≤ 8) (k : ∀ s', K s' = some q → sj_T X M s0 o (pc + 3) lo (st) s') : sj_T X M s0 o pc lo (sj_i n :: sj_i dp :: sj_r (some a1) :: sj_i sp :: sj_r (some a0) :: st) s := by
  unfold e_cp at h
  by_cases hc : (0 ≤ sp ∧ 0 ≤ dp ∧ 0 ≤ n) ∧ (sp + n ≤ sj_len s.1 100 a0 ∧ dp + n ≤ sj_len s.1 100 a1) ∧ (sj_is s.1 a0 100 ∧ sj_is s.1 a1 100)
  · rw [if_pos hc] at h
    have k := k _ h
    refine ⟨k.1, fun p e R S m args below meth c Q H ls locs E hR hQ h0 hl hH => ?_⟩
    obtain ⟨⟨c1, c2, c3⟩, ⟨c4, c5⟩, c6, c7⟩ := hc
    have b0 : (s.1.1 a0).1 = 100 := c6.2
    have b1 : (s.1.1 a1).1 = 100 := c7.2
    have l0 : sj_len s.1 100 a0 ≤ 65536 ∧ sj_len s.1 100 a0 ≤ (s.1.1 a0).2 := by
      unfold sj_len; split <;> omega
    have l1 : sj_len s.1 100 a1 ≤ 65536 ∧ sj_len s.1 100 a1 ≤ (s.1.1 a1).2 := by
      unfold sj_len; split <;> omega
    have i1 : sj_i32 sp := ⟨by omega, by omega⟩
    have i2 : sj_i32 dp := ⟨by omega, by omega⟩
    have i3 : sj_i32 n := ⟨by omega, by omega⟩
    have hx1 := sj_ix c1 i1
    have hx2 := sj_ix c2 i2
    have hx3 := sj_ix c3 i3
    have nn : ∀ {z : Int}, 0 ≤ z → sj_i32 z → ¬ Int32.ofInt z < 0 := fun h1 h2 => by rw [Int32.lt_iff_toInt_lt, sj_t32 h2, Int32.toInt_zero]; omega
    have he0 : (sj_ws X s)[a0]? = some (X.1.1 + a0, .inl (X.1.2.2 0, (s.1.1 a0).2, .inl (fun j => Int32.ofInt (s.2 a0 j)))) := by rw [sj_ws_get c6.1, sj_ent_i b0 (Or.inl rfl)]
    have he1 : (sj_ws X s)[a1]? = some (X.1.1 + a1, .inl (X.1.2.2 0, (s.1.1 a1).2, .inl (fun j => Int32.ofInt (s.2 a1 j)))) := by rw [sj_ws_get c7.1, sj_ent_i b1 (Or.inl rfl)]
    obtain ⟨E1, E2, E3, E4, E5, E6, E7, E8, E9⟩ := id E
    have hfr : 1 ≤ R.frames := Nat.le_trans hdp E7
    have hlo : 40 ≤ R.locals := Nat.le_trans (by omega) E8
    refine sj_copyi E1 E2 (E3.trans hl.1.1.symm) E4 (E5 _ hw.1) (E5 _ hw.2.1) (E5 _ hw.2.2.1) (E5 _ hw.2.2.2) E9.1 hH.2.1 (sj_wsD X s) hH.2.2 a0 a1 0 0 he0 he1 rfl rfl rfl (nn c1 i1) (nn c2 i2) (nn c3 i3) (by rw [hx1, hx3]; omega) (by rw [hx2, hx3]; omega) (fun i _ => rfl) hfr ?_ hd ?_
    · rw [sj_sum]
      have : nativeFrameWords "java/lang/System" "arraycopy" 5 = 7 := by decide
      omega
    · intro H1 locs1 z hP hS
      refine k.2 p e R S m args below meth c Q H1 ls _ E hR hQ h0 hl (sj_Hd_set hH c7.1 rfl ?_ (fun x hx => sj_ent_cp hx) z hP hS)
      rw [sj_ent_i (s := sj_cp s a0 sp.toNat a1 dp.toNat n.toNat) b1 (Or.inl rfl), hx1, hx2, hx3]
      show _ = (.inl (_, _, .inl _) : va_E)
      congr 4
      funext y
      show Int32.ofInt (if a1 = a1 then va_cpy (s.2 a0) (s.2 a1) sp.toNat dp.toNat n.toNat y else _) = va_cpy _ _ _ _ _ y
      rw [if_pos rfl]
      unfold va_cpy
      split <;> rfl
  · rw [if_neg hc] at h; cases h
/-- Math.max, Math.min, by a pool entry -/
def sj_maw (own : String) (idx : Nat) : Prop := Cond.methodLink own idx Lib.Math.max.name ∈ sj_kw ∧ Cond.static Lib.Math.max.name ∈ sj_kw ∧ Cond.initialized "java/lang/Math" ∈ sj_kw ∧ Cond.code Lib.Math.max.name Lib.Math.max.code 2 (some .int) ∈ sj_kw
def sj_miw (own : String) (idx : Nat) : Prop := Cond.methodLink own idx Lib.Math.min.name ∈ sj_kw ∧ Cond.static Lib.Math.min.name ∈ sj_kw ∧ Cond.initialized "java/lang/Math" ∈ sj_kw ∧ Cond.code Lib.Math.min.name Lib.Math.min.code 2 (some .int) ∈ sj_kw
theorem r_mmax {β : Type} {q : β} {K : Int → Option β} {x y : Int} {idx : Nat} (h : e_max x y K = some q) (hd : decode M.2.1 pc = .ok (.invokestatic idx, 3)) (hw : sj_maw M.1.cls idx) (hdp : 1 ≤ M.2.2.2.2) (hrm : (st.map sj_w).sum ≤ 8) (k : ∀ v, K v = some q → sj_T X M s0 o (pc + 3) lo (sj_i v :: st) s) : sj_T X M s0 o pc lo (sj_i y :: sj_i x :: st) s := by
  unfold e_max at h
  by_cases hc : sj_i32 x ∧ sj_i32 y
  · rw [if_pos hc] at h
    have k := k _ h
    refine ⟨k.1, fun p e R S m args below meth c Q H ls locs E hR hQ h0 hl hH => ?_⟩
    have kk := k.2 p e R S m args below meth c Q H ls locs E hR hQ h0 hl hH
    obtain ⟨E1, E2, E3, E4, E5, E6, E7, E8, E9⟩ := E
    have k1 := k.1
    refine va_mmax E1 E2 (E3.trans hl.1.1.symm) E4 (E5 _ hw.1) (E5 _ hw.2.1) (E5 _ hw.2.2.1) (E5 _ hw.2.2.2) (Nat.le_trans hdp E7) (by rw [sj_sum]; omega) (by omega) (by omega) hd ?_
    have e1 : (if Int32.ofInt x < Int32.ofInt y then Int32.ofInt y else Int32.ofInt x) = Int32.ofInt (max x y) := by
      by_cases hxy : x < y
      · rw [if_pos ((sj_lt32 hc.1 hc.2).mpr hxy)]; congr 1; omega
      · rw [if_neg (fun z => hxy ((sj_lt32 hc.1 hc.2).mp z))]; congr 1; omega
    rw [e1]
    exact kk
  · rw [if_neg hc] at h; cases h
theorem r_mmin {β : Type} {q : β} {K : Int → Option β} {x y : Int} {idx : Nat} (h : e_min x y K = some q) (hd : decode M.2.1 pc = .ok (.invokestatic idx, 3)) (hw : sj_miw M.1.cls idx) (hdp : 1 ≤ M.2.2.2.2) (hrm : (st.map sj_w).sum ≤ 8) (k : ∀ v, K v = some q → sj_T X M s0 o (pc + 3) lo (sj_i v :: st) s) : sj_T X M s0 o pc lo (sj_i y :: sj_i x :: st) s := by
  unfold e_min at h
  by_cases hc : sj_i32 x ∧ sj_i32 y
  · rw [if_pos hc] at h
    have k := k _ h
    refine ⟨k.1, fun p e R S m args below meth c Q H ls locs E hR hQ h0 hl hH => ?_⟩
    have kk := k.2 p e R S m args below meth c Q H ls locs E hR hQ h0 hl hH
    obtain ⟨E1, E2, E3, E4, E5, E6, E7, E8, E9⟩ := E
    have k1 := k.1
    refine va_mmin E1 E2 (E3.trans hl.1.1.symm) E4 (E5 _ hw.1) (E5 _ hw.2.1) (E5 _ hw.2.2.1) (E5 _ hw.2.2.2) (Nat.le_trans hdp E7) (by rw [sj_sum]; omega) (by omega) (by omega) hd ?_
    have e1 : (if Int32.ofInt y < Int32.ofInt x then Int32.ofInt y else Int32.ofInt x) = Int32.ofInt (min x y) := by
      by_cases hxy : y < x
      · rw [if_pos ((sj_lt32 hc.2 hc.1).mpr hxy)]; congr 1; omega
      · rw [if_neg (fun z => hxy ((sj_lt32 hc.2 hc.1).mp z))]; congr 1; omega
    rw [e1]
    exact kk
  · rw [if_neg hc] at h; cases h
def sj_ow (own : String) (idx : Nat) : Prop := Cond.methodLink own idx Lib.objectInit ∈ sj_kw ∧ Cond.instanceMethod Lib.objectInit ∈ sj_kw ∧ Cond.code Lib.objectInit ⟨#[0xb1]⟩ 1 none ∈ sj_kw
theorem r_oinit {a : Nat} {idx : Nat} (hd : decode M.2.1 pc = .ok (.invokespecial idx, 3)) (hw : sj_ow M.1.cls idx) (hdp : 1 ≤ M.2.2.2.2) (hrm : (st.map sj_w).sum ≤ 8) (k : sj_T X M s0 o (pc + 3) lo (st) s) : sj_T X M s0 o pc lo (sj_r (some a) :: st) s := by
  refine ⟨k.1, fun p e R S m args below meth c Q H ls locs E hR hQ h0 hl hH => ?_⟩
  have kk := k.2 p e R S m args below meth c Q H ls locs E hR hQ h0 hl hH
  obtain ⟨E1, E2, E3, E4, E5, E6, E7, E8, E9⟩ := E
  refine W.objInit E1 E2 E4 (E5 _ hw.1) (E5 _ hw.2.1) (E5 _ hw.2.2) (g := F0 m pc ls (List.map (sj_v X) (sj_r (some a) :: st))) rfl (by rw [E3]; exact hl.1.1) rfl hd (Nat.le_trans hdp E7) ?_ kk
  show 2 * 0 + _ + 12 ≤ _
  rw [sj_sum]
  omega
-- the script
abbrev sj_scL (X : sj_X) : Nat := X.2.2.2.2.1
abbrev sj_scx (X : sj_X) : Nat → Int := fun j => (X.2.2.2.2.2 j).toInt
theorem r_saload {β : Type} {q : β} {K : Int → Option β} {j : Int} (h : e_aS (sj_scL X) (sj_scx X) j K = some q) (hd : decode M.2.1 pc = .ok (.iaload, 1)) (k : ∀ v, K v = some q → sj_T X M s0 o (pc + 1) lo (sj_i v :: st) s) : sj_T X M s0 o pc lo (sj_i j :: sj_t 1000 :: st) s := by
  unfold e_aS at h
  by_cases hc : 0 ≤ j ∧ j < (sj_scL X : Int)
  · rw [if_pos hc] at h
    have k := k _ h
    refine ⟨k.1, fun p e R S m args below meth c Q H ls locs E hR hQ h0 hl hH => ?_⟩
    have kk := k.2 p e R S m args below meth c Q H ls locs E hR hQ h0 hl hH
    obtain ⟨E1, E2, E3, E4, E5, E6, E7, E8, E9⟩ := E
    obtain ⟨g1, g2, g3⟩ := E9.2.2.2.2.2.2.1
    have g4 : sj_scL X ≤ 4096 := g3
    have hi : sj_i32 j := ⟨by omega, by omega⟩
    refine va_sld (A := sj_A X) (b := X.2.2.2.1) (L := sj_scL X) (xs := X.2.2.2.2.2) E1 E2 E9.2.2.2.2.2.1 (by omega) (by show ¬ _ ≤ _; omega) hH.2.2 (i := Int32.ofInt j) (sj_inb hc.1 hi (by omega)) hd ?_
    rw [sj_ix hc.1 hi]
    have e1 : sj_v X (sj_i (sj_scx X j.toNat)) = .int (X.2.2.2.2.2 j.toNat) := by show Value.int (Int32.ofInt (Int32.toInt _)) = _; rw [sj_back]
    rw [← e1]
    exact kk
  · rw [if_neg hc] at h; cases h
theorem r_slen (hd : decode M.2.1 pc = .ok (.arraylength, 1)) (k : sj_T X M s0 o (pc + 1) lo (sj_i (sj_scL X) :: st) s) : sj_T X M s0 o pc lo (sj_t 1000 :: st) s := by
  refine ⟨k.1, fun p e R S m args below meth c Q H ls locs E hR hQ h0 hl hH => ?_⟩
  have kk := k.2 p e R S m args below meth c Q H ls locs E hR hQ h0 hl hH
  obtain ⟨E1, E2, E3, E4, E5, E6, E7, E8, E9⟩ := E
  obtain ⟨g1, g2, g3⟩ := E9.2.2.2.2.2.2.1
  refine va_slen (A := sj_A X) (b := X.2.2.2.1) (L := sj_scL X) (xs := X.2.2.2.2.2) E1 E2 E9.2.2.2.2.2.1 (by omega) (by show ¬ _ ≤ _; omega) hH.2.2 hd ?_
  exact kk
theorem r_alen {a : Nat} {β : Type} {q : β} {K : Int → Option β} (h : (if sj_is s.1 a 100 then K ((s.1.1 a).2 : Int) else none) = some q) (hd : decode M.2.1 pc = .ok (.arraylength, 1)) (k : ∀ v, K v = some q → sj_T X M s0 o (pc + 1) lo (sj_i v :: st) s) : sj_T X M s0 o pc lo (sj_r (some a) :: st) s := by
  by_cases hc : sj_is s.1 a 100
  · rw [if_pos hc] at h
    have k := k _ h
    refine ⟨k.1, fun p e R S m args below meth c Q H ls locs E hR hQ h0 hl hH => ?_⟩
    have kk := k.2 p e R S m args below meth c Q H ls locs E hR hQ h0 hl hH
    obtain ⟨E1, E2, E3, E4, E5, E6, E7, E8, E9⟩ := E
    have he : (sj_ws X s)[a]? = some (X.1.1 + a, .inl (X.1.2.2 0, (s.1.1 a).2, .inl (fun j => Int32.ofInt (s.2 a j)))) := by rw [sj_ws_get hc.1, sj_ent_i hc.2 (Or.inl rfl)]
    refine va_alen E1 E2 E9.1 hH.2.1 a 0 he rfl rfl hd ?_
    exact kk
  · rw [if_neg hc] at h; cases h
end RulesE

