-- the words: those that are kept, and those of nest mates
def sj_kw : List Cond := lw_tbl.filter goodWord
def sj_isN (w : Cond) : Bool := match w with
  | .fieldLinkNest _ _ _ _ _ _ => true
  | .methodLinkNest _ _ _ _ => true
  | _ => false
def sj_nest : List Cond := lw_tbl.filter sj_isN
theorem sj_kin {w : Cond} (i : Nat) (h : lw_tbl[i]? = some w) (hg : goodWord w = true) : w ∈ sj_kw := List.mem_filter.mpr ⟨List.mem_of_getElem? h, hg⟩
theorem sj_nin {w : Cond} (i : Nat) (h : lw_tbl[i]? = some w) (hg : sj_isN w = true) : w ∈ sj_nest := List.mem_filter.mpr ⟨List.mem_of_getElem? h, hg⟩
theorem sj_kgood {w : Cond} (h : w ∈ sj_kw) : (w.onTables && w.keeps) = true ∨ ∃ ty, w = .arrayClass ty := good_of_word (List.mem_filter.mp h).2
theorem sj_k1 {w : Cond} (i : Nat) (h : tables_1_1[i]? = some w) (hg : goodWord w = true) : w ∈ sj_kw := List.mem_filter.mpr ⟨List.mem_append_right _ (List.mem_append_left _ (List.mem_of_getElem? h)), hg⟩
theorem sj_n1 {w : Cond} (i : Nat) (h : tables_1_1[i]? = some w) (hg : sj_isN w = true) : w ∈ sj_nest := List.mem_filter.mpr ⟨List.mem_append_right _ (List.mem_append_left _ (List.mem_of_getElem? h)), hg⟩
theorem sj_k2 {w : Cond} (i : Nat) (h : tables_1_2[i]? = some w) (hg : goodWord w = true) : w ∈ sj_kw := List.mem_filter.mpr ⟨List.mem_append_right _ (List.mem_append_right _ (List.mem_append_left _ (List.mem_of_getElem? h))), hg⟩
theorem sj_n2 {w : Cond} (i : Nat) (h : tables_1_2[i]? = some w) (hg : sj_isN w = true) : w ∈ sj_nest := List.mem_filter.mpr ⟨List.mem_append_right _ (List.mem_append_right _ (List.mem_append_left _ (List.mem_of_getElem? h))), hg⟩
theorem sj_k3 {w : Cond} (i : Nat) (h : tables_1_3[i]? = some w) (hg : goodWord w = true) : w ∈ sj_kw := List.mem_filter.mpr ⟨List.mem_append_right _ (List.mem_append_right _ (List.mem_append_right _ (List.mem_append_left _ (List.mem_of_getElem? h)))), hg⟩
theorem sj_n3 {w : Cond} (i : Nat) (h : tables_1_3[i]? = some w) (hg : sj_isN w = true) : w ∈ sj_nest := List.mem_filter.mpr ⟨List.mem_append_right _ (List.mem_append_right _ (List.mem_append_right _ (List.mem_append_left _ (List.mem_of_getElem? h)))), hg⟩
theorem sj_k4 {w : Cond} (i : Nat) (h : tables_1_4[i]? = some w) (hg : goodWord w = true) : w ∈ sj_kw := List.mem_filter.mpr ⟨List.mem_append_right _ (List.mem_append_right _ (List.mem_append_right _ (List.mem_append_right _ (List.mem_append_left _ (List.mem_of_getElem? h))))), hg⟩
theorem sj_n4 {w : Cond} (i : Nat) (h : tables_1_4[i]? = some w) (hg : sj_isN w = true) : w ∈ sj_nest := List.mem_filter.mpr ⟨List.mem_append_right _ (List.mem_append_right _ (List.mem_append_right _ (List.mem_append_right _ (List.mem_append_left _ (List.mem_of_getElem? h))))), hg⟩
theorem sj_k5 {w : Cond} (i : Nat) (h : tables_1_5[i]? = some w) (hg : goodWord w = true) : w ∈ sj_kw := List.mem_filter.mpr ⟨List.mem_append_right _ (List.mem_append_right _ (List.mem_append_right _ (List.mem_append_right _ (List.mem_append_right _ (List.mem_append_left _ (List.mem_of_getElem? h)))))), hg⟩
theorem sj_n5 {w : Cond} (i : Nat) (h : tables_1_5[i]? = some w) (hg : sj_isN w = true) : w ∈ sj_nest := List.mem_filter.mpr ⟨List.mem_append_right _ (List.mem_append_right _ (List.mem_append_right _ (List.mem_append_right _ (List.mem_append_right _ (List.mem_append_left _ (List.mem_of_getElem? h)))))), hg⟩
theorem sj_k6 {w : Cond} (i : Nat) (h : tables_1_6[i]? = some w) (hg : goodWord w = true) : w ∈ sj_kw := List.mem_filter.mpr ⟨List.mem_append_right _ (List.mem_append_right _ (List.mem_append_right _ (List.mem_append_right _ (List.mem_append_right _ (List.mem_append_right _ (List.mem_append_left _ (List.mem_of_getElem? h))))))), hg⟩
theorem sj_n6 {w : Cond} (i : Nat) (h : tables_1_6[i]? = some w) (hg : sj_isN w = true) : w ∈ sj_nest := List.mem_filter.mpr ⟨List.mem_append_right _ (List.mem_append_right _ (List.mem_append_right _ (List.mem_append_right _ (List.mem_append_right _ (List.mem_append_right _ (List.mem_append_left _ (List.mem_of_getElem? h))))))), hg⟩
theorem sj_k7 {w : Cond} (i : Nat) (h : tables_1_7[i]? = some w) (hg : goodWord w = true) : w ∈ sj_kw := List.mem_filter.mpr ⟨List.mem_append_right _ (List.mem_append_right _ (List.mem_append_right _ (List.mem_append_right _ (List.mem_append_right _ (List.mem_append_right _ (List.mem_append_right _ (List.mem_append_left _ (List.mem_of_getElem? h)))))))), hg⟩
theorem sj_n7 {w : Cond} (i : Nat) (h : tables_1_7[i]? = some w) (hg : sj_isN w = true) : w ∈ sj_nest := List.mem_filter.mpr ⟨List.mem_append_right _ (List.mem_append_right _ (List.mem_append_right _ (List.mem_append_right _ (List.mem_append_right _ (List.mem_append_right _ (List.mem_append_right _ (List.mem_append_left _ (List.mem_of_getElem? h)))))))), hg⟩
theorem sj_k8 {w : Cond} (i : Nat) (h : tables_1_8[i]? = some w) (hg : goodWord w = true) : w ∈ sj_kw := List.mem_filter.mpr ⟨List.mem_append_right _ (List.mem_append_right _ (List.mem_append_right _ (List.mem_append_right _ (List.mem_append_right _ (List.mem_append_right _ (List.mem_append_right _ (List.mem_append_right _ (List.mem_of_getElem? h)))))))), hg⟩
theorem sj_n8 {w : Cond} (i : Nat) (h : tables_1_8[i]? = some w) (hg : sj_isN w = true) : w ∈ sj_nest := List.mem_filter.mpr ⟨List.mem_append_right _ (List.mem_append_right _ (List.mem_append_right _ (List.mem_append_right _ (List.mem_append_right _ (List.mem_append_right _ (List.mem_append_right _ (List.mem_append_right _ (List.mem_of_getElem? h)))))))), hg⟩
theorem sj_ks {w : Cond} (i : Nat) (h : (k2_sels lw_privs)[i]? = some w) (hg : goodWord w = true) : w ∈ sj_kw := List.mem_filter.mpr ⟨List.mem_append_left _ (List.mem_of_getElem? h), hg⟩
-- the classes, by their numbers
def sj_kts : List (List Nat) := [[0, 0, 0, 2, 2, 2, 2, 2, 2, 2, 2, 2, 2, 2, 2], [2, 2, 0, 0], [2, 0], [2, 2, 0, 0, 0, 0, 0], [2, 2, 2, 2, 2, 2, 2, 2, 0, 0, 1], [2, 0, 0, 0], [2, 2, 2, 2, 2, 2, 0, 0, 0, 0, 1, 0, 0, 0], [2, 0, 0, 0, 0, 0, 0, 0], [2, 2, 2, 2, 2, 2, 2, 2, 2, 2, 2, 2, 0, 0, 0], [2, 2, 2, 2, 0, 0, 0, 0, 1, 1, 1, 1, 1, 0, 0, 0, 2, 0, 0, 0, 0, 0, 2, 2, 2, 2, 0, 2, 0, 0, 0, 0, 0, 0, 2]]
def sj_tk : List Nat := [83, 98, 100, 102, 104, 106, 108, 110, 112]
def sj_nf (ci : Nat) : Nat := (sj_kts.getD ci []).length
def sj_kt (ci k : Nat) : Nat := (sj_kts.getD ci []).getD k 0
def sj_ty (ci : Nat) : Nat → FieldType := match ci with
  | 0 => tyX0
  | 1 => tyX1
  | 2 => tyX2
  | 3 => tyX3
  | 4 => tyX4
  | 5 => tyX5
  | 6 => tyX6
  | 7 => tyX7
  | 8 => tyX8
  | _ => tyX9
def sj_zv (kt : Nat) : Value := if kt = 0 then .int (Int32.ofInt 0) else if kt = 1 then .long (Int64.ofInt 0) else .null
theorem sj_uw (R : String) (T : u_T) (n : Nat) (h : (u_ws R T n).all (fun w => goodWord w && decide (w ∈ lw_tbl)) = true) : ∀ w ∈ u_ws R T n, w ∈ sj_kw := by
  intro w hw
  have h1 := List.all_eq_true.mp h w hw
  simp only [Bool.and_eq_true, decide_eq_true_eq] at h1
  exact List.mem_filter.mpr ⟨h1.2, h1.1⟩
set_option maxRecDepth 100000 in
theorem sj_u0 : ∀ w ∈ u_ws RX0 TX0 15, w ∈ sj_kw := sj_uw _ _ _ (by decide +kernel)
set_option maxRecDepth 100000 in
theorem sj_u1 : ∀ w ∈ u_ws RX1 TX1 4, w ∈ sj_kw := sj_uw _ _ _ (by decide +kernel)
set_option maxRecDepth 100000 in
theorem sj_u2 : ∀ w ∈ u_ws RX2 TX2 2, w ∈ sj_kw := sj_uw _ _ _ (by decide +kernel)
set_option maxRecDepth 100000 in
theorem sj_u3 : ∀ w ∈ u_ws RX3 TX3 7, w ∈ sj_kw := sj_uw _ _ _ (by decide +kernel)
set_option maxRecDepth 100000 in
theorem sj_u4 : ∀ w ∈ u_ws RX4 TX4 11, w ∈ sj_kw := sj_uw _ _ _ (by decide +kernel)
set_option maxRecDepth 100000 in
theorem sj_u5 : ∀ w ∈ u_ws RX5 TX5 4, w ∈ sj_kw := sj_uw _ _ _ (by decide +kernel)
set_option maxRecDepth 100000 in
theorem sj_u6 : ∀ w ∈ u_ws RX6 TX6 14, w ∈ sj_kw := sj_uw _ _ _ (by decide +kernel)
set_option maxRecDepth 100000 in
theorem sj_u7 : ∀ w ∈ u_ws RX7 TX7 8, w ∈ sj_kw := sj_uw _ _ _ (by decide +kernel)
set_option maxRecDepth 100000 in
theorem sj_u8 : ∀ w ∈ u_ws RX8 TX8 15, w ∈ sj_kw := sj_uw _ _ _ (by decide +kernel)
set_option maxRecDepth 100000 in
theorem sj_u9 : ∀ w ∈ u_ws RX9 TX9 35, w ∈ sj_kw := sj_uw _ _ _ (by decide +kernel)
/-- what is known of the class of a number -/
def sj_cf (ci : Nat) (q : vw_C) : Prop := (∀ w ∈ u_ws q.1 q.2.1 q.2.2, w ∈ sj_kw) ∧ (∀ k, k < q.2.2 → parseFieldDescriptor (q.2.1 k).2.2.1 = some (sj_ty ci k)) ∧ (∀ a, a < q.2.2 → ∀ b, b < q.2.2 → a ≠ b → (q.2.1 a).2.1 ≠ (q.2.1 b).2.1) ∧ sj_nf ci = q.2.2 ∧ ∀ j, j < q.2.2 → defaultValue (sj_ty ci j) = sj_zv (sj_kt ci j)
theorem sj_dv {ci n : Nat} (h : (List.range n).all (fun j => match sj_ty ci j with
    | .int => sj_kt ci j == 0
    | .boolean => sj_kt ci j == 0
    | .long => sj_kt ci j == 1
    | .array _ => sj_kt ci j == 2
    | .object _ => sj_kt ci j == 2
    | _ => false) = true) : ∀ j, j < n → defaultValue (sj_ty ci j) = sj_zv (sj_kt ci j) := by
  intro j hj
  have h1 := List.all_eq_true.mp h j (List.mem_range.mpr hj)
  revert h1
  cases sj_ty ci j <;> intro h1 <;> simp at h1 <;> rw [h1] <;> rfl
theorem sj_cls {ci : Nat} {q : vw_C} (h : vwCl[ci]? = some q) : sj_cf ci q := by
  match ci, h with
  | 0, h => cases h; exact ⟨sj_u0, tyX0_ok, nmX0, rfl, sj_dv (by decide +kernel)⟩
  | 1, h => cases h; exact ⟨sj_u1, tyX1_ok, nmX1, rfl, sj_dv (by decide +kernel)⟩
  | 2, h => cases h; exact ⟨sj_u2, tyX2_ok, nmX2, rfl, sj_dv (by decide +kernel)⟩
  | 3, h => cases h; exact ⟨sj_u3, tyX3_ok, nmX3, rfl, sj_dv (by decide +kernel)⟩
  | 4, h => cases h; exact ⟨sj_u4, tyX4_ok, nmX4, rfl, sj_dv (by decide +kernel)⟩
  | 5, h => cases h; exact ⟨sj_u5, tyX5_ok, nmX5, rfl, sj_dv (by decide +kernel)⟩
  | 6, h => cases h; exact ⟨sj_u6, tyX6_ok, nmX6, rfl, sj_dv (by decide +kernel)⟩
  | 7, h => cases h; exact ⟨sj_u7, tyX7_ok, nmX7, rfl, sj_dv (by decide +kernel)⟩
  | 8, h => cases h; exact ⟨sj_u8, tyX8_ok, nmX8, rfl, sj_dv (by decide +kernel)⟩
  | 9, h => cases h; exact ⟨sj_u9, tyX9_ok, nmX9, rfl, sj_dv (by decide +kernel)⟩
  | n + 10, h => simp [vwCl] at h
-- the world of a memory
def sj_fv (X : sj_X) (s : sj_Mem) (a kt k : Nat) : Value := if kt = 0 then .int (Int32.ofInt (s.2 a k)) else if kt = 1 then .long (Int64.ofInt (s.2 a k)) else sj_rv X (s.1.2.1 a k)
def sj_fs (X : sj_X) (s : sj_Mem) (a ci : Nat) : List Value := (List.range (sj_nf ci)).map (fun k => sj_fv X s a (sj_kt ci k) k)
def sj_ent (X : sj_X) (s : sj_Mem) (a : Nat) : va_E :=
  if (s.1.1 a).1 < 99 then .inr ((s.1.1 a).1, sj_fs X s a (s.1.1 a).1)
  else if (s.1.1 a).1 = 101 then .inl (X.1.2.2 1, (s.1.1 a).2, .inr (.inl (fun j => Int64.ofInt (s.2 a j))))
  else if (s.1.1 a).1 = 104 then .inl (X.1.2.2 4, (s.1.1 a).2, .inr (.inr (.inr (.inr (fun j => (s.1.2.1 a j).map (fun x => X.1.1 + x))))))
  else .inl (X.1.2.2 ((s.1.1 a).1 - 100), (s.1.1 a).2, .inl (fun j => Int32.ofInt (s.2 a j)))
def sj_ws (X : sj_X) (s : sj_Mem) : va_W := (List.range (sj_sz s)).map (fun a => (X.1.1 + a, sj_ent X s a))
theorem sj_ws_get {X : sj_X} {s : sj_Mem} {a : Nat} (h : a < sj_sz s) : (sj_ws X s)[a]? = some (X.1.1 + a, sj_ent X s a) := by
  unfold sj_ws
  rw [List.getElem?_map, List.getElem?_range h]
  rfl
theorem sj_ws_len (X : sj_X) (s : sj_Mem) : (sj_ws X s).length = sj_sz s := by unfold sj_ws; simp
theorem sj_ws_set {X : sj_X} {s s' : sj_Mem} {a : Nat} {e : va_E} (hz : sj_sz s' = sj_sz s) (ha : a < sj_sz s) (h1 : sj_ent X s' a = e) (h2 : ∀ x, x ≠ a → sj_ent X s' x = sj_ent X s x) : (sj_ws X s).set a (X.1.1 + a, e) = sj_ws X s' := by
  apply List.ext_getElem?
  intro j
  by_cases hj : j < sj_sz s
  · by_cases hja : j = a
    · subst hja
      rw [List.getElem?_set_self (by rw [sj_ws_len]; exact hj), sj_ws_get (by omega), h1]
    · rw [List.getElem?_set_ne (Ne.symm hja), sj_ws_get hj, sj_ws_get (by omega), h2 j hja]
  · rw [List.getElem?_eq_none (by rw [List.length_set, sj_ws_len]; omega), List.getElem?_eq_none (by rw [sj_ws_len]; omega)]
theorem sj_ws_push {X : sj_X} {s s' : sj_Mem} {e : va_E} (hz : sj_sz s' = sj_sz s + 1) (h1 : sj_ent X s' (sj_sz s) = e) (h2 : ∀ x, x < sj_sz s → sj_ent X s' x = sj_ent X s x) : sj_ws X s ++ [(X.1.1 + sj_sz s, e)] = sj_ws X s' := by
  unfold sj_ws
  rw [hz, List.range_succ, List.map_append, List.map_singleton, h1]
  congr 1
  apply List.map_congr_left
  intro x hx
  rw [h2 x (List.mem_range.mp hx)]
theorem sj_ws_at {X : sj_X} {s : sj_Mem} {k : Nat} {q : Nat × va_E} (h : (sj_ws X s)[k]? = some q) : k < sj_sz s ∧ q = (X.1.1 + k, sj_ent X s k) := by
  have hk : k < sj_sz s := by
    have := (List.getElem?_eq_some_iff.mp h).1
    rw [sj_ws_len] at this
    exact this
  rw [sj_ws_get hk] at h
  exact ⟨hk, (Option.some.inj h).symm⟩
theorem sj_wsD (X : sj_X) (s : sj_Mem) : va_D (fun q => X.1.1 ≤ q) (sj_ws X s) := by
  refine ⟨fun i j p q hp hq hpq => ?_, fun k q hk => ?_⟩
  · obtain ⟨-, rfl⟩ := sj_ws_at hp
    obtain ⟨-, rfl⟩ := sj_ws_at hq
    simp only at hpq
    omega
  · obtain ⟨-, rfl⟩ := sj_ws_at hk
    exact Nat.le_add_right _ _
-- what is known of the tables, the texts and the script at a state
def sj_tys (X : sj_X) : List (ClassId × FieldType) := [(X.1.2.2 0, .int), (X.1.2.2 1, .long), (X.1.2.2 2, .boolean), (X.1.2.2 3, .byte), (X.1.2.2 4, .object RX0)]
abbrev sj_A (X : sj_X) : Nat → Prop := fun q => X.1.1 ≤ q
def sj_env (X : sj_X) (U : State) : Prop := va_K X.1.2.1 vwCl (sj_tys X) U ∧ (∀ w ∈ sj_nest, va_Nw w U) ∧ va_AO RX0 U ∧ vk_S 9 sj_tln sj_byt X.2.1.1 X.2.1.2 (sj_A X) U U.heap ∧ (∀ n, n < 9 → vk_R RX7 (sj_tk.getD n 0) (sj_txs.getD n "") (X.2.1.1 n) U) ∧ va_X X.2.2.2.1 X.2.2.2.2.1 X.2.2.2.2.2 U U.heap ∧ (X.2.2.2.1 < X.1.1 ∧ X.1.1 ≤ U.heap.size ∧ X.2.2.2.2.1 ≤ 4096) ∧ va_Z "java/lang/String" "COMPACT_STRINGS" "Z" (.int 1) (sj_A X) U U.heap ∧ va_Zq "jdk/internal/util/Preconditions" "SIOOBE_FORMATTER" "Ljava/util/function/BiFunction;" (sj_A X) U U.heap
theorem sj_nest_move {w : Cond} (hw : w ∈ sj_nest) {S U : State} (hW : S.WarmedH U.vm) (h : va_Nw w S) : va_Nw w U := by
  have h1 := (List.mem_filter.mp hw).2
  cases w <;> first | (exact va_Nw.warmF hW h) | (exact va_Nw.warmM hW h) | (cases h1)
theorem sj_nest_same {w : Cond} (hw : w ∈ sj_nest) {S U : State} (hv : S.vm = U.vm) (h : va_Nw w S) : va_Nw w U := by
  have h1 := (List.mem_filter.mp hw).2
  cases w <;> first | (exact va_Nw.same rfl hv h) | (cases h1)
theorem sj_env_move {X : sj_X} {S U : State} {H : Heap} {locs : List Loc} (h : sj_env X S) (hS : va_S (sj_A X) S.heap H locs) (hU : U.heap = H) (hW : S.WarmedH U.vm) : sj_env X U := by
  obtain ⟨h1, h2, h3, h4, h5, h6, h7, h8, h9⟩ := h
  subst hU
  refine ⟨h1.moved hW.alike, fun w hw => sj_nest_move hw hW (h2 w hw), h3.moved hW.alike, (h4.moved hW.alike).kept hS.2.1, fun n hn => (h5 n hn).warm hW, (h6.moved hW.alike).kept (hS.2.1 _ (by omega) (by show ¬ _ ≤ _; omega)), ⟨h7.1, Nat.le_trans h7.2.1 hS.1, h7.2.2⟩, (h8.moved hW.alike).kept hS.2.1, (h9.moved hW.alike).kept hS.2.1⟩
theorem sj_env_same {X : sj_X} {S U : State} (h : sj_env X S) (hH : U.heap = S.heap) (hv : S.vm = U.vm) : sj_env X U := by
  obtain ⟨h1, h2, h3, h4, h5, h6, h7, h8, h9⟩ := h
  have ha : S.vm.Alike U.vm := by rw [hv]; exact Vm.Alike.refl U.vm
  refine ⟨h1.moved ha, fun w hw => sj_nest_same hw hv (h2 w hw), h3.moved ha, ?_, fun n hn => (h5 n hn).same hv.symm, ?_, ?_, ?_, ?_⟩
  · rw [hH]; exact h4.moved ha
  · rw [hH]; exact h6.moved ha
  · rw [hH]; exact h7
  · rw [hH]; exact h8.moved ha
  · rw [hH]; exact h9.moved ha
-- methods: name, code, how many locals, what it returns, how deep its calls go
abbrev sj_M : Type := MethodName × ByteArray × Nat × Option FieldType × Nat
/-- the heap holds a memory; since the method's start nothing outside has changed -/
def sj_Hd (X : sj_X) (s : sj_Mem) (S : State) (H : Heap) (locs : List Loc) : Prop := H.size = X.1.1 + sj_sz s ∧ va_P X.1.2.1 vwCl (sj_ws X s) H ∧ va_S (sj_A X) S.heap H locs
def sj_Cx (X : sj_X) (M : sj_M) (p : Program) (R : Room) (S : State) (m : MethodId) (args : Array Value) (meth : Method) (c : Code) : Prop :=
  p.tables.exec = Jvm.exec ∧ c.code = M.2.1 ∧ c.maxLocals = M.2.2.1 ∧ S.vm.findClass M.1.cls = some m.cls ∧ (∀ w ∈ sj_kw, w.before args S = true) ∧ meth.name = M.1.name ∧ M.2.2.2.2 ≤ R.frames ∧ 40 * M.2.2.2.2 ≤ R.locals ∧ sj_env X S
def sj_ret (r : Option FieldType) (cc : ByteArray) (pc : Nat) : Prop := match r with
  | none => decode cc pc = .ok (.return_, 1)
  | some .long => decode cc pc = .ok (.lreturn, 1)
  | some (.object _) => decode cc pc = .ok (.areturn, 1)
  | some _ => decode cc pc = .ok (.ireturn, 1)
def sj_fit (r : Option FieldType) (v : Option sj_V) : Prop := match r, v with
  | none, none => True
  | some .int, some (.inl _) => True
  | some .boolean, some (.inl x) => x = 0 ∨ x = 1
  | some .byte, some (.inl x) => -128 ≤ x ∧ x ≤ 127
  | some .char, some (.inl x) => 0 ≤ x ∧ x ≤ 65535
  | some .long, some (.inr (.inl _)) => True
  | some (.object _), some (.inr (.inr (.inl _))) => True
  | _, _ => False
/-- how it ends: at a return, with the answer on the stack, over a heap that holds the last memory -/
def sj_End (X : sj_X) (M : sj_M) (s0 : sj_Mem) (o : Option sj_V × sj_Mem) (p : Program) (e : Env) (R : Room) (S : State) (m : MethodId) (args : Array Value) (below : List Frame) (meth : Method) (c : Code) (Q : State → Prop) : Prop :=
  ∀ (H : Heap) (locs : List Loc) (ls : Array Slot) (pc : Nat), sj_Hd X o.2 S H locs → sj_fit M.2.2.2.1 o.1 → sj_ret M.2.2.2.1 M.2.1 pc → W p X.2.2.1 e R S m args below meth c H locs (sj_sz o.2 - sj_sz s0) (sj_sl o.2 - sj_sl s0) Q (F0 m pc ls (o.1.toList.map (sj_v X)))
-- locals
def sj_al (X : sj_X) : Nat → List (Option sj_V) → List (Nat × Value)
  | _, [] => []
  | i, none :: l => sj_al X (i + 1) l
  | i, some v :: l => (i, sj_v X v) :: sj_al X (i + 1) l
theorem sj_al_in {X : sj_X} : ∀ (lo : List (Option sj_V)) (i : Nat) (q : Nat × Value), q ∈ sj_al X i lo ↔ ∃ (j : Nat) (v : sj_V), lo[j]? = some (some v) ∧ q = (i + j, sj_v X v)
  | [], i, q => by simp [sj_al]
  | none :: l, i, q => by
    rw [sj_al, sj_al_in l (i + 1) q]
    constructor
    · rintro ⟨j, v, h1, h2⟩
      exact ⟨j + 1, v, by simpa using h1, by rw [h2]; congr 1; omega⟩
    · rintro ⟨j, v, h1, h2⟩
      cases j with
      | zero => simp at h1
      | succ j => exact ⟨j, v, by simpa using h1, by rw [h2]; congr 1; omega⟩
  | some w :: l, i, q => by
    rw [sj_al, List.mem_cons, sj_al_in l (i + 1) q]
    constructor
    · rintro (h | ⟨j, v, h1, h2⟩)
      · exact ⟨0, w, by simp, by rw [h]; rfl⟩
      · exact ⟨j + 1, v, by simpa using h1, by rw [h2]; congr 1; omega⟩
    · rintro ⟨j, v, h1, h2⟩
      cases j with
      | zero =>
        simp at h1
        left
        rw [h2, h1]; rfl
      | succ j =>
        right
        exact ⟨j, v, by simpa using h1, by rw [h2]; congr 1; omega⟩
def sj_L (X : sj_X) (n : Nat) (lo : List (Option sj_V)) (ls : Array Slot) : Prop := lv_has ls n (sj_al X 0 lo) ∧ lo.length = n
theorem sj_L.get {X : sj_X} {n : Nat} {lo : List (Option sj_V)} {ls : Array Slot} (h : sj_L X n lo ls) {i : Nat} {v : sj_V} (hi : lo[i]? = some (some v)) : ls[i]? = some (.val (sj_v X v)) :=
  h.1.2.2 (i, sj_v X v) ((sj_al_in lo 0 _).mpr ⟨i, v, hi, by rw [Nat.zero_add]⟩)
def sj_kill (lo : List (Option sj_V)) (i : Nat) : List (Option sj_V) := match i with
  | 0 => lo
  | j + 1 => match lo[j]? with
    | some (some (.inr (.inl _))) => lo.set j none
    | _ => lo
def sj_st1 (lo : List (Option sj_V)) (i : Nat) (v : sj_V) : List (Option sj_V) := (sj_kill lo i).set i (some v)
def sj_st2 (lo : List (Option sj_V)) (i : Nat) (v : sj_V) : List (Option sj_V) := ((sj_kill lo i).set i (some v)).set (i + 1) none
theorem sj_kill_len (lo : List (Option sj_V)) (i : Nat) : (sj_kill lo i).length = lo.length := by
  cases i with
  | zero => rfl
  | succ j =>
    simp only [sj_kill]
    split <;> simp
theorem sj_kill_get {lo : List (Option sj_V)} {i j : Nat} {v : sj_V} (h : (sj_kill lo i)[j]? = some (some v)) : lo[j]? = some (some v) ∧ ¬ (j + 1 = i ∧ sj_isJ v = true) := by
  cases i with
  | zero => exact ⟨h, fun q => by omega⟩
  | succ k =>
    simp only [sj_kill] at h
    split at h
    · rename_i z hz
      by_cases hj : j = k
      · subst hj
        rw [List.getElem?_set_self (List.getElem?_eq_some_iff.mp hz).1] at h
        simp at h
      · rw [List.getElem?_set_ne (Ne.symm hj)] at h
        exact ⟨h, fun q => by omega⟩
    · rename_i hz
      refine ⟨h, fun q => ?_⟩
      obtain ⟨q1, q2⟩ := q
      have hjk : j = k := by omega
      subst hjk
      rcases v with x | x | r | n
      · cases q2
      · exact hz x h
      · cases q2
      · cases q2
theorem sj_L.st1 {X : sj_X} {n : Nat} {lo : List (Option sj_V)} {ls ls' : Array Slot} {i : Nat} {v : sj_V} (h : sj_L X n lo ls) (h' : lv_has ls' n ((i, sj_v X v) :: (sj_al X 0 lo).filter (fun q => !(q.1 == i) && !(q.1 + 1 == i && q.2.category == 2)))) : sj_L X n (sj_st1 lo i v) ls' := by
  refine ⟨⟨h'.1, h'.2.1, fun q hq => ?_⟩, by rw [sj_st1, List.length_set, sj_kill_len]; exact h.2⟩
  obtain ⟨j, w, h1, rfl⟩ := (sj_al_in _ 0 q).mp hq
  apply h'.2.2
  unfold sj_st1 at h1
  by_cases hj : j = i
  · subst hj
    have hl := (List.getElem?_eq_some_iff.mp h1).1
    rw [List.length_set] at hl
    rw [List.getElem?_set_self hl] at h1
    simp at h1
    rw [h1, Nat.zero_add]
    exact List.mem_cons_self
  · rw [List.getElem?_set_ne (Ne.symm hj)] at h1
    obtain ⟨g1, g2⟩ := sj_kill_get h1
    refine List.mem_cons_of_mem _ (List.mem_filter.mpr ⟨(sj_al_in lo 0 _).mpr ⟨j, w, g1, rfl⟩, ?_⟩)
    have e1 : (0 + j == i) = false := by simp; omega
    rw [e1]
    by_cases hji : j + 1 = i
    · have : sj_isJ w = false := by
        cases hw : sj_isJ w
        · rfl
        · exact absurd ⟨hji, hw⟩ g2
      rw [sj_c1 this]
      simp
    · simp
      omega
theorem sj_L.st2 {X : sj_X} {n : Nat} {lo : List (Option sj_V)} {ls ls' : Array Slot} {i : Nat} {v : sj_V} (h : sj_L X n lo ls) (h' : lv_has ls' n ((i, sj_v X v) :: (sj_al X 0 lo).filter (fun q => !(q.1 == i) && (!(q.1 == i + 1) && !(q.1 + 1 == i && q.2.category == 2))))) : sj_L X n (sj_st2 lo i v) ls' := by
  refine ⟨⟨h'.1, h'.2.1, fun q hq => ?_⟩, by rw [sj_st2, List.length_set, List.length_set, sj_kill_len]; exact h.2⟩
  obtain ⟨j, w, h1, rfl⟩ := (sj_al_in _ 0 q).mp hq
  apply h'.2.2
  unfold sj_st2 at h1
  have hj1 : j ≠ i + 1 := by
    intro hj
    subst hj
    have hl := (List.getElem?_eq_some_iff.mp h1).1
    rw [List.length_set] at hl
    rw [List.getElem?_set_self hl] at h1
    simp at h1
  rw [List.getElem?_set_ne (Ne.symm hj1)] at h1
  by_cases hj : j = i
  · subst hj
    have hl := (List.getElem?_eq_some_iff.mp h1).1
    rw [List.length_set] at hl
    rw [List.getElem?_set_self hl] at h1
    simp at h1
    rw [h1, Nat.zero_add]
    exact List.mem_cons_self
  · rw [List.getElem?_set_ne (Ne.symm hj)] at h1
    obtain ⟨g1, g2⟩ := sj_kill_get h1
    refine List.mem_cons_of_mem _ (List.mem_filter.mpr ⟨(sj_al_in lo 0 _).mpr ⟨j, w, g1, rfl⟩, ?_⟩)
    have e1 : (0 + j == i) = false := by simp; omega
    have e2 : (0 + j == i + 1) = false := by simp; omega
    rw [e1, e2]
    by_cases hji : j + 1 = i
    · have : sj_isJ w = false := by
        cases hw : sj_isJ w
        · rfl
        · exact absurd ⟨hji, hw⟩ g2
      rw [sj_c1 this]
      simp
    · simp
      omega
/-- fewer locals are known -/
def sj_lle : List (Option sj_V) → List (Option sj_V) → Prop
  | [], [] => True
  | none :: a, _ :: b => sj_lle a b
  | some v :: a, w :: b => w = some v ∧ sj_lle a b
  | _, _ => False
theorem sj_lle_get : ∀ {a b : List (Option sj_V)}, sj_lle a b → a.length = b.length ∧ ∀ (j : Nat) (v : sj_V), a[j]? = some (some v) → b[j]? = some (some v)
  | [], [], _ => ⟨rfl, fun j v h => h⟩
  | none :: a, w :: b, h => by
    obtain ⟨h1, h2⟩ := sj_lle_get (a := a) (b := b) h
    refine ⟨by simp [h1], fun j v hj => ?_⟩
    cases j with
    | zero => simp at hj
    | succ j => simpa using h2 j v (by simpa using hj)
  | some v :: a, w :: b, h => by
    obtain ⟨h0, h⟩ := h
    obtain ⟨h1, h2⟩ := sj_lle_get (a := a) (b := b) h
    refine ⟨by simp [h1], fun j v hj => ?_⟩
    cases j with
    | zero => simpa [h0] using hj
    | succ j => simpa using h2 j v (by simpa using hj)
  | [], _ :: _, h => absurd h (by simp [sj_lle])
  | none :: _, [], h => absurd h (by simp [sj_lle])
  | some _ :: _, [], h => absurd h (by simp [sj_lle])
theorem sj_L.weak {X : sj_X} {n : Nat} {lo l2 : List (Option sj_V)} {ls : Array Slot} (h : sj_L X n lo ls) (hl : sj_lle l2 lo) : sj_L X n l2 ls := by
  obtain ⟨h1, h2⟩ := sj_lle_get hl
  refine ⟨⟨h.1.1, h.1.2.1, fun q hq => ?_⟩, h1.trans h.2⟩
  obtain ⟨j, v, g1, rfl⟩ := (sj_al_in l2 0 q).mp hq
  exact h.1.2.2 _ ((sj_al_in lo 0 _).mpr ⟨j, v, h2 j v g1, rfl⟩)
/-- THE JUDGEMENT: from here the method comes to its end with o -/
def sj_T (X : sj_X) (M : sj_M) (s0 : sj_Mem) (o : Option sj_V × sj_Mem) (pc : Nat) (lo : List (Option sj_V)) (st : List sj_V) (s : sj_Mem) : Prop :=
  (sj_sz s ≤ sj_sz o.2 ∧ sj_sl s ≤ sj_sl o.2) ∧
  ∀ (p : Program) (e : Env) (R : Room) (S : State) (m : MethodId) (args : Array Value) (below : List Frame) (meth : Method) (c : Code) (Q : State → Prop) (H : Heap) (ls : Array Slot) (locs : List Loc),
    sj_Cx X M p R S m args meth c → (sj_sz o.2 - sj_sz s0 ≤ R.cells ∧ sj_sl o.2 - sj_sl s0 ≤ R.slots) → sj_End X M s0 o p e R S m args below meth c Q → (sj_sz s0 ≤ sj_sz s ∧ sj_sl s0 ≤ sj_sl s) → sj_L X M.2.2.1 lo ls → sj_Hd X s S H locs →
    W p X.2.2.1 e R S m args below meth c H locs (sj_sz s - sj_sz s0) (sj_sl s - sj_sl s0) Q (F0 m pc ls (st.map (sj_v X)))
theorem sj_weak {X : sj_X} {M : sj_M} {s0 s : sj_Mem} {o : Option sj_V × sj_Mem} {pc : Nat} {lo l2 : List (Option sj_V)} {st : List sj_V} (hl : sj_lle l2 lo) (k : sj_T X M s0 o pc l2 st s) : sj_T X M s0 o pc lo st s :=
  ⟨k.1, fun p e R S m args below meth c Q H ls locs E hR hQ h0 hL hH => k.2 p e R S m args below meth c Q H ls locs E hR hQ h0 (hL.weak hl) hH⟩
