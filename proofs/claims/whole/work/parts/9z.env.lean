/-! what holds at the law's entry -/
section Env
variable {args : Array Value} {s : State} {x y : Cond}
theorem bl (h : (Cond.and x y).before args s = true) : x.before args s = true := by
  rw [Cond.before_and, Bool.and_eq_true] at h
  exact h.1
theorem br (h : (Cond.and x y).before args s = true) : y.before args s = true := by
  rw [Cond.before_and, Bool.and_eq_true] at h
  exact h.2
theorem lt_kw {w : Cond} (h : w ∈ sj_kw) : w ∈ lw_tbl := (List.mem_filter.mp h).1
theorem lt_1 {w : Cond} (i : Nat) (h : tables_1_1[i]? = some w) : w ∈ lw_tbl := List.mem_append_right _ (List.mem_append_left _ (List.mem_of_getElem? h))
theorem lt_2 {w : Cond} (i : Nat) (h : tables_1_2[i]? = some w) : w ∈ lw_tbl := List.mem_append_right _ (List.mem_append_right _ (List.mem_append_left _ (List.mem_of_getElem? h)))
theorem lt_3 {w : Cond} (i : Nat) (h : tables_1_3[i]? = some w) : w ∈ lw_tbl := List.mem_append_right _ (List.mem_append_right _ (List.mem_append_right _ (List.mem_append_left _ (List.mem_of_getElem? h))))
def tmK (i : Nat) : Term := Term.string RX7 (sj_tk.getD i 0)
theorem en_ex (hg : (Jvm.Cond.and given_1 narrow_1).before args s = true) : ∀ i : Nat, i < 9 → (Cond.exactly (tmK i) "java/lang/String").before args s = true
  | 0, _ => (bl (bl (bl (br (bl (bl (bl (br hg))))))))
  | 1, _ => (bl (bl (br (bl (br (bl (bl (br hg))))))))
  | 2, _ => (br (br (br (br (br (bl (bl (br hg))))))))
  | 3, _ => (bl (br (bl (br (bl (br (bl (br hg))))))))
  | 4, _ => (bl (br (br (bl (br (br (bl (br hg))))))))
  | 5, _ => (br (br (bl (bl (bl (bl (br (br hg))))))))
  | 6, _ => (br (bl (bl (bl (br (bl (br (br hg))))))))
  | 7, _ => (bl (br (br (br (br (bl (br (br hg))))))))
  | 8, _ => (bl (br (br (br (bl (br (br (br hg))))))))
  | n + 9, h => absurd h (by omega)
theorem en_co (hg : (Jvm.Cond.and given_1 narrow_1).before args s = true) : ∀ i : Nat, i < 9 → (Cond.eq (.field (tmK i) "java/lang/String" "coder" "B") (.int 0)).before args s = true
  | 0, _ => (br (bl (bl (br (bl (bl (bl (br hg))))))))
  | 1, _ => (br (bl (br (bl (br (bl (bl (br hg))))))))
  | 2, _ => (bl (bl (bl (bl (br (bl (br hg)))))))
  | 3, _ => (br (br (bl (br (bl (br (bl (br hg))))))))
  | 4, _ => (br (br (br (bl (br (br (bl (br hg))))))))
  | 5, _ => (bl (bl (br (bl (bl (bl (br (br hg))))))))
  | 6, _ => (bl (br (bl (bl (br (bl (br (br hg))))))))
  | 7, _ => (br (br (br (br (br (bl (br (br hg))))))))
  | 8, _ => (br (br (br (br (bl (br (br (br hg))))))))
  | n + 9, h => absurd h (by omega)
theorem en_ar (hg : (Jvm.Cond.and given_1 narrow_1).before args s = true) : ∀ i : Nat, i < 9 → (Cond.arrayOf (.field (tmK i) "java/lang/String" "value" "[B") .byte).before args s = true
  | 0, _ => (bl (br (bl (br (bl (bl (bl (br hg))))))))
  | 1, _ => (bl (br (br (bl (br (bl (bl (br hg))))))))
  | 2, _ => (bl (br (bl (bl (bl (br (bl (br hg))))))))
  | 3, _ => (bl (bl (br (br (bl (br (bl (br hg))))))))
  | 4, _ => (bl (bl (bl (br (br (br (bl (br hg))))))))
  | 5, _ => (br (bl (br (bl (bl (bl (br (br hg))))))))
  | 6, _ => (br (br (bl (bl (br (bl (br (br hg))))))))
  | 7, _ => (bl (bl (bl (bl (br (br (br hg)))))))
  | 8, _ => (bl (bl (bl (bl (br (br (br (br hg))))))))
  | n + 9, h => absurd h (by omega)
theorem en_le (hg : (Jvm.Cond.and given_1 narrow_1).before args s = true) : ∀ i : Nat, i < 9 → (Cond.eq (.length (.field (tmK i) "java/lang/String" "value" "[B")) (.int (Int32.ofNat (sj_tln.getD i 0)))).before args s = true
  | 0, _ => (br (br (bl (br (bl (bl (bl (br hg))))))))
  | 1, _ => (br (br (br (bl (br (bl (bl (br hg))))))))
  | 2, _ => (br (br (bl (bl (bl (br (bl (br hg))))))))
  | 3, _ => (br (bl (br (br (bl (br (bl (br hg))))))))
  | 4, _ => (br (bl (bl (br (br (br (bl (br hg))))))))
  | 5, _ => (bl (br (br (bl (bl (bl (br (br hg))))))))
  | 6, _ => (bl (bl (br (bl (br (bl (br (br hg))))))))
  | 7, _ => (bl (br (bl (bl (bl (br (br (br hg))))))))
  | 8, _ => (br (bl (bl (bl (br (br (br (br hg))))))))
  | n + 9, h => absurd h (by omega)
theorem en_el0 (hg : (Jvm.Cond.and given_1 narrow_1).before args s = true) : ∀ j : Nat, j < 7 → (Cond.eq (.elem (.field (tmK 0) "java/lang/String" "value" "[B") (.int (Int32.ofNat j))) (.int ((sj_byt.getD 0 []).getD j 0))).before args s = true
  | 0, _ => (bl (bl (br (br (bl (bl (bl (br hg))))))))
  | 1, _ => (br (bl (br (br (bl (bl (bl (br hg))))))))
  | 2, _ => (bl (br (br (br (bl (bl (bl (br hg))))))))
  | 3, _ => (br (br (br (br (bl (bl (bl (br hg))))))))
  | 4, _ => (bl (bl (bl (br (bl (bl (br hg)))))))
  | 5, _ => (bl (br (bl (bl (br (bl (bl (br hg))))))))
  | 6, _ => (br (br (bl (bl (br (bl (bl (br hg))))))))
  | n + 7, h => absurd h (by omega)
theorem en_el1 (hg : (Jvm.Cond.and given_1 narrow_1).before args s = true) : ∀ j : Nat, j < 6 → (Cond.eq (.elem (.field (tmK 1) "java/lang/String" "value" "[B") (.int (Int32.ofNat j))) (.int ((sj_byt.getD 1 []).getD j 0))).before args s = true
  | 0, _ => (bl (bl (bl (br (br (bl (bl (br hg))))))))
  | 1, _ => (br (bl (bl (br (br (bl (bl (br hg))))))))
  | 2, _ => (bl (br (bl (br (br (bl (bl (br hg))))))))
  | 3, _ => (br (br (bl (br (br (bl (bl (br hg))))))))
  | 4, _ => (bl (bl (br (br (br (bl (bl (br hg))))))))
  | 5, _ => (br (bl (br (br (br (bl (bl (br hg))))))))
  | n + 6, h => absurd h (by omega)
theorem en_el2 (hg : (Jvm.Cond.and given_1 narrow_1).before args s = true) : ∀ j : Nat, j < 4 → (Cond.eq (.elem (.field (tmK 2) "java/lang/String" "value" "[B") (.int (Int32.ofNat j))) (.int ((sj_byt.getD 2 []).getD j 0))).before args s = true
  | 0, _ => (bl (bl (br (bl (bl (br (bl (br hg))))))))
  | 1, _ => (br (bl (br (bl (bl (br (bl (br hg))))))))
  | 2, _ => (bl (br (br (bl (bl (br (bl (br hg))))))))
  | 3, _ => (br (br (br (bl (bl (br (bl (br hg))))))))
  | n + 4, h => absurd h (by omega)
theorem en_el3 (hg : (Jvm.Cond.and given_1 narrow_1).before args s = true) : ∀ j : Nat, j < 5 → (Cond.eq (.elem (.field (tmK 3) "java/lang/String" "value" "[B") (.int (Int32.ofNat j))) (.int ((sj_byt.getD 3 []).getD j 0))).before args s = true
  | 0, _ => (bl (br (br (br (bl (br (bl (br hg))))))))
  | 1, _ => (br (br (br (br (bl (br (bl (br hg))))))))
  | 2, _ => (bl (bl (bl (bl (br (br (bl (br hg))))))))
  | 3, _ => (br (bl (bl (bl (br (br (bl (br hg))))))))
  | 4, _ => (bl (br (bl (bl (br (br (bl (br hg))))))))
  | n + 5, h => absurd h (by omega)
theorem en_el4 (hg : (Jvm.Cond.and given_1 narrow_1).before args s = true) : ∀ j : Nat, j < 4 → (Cond.eq (.elem (.field (tmK 4) "java/lang/String" "value" "[B") (.int (Int32.ofNat j))) (.int ((sj_byt.getD 4 []).getD j 0))).before args s = true
  | 0, _ => (bl (br (bl (br (br (br (bl (br hg))))))))
  | 1, _ => (br (br (bl (br (br (br (bl (br hg))))))))
  | 2, _ => (bl (bl (br (br (br (br (bl (br hg))))))))
  | 3, _ => (br (bl (br (br (br (br (bl (br hg))))))))
  | n + 4, h => absurd h (by omega)
theorem en_el5 (hg : (Jvm.Cond.and given_1 narrow_1).before args s = true) : ∀ j : Nat, j < 5 → (Cond.eq (.elem (.field (tmK 5) "java/lang/String" "value" "[B") (.int (Int32.ofNat j))) (.int ((sj_byt.getD 5 []).getD j 0))).before args s = true
  | 0, _ => (br (br (br (bl (bl (bl (br (br hg))))))))
  | 1, _ => (bl (bl (bl (br (bl (bl (br (br hg))))))))
  | 2, _ => (br (bl (bl (br (bl (bl (br (br hg))))))))
  | 3, _ => (bl (br (bl (br (bl (bl (br (br hg))))))))
  | 4, _ => (br (br (bl (br (bl (bl (br (br hg))))))))
  | n + 5, h => absurd h (by omega)
theorem en_el6 (hg : (Jvm.Cond.and given_1 narrow_1).before args s = true) : ∀ j : Nat, j < 3 → (Cond.eq (.elem (.field (tmK 6) "java/lang/String" "value" "[B") (.int (Int32.ofNat j))) (.int ((sj_byt.getD 6 []).getD j 0))).before args s = true
  | 0, _ => (br (bl (br (bl (br (bl (br (br hg))))))))
  | 1, _ => (bl (br (br (bl (br (bl (br (br hg))))))))
  | 2, _ => (br (br (br (bl (br (bl (br (br hg))))))))
  | n + 3, h => absurd h (by omega)
theorem en_el7 (hg : (Jvm.Cond.and given_1 narrow_1).before args s = true) : ∀ j : Nat, j < 4 → (Cond.eq (.elem (.field (tmK 7) "java/lang/String" "value" "[B") (.int (Int32.ofNat j))) (.int ((sj_byt.getD 7 []).getD j 0))).before args s = true
  | 0, _ => (br (br (bl (bl (bl (br (br (br hg))))))))
  | 1, _ => (bl (bl (br (bl (bl (br (br (br hg))))))))
  | 2, _ => (br (bl (br (bl (bl (br (br (br hg))))))))
  | 3, _ => (bl (br (br (bl (bl (br (br (br hg))))))))
  | n + 4, h => absurd h (by omega)
theorem en_el8 (hg : (Jvm.Cond.and given_1 narrow_1).before args s = true) : ∀ j : Nat, j < 6 → (Cond.eq (.elem (.field (tmK 8) "java/lang/String" "value" "[B") (.int (Int32.ofNat j))) (.int ((sj_byt.getD 8 []).getD j 0))).before args s = true
  | 0, _ => (bl (br (bl (bl (br (br (br (br hg))))))))
  | 1, _ => (br (br (bl (bl (br (br (br (br hg))))))))
  | 2, _ => (bl (bl (br (bl (br (br (br (br hg))))))))
  | 3, _ => (br (bl (br (bl (br (br (br (br hg))))))))
  | 4, _ => (bl (br (br (bl (br (br (br (br hg))))))))
  | 5, _ => (br (br (br (bl (br (br (br (br hg))))))))
  | n + 6, h => absurd h (by omega)
theorem en_el (hg : (Jvm.Cond.and given_1 narrow_1).before args s = true) : ∀ i : Nat, i < 9 → ∀ j : Nat, j < sj_tln.getD i 0 → (Cond.eq (.elem (.field (tmK i) "java/lang/String" "value" "[B") (.int (Int32.ofNat j))) (.int ((sj_byt.getD i []).getD j 0))).before args s = true
  | 0, _, j, hj => en_el0 hg j hj
  | 1, _, j, hj => en_el1 hg j hj
  | 2, _, j, hj => en_el2 hg j hj
  | 3, _, j, hj => en_el3 hg j hj
  | 4, _, j, hj => en_el4 hg j hj
  | 5, _, j, hj => en_el5 hg j hj
  | 6, _, j, hj => en_el6 hg j hj
  | 7, _, j, hj => en_el7 hg j hj
  | 8, _, j, hj => en_el8 hg j hj
  | n + 9, h, _, _ => absurd h (by omega)
theorem en_ne1 (hg : (Jvm.Cond.and given_1 narrow_1).before args s = true) : ∀ i : Nat, i < 1 → (Cond.not (Cond.eq (tmK i) (tmK 1))).before args s = true
  | 0, _ => (bl (br (br (br (br (bl (bl (br hg))))))))
  | n + 1, h => absurd h (by omega)
theorem en_ne2 (hg : (Jvm.Cond.and given_1 narrow_1).before args s = true) : ∀ i : Nat, i < 2 → (Cond.not (Cond.eq (tmK i) (tmK 2))).before args s = true
  | 0, _ => (bl (bl (bl (br (bl (br (bl (br hg))))))))
  | 1, _ => (br (bl (bl (br (bl (br (bl (br hg))))))))
  | n + 2, h => absurd h (by omega)
theorem en_ne3 (hg : (Jvm.Cond.and given_1 narrow_1).before args s = true) : ∀ i : Nat, i < 3 → (Cond.not (Cond.eq (tmK i) (tmK 3))).before args s = true
  | 0, _ => (br (br (bl (bl (br (br (bl (br hg))))))))
  | 1, _ => (bl (bl (br (bl (br (br (bl (br hg))))))))
  | 2, _ => (br (bl (br (bl (br (br (bl (br hg))))))))
  | n + 3, h => absurd h (by omega)
theorem en_ne4 (hg : (Jvm.Cond.and given_1 narrow_1).before args s = true) : ∀ i : Nat, i < 4 → (Cond.not (Cond.eq (tmK i) (tmK 4))).before args s = true
  | 0, _ => (bl (br (br (br (br (br (bl (br hg))))))))
  | 1, _ => (br (br (br (br (br (br (bl (br hg))))))))
  | 2, _ => (bl (bl (bl (bl (bl (br (br hg)))))))
  | 3, _ => (bl (br (bl (bl (bl (bl (br (br hg))))))))
  | n + 4, h => absurd h (by omega)
theorem en_ne5 (hg : (Jvm.Cond.and given_1 narrow_1).before args s = true) : ∀ i : Nat, i < 5 → (Cond.not (Cond.eq (tmK i) (tmK 5))).before args s = true
  | 0, _ => (bl (bl (br (br (bl (bl (br (br hg))))))))
  | 1, _ => (br (bl (br (br (bl (bl (br (br hg))))))))
  | 2, _ => (bl (br (br (br (bl (bl (br (br hg))))))))
  | 3, _ => (br (br (br (br (bl (bl (br (br hg))))))))
  | 4, _ => (bl (bl (bl (bl (br (bl (br (br hg))))))))
  | n + 5, h => absurd h (by omega)
theorem en_ne6 (hg : (Jvm.Cond.and given_1 narrow_1).before args s = true) : ∀ i : Nat, i < 6 → (Cond.not (Cond.eq (tmK i) (tmK 6))).before args s = true
  | 0, _ => (bl (bl (bl (br (br (bl (br (br hg))))))))
  | 1, _ => (br (bl (bl (br (br (bl (br (br hg))))))))
  | 2, _ => (bl (br (bl (br (br (bl (br (br hg))))))))
  | 3, _ => (br (br (bl (br (br (bl (br (br hg))))))))
  | 4, _ => (bl (bl (br (br (br (bl (br (br hg))))))))
  | 5, _ => (br (bl (br (br (br (bl (br (br hg))))))))
  | n + 6, h => absurd h (by omega)
theorem en_ne7 (hg : (Jvm.Cond.and given_1 narrow_1).before args s = true) : ∀ i : Nat, i < 7 → (Cond.not (Cond.eq (tmK i) (tmK 7))).before args s = true
  | 0, _ => (br (br (br (bl (bl (br (br (br hg))))))))
  | 1, _ => (bl (bl (bl (br (bl (br (br (br hg))))))))
  | 2, _ => (br (bl (bl (br (bl (br (br (br hg))))))))
  | 3, _ => (bl (br (bl (br (bl (br (br (br hg))))))))
  | 4, _ => (br (br (bl (br (bl (br (br (br hg))))))))
  | 5, _ => (bl (bl (br (br (bl (br (br (br hg))))))))
  | 6, _ => (br (bl (br (br (bl (br (br (br hg))))))))
  | n + 7, h => absurd h (by omega)
theorem en_ne8 (hg : (Jvm.Cond.and given_1 narrow_1).before args s = true) : ∀ i : Nat, i < 8 → (Cond.not (Cond.eq (tmK i) (tmK 8))).before args s = true
  | 0, _ => (bl (bl (bl (br (br (br (br (br hg))))))))
  | 1, _ => (br (bl (bl (br (br (br (br (br hg))))))))
  | 2, _ => (bl (br (bl (br (br (br (br (br hg))))))))
  | 3, _ => (br (br (bl (br (br (br (br (br hg))))))))
  | 4, _ => (bl (bl (br (br (br (br (br (br hg))))))))
  | 5, _ => (br (bl (br (br (br (br (br (br hg))))))))
  | 6, _ => (bl (br (br (br (br (br (br (br hg))))))))
  | 7, _ => (br (br (br (br (br (br (br (br hg))))))))
  | n + 8, h => absurd h (by omega)
theorem en_ne (hg : (Jvm.Cond.and given_1 narrow_1).before args s = true) : ∀ j : Nat, j < 9 → ∀ i : Nat, i < j → (Cond.not (Cond.eq (tmK i) (tmK j))).before args s = true
  | 0, _, _, h => absurd h (by omega)
  | 1, _, i, h => en_ne1 hg i h
  | 2, _, i, h => en_ne2 hg i h
  | 3, _, i, h => en_ne3 hg i h
  | 4, _, i, h => en_ne4 hg i h
  | 5, _, i, h => en_ne5 hg i h
  | 6, _, i, h => en_ne6 hg i h
  | 7, _, i, h => en_ne7 hg i h
  | 8, _, i, h => en_ne8 hg i h
  | n + 9, h, _, _ => absurd h (by omega)
theorem en_cs (hg : (Jvm.Cond.and given_1 narrow_1).before args s = true) : (Cond.eq (.static "java/lang/String" "COMPACT_STRINGS" "Z") (.int 1)).before args s = true := (br (br (bl (bl (bl (bl (bl (br hg))))))))
theorem en_sf (hg : (Jvm.Cond.and given_1 narrow_1).before args s = true) : (Cond.isRef (.static "jdk/internal/util/Preconditions" "SIOOBE_FORMATTER" "Ljava/util/function/BiFunction;")).before args s = true := (bl (bl (br (bl (bl (bl (bl (br hg))))))))
theorem en_sr (hts : ∀ w ∈ lw_tbl, w.before args s = true) : ∀ n : Nat, n < 9 → (Cond.stringRef RX7 (sj_tk.getD n 0) (sj_txs.getD n "")).before args s = true
  | 0, _ => hts _ (lt_2 227 rfl)
  | 1, _ => hts _ (lt_3 69 rfl)
  | 2, _ => hts _ (lt_3 70 rfl)
  | 3, _ => hts _ (lt_3 71 rfl)
  | 4, _ => hts _ (lt_3 72 rfl)
  | 5, _ => hts _ (lt_3 73 rfl)
  | 6, _ => hts _ (lt_3 74 rfl)
  | 7, _ => hts _ (lt_3 75 rfl)
  | 8, _ => hts _ (lt_3 76 rfl)
  | n + 9, h => absurd h (by omega)
theorem en_nw {w : Cond} (hw : w ∈ sj_nest) (hts : ∀ w ∈ lw_tbl, w.before args s = true) : va_Nw w s := by
  have h1 := (List.mem_filter.mp hw).2
  have h := hts w (List.mem_filter.mp hw).1
  cases w <;> first | (exact va_Nw.of rfl h) | (cases h1)
theorem en_in {ci : Nat} {q : vw_C} (h : vwCl[ci]? = some q) : Cond.instantiable q.1 q.2.2 ∈ sj_kw := by
  have f : ∀ {own : String} {idx n : Nat}, sj_nw own idx ci n → Cond.instantiable q.1 q.2.2 ∈ sj_kw := fun hw => by
    obtain ⟨q', h1, _, h2, _⟩ := hw
    cases h1.symm.trans h
    exact h2
  match ci, h, @f with
  | 0, _, f => exact f nw_X8_9
  | 1, _, f => exact f nw_X8_22
  | 2, _, f => exact f nw_X8_32
  | 3, _, f => exact f nw_X8_57
  | 4, _, f => exact f nw_X8_50
  | 5, _, f => exact f nw_X8_64
  | 6, _, f => exact f nw_X8_188
  | 7, _, f => exact f nw_X8_43
  | 8, _, f => exact f nw_L_7
  | 9, _, f => exact f nw_L_10
  | n + 10, h, _ => simp [vwCl] at h
theorem en_kc (hts : ∀ w ∈ lw_tbl, w.before args s = true) : ∃ D : va_G, ∀ (c : Nat) (q : vw_C), vwCl[c]? = some q → u_Kn s q.1 q.2.1 q.2.2 (D.1 c) (D.2 c) := by
  have h0 : ∀ c : Nat, ∃ p : ClassId × (Nat → Nat), ∀ q : vw_C, vwCl[c]? = some q → u_Kn s q.1 q.2.1 q.2.2 p.1 p.2 := fun c => by
    cases hq : vwCl[c]? with
    | none => exact ⟨(0, fun _ => 0), fun q h => by cases h⟩
    | some q =>
      obtain ⟨cC, iS, hk⟩ := u_known (ws := sj_kw) (fun w hw => hts w (lt_kw hw)) (sj_cls hq).1 (hts _ (lt_kw (en_in hq)))
      exact ⟨(cC, iS), fun q' h => by cases h; exact hk⟩
  obtain ⟨f, hf⟩ := Classical.axiomOfChoice h0
  exact ⟨(fun c => (f c).1, fun c => (f c).2), fun c q h => hf c q h⟩
theorem en_ac {ty : FieldType} (h : (Cond.arrayClass ty).before args s = true) (ht : ∀ cA, s.vm.findClass ("[" ++ ty.toString) = some cA → va_RA s cA ty) : ∃ cA : ClassId, ArrOfT s cA ty ∧ va_RA s cA ty := by
  obtain ⟨cA, kA, comp, h1, h2, h3⟩ := Cond.arrayClass_spec h
  exact ⟨cA, fun n z => ⟨fun k h => (by cases h), kA, h2, comp, h3⟩, ht cA h1⟩
theorem en_ao {C : String} (h : (Cond.arrayOver (.object C)).before args s = true) : ∃ cA : ClassId, ArrOfT s cA (.object C) ∧ va_RA s cA (.object C) := by
  obtain ⟨comp, c, k, h1, h2, h3, h4, h5⟩ := Cond.arrayOver_spec h
  exact ⟨c, fun n z => ⟨fun k h => (by cases h), k, h3, comp, h4⟩, k, comp, h3, h4, h1, h5⟩
theorem en_env (l : Launch) {b L : Nat} {xs : Nat → Int32} (hts : ∀ w ∈ lw_tbl, w.before args s = true) (hg : (Jvm.Cond.and given_1 narrow_1).before args s = true) (hX : va_X b L xs s s.heap) (hb : b < s.heap.size) (hL : L ≤ 4096) : ∃ X : sj_X, sj_env X s ∧ X.1.1 = s.heap.size ∧ X.2.2 = (l, b, L, xs) := by
  obtain ⟨D, hD⟩ := en_kc hts
  obtain ⟨c0, a0⟩ := en_ac (ty := .int) (hts _ (lt_kw kw_62)) (fun _ h => h)
  obtain ⟨c1, a1⟩ := en_ac (ty := .long) (hts _ (lt_kw kw_276)) (fun _ h => h)
  obtain ⟨c2, a2⟩ := en_ac (ty := .boolean) (hts _ (lt_kw kw_1213)) (fun _ h => h)
  obtain ⟨c3, a3⟩ := en_ac (ty := .byte) (hts _ (lt_kw kw_590)) (fun _ h => h)
  have hao : (Cond.arrayOver (.object RX0)).before args s = true := hts _ (lt_1 193 rfl)
  obtain ⟨c4, a4⟩ := en_ao hao
  have hA : ∀ a : Nat, a < s.heap.size → ¬ (fun q : Nat => s.heap.size ≤ q) a := fun a ha => Nat.not_le.mpr ha
  obtain ⟨adK, adV, hS, hR⟩ := vk_Sof (args := args) (s := s) (N := 9) (tm := tmK) (len := sj_tln) (byt := sj_byt) (A := fun q : Nat => s.heap.size ≤ q) (by decide) (en_ex hg) (en_co hg) (en_ar hg) (en_le hg) (en_el hg) (fun i j hi hj hij => by
    rcases Nat.lt_or_gt_of_ne hij with h | h
    · exact Or.inl (en_ne hg j hj i h)
    · exact Or.inr (en_ne hg i hi j h)) hA
  refine ⟨((s.heap.size, D, fun k => if k = 0 then c0 else if k = 1 then c1 else if k = 2 then c2 else if k = 3 then c3 else c4), (adK, adV), l, b, L, xs), ⟨⟨hD, fun k q hk => ?_⟩, fun w hw => en_nw hw hts, va_AO.of hao, hS, fun n hn => vk_R.of (en_sr hts n hn) (hR n hn), hX, ⟨hb, Nat.le_refl _, hL⟩, va_Zof (hts _ (lt_3 1 rfl)) (hts _ (lt_kw kw_12)) (va_eqt (en_cs hg)) hA, va_Zqof (hts _ (lt_3 17 rfl)) (hts _ (lt_kw kw_14)) (en_sf hg) hA⟩, rfl, rfl⟩
  match k, hk with
  | 0, hk => cases hk; exact a0
  | 1, hk => cases hk; exact a1
  | 2, hk => cases hk; exact a2
  | 3, hk => cases hk; exact a3
  | 4, hk => cases hk; exact a4
  | n + 5, hk => simp [sj_tys] at hk
end Env
