-- contracts
def sj_rm (d a b : Nat) : Room := { frames := d, cells := a, slots := b, locals := 40 * d }
def sj_St (X : sj_X) (s : sj_Mem) (U : State) : Prop := U.heap.size = X.1.1 + sj_sz s ∧ va_P X.1.2.1 vwCl (sj_ws X s) U.heap ∧ sj_env X U
def sj_Qc (X : sj_X) (o : Option sj_V × sj_Mem) : Array Value → State → Outcome → State → Prop := fun _ st oc t => oc = .returned (o.1.map (sj_v X)) ∧ (t.heap.size = X.1.1 + sj_sz o.2 ∧ va_P X.1.2.1 vwCl (sj_ws X o.2) t.heap) ∧ va_F (sj_A X) st t
/-- called with these, over that memory, the method answers o -/
def sj_C (X : sj_X) (M : sj_M) (as : List sj_V) (s : sj_Mem) (o : Option sj_V × sj_Mem) : Prop := (sj_sz s ≤ sj_sz o.2 ∧ sj_sl s ≤ sj_sl o.2) ∧ Met X.2.2.1 M.1 (.code M.1 M.2.1 M.2.2.1 M.2.2.2.1 :: sj_kw) (sj_rm M.2.2.2.2 (sj_sz o.2 - sj_sz s) (sj_sl o.2 - sj_sl s)) (va_Pc (as.map (sj_v X)) (sj_St X s)) (sj_Qc X o) (sj_sz o.2 - sj_sz s) (sj_sl o.2 - sj_sl s) (sj_A X)
/-- the locals at the entry -/
def sj_lo : List sj_V → List (Option sj_V)
  | [] => []
  | v :: l => if sj_isJ v then some v :: none :: sj_lo l else some v :: sj_lo l
theorem sj_lo_len (X : sj_X) : ∀ l : List sj_V, (lg_sl (l.map (sj_v X))).length = (sj_lo l).length
  | [] => rfl
  | v :: l => by
    have ih := sj_lo_len X l
    unfold lg_sl at ih ⊢
    rw [List.map_cons, List.flatMap_cons, List.length_append, ih, sj_lo]
    cases hv : sj_isJ v
    · rw [sj_c1 hv]; simp; omega
    · rw [sj_c2 hv]; simp; omega
theorem sj_al_app (X : sj_X) (a b : List (Option sj_V)) (i : Nat) (hb : ∀ x ∈ b, x = none) : sj_al X i (a ++ b) = sj_al X i a := by
  induction a generalizing i with
  | nil =>
    induction b generalizing i with
    | nil => rfl
    | cons x b ih =>
      have hx := hb x List.mem_cons_self
      subst hx
      exact ih (fun y hy => hb y (List.mem_cons_of_mem _ hy)) (i + 1)
  | cons x a ih =>
    cases x with
    | none => exact ih (i + 1)
    | some v => show _ :: _ = _ :: _; congr 1; exact ih (i + 1)
theorem sj_al_lo (X : sj_X) : ∀ (l : List sj_V) (i : Nat), sj_al X i (sj_lo l) = lv_args i (l.map (sj_v X))
  | [], i => rfl
  | v :: l, i => by
    rw [sj_lo, List.map_cons, lv_args]
    cases hv : sj_isJ v
    · rw [if_neg (by simp), sj_al, sj_al_lo X l (i + 1), sj_c1 hv]; rfl
    · rw [if_pos rfl, sj_al, sj_al, sj_al_lo X l (i + 2), sj_c2 hv]; rfl
theorem sj_good {M : sj_M} (hc : Cond.code M.1 M.2.1 M.2.2.1 M.2.2.2.1 ∈ sj_kw) : GoodIn sj_kw (.code M.1 M.2.1 M.2.2.1 M.2.2.2.1 :: sj_kw) := by
  intro w hw
  rcases List.mem_cons.mp hw with rfl | h
  · exact ⟨hc, sj_kgood hc⟩
  · exact ⟨h, sj_kgood h⟩
theorem sj_c16 {x : Int} (h : 0 ≤ x ∧ x ≤ 65535) : ((Int32.ofInt x).toUInt32 % 65536).toInt32 = Int32.ofInt x := by
  have e := sj_t32 (x := x) ⟨by omega, by omega⟩
  exact lg_i2c_word (v := Int32.ofInt x) (by rw [e]; exact h.1) (by rw [e]; omega)
theorem sj_ch16 {x : Int} (h : 0 ≤ x ∧ x ≤ 65535) : narrow .char (.int (Int32.ofInt x)) = .int (Int32.ofInt x) := by
  have := pk_nc (Int32.ofInt x)
  rw [sj_c16 h] at this
  exact this
/-- a contract of a method that no entry overrides, out of its body -/
theorem sj_ofW {l : Launch} {y : MethodName} {ws ws' : List Cond} {rm : Room} {Pc : Array Value → State → Prop} {Qc : Array Value → State → Outcome → State → Prop} {mc ms : Nat} {free : Addr → Prop} {cc : ByteArray} {maxL : Nat} {ret : Option FieldType} (hy : plainFor y = true) (hw : ws = Cond.code y cc maxL ret :: ws')
    (body : ∀ p e s m args below meth c s₁, BodyLoose p l y (headSpec ws rm) cc maxL ret e s m args below meth c s₁ → c.maxLocals = maxL → Pc args s → W p l e (headSpec ws rm).room s m args below meth c s.heap [] 0 0 (MQ below Qc args s mc ms free) (entryFrame m args maxL)) : Met l y ws rm Pc Qc mc ms free :=
  MetFree.of_bodySF (code := cc) (maxLocals := maxL) (ret := ret) hy
    (fun args s m h hn => by
      obtain ⟨meth, c, h1, h2, h3, h4, h5, h6, -, -⟩ := Cond.code_spec hn (atoms_spec (ws := ws) h _ (hw ▸ List.mem_cons_self))
      exact ⟨meth, c, h1, h2, h3, h4, h5, h6⟩)
    (fun p e s m args below meth c s₁ B hml hP _ => by
      obtain ⟨t, a1, o, b1, b2, b3⟩ := body p e s m args below meth c s₁ B hml hP s₁ (by rw [B.state]; rfl) (Stand.of_body B)
      exact ⟨t, o, a1, b1, b2, b3⟩)
/-- a contract out of the walk of the body -/
theorem sj_C_of {X : sj_X} {M : sj_M} {as : List sj_V} {s : sj_Mem} {o : Option sj_V × sj_Mem} {lo : List (Option sj_V)} (hp : plainFor M.1 = true) (hn : (sj_lo as).length ≤ M.2.2.1) (hlo : sj_lo as ++ List.replicate (M.2.2.1 - (sj_lo as).length) none = lo) (h : sj_T X M s o 0 lo [] s) : sj_C X M as s o := by
  refine ⟨h.1, sj_ofW (cc := M.2.1) (maxL := M.2.2.1) (ret := M.2.2.2.1) hp rfl ?_⟩
  intro p e S m args below meth c s₁ B hml hv
  obtain ⟨rfl, hsz, hP, henv⟩ := hv
  have hts := atoms_spec (ws := .code M.1 M.2.1 M.2.2.1 M.2.2.2.1 :: sj_kw) B.pre
  have hown : S.vm.findClass M.1.cls = some m.cls := findClass_of_methodNamed B.named
  have hlocks := B.notSynchronized
  have hr := B.returns
  have hx := B.exec
  have hb := B.bytes
  rw [lg_entry_eq]
  have hl := lv_entry (as.map (sj_v X)) (n := M.2.2.1) (by rw [sj_lo_len]; exact hn)
  generalize (lg_sl (as.map (sj_v X)) ++ List.replicate (M.2.2.1 - (lg_sl (as.map (sj_v X))).length) Slot.unset).toArray = ls at hl ⊢
  have hL : sj_L X M.2.2.1 lo ls := by
    subst hlo
    refine ⟨?_, by simp; omega⟩
    rw [sj_al_app X _ _ 0 (fun x hx => (List.mem_replicate.mp hx).2), sj_al_lo]
    exact hl
  have K := h.2 p e (sj_rm M.2.2.2.2 (sj_sz o.2 - sj_sz s) (sj_sl o.2 - sj_sl s)) S m (as.map (sj_v X)).toArray below meth c (MQ below (sj_Qc X o) (as.map (sj_v X)).toArray S (sj_sz o.2 - sj_sz s) (sj_sl o.2 - sj_sl s) (sj_A X)) S.heap ls []
    ⟨hx, hb, hml, hown, fun w hw => hts w (List.mem_cons_of_mem _ hw), (name_of_methodNamed B.named B.method).1, Nat.le_refl _, Nat.le_refl _, henv⟩ ⟨Nat.le_refl _, Nat.le_refl _⟩ ?_ ⟨Nat.le_refl _, Nat.le_refl _⟩ hL ⟨hsz, hP, va_S.rf⟩
  · rw [Nat.sub_self, Nat.sub_self] at K
    exact K
  · intro H locs ls pc hHd hfit hret
    have post : ∀ t : State, t.heap = H → S.WarmedH t.vm → sj_Qc X o (as.map (sj_v X)).toArray S (.returned (o.1.map (sj_v X))) t := fun t ht _ => ⟨rfl, by rw [ht]; exact ⟨hHd.1, hHd.2.1⟩, hHd.2.2.F ht⟩
    obtain ⟨y, cd, mL, rt, dp⟩ := M
    obtain ⟨v, s'⟩ := o
    cases rt with
    | none =>
      cases v with
      | none => exact W.vret hx hb hr post hHd.2.2.2.2 hret
      | some v => exact absurd hfit (by simp [sj_fit])
    | some rt =>
      cases v with
      | none => cases rt <;> exact absurd hfit (by simp [sj_fit])
      | some v =>
        cases rt with
        | int =>
          rcases v with x | x | r | n
          · exact W.iret hx hb hr post hHd.2.2.2.2 hret
          all_goals exact absurd hfit (by simp [sj_fit])
        | boolean =>
          rcases v with x | x | r | n
          · exact W.zret hx hb hr (by rcases (show x = 0 ∨ x = 1 from hfit) with rfl | rfl <;> rfl) post hHd.2.2.2.2 hret
          all_goals exact absurd hfit (by simp [sj_fit])
        | byte =>
          rcases v with x | x | r | n
          · exact W.zret hx hb hr (congrArg Value.int (sj_by8 hfit)) post hHd.2.2.2.2 hret
          all_goals exact absurd hfit (by simp [sj_fit])
        | char =>
          rcases v with x | x | r | n
          · exact W.zret hx hb hr (sj_ch16 hfit) post hHd.2.2.2.2 hret
          all_goals exact absurd hfit (by simp [sj_fit])
        | long =>
          rcases v with x | x | r | n
          · exact absurd hfit (by simp [sj_fit])
          · exact W.lret hx hb hr post hHd.2.2.2.2 hret
          all_goals exact absurd hfit (by simp [sj_fit])
        | object C =>
          rcases v with x | x | r | n
          · exact absurd hfit (by simp [sj_fit])
          · exact absurd hfit (by simp [sj_fit])
          · refine W.aret hx hb hr (Or.inl ⟨C, rfl⟩) ?_ post hHd.2.2.2.2 hret
            cases r with
            | none => exact Or.inl rfl
            | some a => exact Or.inr ⟨_, rfl⟩
          · exact absurd hfit (by simp [sj_fit])
        | _ => exact absurd hfit (by simp [sj_fit])
/-- what a pool entry says of the method that it names -/
def sj_mw (own : String) (idx : Nat) (M' : sj_M) (n : Nat) : Prop := Cond.code M'.1 M'.2.1 M'.2.2.1 M'.2.2.2.1 ∈ sj_kw ∧ Cond.initialized M'.1.cls ∈ sj_kw ∧ (M'.1.cls ≠ "java/lang/invoke/MethodHandle" ∧ M'.1.cls ≠ "java/lang/invoke/VarHandle" ∧ (parseMethodDescriptor M'.1.desc).map (fun d => d.parameters.length) = some n) ∧ (Cond.methodLink own idx M'.1 ∈ sj_kw ∨ ∃ host : String, Cond.methodLinkNest own idx M'.1 host ∈ sj_nest)
def sj_vw (ci : Nat) (M' : sj_M) : Prop := (∃ q : vw_C, vwCl[ci]? = some q ∧ q.1 = M'.1.cls) ∧ Cond.instanceMethod M'.1 ∈ sj_kw ∧ Cond.selects M'.1.cls M'.1 M'.1 ∈ sj_kw
section CallRows
variable {X : sj_X} {M : sj_M} {s : sj_Mem} {p : Program} {e : Env} {R : Room} {S : State} {m : MethodId} {args : Array Value} {below : List Frame} {meth : Method} {c : Code} {Q : State → Prop} {H : Heap} {ls : Array Slot} {locs : List Loc} {cells slots pc : Nat} {rest : List Value}
theorem sj_go {o' : Option sj_V × sj_Mem} {mc ms : Nat} {st0 : List Value} {a : Array Value} (hr : va_Run p X.2.2.1 e R S m args below meth c H locs cells slots mc ms (F0 m pc ls st0) rest (sj_Qc X o' a) (sj_A X)) (hH : sj_Hd X s S H locs)
    (kk : ∀ (H1 : Heap) (locs1 : List Loc), sj_Hd X o'.2 S H1 locs1 → W p X.2.2.1 e R S m args below meth c H1 locs1 (cells + mc) (slots + ms) Q (F0 m (pc + 3) ls ((o'.1.map (sj_v X)).toList ++ rest))) : W p X.2.2.1 e R S m args below meth c H locs cells slots Q (F0 m pc ls st0) := by
  intro T hT Y
  obtain ⟨v, st₀, t, T', L, g0, Y', hL, e1, e2, ⟨hv, ⟨hz, hP⟩, hF⟩, st⟩ := hr T hT Y
  cases hv
  obtain ⟨hf1, hf2⟩ := hF
  rw [g0] at hf1 hf2
  have hS := hH.2.2
  obtain ⟨t2, b1, b2⟩ := kk T'.heap (locs ++ L) ⟨by rw [e1]; exact hz, by rw [e1]; exact hP, ⟨Nat.le_trans hS.1 (by rw [e1]; exact hf1), fun q h1 h2 => by rw [e1, hf2 q (Nat.lt_of_lt_of_le h1 hS.1) h2]; exact hS.2.1 q h1 h2, fun q hq => by
      rcases List.mem_append.mp hq with h | h
      · exact hS.2.2 q h
      · exact hL q h⟩⟩ T' rfl Y'
  exact ⟨t2, st t2 b1, b2⟩
theorem sj_blind {as : List sj_V} : FrameBlind (va_Pc (as.map (sj_v X)) (sj_St X s)) := fun a U g mk h => ⟨h.1, h.2.1, h.2.2.1, sj_env_same h.2.2.2 rfl rfl⟩
theorem sj_pre {as : List sj_V} (E : sj_Cx X M p R S m args meth c) (hH : sj_Hd X s S H locs) : ∀ U : State, U.heap = H → S.WarmedH U.vm → va_Pc (as.map (sj_v X)) (sj_St X s) (as.map (sj_v X)).toArray U := fun U hU hW => ⟨rfl, by rw [hU]; exact hH.1, by rw [hU]; exact hH.2.1, sj_env_move E.2.2.2.2.2.2.2.2 hH.2.2 hU hW⟩
end CallRows
section RulesF
variable {X : sj_X} {M : sj_M} {s0 s : sj_Mem} {o : Option sj_V × sj_Mem} {pc : Nat} {lo : List (Option sj_V)}
theorem sj_rooms {d d' mL f l : Nat} (h : d' + 1 ≤ d ∧ mL ≤ 21) (h1 : d ≤ f) (h2 : 40 * d ≤ l) : d' + 1 ≤ f ∧ 8 + (mL + 11) + 40 * d' ≤ l := by omega
def e_cv {α β : Type} (ci a : Nat) (s : sj_Mem) (r : Option (α × sj_Mem)) (K : α → sj_Mem → Option β) : Option β := if sj_is s.1 a ci then e_cl r K else none
theorem r_callV {β α : Type} {q : β} {K : α → sj_Mem → Option β} {r : Option (α × sj_Mem)} (val : α → Option sj_V) {M' : sj_M} {ci b n idx : Nat} {As rest st : List sj_V} (h : e_cv ci b s r K = some q) (hd : decode M.2.1 pc = .ok (.invokevirtual idx, 3)) (hw : sj_mw M.1.cls idx M' n) (hv : sj_vw ci M') (hC : ∀ v s', r = some (v, s') → sj_C X M' (sj_r (some b) :: As) s (val v, s')) (hn : As.length = n) (hdep : M'.2.2.2.2 + 1 ≤ M.2.2.2.2 ∧ M'.2.2.1 ≤ 21) (hrm : (rest.map sj_w).sum ≤ 8) (hst : st = As.reverse ++ sj_r (some b) :: rest)
    (k : ∀ v s', K v s' = some q → sj_T X M s0 o (pc + 3) lo ((val v).toList ++ rest) s') : sj_T X M s0 o pc lo (st) s := by
  subst hst
  unfold e_cv at h
  by_cases hc : sj_is s.1 b ci
  · rw [if_pos hc] at h
    cases r with
    | none => cases h
    | some vs =>
      obtain ⟨v, s'⟩ := vs
      have k := k v s' h
      obtain ⟨hC1, hM⟩ := hC v s' rfl
      have hC1 : sj_sz s ≤ sj_sz s' ∧ sj_sl s ≤ sj_sl s' := hC1
      have k1 := k.1
      refine ⟨⟨by omega, by omega⟩, fun p e R S m args below meth c Q H ls locs E hR hQ h0 hl hH => ?_⟩
      obtain ⟨E1, E2, E3, E4, E5, E6, E7, E8, E9⟩ := id E
      obtain ⟨w1, w2, w3, w4⟩ := hw
      obtain ⟨⟨qc, hqc, hnm⟩, v1, v2⟩ := hv
      have hci := sj_ci hqc
      have hrec : ∃ cell : Cell, H[X.1.1 + b]? = some cell ∧ cell.vm.isStatics = false ∧ S.vm.findClass M'.1.cls = some cell.cls := hnm ▸ va_recv E9.1 hH.2.1 hqc (q0 := b) (by rw [sj_ws_get hc.1, sj_ent_o hc.2 (by omega)])
      have hrun : va_Run p X.2.2.1 e R S m args below meth c H locs (sj_sz s - sj_sz s0) (sj_sl s - sj_sl s0) (sj_sz s' - sj_sz s) (sj_sl s' - sj_sl s) (F0 m pc ls ((As.reverse ++ sj_r (some b) :: rest).map (sj_v X))) (rest.map (sj_v X)) (sj_Qc X (val v, s') ((sj_r (some b) :: As).map (sj_v X)).toArray) (sj_A X) := by
        rcases w4 with w4 | ⟨host, w4⟩
        · exact va_runV (As := As.map (sj_v X)) (rest := rest.map (sj_v X)) ⟨E1, E2, E3, E4, E5⟩ hM ⟨callB_of n E5 (sj_good w1) rfl rfl rfl (E5 _ w2) (E5 _ w4) w3 (sj_rooms hdep E7 E8), E5 _ v1, E5 _ v2⟩ ⟨sj_blind, hrec, sj_pre (as := sj_r (some b) :: As) E hH⟩ rfl (by rw [List.length_map]; exact hn) hl.1.1 (by simp [sj_v, sj_r, sj_rv, va_rf]) (lv_room (by rw [sj_sum]; exact hrm)) hd ⟨by omega, by omega⟩
        · exact va_runVN (As := As.map (sj_v X)) (rest := rest.map (sj_v X)) ⟨E1, E2, E3, E4, E5⟩ hM ⟨va_cnB n E5 (sj_good w1) rfl rfl rfl (E9.2.1 _ w4) (E5 _ w2) w3 (sj_rooms hdep E7 E8), E5 _ v1, E5 _ v2⟩ ⟨sj_blind, hrec, sj_pre (as := sj_r (some b) :: As) E hH⟩ rfl (by rw [List.length_map]; exact hn) hl.1.1 (by simp [sj_v, sj_r, sj_rv, va_rf]) (lv_room (by rw [sj_sum]; exact hrm)) hd ⟨by omega, by omega⟩
      refine sj_go hrun hH (fun H1 locs1 hH1 => ?_)
      refine W.cs (cells' := sj_sz s' - sj_sz s0) (slots' := sj_sl s' - sj_sl s0) (by omega) (by omega) ?_
      have kk := k.2 p e R S m args below meth c Q H1 ls locs1 E hR hQ ⟨by omega, by omega⟩ hl hH1
      cases hvv : val v with
      | none => rw [hvv] at kk; exact kk
      | some z => rw [hvv] at kk; exact kk
  · rw [if_neg hc] at h; cases h

theorem r_callS {β α : Type} {q : β} {K : α → sj_Mem → Option β} {r : Option (α × sj_Mem)} (val : α → Option sj_V) {M' : sj_M} {n idx : Nat} {As rest st : List sj_V} (h : e_cl r K = some q) (hd : decode M.2.1 pc = .ok (.invokestatic idx, 3)) (hw : sj_mw M.1.cls idx M' n) (hv : Cond.static M'.1 ∈ sj_kw) (hC : ∀ v s', r = some (v, s') → sj_C X M' (As) s (val v, s')) (hn : As.length = n) (hdep : M'.2.2.2.2 + 1 ≤ M.2.2.2.2 ∧ M'.2.2.1 ≤ 21) (hrm : (rest.map sj_w).sum ≤ 8) (hst : st = As.reverse ++ rest)
    (k : ∀ v s', K v s' = some q → sj_T X M s0 o (pc + 3) lo ((val v).toList ++ rest) s') : sj_T X M s0 o pc lo (st) s := by
  subst hst
  cases r with
  | none => cases h
  | some vs =>
    obtain ⟨v, s'⟩ := vs
    have k := k v s' h
    obtain ⟨hC1, hM⟩ := hC v s' rfl
    have hC1 : sj_sz s ≤ sj_sz s' ∧ sj_sl s ≤ sj_sl s' := hC1
    have k1 := k.1
    refine ⟨⟨by omega, by omega⟩, fun p e R S m args below meth c Q H ls locs E hR hQ h0 hl hH => ?_⟩
    obtain ⟨E1, E2, E3, E4, E5, E6, E7, E8, E9⟩ := id E
    obtain ⟨w1, w2, w3, w4⟩ := hw
    have hrun : va_Run p X.2.2.1 e R S m args below meth c H locs (sj_sz s - sj_sz s0) (sj_sl s - sj_sl s0) (sj_sz s' - sj_sz s) (sj_sl s' - sj_sl s) (F0 m pc ls ((As.reverse ++ rest).map (sj_v X))) (rest.map (sj_v X)) (sj_Qc X (val v, s') ((As).map (sj_v X)).toArray) (sj_A X) := by
      rcases w4 with w4 | ⟨host, w4⟩
      · exact va_runS (As := As.map (sj_v X)) (rest := rest.map (sj_v X)) ⟨E1, E2, E3, E4, E5⟩ hM ⟨callB_of n E5 (sj_good w1) rfl rfl rfl (E5 _ w2) (E5 _ w4) w3 (sj_rooms hdep E7 E8), E5 _ hv⟩ ⟨sj_blind, sj_pre (as := As) E hH⟩ rfl (by rw [List.length_map]; exact hn) hl.1.1 (by simp [sj_v, sj_r, sj_rv, va_rf]) (lv_room (by rw [sj_sum]; exact hrm)) hd ⟨by omega, by omega⟩
      · exact va_runSN (As := As.map (sj_v X)) (rest := rest.map (sj_v X)) ⟨E1, E2, E3, E4, E5⟩ hM ⟨va_cnB n E5 (sj_good w1) rfl rfl rfl (E9.2.1 _ w4) (E5 _ w2) w3 (sj_rooms hdep E7 E8), E5 _ hv, trivial⟩ ⟨sj_blind, sj_pre (as := As) E hH⟩ rfl (by rw [List.length_map]; exact hn) hl.1.1 (by simp [sj_v, sj_r, sj_rv, va_rf]) (lv_room (by rw [sj_sum]; exact hrm)) hd ⟨by omega, by omega⟩
    refine sj_go hrun hH (fun H1 locs1 hH1 => ?_)
    refine W.cs (cells' := sj_sz s' - sj_sz s0) (slots' := sj_sl s' - sj_sl s0) (by omega) (by omega) ?_
    have kk := k.2 p e R S m args below meth c Q H1 ls locs1 E hR hQ ⟨by omega, by omega⟩ hl hH1
    cases hvv : val v with
    | none => rw [hvv] at kk; exact kk
    | some z => rw [hvv] at kk; exact kk

theorem r_callI {β α : Type} {q : β} {K : α → sj_Mem → Option β} {r : Option (α × sj_Mem)} (val : α → Option sj_V) {M' : sj_M} {b n idx : Nat} {As rest st : List sj_V} (h : e_cl r K = some q) (hd : decode M.2.1 pc = .ok (.invokespecial idx, 3)) (hw : sj_mw M.1.cls idx M' n) (hv : Cond.instanceMethod M'.1 ∈ sj_kw ∧ M'.1.name = "<init>" ∧ M'.2.2.2.1 = none) (hC : ∀ v s', r = some (v, s') → sj_C X M' (sj_r (some b) :: As) s (val v, s')) (hn : As.length = n) (hdep : M'.2.2.2.2 + 1 ≤ M.2.2.2.2 ∧ M'.2.2.1 ≤ 21) (hrm : (rest.map sj_w).sum ≤ 8) (hst : st = As.reverse ++ sj_r (some b) :: rest)
    (k : ∀ v s', K v s' = some q → sj_T X M s0 o (pc + 3) lo ((val v).toList ++ rest) s') : sj_T X M s0 o pc lo (st) s := by
  subst hst
  cases r with
  | none => cases h
  | some vs =>
    obtain ⟨v, s'⟩ := vs
    have k := k v s' h
    obtain ⟨hC1, hM⟩ := hC v s' rfl
    have hC1 : sj_sz s ≤ sj_sz s' ∧ sj_sl s ≤ sj_sl s' := hC1
    have k1 := k.1
    refine ⟨⟨by omega, by omega⟩, fun p e R S m args below meth c Q H ls locs E hR hQ h0 hl hH => ?_⟩
    obtain ⟨E1, E2, E3, E4, E5, E6, E7, E8, E9⟩ := id E
    obtain ⟨w1, w2, w3, w4⟩ := hw
    have hrun : va_Run p X.2.2.1 e R S m args below meth c H locs (sj_sz s - sj_sz s0) (sj_sl s - sj_sl s0) (sj_sz s' - sj_sz s) (sj_sl s' - sj_sl s) (F0 m pc ls ((As.reverse ++ sj_r (some b) :: rest).map (sj_v X))) (rest.map (sj_v X)) (sj_Qc X (val v, s') ((sj_r (some b) :: As).map (sj_v X)).toArray) (sj_A X) := by
      obtain ⟨y, cd, mL, rt, dp⟩ := M'
      have hrt : rt = none := hv.2.2
      subst hrt
      rcases w4 with w4 | ⟨host, w4⟩
      · exact va_runI (As := As.map (sj_v X)) (rest := rest.map (sj_v X)) ⟨E1, E2, E3, E4, E5⟩ hM ⟨callB_of n E5 (sj_good w1) rfl rfl rfl (E5 _ w2) (E5 _ w4) w3 (sj_rooms hdep E7 E8), hv.2.1, E5 _ hv.1⟩ ⟨sj_blind, sj_pre (as := sj_r (some b) :: As) E hH⟩ rfl (by rw [List.length_map]; exact hn) hl.1.1 (by simp [sj_v, sj_r, sj_rv, va_rf]) (lv_room (by rw [sj_sum]; exact hrm)) hd ⟨by omega, by omega⟩
      · exact va_runIN (As := As.map (sj_v X)) (rest := rest.map (sj_v X)) ⟨E1, E2, E3, E4, E5⟩ hM ⟨va_cnB n E5 (sj_good w1) rfl rfl rfl (E9.2.1 _ w4) (E5 _ w2) w3 (sj_rooms hdep E7 E8), hv.2.1, E5 _ hv.1⟩ ⟨sj_blind, sj_pre (as := sj_r (some b) :: As) E hH⟩ rfl (by rw [List.length_map]; exact hn) hl.1.1 (by simp [sj_v, sj_r, sj_rv, va_rf]) (lv_room (by rw [sj_sum]; exact hrm)) hd ⟨by omega, by omega⟩
    refine sj_go hrun hH (fun H1 locs1 hH1 => ?_)
    refine W.cs (cells' := sj_sz s' - sj_sz s0) (slots' := sj_sl s' - sj_sl s0) (by omega) (by omega) ?_
    have kk := k.2 p e R S m args below meth c Q H1 ls locs1 E hR hQ ⟨by omega, by omega⟩ hl hH1
    cases hvv : val v with
    | none => rw [hvv] at kk; exact kk
    | some z => rw [hvv] at kk; exact kk

end RulesF

