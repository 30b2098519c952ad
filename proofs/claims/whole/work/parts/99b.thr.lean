/-! LEVEL 3: PlantGraph.position where there is no such thing: it throws -/
def IO9 : String := "java/lang/IndexOutOfBoundsException"
def up9 : List String := ["java/lang/RuntimeException", "java/lang/Exception"]
/-- a static of Throwable's: its cell, what it holds -/
def tZ (n d : String) (A : Nat → Prop) (U : State) (H : Heap) : Prop := ∃ (c : ClassId) (k : Class) (i : Nat) (f : Field) (a : Nat) (cell : Cell) (v : Value), U.vm.findClass Bundle.tN = some c ∧ U.fieldFound? Bundle.tN n d = some (c, k, i, f) ∧ f.isStatic = true ∧ k.statics = some a ∧ H[a]? = some cell ∧ cell.vm.isStatics = true ∧ cell.cls = c ∧ f.slot < cell.slots.size ∧ k.staticTypes[f.slot]? = some f.type ∧ cell.slots[f.slot]? = some v ∧ v.isRef = true ∧ ¬ A a
theorem tZ.moved {n d : String} {A : Nat → Prop} {u U : State} {H : Heap} (hvm : u.vm.Alike U.vm) (h : tZ n d A u H) : tZ n d A U H := by
  obtain ⟨c, k, i, f, a, cell, v, h0, h1, h2, h3, h4, h5, h6, h7, h8, h9⟩ := h
  obtain ⟨k', hi', he⟩ := State.fieldFound?_setVm hvm h1
  exact ⟨c, k', i, f, a, cell, v, by rw [hvm.findClass]; exact h0, hi', h2, by rw [he]; exact h3, h4, h5, h6, h7, by rw [he]; exact h8, h9⟩
theorem tZ.kept {n d : String} {A : Nat → Prop} {U : State} {H H1 : Heap} (h : tZ n d A U H) (hq : ∀ a : Nat, a < H.size → ¬ A a → H1[a]? = H[a]?) : tZ n d A U H1 := by
  obtain ⟨c, k, i, f, a, cell, v, h0, h1, h2, h3, h4, h5, h6, h7, h8, h9, h10, h11⟩ := h
  exact ⟨c, k, i, f, a, cell, v, h0, h1, h2, h3, by rw [hq a (Array.getElem?_eq_some_iff.mp h4).1 h11]; exact h4, h5, h6, h7, h8, h9, h10, h11⟩
theorem tZ.narrow {n d : String} {A B : Nat → Prop} {U : State} {H : Heap} (h : tZ n d A U H) (hAB : ∀ q, B q → A q) : tZ n d B U H := by
  obtain ⟨c, k, i, f, a, cell, v, h0, h1, h2, h3, h4, h5, h6, h7, h8, h9, h10, h11⟩ := h
  exact ⟨c, k, i, f, a, cell, v, h0, h1, h2, h3, h4, h5, h6, h7, h8, h9, h10, fun z => h11 (hAB a z)⟩
theorem tZ.lays {n d : String} {A : Nat → Prop} {U : State} {args : Array Value} (h : tZ n d A U U.heap) : (Cond.laysStatic Bundle.tN n d).before args U = true := by
  obtain ⟨c, k, i, f, a, cell, v, h0, h1, h2, h3, h4, h5, h6, h7, h8, h9, h10, h11⟩ := h
  exact Cond.laysStatic_of h0 h1 h2 h3 h4 h5 h6 h7 h8
theorem tZ.ref {n d : String} {A : Nat → Prop} {U : State} {args : Array Value} (h : tZ n d A U U.heap) : (Cond.isRef (.static Bundle.tN n d)).before args U = true := by
  obtain ⟨c, k, i, f, a, cell, v, h0, h1, h2, h3, h4, h5, h6, h7, h8, h9, h10, h11⟩ := h
  have ev : (Term.static Bundle.tN n d).eval args U none [] U = some v := by
    simp [Term.eval, State.fieldNamed?, h1, h2, h3, h4, h5, h9]
  simp only [Cond.before, Cond.holds, Cond.value, ev]
  cases v <;> simp_all [Value.isRef]
theorem tZ.of {n d : String} {A : Nat → Prop} {s : State} {args : Array Value} (hl : (Cond.laysStatic Bundle.tN n d).before args s = true) (hr : (Cond.isRef (.static Bundle.tN n d)).before args s = true) (hA : ∀ a : Nat, a < s.heap.size → ¬ A a) : tZ n d A s s.heap := by
  obtain ⟨c, k, i, f, a, cell, hc, hi, hst, ha, hcell, hs, hcls, hlt, hty⟩ := Cond.laysStatic_spec hl
  have hsl : cell.slots[f.slot]? = some cell.slots[f.slot] := Array.getElem?_eq_getElem hlt
  have ev : (Term.static Bundle.tN n d).eval args s none [] s = some cell.slots[f.slot] := by
    simp [Term.eval, State.fieldNamed?, hi, hst, ha, hcell, hs, hsl]
  refine ⟨c, k, i, f, a, cell, cell.slots[f.slot], hc, hi, hst, ha, hcell, hs, hcls, hlt, hty, hsl, ?_, hA a (Array.getElem?_eq_some_iff.mp hcell).1⟩
  simp only [Cond.before, Cond.holds, Cond.value, ev] at hr
  cases hv : cell.slots[f.slot] <;> rw [hv] at hr <;> simp_all [Value.isRef]
/-- what a throw asks beside the words that stay -/
def tX (A : Nat → Prop) (U : State) (H : Heap) : Prop := tZ "UNASSIGNED_STACK" Bundle.steD A U H ∧ tZ "SUPPRESSED_SENTINEL" Bundle.listD A U H ∧ va_Nw (.declares (Bundle.initS "java/lang/RuntimeException")) U ∧ va_Nw (.declares (Bundle.initS "java/lang/Exception")) U ∧ va_Nw (.declares (Bundle.initS Bundle.tN)) U ∧ va_Nw (.castable IO9 IO9) U
theorem tX_call {A : Nat → Prop} {U : State} {g : JFrame} {mk : MethodId} {a : Array Value} (h : tX A U U.heap) : tX A (U.calling g mk a) (U.calling g mk a).heap := by
  have e : U.vm.Alike (U.calling g mk a).vm := Vm.Alike.refl U.vm
  obtain ⟨h1, h2, h3, h4, h5, h6⟩ := h
  exact ⟨h1.moved e, h2.moved e, h3.same rfl rfl, h4.same rfl rfl, h5.same rfl rfl, h6.same rfl rfl⟩
theorem tX_pass {A B : Nat → Prop} {s U : State} {H : Heap} (hW : s.WarmedH U.vm) (hk : ∀ q : Nat, q < s.heap.size → ¬ A q → H[q]? = s.heap[q]?) (hF : ∀ q, B q → A q) (h : tX A s s.heap) : tX B U H := by
  have e : s.vm.Alike U.vm := hW.alike
  obtain ⟨h1, h2, h3, h4, h5, h6⟩ := h
  exact ⟨((h1.kept hk).moved e).narrow hF, ((h2.kept hk).moved e).narrow hF, va_Nw.warmD hW h3, va_Nw.warmD hW h4, va_Nw.warmD hW h5, va_Nw.warmC hW h6⟩
def own9 : List Cond := Bundle.ownAtoms "PlantGraph" 89 IO9 up9
def ok9 (c : Cond) : Bool := decide (c ∈ tb) || decide (c = .laysStatic Bundle.tN "UNASSIGNED_STACK" Bundle.steD) || decide (c = .laysStatic Bundle.tN "SUPPRESSED_SENTINEL" Bundle.listD) || decide (c = .isRef (.static Bundle.tN "UNASSIGNED_STACK" Bundle.steD)) || decide (c = .isRef (.static Bundle.tN "SUPPRESSED_SENTINEL" Bundle.listD)) || decide (c = .declares (Bundle.initS "java/lang/RuntimeException")) || decide (c = .declares (Bundle.initS "java/lang/Exception")) || decide (c = .declares (Bundle.initS Bundle.tN)) || decide (c = .castable IO9 IO9)
theorem own9_ok : own9.all ok9 = true := by decide +kernel
theorem own9_of {args : Array Value} {s : State} {A : Nat → Prop} (hts : ∀ w ∈ tb, w.before args s = true) (hX : tX A s s.heap) : ∀ c ∈ own9, c.before args s = true := by
  intro c hc
  obtain ⟨h1, h2, h3, h4, h5, h6⟩ := hX
  have h := List.all_eq_true.mp own9_ok c hc
  unfold ok9 at h
  simp only [Bool.or_eq_true, decide_eq_true_eq] at h
  rcases h with (((((((h | h) | h) | h) | h) | h) | h) | h) | h
  · exact hts c h
  · rw [h]; exact h1.lays
  · rw [h]; exact h2.lays
  · rw [h]; exact h1.ref
  · rw [h]; exact h2.ref
  · rw [h]; exact va_Nw.use rfl h3
  · rw [h]; exact va_Nw.use rfl h4
  · rw [h]; exact va_Nw.use rfl h5
  · rw [h]; exact va_Nw.use rfl h6
set_option maxHeartbeats 4000000 in
set_option maxRecDepth 100000 in
/-- isThing where there is none: nothing is written -/
theorem t_Pl_isThing (l : Launch) (dC : Nat → ClassId) (dI : Nat → Nat → Nat) (cI cL cB : ClassId) (qp : Nat) {k1 k2 k3 k4 k5 k6 k7 k8 k9 k10 k11 k12 k13 : Nat} {v1 v2 : Int32} {x1 : Int32} (hn : x1 < 0 ∨ v1 ≤ x1) : Met l y_Pl_isThing w_Pl_isThing rm_Pl_isThing (va_Pc [.ref qp, .int x1] (fun U => va_P (dC, dI) classes [(qp, .inr (1, [.int v1, .ref k1, .ref k2, .ref k3, .ref k4, .ref k5, .ref k6, .ref k7, .ref k8, .int v2, .ref k9, .ref k10, .ref k11, .ref k12, .ref k13]))] U.heap ∧ va_K (dC, dI) classes [(cI, .int), (cL, .long), (cB, .byte)] U)) (fun _ st o t => o = .returned (some (.int 0)) ∧ t.heap = st.heap) 0 0 (fun _ => False) := by
  refine Met.ofW (cc := b_Pl_isThing) (maxL := 2) (ret := (some .boolean)) (by decide) rfl ?_
  intro p e s m args below meth c s₁ B hml hv
  obtain ⟨ha, hP, hK⟩ := hv
  have hx := B.exec
  have hb := B.bytes
  have hr := B.returns
  have hts0 := atoms_spec (ws := w_Pl_isThing) B.pre
  have hts : ∀ w ∈ tb, w.before args s = true := fun w h => hts0 w (List.mem_cons_of_mem _ h)
  have hown : s.vm.findClass R_Pl = some m.cls := findClass_of_methodNamed B.named
  have hlocks := B.notSynchronized
  have hl := lv_entry [.ref qp, .int x1] (n := 2) (Nat.le_of_ble_eq_true rfl)
  have he9 : entryFrame m args 2 = F0 m 0 ((lg_sl [.ref qp, .int x1] ++ List.replicate (2 - (lg_sl [.ref qp, .int x1]).length) Slot.unset).toArray) [] := by rw [ha]; exact lg_entry_eq _ _ _
  rw [he9]
  clear he9
  generalize (lg_sl [.ref qp, .int x1] ++ List.replicate (2 - (lg_sl [.ref qp, .int x1]).length) Slot.unset).toArray = ls at hl ⊢
  have hl : lv_has ls 2 [(0, .ref qp), (1, .int x1)] := hl
  refine lv_iload_n hx hb d_Pl_isThing_0 rfl (lv_at hl 1 rfl) ?_
  refine lv_if_lt (tgt := 16) hx hb d_Pl_isThing_1 (by decide) (fun c1 => ?_) (fun c1 => ?_)
  · refine lv_iconst (v := 0) hx hb d_Pl_isThing_16 (by decide) ?_
    exact W.zret (v := 0) hx hb hr (by decide) (fun t ht hW => ⟨rfl, ht⟩) (fun q hq => by cases hq) d_Pl_isThing_17
  · refine lv_iload_n hx hb d_Pl_isThing_4 rfl (lv_at hl 1 rfl) ?_
    refine lv_aload_n hx hb d_Pl_isThing_5 rfl (lv_at hl 0 rfl) ?_
    refine va_get (D := (dC, dI)) (ci := 1) (v := .int v1) (C := R_Pl) (T := F_Pl) (N := 15) hx hb hts i_Pl hown hK hP 0 rfl rfl 0 (by decide) (hts (Cond.fieldLink R_Pl 55 "PlantGraph$Plant" "things" "I") kw11_8296991) (fun _ h9 => h9) rfl d_Pl_isThing_6 ?_
    refine lv_icmp_ge (tgt := 16) hx hb d_Pl_isThing_9 (by decide) (fun c9 => ?_) (fun c9 => ?_)
    · refine lv_iconst (v := 0) hx hb d_Pl_isThing_16 (by decide) ?_
      exact W.zret (v := 0) hx hb hr (by decide) (fun t ht hW => ⟨rfl, ht⟩) (fun q hq => by cases hq) d_Pl_isThing_17
    · exfalso
      rcases hn with h | h
      · exact c1 h
      · exact c9 h
/-- the end of a throw -/
def QT9 : Array Value → State → Outcome → State → Prop := fun _ st o t => ∃ ad, o = .threw ad ∧ FrameEndT st o t [] 1 6 ∧ (∀ q : Nat, q < st.heap.size → t.heap[q]? = st.heap[q]?) ∧ st.heap.size ≤ t.heap.size ∧ ∃ ce : Cell, t.heap[ad]? = some ce ∧ ce.vm = .none ∧ st.vm.findClass IO9 = some ce.cls
abbrev rT9 : Room := { frames := 6, cells := 1, slots := 6, locals := 82 }
theorem same_all {s t : State} {n k : Nat} (h : s.sameButNew t [] n k) : ∀ q : Nat, q < s.heap.size → t.heap[q]? = s.heap[q]? := by
  intro q hq
  obtain ⟨c', h1, h2, h3, h4⟩ := h.2.2.2.2.2 q s.heap[q] (Array.getElem?_eq_getElem hq)
  rw [h1, Array.getElem?_eq_getElem hq]
  have e : c'.slots = s.heap[q].slots := Array.ext_getElem? (fun i => h4 i (by simp))
  rw [h2, e]
set_option maxHeartbeats 4000000 in
set_option maxRecDepth 100000 in
theorem t_PG_position (l : Launch) (hfl : l.flags = flags0) (dC : Nat → ClassId) (dI : Nat → Nat → Nat) (cI cL cB : ClassId) (tP tR : Nat) (adK adV : Nat → Nat) (q_t qp : Nat) {g1 g2 g3 g4 g5 : Nat} {k1 k2 k3 k4 k5 k6 k7 k8 k9 k10 k11 k12 k13 : Nat} {v1 v2 : Int32} {x1 x2 : Int32} (hn : x1 < 0 ∨ v1 ≤ x1) : MetFree l y_PG_position (headSpec w_PG_position rT9) (va_Pc [.ref q_t, .int x1, .int x2] (fun U => va_P (dC, dI) classes [(q_t, .inr (0, [.ref qp, .ref g1, .ref g2, .ref g3, .ref g4, .ref g5])), (qp, .inr (1, [.int v1, .ref k1, .ref k2, .ref k3, .ref k4, .ref k5, .ref k6, .ref k7, .ref k8, .int v2, .ref k9, .ref k10, .ref k11, .ref k12, .ref k13]))] U.heap ∧ va_K (dC, dI) classes [(cI, .int), (cL, .long), (cB, .byte)] U ∧ ∃ A, gx tP tR adK adV A U U.heap ∧ tX A U U.heap)) (fun _ _ _ _ _ => True) QT9 := by
  refine MetFree.of_bodyS (code := b_PG_position) (maxLocals := 3) (ret := some .boolean) (by decide) ?_ ?_
  · intro args s m h hn
    obtain ⟨meth, c, h1, h2, h3, h4, h5, h6, -, -⟩ := Cond.code_spec hn (atoms_spec (ws := w_PG_position) h _ List.mem_cons_self)
    exact ⟨meth, c, h1, h2, h3, h4, h5, h6⟩
  intro p e s m args below meth c s₁ B hml hv _
  obtain ⟨ha, hP, hK, A, hG, hX⟩ := hv
  have hx := B.exec
  have hb := B.bytes
  have hts0 := atoms_spec (ws := w_PG_position) B.pre
  have hts : ∀ w ∈ tb, w.before args s = true := fun w h => hts0 w (List.mem_cons_of_mem _ h)
  have hown : s.vm.findClass R_PG = some m.cls := findClass_of_methodNamed B.named
  have hlocks := B.notSynchronized
  have X0 : Stand p l e rT9 s m args below meth c s₁ [] 0 0 := Stand.of_body B
  have hex : ∀ x ∈ c.exceptionTable.toList, covers x 20 = false := by
    obtain ⟨meth', c', q1, q2, -, -, -, -, q7, -⟩ := Cond.code_spec B.named (hts0 _ List.mem_cons_self)
    cases X0.method.symm.trans q1
    cases X0.code.symm.trans q2
    have : c.exceptionTable.toList = [] := by simpa using q7
    rw [this]
    intro x hx
    cases hx
  have htr : e.platform.stackTraces = false := by
    obtain ⟨-, -, -, -, hp, -⟩ := B.admits
    rw [hp]
    show l.stackTraces = false
    unfold Launch.stackTraces; rw [hfl]; decide
  have hh0 : s₁.heap = s.heap := by rw [B.state]; rfl
  have key : W p l e rT9 s m args below meth c s.heap [] 0 0 (fun t => ∃ o, t.status = .running ∧ Ended t below o ∧ QT9 args s o t) (entryFrame m args 3) := by
    have hl := lv_entry [.ref q_t, .int x1, .int x2] (n := 3) (Nat.le_of_ble_eq_true rfl)
    have he9 : entryFrame m args 3 = F0 m 0 ((lg_sl [.ref q_t, .int x1, .int x2] ++ List.replicate (3 - (lg_sl [.ref q_t, .int x1, .int x2]).length) Slot.unset).toArray) [] := by rw [ha]; exact lg_entry_eq _ _ _
    rw [he9]
    clear he9
    generalize (lg_sl [.ref q_t, .int x1, .int x2] ++ List.replicate (3 - (lg_sl [.ref q_t, .int x1, .int x2]).length) Slot.unset).toArray = ls at hl ⊢
    have hl : lv_has ls 3 [(0, .ref q_t), (1, .int x1), (2, .int x2)] := hl
    refine lv_aload_n hx hb d_PG_position_0 rfl (lv_at hl 0 rfl) ?_
    refine va_get (D := (dC, dI)) (ci := 0) (v := .ref qp) (C := R_PG) (T := F_PG) (N := 6) hx hb hts i_PG hown hK hP 0 rfl rfl 0 (by decide) (hts (Cond.fieldLink R_PG 12 "PlantGraph" "plant" "LPlantGraph$Plant;") kw99a_600ce89) (fun _ h9 => h9) rfl d_PG_position_1 ?_
    refine lv_iload_n hx hb d_PG_position_4 rfl (lv_at hl 1 rfl) ?_
    have hPc := hP.sub (ws' := [(qp, .inr (1, [.int v1, .ref k1, .ref k2, .ref k3, .ref k4, .ref k5, .ref k6, .ref k7, .ref k8, .int v2, .ref k9, .ref k10, .ref k11, .ref k12, .ref k13]))]) [1] rfl
    have run := va_runV (p := p) (l := l) (e := e) (R := rT9) (below := below) (meth := meth) (H := s.heap) (locs := []) (cells := 0) (slots := 0) (As := [.int x1]) (rest := []) (g := F0 m 5 ls [.int x1, .ref qp]) ⟨hx, hb, hml, hown, hts⟩ (t_Pl_isThing l dC dI cI cL cB qp (k1 := k1) (k2 := k2) (k3 := k3) (k4 := k4) (k5 := k5) (k6 := k6) (k7 := k7) (k8 := k8) (k9 := k9) (k10 := k10) (k11 := k11) (k12 := k12) (k13 := k13) (v2 := v2) hn) (my_cwV 1 hts kw99a_a1508cf kw99a_3a0aa7d kw99a_1aee59d kw99a_cd65af8 kw99a_a1735ca rfl rfl (by decide +kernel) ⟨Nat.le_of_ble_eq_true rfl, Nat.le_of_ble_eq_true rfl⟩) ⟨fun a U g mk q => by obtain ⟨q0, qP, qK⟩ := q; exact ⟨q0, qP, va_K.moved (u := U) (U := U.calling g mk a) (Vm.Alike.refl U.vm) qK⟩, va_recv hK hP (ci := 1) (q0 := 1) rfl rfl, fun U hU hW => ⟨rfl, by rw [hU]; exact hPc, va_K.moved hW.alike hK⟩⟩ rfl rfl hl.1 rfl (lv_room (Nat.le_of_ble_eq_true rfl)) d_PG_position_5 ⟨Nat.zero_le _, Nat.zero_le _⟩
    intro T hT X
    obtain ⟨v, st₀, t, T', L, h0, X', hL, e1, e2, ⟨hv, hheap⟩, st⟩ := run T hT X
    cases hv
    have eL : L = [] := List.eq_nil_iff_forall_not_mem.mpr (fun q hq => hL q hq)
    subst eL
    have hT' : T'.heap = s.heap := by rw [e1, hheap, h0]
    have go : W p l e rT9 s m args below meth c s.heap [] 0 0 (fun t => ∃ o, t.status = .running ∧ Ended t below o ∧ QT9 args s o t) (F0 m 8 ls [.int 0]) := by
      refine lv_if_ne (tgt := 21) hx hb d_PG_position_8 (by decide) (fun c8 => absurd rfl c8) (fun _ => ?_)
      obtain ⟨cX, hcX⟩ : ∃ cX, s.vm.findClass IO9 = some cX := by
        obtain ⟨c1, k1, hc1, -⟩ := Cond.instantiable_spec (hts (Cond.instantiable IO9 6) (by decide +kernel))
        exact ⟨c1, hc1⟩
      refine W.newcK hx hb hown (hts (Cond.classLink "PlantGraph" 85 IO9) (by decide +kernel)) (hts (Cond.instantiable IO9 6) (by decide +kernel)) (hts (Cond.initialized IO9) (by decide +kernel)) rfl d_PG_position_11 (Nat.le_of_ble_eq_true rfl) (Nat.le_of_ble_eq_true rfl) hcX rfl (fun H1 kX hkX f1 z1 o1 => ?_)
      refine W.eq (g2 := F0 m 14 ls [.ref s.heap.size]) rfl ?_
      refine lv_dup hx hb d_PG_position_14 rfl ?_
      refine va_ldcS hx hb hown hG.2.2.2.2.2.2.2.2.2.2.2.2.2.2.2.2.2.2.2 d_PG_position_15 ?_
      intro T2 hT2 X2
      obtain ⟨U, st2, hrun, hended, hWU, hsame, ce, hce, hown2⟩ := X2.ctorThrowS hx htr (own := R_PG) (cls := IO9) (names := up9) (ic := 89) hown (by decide +kernel) (by decide +kernel) (own9_of hts hX) (fun x hx => by cases hx) (a := s.heap.size) hcX hkX (by rw [hT2]; exact f1) (Nat.le_refl _) (msg := .ref (adK 7)) rfl (g := F0 m 17 ls [.ref (adK 7), .ref s.heap.size, .ref s.heap.size]) rfl (by rw [hml]; exact hl.1) rfl rfl (rest := []) rfl (by rw [hb]; exact d_PG_position_17) (by rw [hb]; exact d_PG_position_20) hex (by decide) (Nat.le_of_ble_eq_true rfl)
      refine ⟨U, st2, .threw s.heap.size, hrun, hended, s.heap.size, rfl, ⟨⟨_, rfl⟩, hWU, hsame⟩, same_all (t := ({ U with vm := s.vm } : State)) hsame, hsame.2.1, ce, hce, hown2.vm, hown2.cls⟩
    obtain ⟨t2, a1, b1⟩ := go T' hT' X'
    exact ⟨t2, st t2 a1, b1⟩
  obtain ⟨t, a1, o, b1, b2, b3⟩ := key s₁ hh0 X0
  exact ⟨t, o, a1, b1, b2, b3⟩
