/-! LEVEL 3: the law's own position: it catches what PlantGraph.position throws -/
def y_lp : MethodName := ⟨"PlantGraphLaw", "position", "(LPlantGraph;II[J)I"⟩
def w_lp : List Cond := Cond.codeWith y_lp method_3_code 5 (some .int) [(0, 17, 20, 13)] :: tb
theorem d_lp_0 : decode method_3_code 0 = .ok (.aload_n 3, 1) := by decide +kernel
theorem d_lp_1 : decode method_3_code 1 = .ok (.iconst 0, 1) := by decide +kernel
theorem d_lp_2 : decode method_3_code 2 = .ok (.aload_n 0, 1) := by decide +kernel
theorem d_lp_3 : decode method_3_code 3 = .ok (.iload_n 1, 1) := by decide +kernel
theorem d_lp_4 : decode method_3_code 4 = .ok (.iload_n 2, 1) := by decide +kernel
theorem d_lp_5 : decode method_3_code 5 = .ok (.invokevirtual 7, 3) := by decide +kernel
theorem d_lp_8 : decode method_3_code 8 = .ok (.ifCond .eq 7, 3) := by decide +kernel
theorem d_lp_11 : decode method_3_code 11 = .ok (.lconst 1, 1) := by decide +kernel
theorem d_lp_12 : decode method_3_code 12 = .ok (.goto 4, 3) := by decide +kernel
theorem d_lp_15 : decode method_3_code 15 = .ok (.lconst 0, 1) := by decide +kernel
theorem d_lp_16 : decode method_3_code 16 = .ok (.lastore, 1) := by decide +kernel
theorem d_lp_17 : decode method_3_code 17 = .ok (.goto 7, 3) := by decide +kernel
theorem d_lp_20 : decode method_3_code 20 = .ok (.astore 4, 2) := by decide +kernel
theorem d_lp_22 : decode method_3_code 22 = .ok (.iconst 1, 1) := by decide +kernel
theorem d_lp_23 : decode method_3_code 23 = .ok (.ireturn, 1) := by decide +kernel
theorem d_lp_24 : decode method_3_code 24 = .ok (.iconst 0, 1) := by decide +kernel
theorem d_lp_25 : decode method_3_code 25 = .ok (.ireturn, 1) := by decide +kernel
theorem lp_code : (Cond.codeWith y_lp method_3_code 5 (some .int) [(0, 17, 20, 13)] : Cond) ∈ tb := by decide +kernel
theorem lp_ini : (Cond.initialized "PlantGraphLaw" : Cond) ∈ tb := by decide +kernel
theorem lp_link : (Cond.methodLink "PlantGraphLaw" 46 y_lp : Cond) ∈ tb := by decide +kernel
theorem lp_stat : (Cond.static y_lp : Cond) ∈ tb := by decide +kernel
theorem lp_l7 : (Cond.methodLink "PlantGraphLaw" 7 y_PG_position : Cond) ∈ tb := by decide +kernel
theorem lp_i7 : (Cond.instanceMethod y_PG_position : Cond) ∈ tb := by decide +kernel
theorem lp_s7 : (Cond.selects "PlantGraph" y_PG_position y_PG_position : Cond) ∈ tb := by decide +kernel
theorem lp_n7 : (Cond.initialized "PlantGraph" : Cond) ∈ tb := by decide +kernel
theorem lp_c7 : (Cond.code y_PG_position b_PG_position 3 (some .boolean) : Cond) ∈ tb := by decide +kernel
theorem lp_cl : (Cond.classLink "PlantGraphLaw" 13 IO9 : Cond) ∈ tb := by decide +kernel
theorem lp_warm {args : Array Value} {s : State} (ht : ∀ w ∈ tb, w.before args s = true) : ∀ w ∈ w_lp, ∀ (a' : Array Value) (U : State), s.WarmedH U.vm → w.before a' U = true := by
  intro w hw a' U hW
  have hm : w ∈ tb := by
    rcases List.mem_cons.mp hw with h | h
    · rw [h]; exact lp_code
    · exact h
  exact okw_warm (List.mem_filter.mp hm).2 (ht w hm) a' U hW
section LP
variable {p : Program} {l : Launch} {e : Env} {R : Room} {s : State} {m : MethodId} {args : Array Value} {below : List Frame} {meth : Method} {c : Code} {T : State} {H : Heap} {locs : List Loc} {cells slots : Nat}
/-- the law's call of its own position -/
theorem lp_run {cc : ByteArray} {rm : Room} {Pc : Array Value → State → Prop} {Qc : Array Value → State → Outcome → State → Prop} {mc ms nL : Nat} {free : Addr → Prop} {As rest : List Value} {g : JFrame} (hx : p.tables.exec = Jvm.exec) (hb : c.code = cc) (hml : c.maxLocals = nL) (ho : s.vm.findClass "PlantGraphLaw" = some m.cls) (hts : ∀ w ∈ tb, w.before args s = true)
    (hM : Met l y_lp w_lp rm Pc Qc mc ms free) (hrc : rm.cells = mc) (hrs : rm.slots = ms) (hR : rm.frames + 1 ≤ R.frames ∧ 8 + (5 + 11) + rm.locals ≤ R.locals) (hp : PreS s H Pc As)
    (hg : g.method = m) (hn : As.length = 4) (hsize : g.locals.size = nL) (hstack : g.stack = As.reverse ++ rest) (hW : 2 * g.monitorRoom + (rest.map fun v => v.category).sum ≤ 8) (hdg : decode cc g.pc = .ok (.invokestatic 46, 3)) (hf : cells + mc ≤ R.cells ∧ slots + ms ≤ R.slots) :
    va_Run p l e R s m args below meth c H locs cells slots mc ms g rest (Qc As.toArray) free := by
  have hK : Back l R p e below s args y_lp 3 8 (PreOf R mc ms Pc) (PostOf Qc mc ms free) := va_backW (hh := [(0, 17, 20, 13)]) (bytes := method_3_code) (maxL := 5) (ret := some .int) hM hp.1 hrc hrs hR.1 hR.2 (lp_warm hts) List.mem_cons_self (fun a' U hW => okw_warm rfl (hts _ lp_ini) a' U hW)
  intro T hT X
  obtain ⟨mk, methM, cM, hnamed, hmethM, -, -, -, -, -, -, hsigM⟩ := Cond.codeWith_spec (hts _ lp_code)
  have hstatic : methM.isStatic = true := Cond.static_spec hnamed hmethM (hts _ lp_stat)
  obtain ⟨kP, hkP, -⟩ := className_of_methodNamed hnamed
  have hinitP : kP.init = .initialized := Cond.initialized_spec (findClass_of_methodNamed hnamed) hkP (hts _ lp_ini)
  have hsig : methM.sig.parameters.length = 4 := by
    have h1 : parseMethodDescriptor y_lp.desc = some methM.sig := hsigM
    have h2 : (parseMethodDescriptor y_lp.desc).map (fun d => d.parameters.length) = some 4 := by decide +kernel
    rw [h1] at h2
    exact Option.some.inj h2
  obtain ⟨vm₁, X₁, hstep₁⟩ := X.invokestatic hx ho (hts _ lp_link) hnamed hmethM hstatic hkP hinitP (by decide) (g := g) hg (argsL := As) (rest := rest) (by rw [hsig]; exact hn) hstack (by rw [hb]; exact hdg)
  obtain ⟨v, ⟨U', l2, c2, s2⟩, X', ⟨g', mk', t, L, e1, e2, hq, h1, hL, h2, h3⟩, hsteps⟩ := hK m meth c ⟨T.setVm vm₁, locs, cells, slots⟩ { g with stack := rest } (.invokestatic 46) mk As.toArray X₁ hg (hsize.trans hml.symm) (by rw [hb]; exact hdg) hW (X₁.named hnamed) ⟨hf.1, hf.2, hp.2 (T.setVm vm₁) hT X₁.warmed⟩
  dsimp only [Pt.U, Pt.locs, Pt.cells, Pt.slots] at X' e1 e2 h1 h2 h3 hsteps
  subst h1; subst h2; subst h3
  exact ⟨v, (T.setVm vm₁).calling g' mk' As.toArray, t, U', L, hT, X', hL, e1, e2, hq, fun target h => hstep₁ _ fun acts => by rw [doInvoke_state]; exact hsteps.trans h⟩
/-- a virtual call of one who throws -/
theorem lp_callT (X : Stand p l e R s m args below meth c T locs cells slots) (hexec : p.tables.exec = Jvm.exec) {own C : String} {index : Nat} {y : MethodName} {bytes : ByteArray} {maxL : Nat} {ret : Option FieldType}
    (hown : s.vm.findClass own = some m.cls) (hlink : (Cond.methodLink own index y).before args s = true) (hinst : (Cond.instanceMethod y).before args s = true) (hsel : (Cond.selects C y y).before args s = true)
    (hcode : (Cond.code y bytes maxL ret).before args s = true) (hy : y.cls ≠ "java/lang/invoke/MethodHandle" ∧ y.cls ≠ "java/lang/invoke/VarHandle")
    {W : Nat} {Pre : Pt → Array Value → Prop} {Post : Pt → Array Value → Addr → Pt → Prop} (hK : BackT l R p e below s args y 3 W Pre Post)
    {b : Addr} {cellB : Cell} (hcell : T.heap[b]? = some cellB) (hobj : cellB.vm.isStatics = false) (hcls : s.vm.findClass C = some cellB.cls)
    {g : JFrame} (hg : g.method = m) (hsize : g.locals.size = c.maxLocals) {argsL rest : List Value} (hlen : ∀ sig, parseMethodDescriptor y.desc = some sig → argsL.length = sig.parameters.length)
    (hstack : g.stack = argsL.reverse ++ .ref b :: rest) (hW : 2 * g.monitorRoom + (rest.map fun v => v.category).sum ≤ W) (hdg : decode c.code g.pc = .ok (.invokevirtual index, 3))
    (hpre : ∀ vm₁, s.WarmedH vm₁ → Pre ⟨T.setVm vm₁, locs, cells, slots⟩ (Value.ref b :: argsL).toArray) :
    ∃ (v : Addr) (vm₁ : Vm) (B : Pt), s.WarmedH vm₁ ∧ Stand p l e R s m args below meth c B.U B.locs B.cells B.slots ∧ Post ⟨T.setVm vm₁, locs, cells, slots⟩ (Value.ref b :: argsL).toArray v B ∧
      Steps p.tables e below (T.setTop g) ((B.U.setTop { g with stack := rest }).pushFrame (.throwing v)) := by
  obtain ⟨mk, methM, hnamed, hmethM, hstM, habM⟩ := Cond.instanceMethod_spec hinst
  obtain ⟨methM', cM, hmethM', -, -, -, -, -, -, hsigM⟩ := Cond.code_spec hnamed hcode
  cases hmethM.symm.trans hmethM'
  obtain ⟨c2, r2, m2, q1, q2, q3, q4, kP, hkP, hkPi⟩ := Cond.selects_spec hsel
  cases hcls.symm.trans q1
  cases (State.methodFound?_of_named hnamed hy).symm.trans q2
  cases hnamed.symm.trans q3
  have hselP : selectMethod e.platform s.vm cellB.cls mk = .method mk := by rw [Launch.admits_selectMethod X.admits]; exact q4
  obtain ⟨vm₁, X₁, hstep₁⟩ := X.invokevirtual hexec hown hlink hnamed hmethM hstM hkP hkPi hy (a := b) (cell := cellB) hcell
    (fun z h => by rw [h] at hobj; cases hobj) hselP hmethM habM hkP hkPi (g := g) hg (argsL := argsL) (rest := rest) (hlen _ hsigM) hstack hdg
  obtain ⟨v, B, X', hpost, hsteps⟩ := hK m meth c ⟨T.setVm vm₁, locs, cells, slots⟩ { g with stack := rest } (.invokevirtual index) mk (Value.ref b :: argsL).toArray X₁ hg hsize hdg hW (X₁.named hnamed) (hpre vm₁ X₁.warmed)
  exact ⟨v, vm₁, B, X₁.warmed, X', hpost, hstep₁ _ fun acts => by rw [doInvoke_state]; exact hsteps⟩
end LP
abbrev rm_lt : Room := { frames := 7, cells := 1, slots := 6, locals := 104 }
abbrev rm_lp : Room := { frames := 7, cells := 0, slots := 0, locals := 104 }
set_option maxHeartbeats 4000000 in
set_option maxRecDepth 100000 in
/-- there is no such thing: it answers 1 -/
theorem t_lp (l : Launch) (hfl : l.flags = flags0) (dC : Nat → ClassId) (dI : Nat → Nat → Nat) (cI cL cB : ClassId) (tP tR : Nat) (adK adV : Nat → Nat) (q_t qp qo : Nat) {g1 g2 g3 g4 g5 : Nat} {k1 k2 k3 k4 k5 k6 k7 k8 k9 k10 k11 k12 k13 : Nat} {v1 v2 : Int32} {x1 x2 : Int32} (hn : x1 < 0 ∨ v1 ≤ x1) : Met l y_lp w_lp rm_lt (va_Pc [.ref q_t, .int x1, .int x2, .ref qo] (fun U => va_P (dC, dI) classes [(q_t, .inr (0, [.ref qp, .ref g1, .ref g2, .ref g3, .ref g4, .ref g5])), (qp, .inr (1, [.int v1, .ref k1, .ref k2, .ref k3, .ref k4, .ref k5, .ref k6, .ref k7, .ref k8, .int v2, .ref k9, .ref k10, .ref k11, .ref k12, .ref k13]))] U.heap ∧ va_K (dC, dI) classes [(cI, .int), (cL, .long), (cB, .byte)] U ∧ ∃ A, gx tP tR adK adV A U U.heap ∧ tX A U U.heap)) (fun _ st o t => o = .returned (some (.int 1)) ∧ st.heap.size ≤ t.heap.size ∧ ∀ q : Nat, q < st.heap.size → t.heap[q]? = st.heap[q]?) 1 6 (fun _ => False) := by
  refine va_MetW (cc := method_3_code) (maxL := 5) (ret := some .int) (hh := [(0, 17, 20, 13)]) (by decide) rfl ?_
  intro p e s m args below meth c s₁ B hml hv
  obtain ⟨ha, hP, hK, A, hG, hX⟩ := hv
  have hx := B.exec
  have hb := B.bytes
  have hr := B.returns
  have hts0 := atoms_spec (ws := w_lp) B.pre
  have hts : ∀ w ∈ tb, w.before args s = true := fun w h => hts0 w (List.mem_cons_of_mem _ h)
  have hown : s.vm.findClass "PlantGraphLaw" = some m.cls := findClass_of_methodNamed B.named
  have hlocks := B.notSynchronized
  have htable : c.exceptionTable.toList = [⟨0, 17, 20, 13⟩] := by
    have X0 : Stand p l e rm_lt s m args below meth c s₁ [] 0 0 := Stand.of_body B
    obtain ⟨m', meth', c', q0, q1, q2, -, -, q5, -⟩ := Cond.codeWith_spec (hts _ lp_code)
    cases B.named.symm.trans q0
    cases X0.method.symm.trans q1
    cases X0.code.symm.trans q2
    rw [← table_eq c.exceptionTable.toList, q5]; rfl
  have hl := lv_entry [.ref q_t, .int x1, .int x2, .ref qo] (n := 5) (Nat.le_of_ble_eq_true rfl)
  have he9 : entryFrame m args 5 = F0 m 0 ((lg_sl [.ref q_t, .int x1, .int x2, .ref qo] ++ List.replicate (5 - (lg_sl [.ref q_t, .int x1, .int x2, .ref qo]).length) Slot.unset).toArray) [] := by rw [ha]; exact lg_entry_eq _ _ _
  rw [he9]
  clear he9
  generalize (lg_sl [.ref q_t, .int x1, .int x2, .ref qo] ++ List.replicate (5 - (lg_sl [.ref q_t, .int x1, .int x2, .ref qo]).length) Slot.unset).toArray = ls at hl ⊢
  have hl : lv_has ls 5 [(0, .ref q_t), (1, .int x1), (2, .int x2), (3, .ref qo)] := hl
  refine lv_aload_n hx hb d_lp_0 rfl (lv_at hl 3 rfl) ?_
  refine lv_iconst (v := 0) hx hb d_lp_1 (by decide) ?_
  refine lv_aload_n hx hb d_lp_2 rfl (lv_at hl 0 rfl) ?_
  refine lv_iload_n hx hb d_lp_3 rfl (lv_at hl 1 rfl) ?_
  refine lv_iload_n hx hb d_lp_4 rfl (lv_at hl 2 rfl) ?_
  have hBT : BackT l rm_lt p e below s args y_PG_position 3 8 (PreOf rm_lt 1 6 (va_Pc [.ref q_t, .int x1, .int x2] (fun U => va_P (dC, dI) classes [(q_t, .inr (0, [.ref qp, .ref g1, .ref g2, .ref g3, .ref g4, .ref g5])), (qp, .inr (1, [.int v1, .ref k1, .ref k2, .ref k3, .ref k4, .ref k5, .ref k6, .ref k7, .ref k8, .int v2, .ref k9, .ref k10, .ref k11, .ref k12, .ref k13]))] U.heap ∧ va_K (dC, dI) classes [(cI, .int), (cL, .long), (cB, .byte)] U ∧ ∃ A, gx tP tR adK adV A U U.heap ∧ tX A U U.heap)))
      (fun A a v B => B.locs = A.locs ∧ B.cells = A.cells + 1 ∧ B.slots = A.slots + 6 ∧ (∀ q : Nat, q < A.U.heap.size → B.U.heap[q]? = A.U.heap[q]?) ∧ A.U.heap.size ≤ B.U.heap.size ∧ ∃ ce : Cell, B.U.heap[v]? = some ce ∧ ce.vm = .none ∧ A.U.vm.findClass IO9 = some ce.cls) := by
    refine BackT.of_free (S := headSpec w_PG_position rT9) (bytes := b_PG_position) (maxL := 3) (ret := some .boolean) (E := fun a st o t L k n => L = [] ∧ k = 1 ∧ n = 6) (t_PG_position l hfl dC dI cI cL cB tP tR adK adV q_t qp (g1 := g1) (g2 := g2) (g3 := g3) (g4 := g4) (g5 := g5) (k1 := k1) (k2 := k2) (k3 := k3) (k4 := k4) (k5 := k5) (k6 := k6) (k7 := k7) (k8 := k8) (k9 := k9) (k10 := k10) (k11 := k11) (k12 := k12) (k13 := k13) (v2 := v2) (x2 := x2) hn) (by decide) (by decide) ?_ ?_ (fun _ _ _ _ _ _ _ _ _ => trivial) ?_ ?_
    · intro m meth c A a X hp
      refine ⟨atoms_intro (fun w hw => tb_warm hts lp_c7 w hw _ _ X.warmed), okw_warm rfl (hts _ lp_c7) _ _ X.warmed, okw_warm rfl (hts _ lp_n7) _ _ X.warmed, hp.1, hp.2.1⟩
    · intro m meth c A a g mk X hp
      obtain ⟨-, -, q0, qP, qK, A2, qG, qX⟩ := hp
      exact ⟨q0, qP, va_K.moved (u := A.U) (U := A.U.calling g mk a) (Vm.Alike.refl A.U.vm) qK, A2, gx_call qG, tX_call qX⟩
    · intro a first o t hq
      obtain ⟨ad, -, hF, -⟩ := hq
      exact ⟨[], 1, 6, hF, rfl, rfl, rfl⟩
    · intro m meth c A a g mk v t L k n X hp hq hF hE
      obtain ⟨rfl, rfl, rfl⟩ := hE
      obtain ⟨ad, q1, -, q3, q4, ce, q5, q6, q7⟩ := hq
      cases q1
      exact ⟨List.append_nil _, rfl, rfl, q3, q4, ce, q5, q6, q7⟩
  intro T hT X
  obtain ⟨cellB, g1', g2', g3'⟩ := va_recv hK hP (ci := 0) (q0 := 0) rfl rfl
  obtain ⟨v, vm₁, ⟨U, L1, c1, n1⟩, hW₁, XB, ⟨p1, p2, p3, p4, p5, ce, p6, p7, p8⟩, come⟩ := lp_callT X hx (own := "PlantGraphLaw") (C := "PlantGraph") (bytes := b_PG_position) (maxL := 3) (ret := some .boolean) hown (hts _ lp_l7) (hts _ lp_i7) (hts _ lp_s7) (hts _ lp_c7) (by decide) hBT (b := q_t) (by rw [hT]; exact g1') g2' g3' (g := F0 m 5 ls [.int x2, .int x1, .ref q_t, .int 0, .ref qo]) rfl (by rw [hml]; exact hl.1) (argsL := [.int x1, .int x2]) (rest := [.int 0, .ref qo]) (fun sig h => by
      have h2 : (parseMethodDescriptor y_PG_position.desc).map (fun d => d.parameters.length) = some 2 := by decide +kernel
      rw [h] at h2
      exact (Option.some.inj h2).symm) rfl (Nat.le_of_ble_eq_true rfl) (by rw [hb]; exact d_lp_5) (fun vm₁ hW => ⟨Nat.le_of_ble_eq_true rfl, Nat.le_of_ble_eq_true rfl, rfl, by show va_P _ _ _ T.heap; rw [hT]; exact hP, va_K.moved hW.alike hK, A, by show gx _ _ _ _ _ _ T.heap; rw [hT]; exact gx_pass hW (fun _ _ _ => rfl) (fun _ h => h) hG, by show tX _ _ T.heap; rw [hT]; exact tX_pass hW (fun _ _ _ => rfl) (fun _ h => h) hX⟩)
  dsimp only [Pt.U, Pt.locs, Pt.cells, Pt.slots] at XB p1 p2 p3 p4 p5 p6 p8 come
  subst p1; subst p2; subst p3
  have hheap : ∀ q : Nat, q < s.heap.size → U.heap[q]? = s.heap[q]? := fun q hq => by rw [← hT]; exact p4 q (by show q < T.heap.size; rw [hT]; exact hq)
  have hsz : s.heap.size ≤ U.heap.size := by rw [← hT]; exact p5
  obtain ⟨c3, cT, hc3, hcT, hasg⟩ := Cond.castable_spec (va_Nw.use (A := args) rfl hX.2.2.2.2.2)
  have hceC : s.vm.findClass IO9 = some ce.cls := by rw [← hW₁.alike.findClass]; exact p8
  cases hc3.symm.trans hceC
  obtain ⟨vm2, XV, come5⟩ := XB.thenCaughtLink v (g := F0 m 5 ls [.int 0, .ref qo]) rfl come (own := "PlantGraphLaw") (name := IO9) hown [] ⟨0, 17, 20, 13⟩ [] htable (fun y hy => by cases hy) (by show covers ⟨0, 17, 20, 13⟩ 5 = true; decide) (by decide) (hts _ lp_cl) hcT p6 (by rw [p7]; rfl) hasg
  have go : W p l e rm_lt s m args below meth c U.heap [] 1 6 (MQ below (fun _ st o t => o = .returned (some (.int 1)) ∧ st.heap.size ≤ t.heap.size ∧ ∀ q : Nat, q < st.heap.size → t.heap[q]? = st.heap[q]?) args s 1 6 (fun _ => False)) (F0 m 20 ls [.ref v]) := by
    refine lv_astore (lv' := [(4, .ref v), (0, .ref q_t), (1, .int x1), (2, .int x2), (3, .ref qo)]) hx hb d_lp_20 hl (by decide) rfl (fun ls hl => ?_)
    refine lv_iconst (v := 1) hx hb d_lp_22 (by decide) ?_
    exact W.iret (v := 1) hx hb hr (fun t ht hW => ⟨rfl, by rw [ht]; exact hsz, fun q hq => by rw [ht]; exact hheap q hq⟩) (fun q hq => by cases hq) d_lp_23
  obtain ⟨t, a1, b1⟩ := go (U.setVm vm2) rfl XV
  exact ⟨t, come5.trans a1, b1⟩
set_option maxHeartbeats 4000000 in
set_option maxRecDepth 100000 in
/-- there is such a thing: it answers 0, and out has the answer -/
theorem c_lp (l : Launch) (dC : Nat → ClassId) (dI : Nat → Nat → Nat) (cI cL cB : ClassId) (q_t qp qo : Nat) {g1 g2 g3 g4 g5 : Nat} {k1 k2 k3 k4 k5 k6 k7 k8 k9 k10 k11 k12 k13 : Nat} {v1 v2 : Int32} (sz : Nat) (fk fp : Nat → Int32) (fo : Nat → Int64) {x1 x2 : Int32} (P : (Nat → Int32) → Int64 → Prop) (hw : wp_PG_position v1 fk fp x1 x2 (fun r f => P f (if r = 0 then 0 else 1))) : Met l y_lp w_lp rm_lp (va_Pc [.ref q_t, .int x1, .int x2, .ref qo] (fun U => U.heap.size = sz ∧ va_P (dC, dI) classes [(q_t, .inr (0, [.ref qp, .ref g1, .ref g2, .ref g3, .ref g4, .ref g5])), (qp, .inr (1, [.int v1, .ref k1, .ref k2, .ref k3, .ref k4, .ref k5, .ref k6, .ref k7, .ref k8, .int v2, .ref k9, .ref k10, .ref k11, .ref k12, .ref k13])), (k1, .inl (cI, 40, .inl fk)), (k2, .inl (cI, 40, .inl fp)), (qo, .inl (cL, 1, .inr (.inl fo)))] U.heap ∧ va_K (dC, dI) classes [(cI, .int), (cL, .long), (cB, .byte)] U ∧ va_D (fun _ => True) [(q_t, .inr (0, [.ref qp, .ref g1, .ref g2, .ref g3, .ref g4, .ref g5])), (qp, .inr (1, [.int v1, .ref k1, .ref k2, .ref k3, .ref k4, .ref k5, .ref k6, .ref k7, .ref k8, .int v2, .ref k9, .ref k10, .ref k11, .ref k12, .ref k13])), (k1, .inl (cI, 40, .inl fk)), (k2, .inl (cI, 40, .inl fp)), (qo, .inl (cL, 1, .inr (.inl fo)))])) (va_Qi (fun r (u : (Nat → Int32) × Int64) => r = 0 ∧ P u.1 u.2) (fun u t => va_P (dC, dI) classes [(q_t, .inr (0, [.ref qp, .ref g1, .ref g2, .ref g3, .ref g4, .ref g5])), (qp, .inr (1, [.int v1, .ref k1, .ref k2, .ref k3, .ref k4, .ref k5, .ref k6, .ref k7, .ref k8, .int v2, .ref k9, .ref k10, .ref k11, .ref k12, .ref k13])), (k1, .inl (cI, 40, .inl fk)), (k2, .inl (cI, 40, .inl u.1)), (qo, .inl (cL, 1, .inr (.inl (vp_updL fo 0 u.2))))] t.heap ∧ va_K (dC, dI) classes [(cI, .int), (cL, .long), (cB, .byte)] t ∧ va_D (va_A [(q_t, .inr (0, [.ref qp, .ref g1, .ref g2, .ref g3, .ref g4, .ref g5])), (qp, .inr (1, [.int v1, .ref k1, .ref k2, .ref k3, .ref k4, .ref k5, .ref k6, .ref k7, .ref k8, .int v2, .ref k9, .ref k10, .ref k11, .ref k12, .ref k13])), (k1, .inl (cI, 40, .inl fk)), (k2, .inl (cI, 40, .inl fp)), (qo, .inl (cL, 1, .inr (.inl fo)))] sz) [(q_t, .inr (0, [.ref qp, .ref g1, .ref g2, .ref g3, .ref g4, .ref g5])), (qp, .inr (1, [.int v1, .ref k1, .ref k2, .ref k3, .ref k4, .ref k5, .ref k6, .ref k7, .ref k8, .int v2, .ref k9, .ref k10, .ref k11, .ref k12, .ref k13])), (k1, .inl (cI, 40, .inl fk)), (k2, .inl (cI, 40, .inl u.1)), (qo, .inl (cL, 1, .inr (.inl (vp_updL fo 0 u.2))))]) (va_A [(q_t, .inr (0, [.ref qp, .ref g1, .ref g2, .ref g3, .ref g4, .ref g5])), (qp, .inr (1, [.int v1, .ref k1, .ref k2, .ref k3, .ref k4, .ref k5, .ref k6, .ref k7, .ref k8, .int v2, .ref k9, .ref k10, .ref k11, .ref k12, .ref k13])), (k1, .inl (cI, 40, .inl fk)), (k2, .inl (cI, 40, .inl fp)), (qo, .inl (cL, 1, .inr (.inl fo)))] sz)) 0 0 (va_A [(q_t, .inr (0, [.ref qp, .ref g1, .ref g2, .ref g3, .ref g4, .ref g5])), (qp, .inr (1, [.int v1, .ref k1, .ref k2, .ref k3, .ref k4, .ref k5, .ref k6, .ref k7, .ref k8, .int v2, .ref k9, .ref k10, .ref k11, .ref k12, .ref k13])), (k1, .inl (cI, 40, .inl fk)), (k2, .inl (cI, 40, .inl fp)), (qo, .inl (cL, 1, .inr (.inl fo)))] sz) := by
  refine va_MetW (cc := method_3_code) (maxL := 5) (ret := some .int) (hh := [(0, 17, 20, 13)]) (by decide) rfl ?_
  intro p e s m args below meth c s₁ B hml hv
  obtain ⟨ha, hsz, hP, hK, hD0⟩ := hv
  have hx := B.exec
  have hb := B.bytes
  have hr := B.returns
  have hts0 := atoms_spec (ws := w_lp) B.pre
  have hts : ∀ w ∈ tb, w.before args s = true := fun w h => hts0 w (List.mem_cons_of_mem _ h)
  have hown : s.vm.findClass "PlantGraphLaw" = some m.cls := findClass_of_methodNamed B.named
  have hlocks := B.notSynchronized
  subst hsz
  have hD := hD0.self (sz := s.heap.size)
  generalize hAe : va_A [(q_t, .inr (0, [.ref qp, .ref g1, .ref g2, .ref g3, .ref g4, .ref g5])), (qp, .inr (1, [.int v1, .ref k1, .ref k2, .ref k3, .ref k4, .ref k5, .ref k6, .ref k7, .ref k8, .int v2, .ref k9, .ref k10, .ref k11, .ref k12, .ref k13])), (k1, .inl (cI, 40, .inl fk)), (k2, .inl (cI, 40, .inl fp)), (qo, .inl (cL, 1, .inr (.inl fo)))] s.heap.size = A at hD ⊢
  have hA : ∀ q : Nat, s.heap.size ≤ q → A q := fun q h => by rw [← hAe]; exact Or.inr h
  have hS : va_S A s.heap s.heap [] := va_S.rf
  have hl := lv_entry [.ref q_t, .int x1, .int x2, .ref qo] (n := 5) (Nat.le_of_ble_eq_true rfl)
  have he9 : entryFrame m args 5 = F0 m 0 ((lg_sl [.ref q_t, .int x1, .int x2, .ref qo] ++ List.replicate (5 - (lg_sl [.ref q_t, .int x1, .int x2, .ref qo]).length) Slot.unset).toArray) [] := by rw [ha]; exact lg_entry_eq _ _ _
  rw [he9]
  clear he9
  generalize (lg_sl [.ref q_t, .int x1, .int x2, .ref qo] ++ List.replicate (5 - (lg_sl [.ref q_t, .int x1, .int x2, .ref qo]).length) Slot.unset).toArray = ls at hl ⊢
  have hl : lv_has ls 5 [(0, .ref q_t), (1, .int x1), (2, .int x2), (3, .ref qo)] := hl
  refine lv_aload_n hx hb d_lp_0 rfl (lv_at hl 3 rfl) ?_
  refine lv_iconst (v := 0) hx hb d_lp_1 (by decide) ?_
  refine lv_aload_n hx hb d_lp_2 rfl (lv_at hl 0 rfl) ?_
  refine lv_iload_n hx hb d_lp_3 rfl (lv_at hl 1 rfl) ?_
  refine lv_iload_n hx hb d_lp_4 rfl (lv_at hl 2 rfl) ?_
  have hPc := hP.sub (ws' := [(q_t, .inr (0, [.ref qp, .ref g1, .ref g2, .ref g3, .ref g4, .ref g5])), (qp, .inr (1, [.int v1, .ref k1, .ref k2, .ref k3, .ref k4, .ref k5, .ref k6, .ref k7, .ref k8, .int v2, .ref k9, .ref k10, .ref k11, .ref k12, .ref k13])), (k1, .inl (cI, 40, .inl fk)), (k2, .inl (cI, 40, .inl fp))]) [0, 1, 2, 3] rfl
  have hDc := hD.sub (ws' := [(q_t, .inr (0, [.ref qp, .ref g1, .ref g2, .ref g3, .ref g4, .ref g5])), (qp, .inr (1, [.int v1, .ref k1, .ref k2, .ref k3, .ref k4, .ref k5, .ref k6, .ref k7, .ref k8, .int v2, .ref k9, .ref k10, .ref k11, .ref k12, .ref k13])), (k1, .inl (cI, 40, .inl fk)), (k2, .inl (cI, 40, .inl fp))]) [0, 1, 2, 3] (by decide) rfl
  have hFc := va_free (wc := [(q_t, .inr (0, [.ref qp, .ref g1, .ref g2, .ref g3, .ref g4, .ref g5])), (qp, .inr (1, [.int v1, .ref k1, .ref k2, .ref k3, .ref k4, .ref k5, .ref k6, .ref k7, .ref k8, .int v2, .ref k9, .ref k10, .ref k11, .ref k12, .ref k13])), (k1, .inl (cI, 40, .inl fk)), (k2, .inl (cI, 40, .inl fp))]) hD hS hA [0, 1, 2, 3] rfl
  refine va_calli (va_runV (As := [.int x1, .int x2]) (rest := [.int 0, .ref qo]) ⟨hx, hb, hml, hown, hts⟩ (c_PG_position l dC dI cI cL cB q_t qp g1 g2 g3 g4 g5 k1 k2 k3 k4 k5 k6 k7 k8 k9 k10 k11 k12 k13 s.heap.size v1 v2 fk fp x1 x2 _ hw) (my_cwV 2 hts lp_l7 lp_i7 lp_s7 lp_n7 lp_c7 rfl rfl (by decide +kernel) ⟨Nat.le_of_ble_eq_true rfl, Nat.le_of_ble_eq_true rfl⟩) ⟨fun a U g mk q => by obtain ⟨q0, q1, qP, qK, qD⟩ := q; exact ⟨q0, q1, qP, va_K.moved (u := U) (U := U.calling g mk a) (Vm.Alike.refl U.vm) qK, qD⟩, va_recv hK hP (ci := 0) (q0 := 0) rfl rfl, fun U hU hW => ⟨rfl, by rw [hU], by rw [hU]; exact hPc, va_K.moved hW.alike hK, hDc.weaken (fun _ _ _ _ => trivial)⟩⟩ rfl rfl hl.1 rfl (lv_room (Nat.le_of_ble_eq_true rfl)) d_lp_5 ⟨Nat.zero_le _, Nat.zero_le _⟩) hS (fun q _ h => hFc q h) hFc (fun r5 fp' t H locs ht hvm hw hB hz1 hk1 hS => ?_)
  obtain ⟨hP1, hK1, hD1⟩ := hB
  rw [ht] at hP1
  obtain ⟨hP, hD⟩ := va_join (wr := [(qo, .inl (cL, 1, .inr (.inl fo)))]) (w1 := [(q_t, .inr (0, [.ref qp, .ref g1, .ref g2, .ref g3, .ref g4, .ref g5])), (qp, .inr (1, [.int v1, .ref k1, .ref k2, .ref k3, .ref k4, .ref k5, .ref k6, .ref k7, .ref k8, .int v2, .ref k9, .ref k10, .ref k11, .ref k12, .ref k13])), (k1, .inl (cI, 40, .inl fk)), (k2, .inl (cI, 40, .inl fp'))]) hP hD [0, 1, 2, 3] [4] rfl rfl (by decide) (by decide) hk1 hFc hP1 hD1
  have hP : va_P (dC, dI) classes [(q_t, .inr (0, [.ref qp, .ref g1, .ref g2, .ref g3, .ref g4, .ref g5])), (qp, .inr (1, [.int v1, .ref k1, .ref k2, .ref k3, .ref k4, .ref k5, .ref k6, .ref k7, .ref k8, .int v2, .ref k9, .ref k10, .ref k11, .ref k12, .ref k13])), (k1, .inl (cI, 40, .inl fk)), (k2, .inl (cI, 40, .inl fp')), (qo, .inl (cL, 1, .inr (.inl fo)))] H := hP.sub (ws' := [(q_t, .inr (0, [.ref qp, .ref g1, .ref g2, .ref g3, .ref g4, .ref g5])), (qp, .inr (1, [.int v1, .ref k1, .ref k2, .ref k3, .ref k4, .ref k5, .ref k6, .ref k7, .ref k8, .int v2, .ref k9, .ref k10, .ref k11, .ref k12, .ref k13])), (k1, .inl (cI, 40, .inl fk)), (k2, .inl (cI, 40, .inl fp')), (qo, .inl (cL, 1, .inr (.inl fo)))]) [1, 2, 3, 4, 0] rfl
  have hD : va_D A [(q_t, .inr (0, [.ref qp, .ref g1, .ref g2, .ref g3, .ref g4, .ref g5])), (qp, .inr (1, [.int v1, .ref k1, .ref k2, .ref k3, .ref k4, .ref k5, .ref k6, .ref k7, .ref k8, .int v2, .ref k9, .ref k10, .ref k11, .ref k12, .ref k13])), (k1, .inl (cI, 40, .inl fk)), (k2, .inl (cI, 40, .inl fp')), (qo, .inl (cL, 1, .inr (.inl fo)))] := hD.sub (ws' := [(q_t, .inr (0, [.ref qp, .ref g1, .ref g2, .ref g3, .ref g4, .ref g5])), (qp, .inr (1, [.int v1, .ref k1, .ref k2, .ref k3, .ref k4, .ref k5, .ref k6, .ref k7, .ref k8, .int v2, .ref k9, .ref k10, .ref k11, .ref k12, .ref k13])), (k1, .inl (cI, 40, .inl fk)), (k2, .inl (cI, 40, .inl fp')), (qo, .inl (cL, 1, .inr (.inl fo)))]) [1, 2, 3, 4, 0] (by decide) rfl
  have fin : ∀ (r : Int64), P fp' r → W p l e (headSpec w_lp rm_lp).room s m args below meth c H locs 0 0 (MQ below (va_Qi (fun r (u : (Nat → Int32) × Int64) => r = 0 ∧ P u.1 u.2) (fun u t => va_P (dC, dI) classes [(q_t, .inr (0, [.ref qp, .ref g1, .ref g2, .ref g3, .ref g4, .ref g5])), (qp, .inr (1, [.int v1, .ref k1, .ref k2, .ref k3, .ref k4, .ref k5, .ref k6, .ref k7, .ref k8, .int v2, .ref k9, .ref k10, .ref k11, .ref k12, .ref k13])), (k1, .inl (cI, 40, .inl fk)), (k2, .inl (cI, 40, .inl u.1)), (qo, .inl (cL, 1, .inr (.inl (vp_updL fo 0 u.2))))] t.heap ∧ va_K (dC, dI) classes [(cI, .int), (cL, .long), (cB, .byte)] t ∧ va_D A [(q_t, .inr (0, [.ref qp, .ref g1, .ref g2, .ref g3, .ref g4, .ref g5])), (qp, .inr (1, [.int v1, .ref k1, .ref k2, .ref k3, .ref k4, .ref k5, .ref k6, .ref k7, .ref k8, .int v2, .ref k9, .ref k10, .ref k11, .ref k12, .ref k13])), (k1, .inl (cI, 40, .inl fk)), (k2, .inl (cI, 40, .inl u.1)), (qo, .inl (cL, 1, .inr (.inl (vp_updL fo 0 u.2))))]) A) args s 0 0 A) (F0 m 16 ls [.long r, .int 0, .ref qo]) := by
    intro r hr2
    refine va_last hx hb hK hP hD hS 4 1 rfl rfl (vp_in_nI (n := 0) (by decide) (by decide)) d_lp_16 (fun H locs hP hD hS => ?_)
    refine lv_goto (tgt := 24) hx hb d_lp_17 (by decide) ?_
    refine lv_iconst (v := 0) hx hb d_lp_24 (by decide) ?_
    exact W.iret (v := 0) hx hb hr (fun t ht hW => ⟨⟨0, (fp', r), rfl, ⟨rfl, hr2⟩, by rw [ht]; exact hP, va_K.moved hW.alike hK, hD⟩, hS.F ht⟩) hS.2.2 d_lp_25
  refine lv_if_eq (tgt := 15) hx hb d_lp_8 (by decide) (fun c8 => ?_) (fun c8 => ?_)
  · refine lv_lconst (v := 0) hx hb d_lp_15 (by decide) ?_
    rw [if_pos c8] at hw
    exact fin 0 hw
  · refine lv_lconst (v := 1) hx hb d_lp_11 (by decide) ?_
    refine lv_goto (tgt := 16) hx hb d_lp_12 (by decide) ?_
    rw [if_neg c8] at hw
    exact fin 1 hw
