theorem d_Ar_fillI_0 : decode b_Ar_fillI 0 = .ok (.iconst 0, 1) := by decide +kernel
theorem d_Ar_fillI_1 : decode b_Ar_fillI 1 = .ok (.istore_n 2, 1) := by decide +kernel
theorem d_Ar_fillI_2 : decode b_Ar_fillI 2 = .ok (.aload_n 0, 1) := by decide +kernel
theorem d_Ar_fillI_3 : decode b_Ar_fillI 3 = .ok (.arraylength, 1) := by decide +kernel
theorem d_Ar_fillI_4 : decode b_Ar_fillI 4 = .ok (.istore_n 3, 1) := by decide +kernel
theorem d_Ar_fillI_5 : decode b_Ar_fillI 5 = .ok (.iload_n 2, 1) := by decide +kernel
theorem d_Ar_fillI_6 : decode b_Ar_fillI 6 = .ok (.iload_n 3, 1) := by decide +kernel
theorem d_Ar_fillI_7 : decode b_Ar_fillI 7 = .ok (.if_icmp .ge 13, 3) := by decide +kernel
theorem d_Ar_fillI_10 : decode b_Ar_fillI 10 = .ok (.aload_n 0, 1) := by decide +kernel
theorem d_Ar_fillI_11 : decode b_Ar_fillI 11 = .ok (.iload_n 2, 1) := by decide +kernel
theorem d_Ar_fillI_12 : decode b_Ar_fillI 12 = .ok (.iload_n 1, 1) := by decide +kernel
theorem d_Ar_fillI_13 : decode b_Ar_fillI 13 = .ok (.iastore, 1) := by decide +kernel
theorem d_Ar_fillI_14 : decode b_Ar_fillI 14 = .ok (.iinc 2 1, 3) := by decide +kernel
theorem d_Ar_fillI_17 : decode b_Ar_fillI 17 = .ok (.goto (-12), 3) := by decide +kernel
theorem d_Ar_fillI_20 : decode b_Ar_fillI 20 = .ok (.return_, 1) := by decide +kernel
theorem d_Ar_fillJ_0 : decode b_Ar_fillJ 0 = .ok (.iconst 0, 1) := by decide +kernel
theorem d_Ar_fillJ_1 : decode b_Ar_fillJ 1 = .ok (.istore_n 3, 1) := by decide +kernel
theorem d_Ar_fillJ_2 : decode b_Ar_fillJ 2 = .ok (.aload_n 0, 1) := by decide +kernel
theorem d_Ar_fillJ_3 : decode b_Ar_fillJ 3 = .ok (.arraylength, 1) := by decide +kernel
theorem d_Ar_fillJ_4 : decode b_Ar_fillJ 4 = .ok (.istore 4, 2) := by decide +kernel
theorem d_Ar_fillJ_6 : decode b_Ar_fillJ 6 = .ok (.iload_n 3, 1) := by decide +kernel
theorem d_Ar_fillJ_7 : decode b_Ar_fillJ 7 = .ok (.iload 4, 2) := by decide +kernel
theorem d_Ar_fillJ_9 : decode b_Ar_fillJ 9 = .ok (.if_icmp .ge 13, 3) := by decide +kernel
theorem d_Ar_fillJ_12 : decode b_Ar_fillJ 12 = .ok (.aload_n 0, 1) := by decide +kernel
theorem d_Ar_fillJ_13 : decode b_Ar_fillJ 13 = .ok (.iload_n 3, 1) := by decide +kernel
theorem d_Ar_fillJ_14 : decode b_Ar_fillJ 14 = .ok (.lload_n 1, 1) := by decide +kernel
theorem d_Ar_fillJ_15 : decode b_Ar_fillJ 15 = .ok (.lastore, 1) := by decide +kernel
theorem d_Ar_fillJ_16 : decode b_Ar_fillJ 16 = .ok (.iinc 3 1, 3) := by decide +kernel
theorem d_Ar_fillJ_19 : decode b_Ar_fillJ 19 = .ok (.goto (-13), 3) := by decide +kernel
theorem d_Ar_fillJ_22 : decode b_Ar_fillJ 22 = .ok (.return_, 1) := by decide +kernel
theorem d_Jp_checkIndex_0 : decode b_Jp_checkIndex 0 = .ok (.iload_n 0, 1) := by decide +kernel
theorem d_Jp_checkIndex_1 : decode b_Jp_checkIndex 1 = .ok (.ifCond .lt 8, 3) := by decide +kernel
theorem d_Jp_checkIndex_4 : decode b_Jp_checkIndex 4 = .ok (.iload_n 0, 1) := by decide +kernel
theorem d_Jp_checkIndex_5 : decode b_Jp_checkIndex 5 = .ok (.iload_n 1, 1) := by decide +kernel
theorem d_Jp_checkIndex_6 : decode b_Jp_checkIndex 6 = .ok (.if_icmp .lt 10, 3) := by decide +kernel
theorem d_Jp_checkIndex_9 : decode b_Jp_checkIndex 9 = .ok (.aload_n 2, 1) := by decide +kernel
theorem d_Jp_checkIndex_10 : decode b_Jp_checkIndex 10 = .ok (.iload_n 0, 1) := by decide +kernel
theorem d_Jp_checkIndex_11 : decode b_Jp_checkIndex 11 = .ok (.iload_n 1, 1) := by decide +kernel
theorem d_Jp_checkIndex_12 : decode b_Jp_checkIndex 12 = .ok (.invokestatic 95, 3) := by decide +kernel
theorem d_Jp_checkIndex_15 : decode b_Jp_checkIndex 15 = .ok (.athrow, 1) := by decide +kernel
theorem d_Jp_checkIndex_16 : decode b_Jp_checkIndex 16 = .ok (.iload_n 0, 1) := by decide +kernel
theorem d_Jp_checkIndex_17 : decode b_Jp_checkIndex 17 = .ok (.ireturn, 1) := by decide +kernel
theorem d_Js_checkIndex_0 : decode b_Js_checkIndex 0 = .ok (.iload_n 0, 1) := by decide +kernel
theorem d_Js_checkIndex_1 : decode b_Js_checkIndex 1 = .ok (.iload_n 1, 1) := by decide +kernel
theorem d_Js_checkIndex_2 : decode b_Js_checkIndex 2 = .ok (.getstatic 1053, 3) := by decide +kernel
theorem d_Js_checkIndex_5 : decode b_Js_checkIndex 5 = .ok (.invokestatic 1059, 3) := by decide +kernel
theorem d_Js_checkIndex_8 : decode b_Js_checkIndex 8 = .ok (.pop, 1) := by decide +kernel
theorem d_Js_checkIndex_9 : decode b_Js_checkIndex 9 = .ok (.return_, 1) := by decide +kernel
theorem d_Js_coder_0 : decode b_Js_coder 0 = .ok (.getstatic 38, 3) := by decide +kernel
theorem d_Js_coder_3 : decode b_Js_coder 3 = .ok (.ifCond .eq 10, 3) := by decide +kernel
theorem d_Js_coder_6 : decode b_Js_coder 6 = .ok (.aload_n 0, 1) := by decide +kernel
theorem d_Js_coder_7 : decode b_Js_coder 7 = .ok (.getfield 15, 3) := by decide +kernel
theorem d_Js_coder_10 : decode b_Js_coder 10 = .ok (.goto 4, 3) := by decide +kernel
theorem d_Js_coder_13 : decode b_Js_coder 13 = .ok (.iconst 1, 1) := by decide +kernel
theorem d_Js_coder_14 : decode b_Js_coder 14 = .ok (.ireturn, 1) := by decide +kernel
theorem d_Js_isLatin1_0 : decode b_Js_isLatin1 0 = .ok (.getstatic 38, 3) := by decide +kernel
theorem d_Js_isLatin1_3 : decode b_Js_isLatin1 3 = .ok (.ifCond .eq 14, 3) := by decide +kernel
theorem d_Js_isLatin1_6 : decode b_Js_isLatin1 6 = .ok (.aload_n 0, 1) := by decide +kernel
theorem d_Js_isLatin1_7 : decode b_Js_isLatin1 7 = .ok (.getfield 15, 3) := by decide +kernel
theorem d_Js_isLatin1_10 : decode b_Js_isLatin1 10 = .ok (.ifCond .ne 7, 3) := by decide +kernel
theorem d_Js_isLatin1_13 : decode b_Js_isLatin1 13 = .ok (.iconst 1, 1) := by decide +kernel
theorem d_Js_isLatin1_14 : decode b_Js_isLatin1 14 = .ok (.goto 4, 3) := by decide +kernel
theorem d_Js_isLatin1_17 : decode b_Js_isLatin1 17 = .ok (.iconst 0, 1) := by decide +kernel
theorem d_Js_isLatin1_18 : decode b_Js_isLatin1 18 = .ok (.ireturn, 1) := by decide +kernel
theorem d_Js_length_0 : decode b_Js_length 0 = .ok (.aload_n 0, 1) := by decide +kernel
theorem d_Js_length_1 : decode b_Js_length 1 = .ok (.getfield 9, 3) := by decide +kernel
theorem d_Js_length_4 : decode b_Js_length 4 = .ok (.arraylength, 1) := by decide +kernel
theorem d_Js_length_5 : decode b_Js_length 5 = .ok (.aload_n 0, 1) := by decide +kernel
theorem d_Js_length_6 : decode b_Js_length 6 = .ok (.invokevirtual 335, 3) := by decide +kernel
theorem d_Js_length_9 : decode b_Js_length 9 = .ok (.ishr, 1) := by decide +kernel
theorem d_Js_length_10 : decode b_Js_length 10 = .ok (.ireturn, 1) := by decide +kernel
theorem d_Jl_charAt_0 : decode b_Jl_charAt 0 = .ok (.iload_n 1, 1) := by decide +kernel
theorem d_Jl_charAt_1 : decode b_Jl_charAt 1 = .ok (.aload_n 0, 1) := by decide +kernel
theorem d_Jl_charAt_2 : decode b_Jl_charAt 2 = .ok (.arraylength, 1) := by decide +kernel
theorem d_Jl_charAt_3 : decode b_Jl_charAt 3 = .ok (.invokestatic 9, 3) := by decide +kernel
theorem d_Jl_charAt_6 : decode b_Jl_charAt 6 = .ok (.aload_n 0, 1) := by decide +kernel
theorem d_Jl_charAt_7 : decode b_Jl_charAt 7 = .ok (.iload_n 1, 1) := by decide +kernel
theorem d_Jl_charAt_8 : decode b_Jl_charAt 8 = .ok (.baload, 1) := by decide +kernel
theorem d_Jl_charAt_9 : decode b_Jl_charAt 9 = .ok (.sipush 255, 3) := by decide +kernel
theorem d_Jl_charAt_12 : decode b_Jl_charAt 12 = .ok (.iand, 1) := by decide +kernel
theorem d_Jl_charAt_13 : decode b_Jl_charAt 13 = .ok (.i2c, 1) := by decide +kernel
theorem d_Jl_charAt_14 : decode b_Jl_charAt 14 = .ok (.ireturn, 1) := by decide +kernel
theorem d_Js_charAt_0 : decode b_Js_charAt 0 = .ok (.aload_n 0, 1) := by decide +kernel
theorem d_Js_charAt_1 : decode b_Js_charAt 1 = .ok (.invokevirtual 492, 3) := by decide +kernel
theorem d_Js_charAt_4 : decode b_Js_charAt 4 = .ok (.ifCond .eq 12, 3) := by decide +kernel
theorem d_Js_charAt_7 : decode b_Js_charAt 7 = .ok (.aload_n 0, 1) := by decide +kernel
theorem d_Js_charAt_8 : decode b_Js_charAt 8 = .ok (.getfield 9, 3) := by decide +kernel
theorem d_Js_charAt_11 : decode b_Js_charAt 11 = .ok (.iload_n 1, 1) := by decide +kernel
theorem d_Js_charAt_12 : decode b_Js_charAt 12 = .ok (.invokestatic 495, 3) := by decide +kernel
theorem d_Js_charAt_15 : decode b_Js_charAt 15 = .ok (.ireturn, 1) := by decide +kernel
theorem d_Js_charAt_16 : decode b_Js_charAt 16 = .ok (.aload_n 0, 1) := by decide +kernel
theorem d_Js_charAt_17 : decode b_Js_charAt 17 = .ok (.getfield 9, 3) := by decide +kernel
theorem d_Js_charAt_20 : decode b_Js_charAt 20 = .ok (.iload_n 1, 1) := by decide +kernel
theorem d_Js_charAt_21 : decode b_Js_charAt 21 = .ok (.invokestatic 498, 3) := by decide +kernel
theorem d_Js_charAt_24 : decode b_Js_charAt 24 = .ok (.ireturn, 1) := by decide +kernel
theorem kw12_68352c2 : (Cond.methodLink R_Js 1059 y_Jp_checkIndex : Cond) ∈ tb := by decide +kernel
theorem kw12_a62fda8 : (Cond.static y_Jp_checkIndex : Cond) ∈ tb := by decide +kernel
theorem kw12_68947c3 : (Cond.initialized R_Jp : Cond) ∈ tb := by decide +kernel
theorem kw12_c39a4ff : (Cond.code y_Jp_checkIndex b_Jp_checkIndex 3 (some .int) : Cond) ∈ tb := by decide +kernel
theorem kw12_446adc0 : (Cond.fieldLink R_Js 1053 "jdk/internal/util/Preconditions" "SIOOBE_FORMATTER" "Ljava/util/function/BiFunction;" : Cond) ∈ tb := by decide +kernel
theorem kw12_b3a764c : (Cond.fieldLink R_Js 38 "java/lang/String" "COMPACT_STRINGS" "Z" : Cond) ∈ tb := by decide +kernel
theorem kw12_2644d12 : (Cond.fieldLink R_Js 15 "java/lang/String" "coder" "B" : Cond) ∈ tb := by decide +kernel
theorem kw12_60e2527 : (Cond.fieldLink R_Js 9 "java/lang/String" "value" "[B" : Cond) ∈ tb := by decide +kernel
theorem kw12_367e2d9 : (Cond.methodLink R_Js 335 y_Js_coder : Cond) ∈ tb := by decide +kernel
theorem kw12_22d975e : (Cond.instanceMethod y_Js_coder : Cond) ∈ tb := by decide +kernel
theorem kw12_9d13847 : (Cond.selects R_Js y_Js_coder y_Js_coder : Cond) ∈ tb := by decide +kernel
theorem kw12_224da0b : (Cond.initialized R_Js : Cond) ∈ tb := by decide +kernel
theorem kw12_6da82c4 : (Cond.code y_Js_coder b_Js_coder 1 (some .byte) : Cond) ∈ tb := by decide +kernel
theorem kw12_2ca6fcf : (Cond.methodLink R_Jl 9 y_Js_checkIndex : Cond) ∈ tb := by decide +kernel
theorem kw12_6da9ad3 : (Cond.static y_Js_checkIndex : Cond) ∈ tb := by decide +kernel
theorem kw12_cfae4a3 : (Cond.code y_Js_checkIndex b_Js_checkIndex 2 none : Cond) ∈ tb := by decide +kernel
theorem kw12_012a45c : (Cond.methodLink R_Js 492 y_Js_isLatin1 : Cond) ∈ tb := by decide +kernel
theorem kw12_7525461 : (Cond.instanceMethod y_Js_isLatin1 : Cond) ∈ tb := by decide +kernel
theorem kw12_cfe9d4d : (Cond.selects R_Js y_Js_isLatin1 y_Js_isLatin1 : Cond) ∈ tb := by decide +kernel
theorem kw12_6ebc92d : (Cond.code y_Js_isLatin1 b_Js_isLatin1 1 (some .boolean) : Cond) ∈ tb := by decide +kernel
theorem kw12_fdd56a3 : (Cond.methodLink R_Js 495 y_Jl_charAt : Cond) ∈ tb := by decide +kernel
theorem kw12_c584604 : (Cond.static y_Jl_charAt : Cond) ∈ tb := by decide +kernel
theorem kw12_5f4b076 : (Cond.initialized R_Jl : Cond) ∈ tb := by decide +kernel
theorem kw12_e03fc4d : (Cond.code y_Jl_charAt b_Jl_charAt 2 (some .char) : Cond) ∈ tb := by decide +kernel
def wk_Ar_fillI_20_5 (P : (Nat → Int32) → Prop) (x2_L5 : Int32) (f_p0_L5 : (Nat → Int32)) : Prop := P f_p0_L5
def wl_Ar_fillI_5 (n_p0 : Nat) (x1 : Int32) (K_20 : Int32 → (Nat → Int32) → Prop) : Nat → Int32 → (Nat → Int32) → Prop
  | 0, _, _ => False
  | k_5 + 1, x2_L5, f_p0_L5 => (((nI n_p0) ≤ x2_L5 → K_20 x2_L5 f_p0_L5) ∧ (¬ (nI n_p0) ≤ x2_L5 → (vp_in x2_L5 n_p0 ∧ wl_Ar_fillI_5 n_p0 x1 K_20 k_5 (x2_L5 + 1) (upd f_p0_L5 x2_L5.toNatClampNeg x1))))
def wp_Ar_fillI (n_p0 : Nat) (f_p0 : (Nat → Int32)) (x1 : Int32) (P : (Nat → Int32) → Prop) : Prop := (∃ n_5 : Nat, wl_Ar_fillI_5 n_p0 x1 (wk_Ar_fillI_20_5 P) n_5 0 f_p0)
def w_Ar_fillI : List Cond := .code y_Ar_fillI b_Ar_fillI 4 none :: tb
abbrev rm_Ar_fillI : Room := { frames := 0, cells := 0, slots := 0, locals := 0 }
abbrev Q_Ar_fillI (dC : Nat → ClassId) (dI : Nat → Nat → Nat) (cI cL cB : ClassId) (q_p0 : Nat) (f_p0 : (Nat → Int32)) (n_p0 : Nat) (x1 : Int32) (P : (Nat → Int32) → Prop) (A : Nat → Prop) : Array Value → State → Outcome → State → Prop := va_Qv (fun (u : (Nat → Int32)) => P u) (fun u t => va_P (dC, dI) classes [(q_p0, .inl (cI, n_p0, .inl u))] t.heap ∧ va_K (dC, dI) classes [(cI, .int), (cL, .long), (cB, .byte)] t ∧ va_D A [(q_p0, .inl (cI, n_p0, .inl u))]) A
set_option maxHeartbeats 4000000 in
set_option maxRecDepth 100000 in
theorem c_Ar_fillI (l : Launch) (dC : Nat → ClassId) (dI : Nat → Nat → Nat) (cI cL cB : ClassId) (q_p0 : Nat) (sz : Nat) (f_p0 : (Nat → Int32)) (n_p0 : Nat) (x1 : Int32) (P : (Nat → Int32) → Prop) (hw : wp_Ar_fillI n_p0 f_p0 x1 P) : Met l y_Ar_fillI w_Ar_fillI rm_Ar_fillI (va_Pc [.ref q_p0, .int x1] (fun U => U.heap.size = sz ∧ va_P (dC, dI) classes [(q_p0, .inl (cI, n_p0, .inl f_p0))] U.heap ∧ va_K (dC, dI) classes [(cI, .int), (cL, .long), (cB, .byte)] U ∧ va_D (fun _ => True) [(q_p0, .inl (cI, n_p0, .inl f_p0))])) (Q_Ar_fillI dC dI cI cL cB q_p0 f_p0 n_p0 x1 P (va_A [(q_p0, .inl (cI, n_p0, .inl f_p0))] sz)) 0 0 (va_A [(q_p0, .inl (cI, n_p0, .inl f_p0))] sz) := by
  refine Met.ofW (cc := b_Ar_fillI) (maxL := 4) (ret := none) (by decide) rfl ?_
  intro p e s m args below meth c s₁ B hml hv
  obtain ⟨ha, hsz, hP, hK, hD0⟩ := hv
  have hx := B.exec
  have hb := B.bytes
  have hr := B.returns
  have hts0 := atoms_spec (ws := w_Ar_fillI) B.pre
  have hts : ∀ w ∈ tb, w.before args s = true := fun w h => hts0 w (List.mem_cons_of_mem _ h)
  have hown : s.vm.findClass R_Ar = some m.cls := findClass_of_methodNamed B.named
  have hlocks := B.notSynchronized
  subst hsz
  have hD := hD0.self (sz := s.heap.size)
  generalize hAe : va_A [(q_p0, .inl (cI, n_p0, .inl f_p0))] s.heap.size = A at hD ⊢
  have hA : ∀ q : Nat, s.heap.size ≤ q → A q := fun q h => by rw [← hAe]; exact Or.inr h
  have hS : va_S A s.heap s.heap [] := va_S.rf
  have hP : va_P (dC, dI) classes [(q_p0, .inl (cI, n_p0, .inl f_p0))] s.heap := hP
  have hl := lv_entry [.ref q_p0, .int x1] (n := 4) (Nat.le_of_ble_eq_true rfl)
  have he9 : entryFrame m args 4 = F0 m 0 ((lg_sl [.ref q_p0, .int x1] ++ List.replicate (4 - (lg_sl [.ref q_p0, .int x1]).length) Slot.unset).toArray) [] := by rw [ha]; exact lg_entry_eq _ _ _
  rw [he9]
  clear he9
  generalize (lg_sl [.ref q_p0, .int x1] ++ List.replicate (4 - (lg_sl [.ref q_p0, .int x1]).length) Slot.unset).toArray = ls at hl ⊢
  have hl : lv_has ls 4 [(0, .ref q_p0), (1, .int x1)] := hl
  unfold wp_Ar_fillI at hw
  refine lv_iconst (v := 0) hx hb d_Ar_fillI_0 (by decide) ?_
  refine lv_istore_n (lv' := [(2, .int 0), (0, .ref q_p0), (1, .int x1)]) hx hb d_Ar_fillI_1 rfl hl (by decide) rfl (fun ls hl => ?_)
  refine lv_aload_n hx hb d_Ar_fillI_2 rfl (lv_at hl 1 rfl) ?_
  refine va_alen (v := nI n_p0) hx hb hK hP 0 0 rfl rfl rfl d_Ar_fillI_3 ?_
  refine lv_istore_n (lv' := [(3, .int (nI n_p0)), (2, .int 0), (0, .ref q_p0), (1, .int x1)]) hx hb d_Ar_fillI_4 rfl hl (by decide) rfl (fun ls hl => ?_)
  obtain ⟨n_5, hw⟩ := hw
  have EX_20 : ∀ (x2_L5 : Int32) (f_p0_L5 : (Nat → Int32)) (H : Heap) (locs : List Loc) (ls : Array Slot), va_P (dC, dI) classes [(q_p0, .inl (cI, n_p0, .inl f_p0_L5))] H → va_D A [(q_p0, .inl (cI, n_p0, .inl f_p0_L5))] → va_S A s.heap H locs → lv_has ls 4 [(0, .ref q_p0), (1, .int x1), (2, .int x2_L5), (3, .int (nI n_p0))] → wk_Ar_fillI_20_5 P x2_L5 f_p0_L5 → W p l e (headSpec w_Ar_fillI rm_Ar_fillI).room s m args below meth c H locs 0 0 (MQ below (Q_Ar_fillI dC dI cI cL cB q_p0 f_p0 n_p0 x1 P A) args s 0 0 A) (F0 m 20 ls []) := by
    intro x2_L5 f_p0_L5 H locs ls hP hD hS hl hw
    unfold wk_Ar_fillI_20_5 at hw
    exact W.vret hx hb hr (fun t ht hW => ⟨⟨f_p0_L5, rfl, hw, by rw [ht]; exact hP, va_K.moved hW.alike hK, hD⟩, hS.F ht⟩) hS.2.2 d_Ar_fillI_20
  have LP_5 : ∀ (k_5 : Nat) (x2_L5 : Int32) (f_p0_L5 : (Nat → Int32)) (H : Heap) (locs : List Loc) (ls : Array Slot), va_P (dC, dI) classes [(q_p0, .inl (cI, n_p0, .inl f_p0_L5))] H → va_D A [(q_p0, .inl (cI, n_p0, .inl f_p0_L5))] → va_S A s.heap H locs → lv_has ls 4 [(0, .ref q_p0), (1, .int x1), (2, .int x2_L5), (3, .int (nI n_p0))] → wl_Ar_fillI_5 n_p0 x1 (wk_Ar_fillI_20_5 P) k_5 x2_L5 f_p0_L5 → W p l e (headSpec w_Ar_fillI rm_Ar_fillI).room s m args below meth c H locs 0 0 (MQ below (Q_Ar_fillI dC dI cI cL cB q_p0 f_p0 n_p0 x1 P A) args s 0 0 A) (F0 m 5 ls []) := by
    intro k_5
    induction k_5 with
    | zero => intro x2_L5 f_p0_L5 H locs ls hP hD hS hl hw; unfold wl_Ar_fillI_5 at hw; exact hw.elim
    | succ k_5 ih_5 =>
      intro x2_L5 f_p0_L5 H locs ls hP hD hS hl hw
      unfold wl_Ar_fillI_5 at hw
      refine lv_iload_n hx hb d_Ar_fillI_5 rfl (lv_at hl 2 rfl) ?_
      refine lv_iload_n hx hb d_Ar_fillI_6 rfl (lv_at hl 3 rfl) ?_
      refine lv_icmp_ge (tgt := 20) hx hb d_Ar_fillI_7 (by decide) (fun c7 => ?_) (fun c7 => ?_)
      · replace hw := hw.1 c7
        exact EX_20 x2_L5 f_p0_L5 H _ _ hP hD hS (lv_sub hl [0, 1, 2, 3] rfl) hw
      · replace hw := hw.2 c7
        refine lv_aload_n hx hb d_Ar_fillI_10 rfl (lv_at hl 0 rfl) ?_
        refine lv_iload_n hx hb d_Ar_fillI_11 rfl (lv_at hl 2 rfl) ?_
        refine lv_iload_n hx hb d_Ar_fillI_12 rfl (lv_at hl 1 rfl) ?_
        refine va_iast hx hb hK hP hD hS 0 0 rfl rfl hw.1 d_Ar_fillI_13 (fun H locs hP hD hS => ?_)
        replace hw := hw.2
        have hP : va_P (dC, dI) classes [(q_p0, .inl (cI, n_p0, .inl (upd f_p0_L5 x2_L5.toNatClampNeg x1)))] H := hP
        have hD : va_D A [(q_p0, .inl (cI, n_p0, .inl (upd f_p0_L5 x2_L5.toNatClampNeg x1)))] := hD
        refine lv_iinc (v := (x2_L5 + 1)) (lv' := [(2, .int (x2_L5 + 1)), (0, .ref q_p0), (1, .int x1), (3, .int (nI n_p0))]) hx hb d_Ar_fillI_14 hl (k := 2) rfl rfl (by decide) rfl (fun ls hl => ?_)
        refine lv_goto (tgt := 5) hx hb d_Ar_fillI_17 (by decide) ?_
        exact ih_5 (x2_L5 + 1) (upd f_p0_L5 x2_L5.toNatClampNeg x1) H _ _ hP hD hS (lv_sub hl [1, 2, 0, 3] rfl) hw
  exact LP_5 n_5 0 f_p0 s.heap _ _ hP hD hS (lv_sub hl [2, 3, 1, 0] rfl) hw
def wk_Ar_fillJ_22_6 (P : (Nat → Int64) → Prop) (x3_L6 : Int32) (f_p0_L6 : (Nat → Int64)) : Prop := P f_p0_L6
def wl_Ar_fillJ_6 (n_p0 : Nat) (x1 : Int64) (K_22 : Int32 → (Nat → Int64) → Prop) : Nat → Int32 → (Nat → Int64) → Prop
  | 0, _, _ => False
  | k_6 + 1, x3_L6, f_p0_L6 => (((nI n_p0) ≤ x3_L6 → K_22 x3_L6 f_p0_L6) ∧ (¬ (nI n_p0) ≤ x3_L6 → (vp_in x3_L6 n_p0 ∧ wl_Ar_fillJ_6 n_p0 x1 K_22 k_6 (x3_L6 + 1) (vp_updL f_p0_L6 x3_L6.toNatClampNeg x1))))
def wp_Ar_fillJ (n_p0 : Nat) (f_p0 : (Nat → Int64)) (x1 : Int64) (P : (Nat → Int64) → Prop) : Prop := (∃ n_6 : Nat, wl_Ar_fillJ_6 n_p0 x1 (wk_Ar_fillJ_22_6 P) n_6 0 f_p0)
def w_Ar_fillJ : List Cond := .code y_Ar_fillJ b_Ar_fillJ 5 none :: tb
abbrev rm_Ar_fillJ : Room := { frames := 0, cells := 0, slots := 0, locals := 0 }
abbrev Q_Ar_fillJ (dC : Nat → ClassId) (dI : Nat → Nat → Nat) (cI cL cB : ClassId) (q_p0 : Nat) (f_p0 : (Nat → Int64)) (n_p0 : Nat) (x1 : Int64) (P : (Nat → Int64) → Prop) (A : Nat → Prop) : Array Value → State → Outcome → State → Prop := va_Qv (fun (u : (Nat → Int64)) => P u) (fun u t => va_P (dC, dI) classes [(q_p0, .inl (cL, n_p0, .inr (.inl u)))] t.heap ∧ va_K (dC, dI) classes [(cI, .int), (cL, .long), (cB, .byte)] t ∧ va_D A [(q_p0, .inl (cL, n_p0, .inr (.inl u)))]) A
set_option maxHeartbeats 4000000 in
set_option maxRecDepth 100000 in
theorem c_Ar_fillJ (l : Launch) (dC : Nat → ClassId) (dI : Nat → Nat → Nat) (cI cL cB : ClassId) (q_p0 : Nat) (sz : Nat) (f_p0 : (Nat → Int64)) (n_p0 : Nat) (x1 : Int64) (P : (Nat → Int64) → Prop) (hw : wp_Ar_fillJ n_p0 f_p0 x1 P) : Met l y_Ar_fillJ w_Ar_fillJ rm_Ar_fillJ (va_Pc [.ref q_p0, .long x1] (fun U => U.heap.size = sz ∧ va_P (dC, dI) classes [(q_p0, .inl (cL, n_p0, .inr (.inl f_p0)))] U.heap ∧ va_K (dC, dI) classes [(cI, .int), (cL, .long), (cB, .byte)] U ∧ va_D (fun _ => True) [(q_p0, .inl (cL, n_p0, .inr (.inl f_p0)))])) (Q_Ar_fillJ dC dI cI cL cB q_p0 f_p0 n_p0 x1 P (va_A [(q_p0, .inl (cL, n_p0, .inr (.inl f_p0)))] sz)) 0 0 (va_A [(q_p0, .inl (cL, n_p0, .inr (.inl f_p0)))] sz) := by
  refine Met.ofW (cc := b_Ar_fillJ) (maxL := 5) (ret := none) (by decide) rfl ?_
  intro p e s m args below meth c s₁ B hml hv
  obtain ⟨ha, hsz, hP, hK, hD0⟩ := hv
  have hx := B.exec
  have hb := B.bytes
  have hr := B.returns
  have hts0 := atoms_spec (ws := w_Ar_fillJ) B.pre
  have hts : ∀ w ∈ tb, w.before args s = true := fun w h => hts0 w (List.mem_cons_of_mem _ h)
  have hown : s.vm.findClass R_Ar = some m.cls := findClass_of_methodNamed B.named
  have hlocks := B.notSynchronized
  subst hsz
  have hD := hD0.self (sz := s.heap.size)
  generalize hAe : va_A [(q_p0, .inl (cL, n_p0, .inr (.inl f_p0)))] s.heap.size = A at hD ⊢
  have hA : ∀ q : Nat, s.heap.size ≤ q → A q := fun q h => by rw [← hAe]; exact Or.inr h
  have hS : va_S A s.heap s.heap [] := va_S.rf
  have hP : va_P (dC, dI) classes [(q_p0, .inl (cL, n_p0, .inr (.inl f_p0)))] s.heap := hP
  have hl := lv_entry [.ref q_p0, .long x1] (n := 5) (Nat.le_of_ble_eq_true rfl)
  have he9 : entryFrame m args 5 = F0 m 0 ((lg_sl [.ref q_p0, .long x1] ++ List.replicate (5 - (lg_sl [.ref q_p0, .long x1]).length) Slot.unset).toArray) [] := by rw [ha]; exact lg_entry_eq _ _ _
  rw [he9]
  clear he9
  generalize (lg_sl [.ref q_p0, .long x1] ++ List.replicate (5 - (lg_sl [.ref q_p0, .long x1]).length) Slot.unset).toArray = ls at hl ⊢
  have hl : lv_has ls 5 [(0, .ref q_p0), (1, .long x1)] := hl
  unfold wp_Ar_fillJ at hw
  refine lv_iconst (v := 0) hx hb d_Ar_fillJ_0 (by decide) ?_
  refine lv_istore_n (lv' := [(3, .int 0), (0, .ref q_p0), (1, .long x1)]) hx hb d_Ar_fillJ_1 rfl hl (by decide) rfl (fun ls hl => ?_)
  refine lv_aload_n hx hb d_Ar_fillJ_2 rfl (lv_at hl 1 rfl) ?_
  refine va_alen (v := nI n_p0) hx hb hK hP 0 1 rfl rfl rfl d_Ar_fillJ_3 ?_
  refine lv_istore (lv' := [(4, .int (nI n_p0)), (3, .int 0), (0, .ref q_p0), (1, .long x1)]) hx hb d_Ar_fillJ_4 hl (by decide) rfl (fun ls hl => ?_)
  obtain ⟨n_6, hw⟩ := hw
  have EX_22 : ∀ (x3_L6 : Int32) (f_p0_L6 : (Nat → Int64)) (H : Heap) (locs : List Loc) (ls : Array Slot), va_P (dC, dI) classes [(q_p0, .inl (cL, n_p0, .inr (.inl f_p0_L6)))] H → va_D A [(q_p0, .inl (cL, n_p0, .inr (.inl f_p0_L6)))] → va_S A s.heap H locs → lv_has ls 5 [(0, .ref q_p0), (1, .long x1), (3, .int x3_L6), (4, .int (nI n_p0))] → wk_Ar_fillJ_22_6 P x3_L6 f_p0_L6 → W p l e (headSpec w_Ar_fillJ rm_Ar_fillJ).room s m args below meth c H locs 0 0 (MQ below (Q_Ar_fillJ dC dI cI cL cB q_p0 f_p0 n_p0 x1 P A) args s 0 0 A) (F0 m 22 ls []) := by
    intro x3_L6 f_p0_L6 H locs ls hP hD hS hl hw
    unfold wk_Ar_fillJ_22_6 at hw
    exact W.vret hx hb hr (fun t ht hW => ⟨⟨f_p0_L6, rfl, hw, by rw [ht]; exact hP, va_K.moved hW.alike hK, hD⟩, hS.F ht⟩) hS.2.2 d_Ar_fillJ_22
  have LP_6 : ∀ (k_6 : Nat) (x3_L6 : Int32) (f_p0_L6 : (Nat → Int64)) (H : Heap) (locs : List Loc) (ls : Array Slot), va_P (dC, dI) classes [(q_p0, .inl (cL, n_p0, .inr (.inl f_p0_L6)))] H → va_D A [(q_p0, .inl (cL, n_p0, .inr (.inl f_p0_L6)))] → va_S A s.heap H locs → lv_has ls 5 [(0, .ref q_p0), (1, .long x1), (3, .int x3_L6), (4, .int (nI n_p0))] → wl_Ar_fillJ_6 n_p0 x1 (wk_Ar_fillJ_22_6 P) k_6 x3_L6 f_p0_L6 → W p l e (headSpec w_Ar_fillJ rm_Ar_fillJ).room s m args below meth c H locs 0 0 (MQ below (Q_Ar_fillJ dC dI cI cL cB q_p0 f_p0 n_p0 x1 P A) args s 0 0 A) (F0 m 6 ls []) := by
    intro k_6
    induction k_6 with
    | zero => intro x3_L6 f_p0_L6 H locs ls hP hD hS hl hw; unfold wl_Ar_fillJ_6 at hw; exact hw.elim
    | succ k_6 ih_6 =>
      intro x3_L6 f_p0_L6 H locs ls hP hD hS hl hw
      unfold wl_Ar_fillJ_6 at hw
      refine lv_iload_n hx hb d_Ar_fillJ_6 rfl (lv_at hl 2 rfl) ?_
      refine lv_iload hx hb d_Ar_fillJ_7 (lv_at hl 3 rfl) ?_
      refine lv_icmp_ge (tgt := 22) hx hb d_Ar_fillJ_9 (by decide) (fun c9 => ?_) (fun c9 => ?_)
      · replace hw := hw.1 c9
        exact EX_22 x3_L6 f_p0_L6 H _ _ hP hD hS (lv_sub hl [0, 1, 2, 3] rfl) hw
      · replace hw := hw.2 c9
        refine lv_aload_n hx hb d_Ar_fillJ_12 rfl (lv_at hl 0 rfl) ?_
        refine lv_iload_n hx hb d_Ar_fillJ_13 rfl (lv_at hl 2 rfl) ?_
        refine lv_lload_n hx hb d_Ar_fillJ_14 rfl (lv_at hl 1 rfl) ?_
        refine va_last hx hb hK hP hD hS 0 1 rfl rfl hw.1 d_Ar_fillJ_15 (fun H locs hP hD hS => ?_)
        replace hw := hw.2
        have hP : va_P (dC, dI) classes [(q_p0, .inl (cL, n_p0, .inr (.inl (vp_updL f_p0_L6 x3_L6.toNatClampNeg x1))))] H := hP
        have hD : va_D A [(q_p0, .inl (cL, n_p0, .inr (.inl (vp_updL f_p0_L6 x3_L6.toNatClampNeg x1))))] := hD
        refine lv_iinc (v := (x3_L6 + 1)) (lv' := [(3, .int (x3_L6 + 1)), (0, .ref q_p0), (1, .long x1), (4, .int (nI n_p0))]) hx hb d_Ar_fillJ_16 hl (k := 2) rfl rfl (by decide) rfl (fun ls hl => ?_)
        refine lv_goto (tgt := 6) hx hb d_Ar_fillJ_19 (by decide) ?_
        exact ih_6 (x3_L6 + 1) (vp_updL f_p0_L6 x3_L6.toNatClampNeg x1) H _ _ hP hD hS (lv_sub hl [1, 2, 0, 3] rfl) hw
  exact LP_6 n_6 0 f_p0 s.heap _ _ hP hD hS (lv_sub hl [2, 3, 1, 0] rfl) hw
def wp_Jp_checkIndex (x0 : Int32) (x1 : Int32) (P : Int32 → Prop) : Prop := ((x0 < 0 → False) ∧ (¬ x0 < 0 → ((x0 < x1 → P x0) ∧ (¬ x0 < x1 → False))))
def w_Jp_checkIndex : List Cond := .code y_Jp_checkIndex b_Jp_checkIndex 3 (some .int) :: tb
abbrev rm_Jp_checkIndex : Room := { frames := 0, cells := 0, slots := 0, locals := 0 }
abbrev Q_Jp_checkIndex (dC : Nat → ClassId) (dI : Nat → Nat → Nat) (cI cL cB : ClassId) (q_p2 : Nat) (x0 : Int32) (x1 : Int32) (P : Int32 → Prop) (A : Nat → Prop) : Array Value → State → Outcome → State → Prop := va_Qi (fun (r : Int32) (u : Unit) => P r) (fun u t => va_P (dC, dI) classes [] t.heap ∧ va_K (dC, dI) classes [(cI, .int), (cL, .long), (cB, .byte)] t ∧ va_D A []) A
set_option maxHeartbeats 4000000 in
set_option maxRecDepth 100000 in
theorem c_Jp_checkIndex (l : Launch) (dC : Nat → ClassId) (dI : Nat → Nat → Nat) (cI cL cB : ClassId) (q_p2 : Nat) (sz : Nat) (x0 : Int32) (x1 : Int32) (P : Int32 → Prop) (hw : wp_Jp_checkIndex x0 x1 P) : Met l y_Jp_checkIndex w_Jp_checkIndex rm_Jp_checkIndex (va_Pc [.int x0, .int x1, .ref q_p2] (fun U => U.heap.size = sz ∧ va_P (dC, dI) classes [] U.heap ∧ va_K (dC, dI) classes [(cI, .int), (cL, .long), (cB, .byte)] U ∧ va_D (fun _ => True) [])) (Q_Jp_checkIndex dC dI cI cL cB q_p2 x0 x1 P (va_A [] sz)) 0 0 (va_A [] sz) := by
  refine Met.ofW (cc := b_Jp_checkIndex) (maxL := 3) (ret := (some .int)) (by decide) rfl ?_
  intro p e s m args below meth c s₁ B hml hv
  obtain ⟨ha, hsz, hP, hK, hD0⟩ := hv
  have hx := B.exec
  have hb := B.bytes
  have hr := B.returns
  have hts0 := atoms_spec (ws := w_Jp_checkIndex) B.pre
  have hts : ∀ w ∈ tb, w.before args s = true := fun w h => hts0 w (List.mem_cons_of_mem _ h)
  have hown : s.vm.findClass R_Jp = some m.cls := findClass_of_methodNamed B.named
  have hlocks := B.notSynchronized
  subst hsz
  have hD := hD0.self (sz := s.heap.size)
  generalize hAe : va_A [] s.heap.size = A at hD ⊢
  have hA : ∀ q : Nat, s.heap.size ≤ q → A q := fun q h => by rw [← hAe]; exact Or.inr h
  have hS : va_S A s.heap s.heap [] := va_S.rf
  have hP : va_P (dC, dI) classes [] s.heap := hP
  have hl := lv_entry [.int x0, .int x1, .ref q_p2] (n := 3) (Nat.le_of_ble_eq_true rfl)
  have he9 : entryFrame m args 3 = F0 m 0 ((lg_sl [.int x0, .int x1, .ref q_p2] ++ List.replicate (3 - (lg_sl [.int x0, .int x1, .ref q_p2]).length) Slot.unset).toArray) [] := by rw [ha]; exact lg_entry_eq _ _ _
  rw [he9]
  clear he9
  generalize (lg_sl [.int x0, .int x1, .ref q_p2] ++ List.replicate (3 - (lg_sl [.int x0, .int x1, .ref q_p2]).length) Slot.unset).toArray = ls at hl ⊢
  have hl : lv_has ls 3 [(0, .int x0), (1, .int x1), (2, .ref q_p2)] := hl
  unfold wp_Jp_checkIndex at hw
  refine lv_iload_n hx hb d_Jp_checkIndex_0 rfl (lv_at hl 0 rfl) ?_
  refine lv_if_lt (tgt := 9) hx hb d_Jp_checkIndex_1 (by decide) (fun c1 => ?_) (fun c1 => ?_)
  · replace hw := hw.1 c1
    refine lv_aload_n hx hb d_Jp_checkIndex_9 rfl (lv_at hl 2 rfl) ?_
    refine lv_iload_n hx hb d_Jp_checkIndex_10 rfl (lv_at hl 0 rfl) ?_
    refine lv_iload_n hx hb d_Jp_checkIndex_11 rfl (lv_at hl 1 rfl) ?_
    exact False.elim hw
  · replace hw := hw.2 c1
    refine lv_iload_n hx hb d_Jp_checkIndex_4 rfl (lv_at hl 0 rfl) ?_
    refine lv_iload_n hx hb d_Jp_checkIndex_5 rfl (lv_at hl 1 rfl) ?_
    refine lv_icmp_lt (tgt := 16) hx hb d_Jp_checkIndex_6 (by decide) (fun c6 => ?_) (fun c6 => ?_)
    · replace hw := hw.1 c6
      refine lv_iload_n hx hb d_Jp_checkIndex_16 rfl (lv_at hl 0 rfl) ?_
      exact W.iret (v := x0) hx hb hr (fun t ht hW => ⟨⟨x0, (), rfl, hw, by rw [ht]; exact hP, va_K.moved hW.alike hK, hD⟩, hS.F ht⟩) hS.2.2 d_Jp_checkIndex_17
    · replace hw := hw.2 c6
      refine lv_aload_n hx hb d_Jp_checkIndex_9 rfl (lv_at hl 2 rfl) ?_
      refine lv_iload_n hx hb d_Jp_checkIndex_10 rfl (lv_at hl 0 rfl) ?_
      refine lv_iload_n hx hb d_Jp_checkIndex_11 rfl (lv_at hl 1 rfl) ?_
      exact False.elim hw
def w_Jp_checkIndexN : List Cond := .code y_Jp_checkIndex b_Jp_checkIndex 3 (some .int) :: tb
abbrev rm_Jp_checkIndexN : Room := { frames := 0, cells := 0, slots := 0, locals := 0 }
abbrev Q_Jp_checkIndexN (dC : Nat → ClassId) (dI : Nat → Nat → Nat) (cI cL cB : ClassId)  (x0 : Int32) (x1 : Int32) (P : Int32 → Prop) (A : Nat → Prop) : Array Value → State → Outcome → State → Prop := va_Qi (fun (r : Int32) (u : Unit) => P r) (fun u t => va_P (dC, dI) classes [] t.heap ∧ va_K (dC, dI) classes [(cI, .int), (cL, .long), (cB, .byte)] t ∧ va_D A []) A
set_option maxHeartbeats 4000000 in
set_option maxRecDepth 100000 in
theorem c_Jp_checkIndexN (l : Launch) (dC : Nat → ClassId) (dI : Nat → Nat → Nat) (cI cL cB : ClassId)  (sz : Nat) (x0 : Int32) (x1 : Int32) (P : Int32 → Prop) (hw : wp_Jp_checkIndex x0 x1 P) : Met l y_Jp_checkIndex w_Jp_checkIndexN rm_Jp_checkIndexN (va_Pc [.int x0, .int x1, .null] (fun U => U.heap.size = sz ∧ va_P (dC, dI) classes [] U.heap ∧ va_K (dC, dI) classes [(cI, .int), (cL, .long), (cB, .byte)] U ∧ va_D (fun _ => True) [])) (Q_Jp_checkIndexN dC dI cI cL cB x0 x1 P (va_A [] sz)) 0 0 (va_A [] sz) := by
  refine Met.ofW (cc := b_Jp_checkIndex) (maxL := 3) (ret := (some .int)) (by decide) rfl ?_
  intro p e s m args below meth c s₁ B hml hv
  obtain ⟨ha, hsz, hP, hK, hD0⟩ := hv
  have hx := B.exec
  have hb := B.bytes
  have hr := B.returns
  have hts0 := atoms_spec (ws := w_Jp_checkIndexN) B.pre
  have hts : ∀ w ∈ tb, w.before args s = true := fun w h => hts0 w (List.mem_cons_of_mem _ h)
  have hown : s.vm.findClass R_Jp = some m.cls := findClass_of_methodNamed B.named
  have hlocks := B.notSynchronized
  subst hsz
  have hD := hD0.self (sz := s.heap.size)
  generalize hAe : va_A [] s.heap.size = A at hD ⊢
  have hA : ∀ q : Nat, s.heap.size ≤ q → A q := fun q h => by rw [← hAe]; exact Or.inr h
  have hS : va_S A s.heap s.heap [] := va_S.rf
  have hP : va_P (dC, dI) classes [] s.heap := hP
  have hl := lv_entry [.int x0, .int x1, .null] (n := 3) (Nat.le_of_ble_eq_true rfl)
  have he9 : entryFrame m args 3 = F0 m 0 ((lg_sl [.int x0, .int x1, .null] ++ List.replicate (3 - (lg_sl [.int x0, .int x1, .null]).length) Slot.unset).toArray) [] := by rw [ha]; exact lg_entry_eq _ _ _
  rw [he9]
  clear he9
  generalize (lg_sl [.int x0, .int x1, .null] ++ List.replicate (3 - (lg_sl [.int x0, .int x1, .null]).length) Slot.unset).toArray = ls at hl ⊢
  have hl : lv_has ls 3 [(0, .int x0), (1, .int x1), (2, .null)] := hl
  unfold wp_Jp_checkIndex at hw
  refine lv_iload_n hx hb d_Jp_checkIndex_0 rfl (lv_at hl 0 rfl) ?_
  refine lv_if_lt (tgt := 9) hx hb d_Jp_checkIndex_1 (by decide) (fun c1 => ?_) (fun c1 => ?_)
  · replace hw := hw.1 c1
    refine lv_aload_nN hx hb d_Jp_checkIndex_9 rfl (lv_at hl 2 rfl) ?_
    refine lv_iload_n hx hb d_Jp_checkIndex_10 rfl (lv_at hl 0 rfl) ?_
    refine lv_iload_n hx hb d_Jp_checkIndex_11 rfl (lv_at hl 1 rfl) ?_
    exact False.elim hw
  · replace hw := hw.2 c1
    refine lv_iload_n hx hb d_Jp_checkIndex_4 rfl (lv_at hl 0 rfl) ?_
    refine lv_iload_n hx hb d_Jp_checkIndex_5 rfl (lv_at hl 1 rfl) ?_
    refine lv_icmp_lt (tgt := 16) hx hb d_Jp_checkIndex_6 (by decide) (fun c6 => ?_) (fun c6 => ?_)
    · replace hw := hw.1 c6
      refine lv_iload_n hx hb d_Jp_checkIndex_16 rfl (lv_at hl 0 rfl) ?_
      exact W.iret (v := x0) hx hb hr (fun t ht hW => ⟨⟨x0, (), rfl, hw, by rw [ht]; exact hP, va_K.moved hW.alike hK, hD⟩, hS.F ht⟩) hS.2.2 d_Jp_checkIndex_17
    · replace hw := hw.2 c6
      refine lv_aload_nN hx hb d_Jp_checkIndex_9 rfl (lv_at hl 2 rfl) ?_
      refine lv_iload_n hx hb d_Jp_checkIndex_10 rfl (lv_at hl 0 rfl) ?_
      refine lv_iload_n hx hb d_Jp_checkIndex_11 rfl (lv_at hl 1 rfl) ?_
      exact False.elim hw
def wp_Js_checkIndex (x0 : Int32) (x1 : Int32) (P : Prop) : Prop := wp_Jp_checkIndex x0 x1 (fun r5 => P)
def w_Js_checkIndex : List Cond := .code y_Js_checkIndex b_Js_checkIndex 2 none :: tb
abbrev rm_Js_checkIndex : Room := { frames := 1, cells := 0, slots := 0, locals := 22 }
abbrev Q_Js_checkIndex (dC : Nat → ClassId) (dI : Nat → Nat → Nat) (cI cL cB : ClassId) (x0 : Int32) (x1 : Int32) (P : Prop) (A : Nat → Prop) : Array Value → State → Outcome → State → Prop := va_Qv (fun (u : Unit) => P) (fun u t => va_P (dC, dI) classes [] t.heap ∧ va_K (dC, dI) classes [(cI, .int), (cL, .long), (cB, .byte)] t ∧ va_D A []) A
set_option maxHeartbeats 4000000 in
set_option maxRecDepth 100000 in
theorem c_Js_checkIndex (l : Launch) (dC : Nat → ClassId) (dI : Nat → Nat → Nat) (cI cL cB : ClassId) (tP tR : Nat) (adK adV : Nat → Nat) (sz : Nat) (x0 : Int32) (x1 : Int32) (P : Prop) (hw : wp_Js_checkIndex x0 x1 P) : Met l y_Js_checkIndex w_Js_checkIndex rm_Js_checkIndex (va_Pc [.int x0, .int x1] (fun U => U.heap.size = sz ∧ va_P (dC, dI) classes [] U.heap ∧ va_K (dC, dI) classes [(cI, .int), (cL, .long), (cB, .byte)] U ∧ va_D (fun _ => True) [] ∧ gx tP tR adK adV (va_A [] sz) U U.heap)) (Q_Js_checkIndex dC dI cI cL cB x0 x1 P (va_A [] sz)) 0 0 (va_A [] sz) := by
  refine Met.ofW (cc := b_Js_checkIndex) (maxL := 2) (ret := none) (by decide) rfl ?_
  intro p e s m args below meth c s₁ B hml hv
  obtain ⟨ha, hsz, hP, hK, hD0, hG⟩ := hv
  have hx := B.exec
  have hb := B.bytes
  have hr := B.returns
  have hts0 := atoms_spec (ws := w_Js_checkIndex) B.pre
  have hts : ∀ w ∈ tb, w.before args s = true := fun w h => hts0 w (List.mem_cons_of_mem _ h)
  have hown : s.vm.findClass R_Js = some m.cls := findClass_of_methodNamed B.named
  have hlocks := B.notSynchronized
  subst hsz
  have hD := hD0.self (sz := s.heap.size)
  generalize hAe : va_A [] s.heap.size = A at hD hG ⊢
  have hA : ∀ q : Nat, s.heap.size ≤ q → A q := fun q h => by rw [← hAe]; exact Or.inr h
  have hS : va_S A s.heap s.heap [] := va_S.rf
  have hP : va_P (dC, dI) classes [] s.heap := hP
  have hl := lv_entry [.int x0, .int x1] (n := 2) (Nat.le_of_ble_eq_true rfl)
  have he9 : entryFrame m args 2 = F0 m 0 ((lg_sl [.int x0, .int x1] ++ List.replicate (2 - (lg_sl [.int x0, .int x1]).length) Slot.unset).toArray) [] := by rw [ha]; exact lg_entry_eq _ _ _
  rw [he9]
  clear he9
  generalize (lg_sl [.int x0, .int x1] ++ List.replicate (2 - (lg_sl [.int x0, .int x1]).length) Slot.unset).toArray = ls at hl ⊢
  have hl : lv_has ls 2 [(0, .int x0), (1, .int x1)] := hl
  unfold wp_Js_checkIndex at hw
  refine lv_iload_n hx hb d_Js_checkIndex_0 rfl (lv_at hl 0 rfl) ?_
  refine lv_iload_n hx hb d_Js_checkIndex_1 rfl (lv_at hl 1 rfl) ?_
  rcases hG.2.2.2.2.2.2.1 with hZ9 | ⟨tF, hZ9⟩
  · refine va_gets hx hb hZ9 hS hown (hts (Cond.fieldLink R_Js 1053 "jdk/internal/util/Preconditions" "SIOOBE_FORMATTER" "Ljava/util/function/BiFunction;") kw12_446adc0) (fun _ h9 => h9) d_Js_checkIndex_2 ?_
    have hPc := hP.sub (ws' := []) [] rfl
    have hDc := hD.sub (ws' := []) [] (by decide) rfl
    have hFc := va_free (wc := []) hD hS hA [] rfl
    refine va_calli (va_runS (As := [.int x0, .int x1, .null]) (rest := []) ⟨hx, hb, hml, hown, hts⟩ (c_Jp_checkIndexN l dC dI cI cL cB  s.heap.size  x0 x1 _ hw) (my_cwS 3 hts kw12_68352c2 kw12_a62fda8 kw12_68947c3 kw12_c39a4ff rfl rfl (by decide +kernel) ⟨Nat.le_of_ble_eq_true rfl, Nat.le_of_ble_eq_true rfl⟩) ⟨fun a U g mk q => by obtain ⟨q0, q1, qP, qK, qD⟩ := q; exact ⟨q0, q1, qP, va_K.moved (u := U) (U := U.calling g mk a) (Vm.Alike.refl U.vm) qK, qD⟩, fun U hU hW => ⟨rfl, by rw [hU], by rw [hU]; exact hPc, va_K.moved hW.alike hK, hDc.weaken (fun _ _ _ _ => trivial)⟩⟩ rfl rfl hl.1 rfl (lv_room (Nat.le_of_ble_eq_true rfl)) d_Js_checkIndex_5 ⟨Nat.zero_le _, Nat.zero_le _⟩) hS (fun q _ h => hFc q h) hFc (fun r5 u t H locs ht hvm hw hB hz1 hk1 hS => ?_)
    obtain ⟨hP1, hK1, hD1⟩ := hB
    rw [ht] at hP1
    obtain ⟨hP, hD⟩ := va_join (wr := []) (w1 := []) hP hD [] [] rfl rfl (by decide) (by decide) hk1 hFc hP1 hD1
    have hP : va_P (dC, dI) classes [] H := hP.sub (ws' := []) [] rfl
    have hD : va_D A [] := hD.sub (ws' := []) [] (by decide) rfl
    refine lv_pop hx hb d_Js_checkIndex_8 rfl ?_
    exact W.vret hx hb hr (fun t ht hW => ⟨⟨(), rfl, hw, by rw [ht]; exact hP, va_K.moved hW.alike hK, hD⟩, hS.F ht⟩) hS.2.2 d_Js_checkIndex_9
  · refine va_gets hx hb hZ9 hS hown (hts (Cond.fieldLink R_Js 1053 "jdk/internal/util/Preconditions" "SIOOBE_FORMATTER" "Ljava/util/function/BiFunction;") kw12_446adc0) (fun _ h9 => h9) d_Js_checkIndex_2 ?_
    have hPc := hP.sub (ws' := []) [] rfl
    have hDc := hD.sub (ws' := []) [] (by decide) rfl
    have hFc := va_free (wc := []) hD hS hA [] rfl
    refine va_calli (va_runS (As := [.int x0, .int x1, .ref tF]) (rest := []) ⟨hx, hb, hml, hown, hts⟩ (c_Jp_checkIndex l dC dI cI cL cB tF s.heap.size  x0 x1 _ hw) (my_cwS 3 hts kw12_68352c2 kw12_a62fda8 kw12_68947c3 kw12_c39a4ff rfl rfl (by decide +kernel) ⟨Nat.le_of_ble_eq_true rfl, Nat.le_of_ble_eq_true rfl⟩) ⟨fun a U g mk q => by obtain ⟨q0, q1, qP, qK, qD⟩ := q; exact ⟨q0, q1, qP, va_K.moved (u := U) (U := U.calling g mk a) (Vm.Alike.refl U.vm) qK, qD⟩, fun U hU hW => ⟨rfl, by rw [hU], by rw [hU]; exact hPc, va_K.moved hW.alike hK, hDc.weaken (fun _ _ _ _ => trivial)⟩⟩ rfl rfl hl.1 rfl (lv_room (Nat.le_of_ble_eq_true rfl)) d_Js_checkIndex_5 ⟨Nat.zero_le _, Nat.zero_le _⟩) hS (fun q _ h => hFc q h) hFc (fun r5 u t H locs ht hvm hw hB hz1 hk1 hS => ?_)
    obtain ⟨hP1, hK1, hD1⟩ := hB
    rw [ht] at hP1
    obtain ⟨hP, hD⟩ := va_join (wr := []) (w1 := []) hP hD [] [] rfl rfl (by decide) (by decide) hk1 hFc hP1 hD1
    have hP : va_P (dC, dI) classes [] H := hP.sub (ws' := []) [] rfl
    have hD : va_D A [] := hD.sub (ws' := []) [] (by decide) rfl
    refine lv_pop hx hb d_Js_checkIndex_8 rfl ?_
    exact W.vret hx hb hr (fun t ht hW => ⟨⟨(), rfl, hw, by rw [ht]; exact hP, va_K.moved hW.alike hK, hD⟩, hS.F ht⟩) hS.2.2 d_Js_checkIndex_9
def wp_Js_coder (i0 : Nat) (P : Int32 → Prop) : Prop := (((1 : Int32) = 0 → P 1) ∧ (¬ (1 : Int32) = 0 → (i0 < nS ∧ P 0)))
def w_Js_coder : List Cond := .code y_Js_coder b_Js_coder 1 (some .byte) :: tb
abbrev rm_Js_coder : Room := { frames := 0, cells := 0, slots := 0, locals := 0 }
abbrev Q_Js_coder (dC : Nat → ClassId) (dI : Nat → Nat → Nat) (cI cL cB : ClassId) (i0 : Nat) (P : Int32 → Prop) (A : Nat → Prop) : Array Value → State → Outcome → State → Prop := va_Qi (fun (r : Int32) (u : Unit) => P r) (fun u t => va_P (dC, dI) classes [] t.heap ∧ va_K (dC, dI) classes [(cI, .int), (cL, .long), (cB, .byte)] t ∧ va_D A []) A
set_option maxHeartbeats 4000000 in
set_option maxRecDepth 100000 in
theorem c_Js_coder (l : Launch) (dC : Nat → ClassId) (dI : Nat → Nat → Nat) (cI cL cB : ClassId) (tP tR : Nat) (adK adV : Nat → Nat) (sz : Nat) (i0 : Nat) (P : Int32 → Prop) (hw : wp_Js_coder i0 P) : Met l y_Js_coder w_Js_coder rm_Js_coder (va_Pc [.ref (adK i0)] (fun U => U.heap.size = sz ∧ va_P (dC, dI) classes [] U.heap ∧ va_K (dC, dI) classes [(cI, .int), (cL, .long), (cB, .byte)] U ∧ va_D (fun _ => True) [] ∧ gx tP tR adK adV (va_A [] sz) U U.heap)) (Q_Js_coder dC dI cI cL cB i0 P (va_A [] sz)) 0 0 (va_A [] sz) := by
  refine Met.ofW (cc := b_Js_coder) (maxL := 1) (ret := (some .byte)) (by decide) rfl ?_
  intro p e s m args below meth c s₁ B hml hv
  obtain ⟨ha, hsz, hP, hK, hD0, hG⟩ := hv
  have hx := B.exec
  have hb := B.bytes
  have hr := B.returns
  have hts0 := atoms_spec (ws := w_Js_coder) B.pre
  have hts : ∀ w ∈ tb, w.before args s = true := fun w h => hts0 w (List.mem_cons_of_mem _ h)
  have hown : s.vm.findClass R_Js = some m.cls := findClass_of_methodNamed B.named
  have hlocks := B.notSynchronized
  subst hsz
  have hD := hD0.self (sz := s.heap.size)
  generalize hAe : va_A [] s.heap.size = A at hD hG ⊢
  have hA : ∀ q : Nat, s.heap.size ≤ q → A q := fun q h => by rw [← hAe]; exact Or.inr h
  have hS : va_S A s.heap s.heap [] := va_S.rf
  have hP : va_P (dC, dI) classes [] s.heap := hP
  have hl := lv_entry [.ref (adK i0)] (n := 1) (Nat.le_of_ble_eq_true rfl)
  have he9 : entryFrame m args 1 = F0 m 0 ((lg_sl [.ref (adK i0)] ++ List.replicate (1 - (lg_sl [.ref (adK i0)]).length) Slot.unset).toArray) [] := by rw [ha]; exact lg_entry_eq _ _ _
  rw [he9]
  clear he9
  generalize (lg_sl [.ref (adK i0)] ++ List.replicate (1 - (lg_sl [.ref (adK i0)]).length) Slot.unset).toArray = ls at hl ⊢
  have hl : lv_has ls 1 [(0, .ref (adK i0))] := hl
  unfold wp_Js_coder at hw
  refine va_gets hx hb hG.2.2.2.2.1 hS hown (hts (Cond.fieldLink R_Js 38 "java/lang/String" "COMPACT_STRINGS" "Z") kw12_b3a764c) (fun _ h9 => h9) d_Js_coder_0 ?_
  refine lv_if_eq (tgt := 13) hx hb d_Js_coder_3 (by decide) (fun c3 => ?_) (fun c3 => ?_)
  · replace hw := hw.1 c3
    refine lv_iconst (v := 1) hx hb d_Js_coder_13 (by decide) ?_
    exact W.zret (v := 1) hx hb hr (by decide) (fun t ht hW => ⟨⟨1, (), rfl, hw, by rw [ht]; exact hP, va_K.moved hW.alike hK, hD⟩, hS.F ht⟩) hS.2.2 d_Js_coder_14
  · replace hw := hw.2 c3
    refine lv_aload_n hx hb d_Js_coder_6 rfl (lv_at hl 0 rfl) ?_
    refine vk_getf hx hb (hG.2.2.2.2.2.1.1 _ hw.1).2.1 hS hown (hts (Cond.fieldLink R_Js 15 "java/lang/String" "coder" "B") kw12_2644d12) (fun _ h9 => h9) d_Js_coder_7 ?_
    replace hw := hw.2
    refine lv_goto (tgt := 14) hx hb d_Js_coder_10 (by decide) ?_
    exact W.zret (v := 0) hx hb hr (by decide) (fun t ht hW => ⟨⟨0, (), rfl, hw, by rw [ht]; exact hP, va_K.moved hW.alike hK, hD⟩, hS.F ht⟩) hS.2.2 d_Js_coder_14
def wp_Js_isLatin1 (i0 : Nat) (P : Int32 → Prop) : Prop := (((1 : Int32) = 0 → P 0) ∧ (¬ (1 : Int32) = 0 → (i0 < nS ∧ ((¬ (0 : Int32) = 0 → P 0) ∧ ((0 : Int32) = 0 → P 1)))))
def w_Js_isLatin1 : List Cond := .code y_Js_isLatin1 b_Js_isLatin1 1 (some .boolean) :: tb
abbrev rm_Js_isLatin1 : Room := { frames := 0, cells := 0, slots := 0, locals := 0 }
abbrev Q_Js_isLatin1 (dC : Nat → ClassId) (dI : Nat → Nat → Nat) (cI cL cB : ClassId) (i0 : Nat) (P : Int32 → Prop) (A : Nat → Prop) : Array Value → State → Outcome → State → Prop := va_Qi (fun (r : Int32) (u : Unit) => P r) (fun u t => va_P (dC, dI) classes [] t.heap ∧ va_K (dC, dI) classes [(cI, .int), (cL, .long), (cB, .byte)] t ∧ va_D A []) A
set_option maxHeartbeats 4000000 in
set_option maxRecDepth 100000 in
theorem c_Js_isLatin1 (l : Launch) (dC : Nat → ClassId) (dI : Nat → Nat → Nat) (cI cL cB : ClassId) (tP tR : Nat) (adK adV : Nat → Nat) (sz : Nat) (i0 : Nat) (P : Int32 → Prop) (hw : wp_Js_isLatin1 i0 P) : Met l y_Js_isLatin1 w_Js_isLatin1 rm_Js_isLatin1 (va_Pc [.ref (adK i0)] (fun U => U.heap.size = sz ∧ va_P (dC, dI) classes [] U.heap ∧ va_K (dC, dI) classes [(cI, .int), (cL, .long), (cB, .byte)] U ∧ va_D (fun _ => True) [] ∧ gx tP tR adK adV (va_A [] sz) U U.heap)) (Q_Js_isLatin1 dC dI cI cL cB i0 P (va_A [] sz)) 0 0 (va_A [] sz) := by
  refine Met.ofW (cc := b_Js_isLatin1) (maxL := 1) (ret := (some .boolean)) (by decide) rfl ?_
  intro p e s m args below meth c s₁ B hml hv
  obtain ⟨ha, hsz, hP, hK, hD0, hG⟩ := hv
  have hx := B.exec
  have hb := B.bytes
  have hr := B.returns
  have hts0 := atoms_spec (ws := w_Js_isLatin1) B.pre
  have hts : ∀ w ∈ tb, w.before args s = true := fun w h => hts0 w (List.mem_cons_of_mem _ h)
  have hown : s.vm.findClass R_Js = some m.cls := findClass_of_methodNamed B.named
  have hlocks := B.notSynchronized
  subst hsz
  have hD := hD0.self (sz := s.heap.size)
  generalize hAe : va_A [] s.heap.size = A at hD hG ⊢
  have hA : ∀ q : Nat, s.heap.size ≤ q → A q := fun q h => by rw [← hAe]; exact Or.inr h
  have hS : va_S A s.heap s.heap [] := va_S.rf
  have hP : va_P (dC, dI) classes [] s.heap := hP
  have hl := lv_entry [.ref (adK i0)] (n := 1) (Nat.le_of_ble_eq_true rfl)
  have he9 : entryFrame m args 1 = F0 m 0 ((lg_sl [.ref (adK i0)] ++ List.replicate (1 - (lg_sl [.ref (adK i0)]).length) Slot.unset).toArray) [] := by rw [ha]; exact lg_entry_eq _ _ _
  rw [he9]
  clear he9
  generalize (lg_sl [.ref (adK i0)] ++ List.replicate (1 - (lg_sl [.ref (adK i0)]).length) Slot.unset).toArray = ls at hl ⊢
  have hl : lv_has ls 1 [(0, .ref (adK i0))] := hl
  unfold wp_Js_isLatin1 at hw
  refine va_gets hx hb hG.2.2.2.2.1 hS hown (hts (Cond.fieldLink R_Js 38 "java/lang/String" "COMPACT_STRINGS" "Z") kw12_b3a764c) (fun _ h9 => h9) d_Js_isLatin1_0 ?_
  refine lv_if_eq (tgt := 17) hx hb d_Js_isLatin1_3 (by decide) (fun c3 => ?_) (fun c3 => ?_)
  · replace hw := hw.1 c3
    refine lv_iconst (v := 0) hx hb d_Js_isLatin1_17 (by decide) ?_
    exact W.zret (v := 0) hx hb hr (by decide) (fun t ht hW => ⟨⟨0, (), rfl, hw, by rw [ht]; exact hP, va_K.moved hW.alike hK, hD⟩, hS.F ht⟩) hS.2.2 d_Js_isLatin1_18
  · replace hw := hw.2 c3
    refine lv_aload_n hx hb d_Js_isLatin1_6 rfl (lv_at hl 0 rfl) ?_
    refine vk_getf hx hb (hG.2.2.2.2.2.1.1 _ hw.1).2.1 hS hown (hts (Cond.fieldLink R_Js 15 "java/lang/String" "coder" "B") kw12_2644d12) (fun _ h9 => h9) d_Js_isLatin1_7 ?_
    replace hw := hw.2
    refine lv_if_ne (tgt := 17) hx hb d_Js_isLatin1_10 (by decide) (fun c10 => ?_) (fun c10 => ?_)
    · replace hw := hw.1 c10
      refine lv_iconst (v := 0) hx hb d_Js_isLatin1_17 (by decide) ?_
      exact W.zret (v := 0) hx hb hr (by decide) (fun t ht hW => ⟨⟨0, (), rfl, hw, by rw [ht]; exact hP, va_K.moved hW.alike hK, hD⟩, hS.F ht⟩) hS.2.2 d_Js_isLatin1_18
    · replace hw := hw.2 c10
      refine lv_iconst (v := 1) hx hb d_Js_isLatin1_13 (by decide) ?_
      refine lv_goto (tgt := 18) hx hb d_Js_isLatin1_14 (by decide) ?_
      exact W.zret (v := 1) hx hb hr (by decide) (fun t ht hW => ⟨⟨1, (), rfl, hw, by rw [ht]; exact hP, va_K.moved hW.alike hK, hD⟩, hS.F ht⟩) hS.2.2 d_Js_isLatin1_18
def wp_Js_length (i0 : Nat) (P : Int32 → Prop) : Prop := (i0 < nS ∧ (i0 < nS ∧ (i0 < nS ∧ wp_Js_coder i0 (fun r6 => P ((nI (lenS.getD i0 0)) >>> (r6 &&& 31))))))
def w_Js_length : List Cond := .code y_Js_length b_Js_length 1 (some .int) :: tb
abbrev rm_Js_length : Room := { frames := 1, cells := 0, slots := 0, locals := 20 }
abbrev Q_Js_length (dC : Nat → ClassId) (dI : Nat → Nat → Nat) (cI cL cB : ClassId) (i0 : Nat) (P : Int32 → Prop) (A : Nat → Prop) : Array Value → State → Outcome → State → Prop := va_Qi (fun (r : Int32) (u : Unit) => P r) (fun u t => va_P (dC, dI) classes [] t.heap ∧ va_K (dC, dI) classes [(cI, .int), (cL, .long), (cB, .byte)] t ∧ va_D A []) A
set_option maxHeartbeats 4000000 in
set_option maxRecDepth 100000 in
theorem c_Js_length (l : Launch) (dC : Nat → ClassId) (dI : Nat → Nat → Nat) (cI cL cB : ClassId) (tP tR : Nat) (adK adV : Nat → Nat) (sz : Nat) (i0 : Nat) (P : Int32 → Prop) (hw : wp_Js_length i0 P) : Met l y_Js_length w_Js_length rm_Js_length (va_Pc [.ref (adK i0)] (fun U => U.heap.size = sz ∧ va_P (dC, dI) classes [] U.heap ∧ va_K (dC, dI) classes [(cI, .int), (cL, .long), (cB, .byte)] U ∧ va_D (fun _ => True) [] ∧ gx tP tR adK adV (va_A [] sz) U U.heap)) (Q_Js_length dC dI cI cL cB i0 P (va_A [] sz)) 0 0 (va_A [] sz) := by
  refine Met.ofW (cc := b_Js_length) (maxL := 1) (ret := (some .int)) (by decide) rfl ?_
  intro p e s m args below meth c s₁ B hml hv
  obtain ⟨ha, hsz, hP, hK, hD0, hG⟩ := hv
  have hx := B.exec
  have hb := B.bytes
  have hr := B.returns
  have hts0 := atoms_spec (ws := w_Js_length) B.pre
  have hts : ∀ w ∈ tb, w.before args s = true := fun w h => hts0 w (List.mem_cons_of_mem _ h)
  have hown : s.vm.findClass R_Js = some m.cls := findClass_of_methodNamed B.named
  have hlocks := B.notSynchronized
  subst hsz
  have hD := hD0.self (sz := s.heap.size)
  generalize hAe : va_A [] s.heap.size = A at hD hG ⊢
  have hA : ∀ q : Nat, s.heap.size ≤ q → A q := fun q h => by rw [← hAe]; exact Or.inr h
  have hS : va_S A s.heap s.heap [] := va_S.rf
  have hP : va_P (dC, dI) classes [] s.heap := hP
  have hl := lv_entry [.ref (adK i0)] (n := 1) (Nat.le_of_ble_eq_true rfl)
  have he9 : entryFrame m args 1 = F0 m 0 ((lg_sl [.ref (adK i0)] ++ List.replicate (1 - (lg_sl [.ref (adK i0)]).length) Slot.unset).toArray) [] := by rw [ha]; exact lg_entry_eq _ _ _
  rw [he9]
  clear he9
  generalize (lg_sl [.ref (adK i0)] ++ List.replicate (1 - (lg_sl [.ref (adK i0)]).length) Slot.unset).toArray = ls at hl ⊢
  have hl : lv_has ls 1 [(0, .ref (adK i0))] := hl
  unfold wp_Js_length at hw
  refine lv_aload_n hx hb d_Js_length_0 rfl (lv_at hl 0 rfl) ?_
  refine vk_getf hx hb (hG.2.2.2.2.2.1.1 _ hw.1).2.2.1 hS hown (hts (Cond.fieldLink R_Js 9 "java/lang/String" "value" "[B") kw12_60e2527) (fun _ h9 => h9) d_Js_length_1 ?_
  replace hw := hw.2
  refine va_tlen (v := (nI (lenS.getD i0 0))) hx hb (hG.2.2.2.2.2.1.1 _ hw.1).2.2.2 hS rfl d_Js_length_4 ?_
  replace hw := hw.2
  refine lv_aload_n hx hb d_Js_length_5 rfl (lv_at hl 0 rfl) ?_
  have hPc := hP.sub (ws' := []) [] rfl
  have hDc := hD.sub (ws' := []) [] (by decide) rfl
  have hFc := va_free (wc := []) hD hS hA [] rfl
  have hi9 := hw.1
  replace hw := hw.2
  refine va_calli (va_runV (As := []) (rest := [.int (nI (lenS.getD i0 0))]) ⟨hx, hb, hml, hown, hts⟩ (c_Js_coder l dC dI cI cL cB tP tR adK adV  s.heap.size  i0 _ hw) (my_cwV 0 hts kw12_367e2d9 kw12_22d975e kw12_9d13847 kw12_224da0b kw12_6da82c4 rfl rfl (by decide +kernel) ⟨Nat.le_of_ble_eq_true rfl, Nat.le_of_ble_eq_true rfl⟩) ⟨fun a U g mk q => by obtain ⟨q0, q1, qP, qK, qD, qG⟩ := q; exact ⟨q0, q1, qP, va_K.moved (u := U) (U := U.calling g mk a) (Vm.Alike.refl U.vm) qK, qD, gx_call qG⟩, vk_recv hG.2.2.2.2.2.1 hi9 hS, fun U hU hW => ⟨rfl, by rw [hU], by rw [hU]; exact hPc, va_K.moved hW.alike hK, hDc.weaken (fun _ _ _ _ => trivial), by rw [hU]; exact gx_pass hW hS.2.1 hFc hG⟩⟩ rfl rfl hl.1 rfl (lv_room (Nat.le_of_ble_eq_true rfl)) d_Js_length_6 ⟨Nat.zero_le _, Nat.zero_le _⟩) hS (fun q _ h => hFc q h) hFc (fun r6 u t H locs ht hvm hw hB hz1 hk1 hS => ?_)
  obtain ⟨hP1, hK1, hD1⟩ := hB
  rw [ht] at hP1
  obtain ⟨hP, hD⟩ := va_join (wr := []) (w1 := []) hP hD [] [] rfl rfl (by decide) (by decide) hk1 hFc hP1 hD1
  have hP : va_P (dC, dI) classes [] H := hP.sub (ws' := []) [] rfl
  have hD : va_D A [] := hD.sub (ws' := []) [] (by decide) rfl
  refine lv_ishr hx hb d_Js_length_9 ?_
  exact W.iret (v := ((nI (lenS.getD i0 0)) >>> (r6 &&& 31))) hx hb hr (fun t ht hW => ⟨⟨((nI (lenS.getD i0 0)) >>> (r6 &&& 31)), (), rfl, hw, by rw [ht]; exact hP, va_K.moved hW.alike hK, hD⟩, hS.F ht⟩) hS.2.2 d_Js_length_10
def wp_Jl_charAt (i0 : Nat) (x1 : Int32) (P : Int32 → Prop) : Prop := (i0 < nS ∧ wp_Js_checkIndex x1 (nI (lenS.getD i0 0)) (i0 < nS ∧ (vp_in x1 (lenS.getD i0 0) ∧ (narrow .char (.int ((((((bytS.getD i0 []).getD x1.toNatClampNeg 0) &&& 255) : Int32).toUInt32 % 65536).toInt32)) = .int ((((((bytS.getD i0 []).getD x1.toNatClampNeg 0) &&& 255) : Int32).toUInt32 % 65536).toInt32) ∧ P ((((((bytS.getD i0 []).getD x1.toNatClampNeg 0) &&& 255) : Int32).toUInt32 % 65536).toInt32)))))
def w_Jl_charAt : List Cond := .code y_Jl_charAt b_Jl_charAt 2 (some .char) :: tb
abbrev rm_Jl_charAt : Room := { frames := 2, cells := 0, slots := 0, locals := 43 }
abbrev Q_Jl_charAt (dC : Nat → ClassId) (dI : Nat → Nat → Nat) (cI cL cB : ClassId) (i0 : Nat) (x1 : Int32) (P : Int32 → Prop) (A : Nat → Prop) : Array Value → State → Outcome → State → Prop := va_Qi (fun (r : Int32) (u : Unit) => P r) (fun u t => va_P (dC, dI) classes [] t.heap ∧ va_K (dC, dI) classes [(cI, .int), (cL, .long), (cB, .byte)] t ∧ va_D A []) A
set_option maxHeartbeats 4000000 in
set_option maxRecDepth 100000 in
theorem c_Jl_charAt (l : Launch) (dC : Nat → ClassId) (dI : Nat → Nat → Nat) (cI cL cB : ClassId) (tP tR : Nat) (adK adV : Nat → Nat) (sz : Nat) (i0 : Nat) (x1 : Int32) (P : Int32 → Prop) (hw : wp_Jl_charAt i0 x1 P) : Met l y_Jl_charAt w_Jl_charAt rm_Jl_charAt (va_Pc [.ref (adV i0), .int x1] (fun U => U.heap.size = sz ∧ va_P (dC, dI) classes [] U.heap ∧ va_K (dC, dI) classes [(cI, .int), (cL, .long), (cB, .byte)] U ∧ va_D (fun _ => True) [] ∧ gx tP tR adK adV (va_A [] sz) U U.heap)) (Q_Jl_charAt dC dI cI cL cB i0 x1 P (va_A [] sz)) 0 0 (va_A [] sz) := by
  refine Met.ofW (cc := b_Jl_charAt) (maxL := 2) (ret := (some .char)) (by decide) rfl ?_
  intro p e s m args below meth c s₁ B hml hv
  obtain ⟨ha, hsz, hP, hK, hD0, hG⟩ := hv
  have hx := B.exec
  have hb := B.bytes
  have hr := B.returns
  have hts0 := atoms_spec (ws := w_Jl_charAt) B.pre
  have hts : ∀ w ∈ tb, w.before args s = true := fun w h => hts0 w (List.mem_cons_of_mem _ h)
  have hown : s.vm.findClass R_Jl = some m.cls := findClass_of_methodNamed B.named
  have hlocks := B.notSynchronized
  subst hsz
  have hD := hD0.self (sz := s.heap.size)
  generalize hAe : va_A [] s.heap.size = A at hD hG ⊢
  have hA : ∀ q : Nat, s.heap.size ≤ q → A q := fun q h => by rw [← hAe]; exact Or.inr h
  have hS : va_S A s.heap s.heap [] := va_S.rf
  have hP : va_P (dC, dI) classes [] s.heap := hP
  have hl := lv_entry [.ref (adV i0), .int x1] (n := 2) (Nat.le_of_ble_eq_true rfl)
  have he9 : entryFrame m args 2 = F0 m 0 ((lg_sl [.ref (adV i0), .int x1] ++ List.replicate (2 - (lg_sl [.ref (adV i0), .int x1]).length) Slot.unset).toArray) [] := by rw [ha]; exact lg_entry_eq _ _ _
  rw [he9]
  clear he9
  generalize (lg_sl [.ref (adV i0), .int x1] ++ List.replicate (2 - (lg_sl [.ref (adV i0), .int x1]).length) Slot.unset).toArray = ls at hl ⊢
  have hl : lv_has ls 2 [(0, .ref (adV i0)), (1, .int x1)] := hl
  unfold wp_Jl_charAt at hw
  refine lv_iload_n hx hb d_Jl_charAt_0 rfl (lv_at hl 1 rfl) ?_
  refine lv_aload_n hx hb d_Jl_charAt_1 rfl (lv_at hl 0 rfl) ?_
  refine va_tlen (v := (nI (lenS.getD i0 0))) hx hb (hG.2.2.2.2.2.1.1 _ hw.1).2.2.2 hS rfl d_Jl_charAt_2 ?_
  replace hw := hw.2
  have hPc := hP.sub (ws' := []) [] rfl
  have hDc := hD.sub (ws' := []) [] (by decide) rfl
  have hFc := va_free (wc := []) hD hS hA [] rfl
  refine va_callv (va_runS (As := [.int x1, .int (nI (lenS.getD i0 0))]) (rest := []) ⟨hx, hb, hml, hown, hts⟩ (c_Js_checkIndex l dC dI cI cL cB tP tR adK adV  s.heap.size  x1 (nI (lenS.getD i0 0)) _ hw) (my_cwS 2 hts kw12_2ca6fcf kw12_6da9ad3 kw12_224da0b kw12_cfae4a3 rfl rfl (by decide +kernel) ⟨Nat.le_of_ble_eq_true rfl, Nat.le_of_ble_eq_true rfl⟩) ⟨fun a U g mk q => by obtain ⟨q0, q1, qP, qK, qD, qG⟩ := q; exact ⟨q0, q1, qP, va_K.moved (u := U) (U := U.calling g mk a) (Vm.Alike.refl U.vm) qK, qD, gx_call qG⟩, fun U hU hW => ⟨rfl, by rw [hU], by rw [hU]; exact hPc, va_K.moved hW.alike hK, hDc.weaken (fun _ _ _ _ => trivial), by rw [hU]; exact gx_pass hW hS.2.1 hFc hG⟩⟩ rfl rfl hl.1 rfl (lv_room (Nat.le_of_ble_eq_true rfl)) d_Jl_charAt_3 ⟨Nat.zero_le _, Nat.zero_le _⟩) hS (fun q _ h => hFc q h) hFc (fun u t H locs ht hvm hw hB hz1 hk1 hS => ?_)
  obtain ⟨hP1, hK1, hD1⟩ := hB
  rw [ht] at hP1
  obtain ⟨hP, hD⟩ := va_join (wr := []) (w1 := []) hP hD [] [] rfl rfl (by decide) (by decide) hk1 hFc hP1 hD1
  have hP : va_P (dC, dI) classes [] H := hP.sub (ws' := []) [] rfl
  have hD : va_D A [] := hD.sub (ws' := []) [] (by decide) rfl
  refine lv_aload_n hx hb d_Jl_charAt_6 rfl (lv_at hl 0 rfl) ?_
  refine lv_iload_n hx hb d_Jl_charAt_7 rfl (lv_at hl 1 rfl) ?_
  refine va_tb hx hb (hG.2.2.2.2.2.1.1 _ hw.1).2.2.2 hS hw.2.1 (v := .int ((bytS.getD i0 []).getD x1.toNatClampNeg 0)) rfl d_Jl_charAt_8 ?_
  replace hw := hw.2.2
  refine lv_sipush (v := 255) hx hb d_Jl_charAt_9 (by decide) ?_
  refine lv_iand hx hb d_Jl_charAt_12 ?_
  refine lv_i2c hx hb d_Jl_charAt_13 rfl ?_
  exact W.zret (v := (((((bytS.getD i0 []).getD x1.toNatClampNeg 0) &&& 255) : Int32).toUInt32 % 65536).toInt32) hx hb hr hw.1 (fun t ht hW => ⟨⟨(((((bytS.getD i0 []).getD x1.toNatClampNeg 0) &&& 255) : Int32).toUInt32 % 65536).toInt32, (), rfl, hw.2, by rw [ht]; exact hP, va_K.moved hW.alike hK, hD⟩, hS.F ht⟩) hS.2.2 d_Jl_charAt_14
def wp_Js_charAt (i0 : Nat) (x1 : Int32) (P : Int32 → Prop) : Prop := (i0 < nS ∧ wp_Js_isLatin1 i0 (fun r1 => ((r1 = 0 → (i0 < nS ∧ False)) ∧ (¬ r1 = 0 → (i0 < nS ∧ wp_Jl_charAt i0 x1 (fun r12 => (narrow .char (.int r12) = .int r12 ∧ P r12)))))))
def w_Js_charAt : List Cond := .code y_Js_charAt b_Js_charAt 2 (some .char) :: tb
abbrev rm_Js_charAt : Room := { frames := 3, cells := 0, slots := 0, locals := 64 }
abbrev Q_Js_charAt (dC : Nat → ClassId) (dI : Nat → Nat → Nat) (cI cL cB : ClassId) (i0 : Nat) (x1 : Int32) (P : Int32 → Prop) (A : Nat → Prop) : Array Value → State → Outcome → State → Prop := va_Qi (fun (r : Int32) (u : Unit) => P r) (fun u t => va_P (dC, dI) classes [] t.heap ∧ va_K (dC, dI) classes [(cI, .int), (cL, .long), (cB, .byte)] t ∧ va_D A []) A
set_option maxHeartbeats 4000000 in
set_option maxRecDepth 100000 in
theorem c_Js_charAt (l : Launch) (dC : Nat → ClassId) (dI : Nat → Nat → Nat) (cI cL cB : ClassId) (tP tR : Nat) (adK adV : Nat → Nat) (sz : Nat) (i0 : Nat) (x1 : Int32) (P : Int32 → Prop) (hw : wp_Js_charAt i0 x1 P) : Met l y_Js_charAt w_Js_charAt rm_Js_charAt (va_Pc [.ref (adK i0), .int x1] (fun U => U.heap.size = sz ∧ va_P (dC, dI) classes [] U.heap ∧ va_K (dC, dI) classes [(cI, .int), (cL, .long), (cB, .byte)] U ∧ va_D (fun _ => True) [] ∧ gx tP tR adK adV (va_A [] sz) U U.heap)) (Q_Js_charAt dC dI cI cL cB i0 x1 P (va_A [] sz)) 0 0 (va_A [] sz) := by
  refine Met.ofW (cc := b_Js_charAt) (maxL := 2) (ret := (some .char)) (by decide) rfl ?_
  intro p e s m args below meth c s₁ B hml hv
  obtain ⟨ha, hsz, hP, hK, hD0, hG⟩ := hv
  have hx := B.exec
  have hb := B.bytes
  have hr := B.returns
  have hts0 := atoms_spec (ws := w_Js_charAt) B.pre
  have hts : ∀ w ∈ tb, w.before args s = true := fun w h => hts0 w (List.mem_cons_of_mem _ h)
  have hown : s.vm.findClass R_Js = some m.cls := findClass_of_methodNamed B.named
  have hlocks := B.notSynchronized
  subst hsz
  have hD := hD0.self (sz := s.heap.size)
  generalize hAe : va_A [] s.heap.size = A at hD hG ⊢
  have hA : ∀ q : Nat, s.heap.size ≤ q → A q := fun q h => by rw [← hAe]; exact Or.inr h
  have hS : va_S A s.heap s.heap [] := va_S.rf
  have hP : va_P (dC, dI) classes [] s.heap := hP
  have hl := lv_entry [.ref (adK i0), .int x1] (n := 2) (Nat.le_of_ble_eq_true rfl)
  have he9 : entryFrame m args 2 = F0 m 0 ((lg_sl [.ref (adK i0), .int x1] ++ List.replicate (2 - (lg_sl [.ref (adK i0), .int x1]).length) Slot.unset).toArray) [] := by rw [ha]; exact lg_entry_eq _ _ _
  rw [he9]
  clear he9
  generalize (lg_sl [.ref (adK i0), .int x1] ++ List.replicate (2 - (lg_sl [.ref (adK i0), .int x1]).length) Slot.unset).toArray = ls at hl ⊢
  have hl : lv_has ls 2 [(0, .ref (adK i0)), (1, .int x1)] := hl
  unfold wp_Js_charAt at hw
  refine lv_aload_n hx hb d_Js_charAt_0 rfl (lv_at hl 0 rfl) ?_
  have hPc := hP.sub (ws' := []) [] rfl
  have hDc := hD.sub (ws' := []) [] (by decide) rfl
  have hFc := va_free (wc := []) hD hS hA [] rfl
  have hi9 := hw.1
  replace hw := hw.2
  refine va_calli (va_runV (As := []) (rest := []) ⟨hx, hb, hml, hown, hts⟩ (c_Js_isLatin1 l dC dI cI cL cB tP tR adK adV  s.heap.size  i0 _ hw) (my_cwV 0 hts kw12_012a45c kw12_7525461 kw12_cfe9d4d kw12_224da0b kw12_6ebc92d rfl rfl (by decide +kernel) ⟨Nat.le_of_ble_eq_true rfl, Nat.le_of_ble_eq_true rfl⟩) ⟨fun a U g mk q => by obtain ⟨q0, q1, qP, qK, qD, qG⟩ := q; exact ⟨q0, q1, qP, va_K.moved (u := U) (U := U.calling g mk a) (Vm.Alike.refl U.vm) qK, qD, gx_call qG⟩, vk_recv hG.2.2.2.2.2.1 hi9 hS, fun U hU hW => ⟨rfl, by rw [hU], by rw [hU]; exact hPc, va_K.moved hW.alike hK, hDc.weaken (fun _ _ _ _ => trivial), by rw [hU]; exact gx_pass hW hS.2.1 hFc hG⟩⟩ rfl rfl hl.1 rfl (lv_room (Nat.le_of_ble_eq_true rfl)) d_Js_charAt_1 ⟨Nat.zero_le _, Nat.zero_le _⟩) hS (fun q _ h => hFc q h) hFc (fun r1 u t H locs ht hvm hw hB hz1 hk1 hS => ?_)
  obtain ⟨hP1, hK1, hD1⟩ := hB
  rw [ht] at hP1
  obtain ⟨hP, hD⟩ := va_join (wr := []) (w1 := []) hP hD [] [] rfl rfl (by decide) (by decide) hk1 hFc hP1 hD1
  have hP : va_P (dC, dI) classes [] H := hP.sub (ws' := []) [] rfl
  have hD : va_D A [] := hD.sub (ws' := []) [] (by decide) rfl
  refine lv_if_eq (tgt := 16) hx hb d_Js_charAt_4 (by decide) (fun c4 => ?_) (fun c4 => ?_)
  · replace hw := hw.1 c4
    refine lv_aload_n hx hb d_Js_charAt_16 rfl (lv_at hl 0 rfl) ?_
    refine vk_getf hx hb (hG.2.2.2.2.2.1.1 _ hw.1).2.2.1 hS hown (hts (Cond.fieldLink R_Js 9 "java/lang/String" "value" "[B") kw12_60e2527) (fun _ h9 => h9) d_Js_charAt_17 ?_
    replace hw := hw.2
    refine lv_iload_n hx hb d_Js_charAt_20 rfl (lv_at hl 1 rfl) ?_
    exact False.elim hw
  · replace hw := hw.2 c4
    refine lv_aload_n hx hb d_Js_charAt_7 rfl (lv_at hl 0 rfl) ?_
    refine vk_getf hx hb (hG.2.2.2.2.2.1.1 _ hw.1).2.2.1 hS hown (hts (Cond.fieldLink R_Js 9 "java/lang/String" "value" "[B") kw12_60e2527) (fun _ h9 => h9) d_Js_charAt_8 ?_
    replace hw := hw.2
    refine lv_iload_n hx hb d_Js_charAt_11 rfl (lv_at hl 1 rfl) ?_
    have hPc := hP.sub (ws' := []) [] rfl
    have hDc := hD.sub (ws' := []) [] (by decide) rfl
    have hFc := va_free (wc := []) hD hS hA [] rfl
    refine va_calli (va_runS (As := [.ref (adV i0), .int x1]) (rest := []) ⟨hx, hb, hml, hown, hts⟩ (c_Jl_charAt l dC dI cI cL cB tP tR adK adV  H.size  i0 x1 _ hw) (my_cwS 2 hts kw12_fdd56a3 kw12_c584604 kw12_5f4b076 kw12_e03fc4d rfl rfl (by decide +kernel) ⟨Nat.le_of_ble_eq_true rfl, Nat.le_of_ble_eq_true rfl⟩) ⟨fun a U g mk q => by obtain ⟨q0, q1, qP, qK, qD, qG⟩ := q; exact ⟨q0, q1, qP, va_K.moved (u := U) (U := U.calling g mk a) (Vm.Alike.refl U.vm) qK, qD, gx_call qG⟩, fun U hU hW => ⟨rfl, by rw [hU], by rw [hU]; exact hPc, va_K.moved hW.alike hK, hDc.weaken (fun _ _ _ _ => trivial), by rw [hU]; exact gx_pass hW hS.2.1 hFc hG⟩⟩ rfl rfl hl.1 rfl (lv_room (Nat.le_of_ble_eq_true rfl)) d_Js_charAt_12 ⟨Nat.zero_le _, Nat.zero_le _⟩) hS (fun q _ h => hFc q h) hFc (fun r12 u t H locs ht hvm hw hB hz1 hk1 hS => ?_)
    obtain ⟨hP1, hK1, hD1⟩ := hB
    rw [ht] at hP1
    obtain ⟨hP, hD⟩ := va_join (wr := []) (w1 := []) hP hD [] [] rfl rfl (by decide) (by decide) hk1 hFc hP1 hD1
    have hP : va_P (dC, dI) classes [] H := hP.sub (ws' := []) [] rfl
    have hD : va_D A [] := hD.sub (ws' := []) [] (by decide) rfl
    exact W.zret (v := r12) hx hb hr hw.1 (fun t ht hW => ⟨⟨r12, (), rfl, hw.2, by rw [ht]; exact hP, va_K.moved hW.alike hK, hD⟩, hS.F ht⟩) hS.2.2 d_Js_charAt_15
