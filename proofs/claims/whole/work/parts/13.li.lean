theorem d_Li_shift_0 : decode b_Li_shift 0 = .ok (.iload_n 0, 1) := by decide +kernel
theorem d_Li_shift_1 : decode b_Li_shift 1 = .ok (.bipush 16, 2) := by decide +kernel
theorem d_Li_shift_3 : decode b_Li_shift 3 = .ok (.irem, 1) := by decide +kernel
theorem d_Li_shift_4 : decode b_Li_shift 4 = .ok (.iconst 4, 1) := by decide +kernel
theorem d_Li_shift_5 : decode b_Li_shift 5 = .ok (.imul, 1) := by decide +kernel
theorem d_Li_shift_6 : decode b_Li_shift 6 = .ok (.ireturn, 1) := by decide +kernel
theorem d_Li_at_0 : decode b_Li_at 0 = .ok (.iload_n 1, 1) := by decide +kernel
theorem d_Li_at_1 : decode b_Li_at 1 = .ok (.i2l, 1) := by decide +kernel
theorem d_Li_at_2 : decode b_Li_at 2 = .ok (.lconst 0, 1) := by decide +kernel
theorem d_Li_at_3 : decode b_Li_at 3 = .ok (.ldc2_w 21, 3) := by decide +kernel
theorem d_Li_at_6 : decode b_Li_at 6 = .ok (.invokestatic 23, 3) := by decide +kernel
theorem d_Li_at_9 : decode b_Li_at 9 = .ok (.ifCond .ne 5, 3) := by decide +kernel
theorem d_Li_at_12 : decode b_Li_at 12 = .ok (.iconst 0, 1) := by decide +kernel
theorem d_Li_at_13 : decode b_Li_at 13 = .ok (.ireturn, 1) := by decide +kernel
theorem d_Li_at_14 : decode b_Li_at 14 = .ok (.aload_n 0, 1) := by decide +kernel
theorem d_Li_at_15 : decode b_Li_at 15 = .ok (.getfield 11, 3) := by decide +kernel
theorem d_Li_at_18 : decode b_Li_at 18 = .ok (.iload_n 1, 1) := by decide +kernel
theorem d_Li_at_19 : decode b_Li_at 19 = .ok (.bipush 16, 2) := by decide +kernel
theorem d_Li_at_21 : decode b_Li_at 21 = .ok (.idiv, 1) := by decide +kernel
theorem d_Li_at_22 : decode b_Li_at 22 = .ok (.laload, 1) := by decide +kernel
theorem d_Li_at_23 : decode b_Li_at 23 = .ok (.iload_n 1, 1) := by decide +kernel
theorem d_Li_at_24 : decode b_Li_at 24 = .ok (.invokestatic 27, 3) := by decide +kernel
theorem d_Li_at_27 : decode b_Li_at 27 = .ok (.lushr, 1) := by decide +kernel
theorem d_Li_at_28 : decode b_Li_at 28 = .ok (.l2i, 1) := by decide +kernel
theorem d_Li_at_29 : decode b_Li_at 29 = .ok (.bipush 15, 2) := by decide +kernel
theorem d_Li_at_31 : decode b_Li_at 31 = .ok (.iand, 1) := by decide +kernel
theorem d_Li_at_32 : decode b_Li_at 32 = .ok (.ireturn, 1) := by decide +kernel
theorem d_Li_set_0 : decode b_Li_set 0 = .ok (.iload_n 1, 1) := by decide +kernel
theorem d_Li_set_1 : decode b_Li_set 1 = .ok (.i2l, 1) := by decide +kernel
theorem d_Li_set_2 : decode b_Li_set 2 = .ok (.lconst 0, 1) := by decide +kernel
theorem d_Li_set_3 : decode b_Li_set 3 = .ok (.ldc2_w 21, 3) := by decide +kernel
theorem d_Li_set_6 : decode b_Li_set 6 = .ok (.invokestatic 23, 3) := by decide +kernel
theorem d_Li_set_9 : decode b_Li_set 9 = .ok (.ifCond .ne 4, 3) := by decide +kernel
theorem d_Li_set_12 : decode b_Li_set 12 = .ok (.return_, 1) := by decide +kernel
theorem d_Li_set_13 : decode b_Li_set 13 = .ok (.aload_n 0, 1) := by decide +kernel
theorem d_Li_set_14 : decode b_Li_set 14 = .ok (.getfield 11, 3) := by decide +kernel
theorem d_Li_set_17 : decode b_Li_set 17 = .ok (.iload_n 1, 1) := by decide +kernel
theorem d_Li_set_18 : decode b_Li_set 18 = .ok (.bipush 16, 2) := by decide +kernel
theorem d_Li_set_20 : decode b_Li_set 20 = .ok (.idiv, 1) := by decide +kernel
theorem d_Li_set_21 : decode b_Li_set 21 = .ok (.laload, 1) := by decide +kernel
theorem d_Li_set_22 : decode b_Li_set 22 = .ok (.ldc2_w 31, 3) := by decide +kernel
theorem d_Li_set_25 : decode b_Li_set 25 = .ok (.iload_n 1, 1) := by decide +kernel
theorem d_Li_set_26 : decode b_Li_set 26 = .ok (.invokestatic 27, 3) := by decide +kernel
theorem d_Li_set_29 : decode b_Li_set 29 = .ok (.lshl, 1) := by decide +kernel
theorem d_Li_set_30 : decode b_Li_set 30 = .ok (.ldc2_w 33, 3) := by decide +kernel
theorem d_Li_set_33 : decode b_Li_set 33 = .ok (.lxor, 1) := by decide +kernel
theorem d_Li_set_34 : decode b_Li_set 34 = .ok (.land, 1) := by decide +kernel
theorem d_Li_set_35 : decode b_Li_set 35 = .ok (.lstore_n 3, 1) := by decide +kernel
theorem d_Li_set_36 : decode b_Li_set 36 = .ok (.aload_n 0, 1) := by decide +kernel
theorem d_Li_set_37 : decode b_Li_set 37 = .ok (.getfield 11, 3) := by decide +kernel
theorem d_Li_set_40 : decode b_Li_set 40 = .ok (.iload_n 1, 1) := by decide +kernel
theorem d_Li_set_41 : decode b_Li_set 41 = .ok (.bipush 16, 2) := by decide +kernel
theorem d_Li_set_43 : decode b_Li_set 43 = .ok (.idiv, 1) := by decide +kernel
theorem d_Li_set_44 : decode b_Li_set 44 = .ok (.lload_n 3, 1) := by decide +kernel
theorem d_Li_set_45 : decode b_Li_set 45 = .ok (.iload_n 2, 1) := by decide +kernel
theorem d_Li_set_46 : decode b_Li_set 46 = .ok (.bipush 15, 2) := by decide +kernel
theorem d_Li_set_48 : decode b_Li_set 48 = .ok (.iand, 1) := by decide +kernel
theorem d_Li_set_49 : decode b_Li_set 49 = .ok (.i2l, 1) := by decide +kernel
theorem d_Li_set_50 : decode b_Li_set 50 = .ok (.iload_n 1, 1) := by decide +kernel
theorem d_Li_set_51 : decode b_Li_set 51 = .ok (.invokestatic 27, 3) := by decide +kernel
theorem d_Li_set_54 : decode b_Li_set 54 = .ok (.lshl, 1) := by decide +kernel
theorem d_Li_set_55 : decode b_Li_set 55 = .ok (.lor, 1) := by decide +kernel
theorem d_Li_set_56 : decode b_Li_set 56 = .ok (.lastore, 1) := by decide +kernel
theorem d_Li_set_57 : decode b_Li_set 57 = .ok (.return_, 1) := by decide +kernel
theorem d_Li_clear_0 : decode b_Li_clear 0 = .ok (.aload_n 0, 1) := by decide +kernel
theorem d_Li_clear_1 : decode b_Li_clear 1 = .ok (.getfield 11, 3) := by decide +kernel
theorem d_Li_clear_4 : decode b_Li_clear 4 = .ok (.lconst 0, 1) := by decide +kernel
theorem d_Li_clear_5 : decode b_Li_clear 5 = .ok (.invokestatic 15, 3) := by decide +kernel
theorem d_Li_clear_8 : decode b_Li_clear 8 = .ok (.return_, 1) := by decide +kernel
theorem kw13_be8ba7f : (Cond.constantLong R_Li 21 11999 : Cond) ∈ tb := by decide +kernel
theorem kw13_0fe5ba3 : (Cond.methodLinkNest R_Li 23 y_PG_isBetween "PlantGraph" : Cond) ∈ tb := by decide +kernel
theorem kw13_dc3dcb6 : (Cond.initialized R_PG : Cond) ∈ tb := by decide +kernel
theorem kw13_12156fe : (Cond.code y_PG_isBetween b_PG_isBetween 6 (some .boolean) : Cond) ∈ tb := by decide +kernel
theorem kw13_674c2bf : (Cond.static y_PG_isBetween : Cond) ∈ tb := by decide +kernel
theorem kw13_c00f02f : (Cond.fieldLink R_Li 11 "PlantGraph$Litres" "words" "[J" : Cond) ∈ tb := by decide +kernel
theorem kw13_72e9b09 : (Cond.methodLink R_Li 27 y_Li_shift : Cond) ∈ tb := by decide +kernel
theorem kw13_0bb7906 : (Cond.static y_Li_shift : Cond) ∈ tb := by decide +kernel
theorem kw13_59924f3 : (Cond.initialized R_Li : Cond) ∈ tb := by decide +kernel
theorem kw13_10ca6d0 : (Cond.code y_Li_shift b_Li_shift 1 (some .int) : Cond) ∈ tb := by decide +kernel
theorem kw13_b98ec27 : (Cond.constantLong R_Li 31 15 : Cond) ∈ tb := by decide +kernel
theorem kw13_ce16155 : (Cond.constantLong R_Li 33 (-1) : Cond) ∈ tb := by decide +kernel
theorem kw13_28882ec : (Cond.methodLink R_Li 15 y_Ar_fillJ : Cond) ∈ tb := by decide +kernel
theorem kw13_9472b6e : (Cond.static y_Ar_fillJ : Cond) ∈ tb := by decide +kernel
theorem kw13_7ae4a73 : (Cond.initialized R_Ar : Cond) ∈ tb := by decide +kernel
theorem kw13_3f1e355 : (Cond.code y_Ar_fillJ b_Ar_fillJ 5 none : Cond) ∈ tb := by decide +kernel
def wp_Li_shift (x0 : Int32) (P : Int32 → Prop) : Prop := P ((x0 - x0 / 16 * 16) * 4)
def w_Li_shift : List Cond := .code y_Li_shift b_Li_shift 1 (some .int) :: tb
abbrev rm_Li_shift : Room := { frames := 0, cells := 0, slots := 0, locals := 0 }
abbrev Q_Li_shift (dC : Nat → ClassId) (dI : Nat → Nat → Nat) (cI cL cB : ClassId) (x0 : Int32) (P : Int32 → Prop) (A : Nat → Prop) : Array Value → State → Outcome → State → Prop := va_Qi (fun (r : Int32) (u : Unit) => P r) (fun u t => va_P (dC, dI) classes [] t.heap ∧ va_K (dC, dI) classes [(cI, .int), (cL, .long), (cB, .byte)] t ∧ va_D A []) A
set_option maxHeartbeats 4000000 in
set_option maxRecDepth 100000 in
theorem c_Li_shift (l : Launch) (dC : Nat → ClassId) (dI : Nat → Nat → Nat) (cI cL cB : ClassId) (sz : Nat) (x0 : Int32) (P : Int32 → Prop) (hw : wp_Li_shift x0 P) : Met l y_Li_shift w_Li_shift rm_Li_shift (va_Pc [.int x0] (fun U => U.heap.size = sz ∧ va_P (dC, dI) classes [] U.heap ∧ va_K (dC, dI) classes [(cI, .int), (cL, .long), (cB, .byte)] U ∧ va_D (fun _ => True) [])) (Q_Li_shift dC dI cI cL cB x0 P (va_A [] sz)) 0 0 (va_A [] sz) := by
  refine Met.ofW (cc := b_Li_shift) (maxL := 1) (ret := (some .int)) (by decide) rfl ?_
  intro p e s m args below meth c s₁ B hml hv
  obtain ⟨ha, hsz, hP, hK, hD0⟩ := hv
  have hx := B.exec
  have hb := B.bytes
  have hr := B.returns
  have hts0 := atoms_spec (ws := w_Li_shift) B.pre
  have hts : ∀ w ∈ tb, w.before args s = true := fun w h => hts0 w (List.mem_cons_of_mem _ h)
  have hown : s.vm.findClass R_Li = some m.cls := findClass_of_methodNamed B.named
  have hlocks := B.notSynchronized
  subst hsz
  have hD := hD0.self (sz := s.heap.size)
  generalize hAe : va_A [] s.heap.size = A at hD ⊢
  have hA : ∀ q : Nat, s.heap.size ≤ q → A q := fun q h => by rw [← hAe]; exact Or.inr h
  have hS : va_S A s.heap s.heap [] := va_S.rf
  have hP : va_P (dC, dI) classes [] s.heap := hP
  have hl := lv_entry [.int x0] (n := 1) (Nat.le_of_ble_eq_true rfl)
  have he9 : entryFrame m args 1 = F0 m 0 ((lg_sl [.int x0] ++ List.replicate (1 - (lg_sl [.int x0]).length) Slot.unset).toArray) [] := by rw [ha]; exact lg_entry_eq _ _ _
  rw [he9]
  clear he9
  generalize (lg_sl [.int x0] ++ List.replicate (1 - (lg_sl [.int x0]).length) Slot.unset).toArray = ls at hl ⊢
  have hl : lv_has ls 1 [(0, .int x0)] := hl
  unfold wp_Li_shift at hw
  refine lv_iload_n hx hb d_Li_shift_0 rfl (lv_at hl 0 rfl) ?_
  refine lv_bipush (v := 16) hx hb d_Li_shift_1 (by decide) ?_
  refine lv_irem hx hb d_Li_shift_3 (by decide) ?_
  refine lv_iconst (v := 4) hx hb d_Li_shift_4 (by decide) ?_
  refine lv_imul hx hb d_Li_shift_5 ?_
  exact W.iret (v := ((x0 - x0 / 16 * 16) * 4)) hx hb hr (fun t ht hW => ⟨⟨((x0 - x0 / 16 * 16) * 4), (), rfl, hw, by rw [ht]; exact hP, va_K.moved hW.alike hK, hD⟩, hS.F ht⟩) hS.2.2 d_Li_shift_6
def wp_Li_at (f_t_words : (Nat → Int64)) (x1 : Int32) (P : Int32 → Prop) : Prop := wp_PG_isBetween ((x1 : Int32).toInt64) 0 11999 (fun r6 => ((¬ r6 = 0 → (vp_in (x1 / 16) 750 ∧ wp_Li_shift x1 (fun r24 => P (((((f_t_words (x1 / 16).toNatClampNeg) : Int64).toUInt64 >>> ((r24 : Int32).toInt64.toUInt64 &&& Int64.toUInt64 63)).toInt64 : Int64).toInt32 &&& 15)))) ∧ (r6 = 0 → P 0)))
def w_Li_at : List Cond := .code y_Li_at b_Li_at 2 (some .int) :: tb
abbrev rm_Li_at : Room := { frames := 1, cells := 0, slots := 0, locals := 25 }
abbrev Q_Li_at (dC : Nat → ClassId) (dI : Nat → Nat → Nat) (cI cL cB : ClassId) (q_t : Nat) (q_t_words : Nat) (f_t_words : (Nat → Int64)) (x1 : Int32) (P : Int32 → Prop) (A : Nat → Prop) : Array Value → State → Outcome → State → Prop := va_Qi (fun (r : Int32) (u : Unit) => P r) (fun u t => va_P (dC, dI) classes [(q_t, .inr (2, [.ref q_t_words])), (q_t_words, .inl (cL, 750, .inr (.inl f_t_words)))] t.heap ∧ va_K (dC, dI) classes [(cI, .int), (cL, .long), (cB, .byte)] t ∧ va_D A [(q_t, .inr (2, [.ref q_t_words])), (q_t_words, .inl (cL, 750, .inr (.inl f_t_words)))]) A
set_option maxHeartbeats 4000000 in
set_option maxRecDepth 100000 in
theorem c_Li_at (l : Launch) (dC : Nat → ClassId) (dI : Nat → Nat → Nat) (cI cL cB : ClassId) (q_t : Nat) (q_t_words : Nat) (sz : Nat) (f_t_words : (Nat → Int64)) (x1 : Int32) (P : Int32 → Prop) (hw : wp_Li_at f_t_words x1 P) : Met l y_Li_at w_Li_at rm_Li_at (va_Pc [.ref q_t, .int x1] (fun U => U.heap.size = sz ∧ va_P (dC, dI) classes [(q_t, .inr (2, [.ref q_t_words])), (q_t_words, .inl (cL, 750, .inr (.inl f_t_words)))] U.heap ∧ va_K (dC, dI) classes [(cI, .int), (cL, .long), (cB, .byte)] U ∧ va_D (fun _ => True) [(q_t, .inr (2, [.ref q_t_words])), (q_t_words, .inl (cL, 750, .inr (.inl f_t_words)))])) (Q_Li_at dC dI cI cL cB q_t q_t_words f_t_words x1 P (va_A [(q_t, .inr (2, [.ref q_t_words])), (q_t_words, .inl (cL, 750, .inr (.inl f_t_words)))] sz)) 0 0 (va_A [(q_t, .inr (2, [.ref q_t_words])), (q_t_words, .inl (cL, 750, .inr (.inl f_t_words)))] sz) := by
  refine Met.ofW (cc := b_Li_at) (maxL := 2) (ret := (some .int)) (by decide) rfl ?_
  intro p e s m args below meth c s₁ B hml hv
  obtain ⟨ha, hsz, hP, hK, hD0⟩ := hv
  have hx := B.exec
  have hb := B.bytes
  have hr := B.returns
  have hts0 := atoms_spec (ws := w_Li_at) B.pre
  have hts : ∀ w ∈ tb, w.before args s = true := fun w h => hts0 w (List.mem_cons_of_mem _ h)
  have hown : s.vm.findClass R_Li = some m.cls := findClass_of_methodNamed B.named
  have hlocks := B.notSynchronized
  subst hsz
  have hD := hD0.self (sz := s.heap.size)
  generalize hAe : va_A [(q_t, .inr (2, [.ref q_t_words])), (q_t_words, .inl (cL, 750, .inr (.inl f_t_words)))] s.heap.size = A at hD ⊢
  have hA : ∀ q : Nat, s.heap.size ≤ q → A q := fun q h => by rw [← hAe]; exact Or.inr h
  have hS : va_S A s.heap s.heap [] := va_S.rf
  have hP : va_P (dC, dI) classes [(q_t, .inr (2, [.ref q_t_words])), (q_t_words, .inl (cL, 750, .inr (.inl f_t_words)))] s.heap := hP
  have hl := lv_entry [.ref q_t, .int x1] (n := 2) (Nat.le_of_ble_eq_true rfl)
  have he9 : entryFrame m args 2 = F0 m 0 ((lg_sl [.ref q_t, .int x1] ++ List.replicate (2 - (lg_sl [.ref q_t, .int x1]).length) Slot.unset).toArray) [] := by rw [ha]; exact lg_entry_eq _ _ _
  rw [he9]
  clear he9
  generalize (lg_sl [.ref q_t, .int x1] ++ List.replicate (2 - (lg_sl [.ref q_t, .int x1]).length) Slot.unset).toArray = ls at hl ⊢
  have hl : lv_has ls 2 [(0, .ref q_t), (1, .int x1)] := hl
  unfold wp_Li_at at hw
  refine lv_iload_n hx hb d_Li_at_0 rfl (lv_at hl 1 rfl) ?_
  refine lv_i2l hx hb d_Li_at_1 rfl ?_
  refine lv_lconst (v := 0) hx hb d_Li_at_2 (by decide) ?_
  refine lv_ldc2 (v := 11999) hx hb hown (hts (Cond.constantLong R_Li 21 11999) kw13_be8ba7f) d_Li_at_3 ?_
  have hPc := hP.sub (ws' := []) [] rfl
  have hDc := hD.sub (ws' := []) [] (by decide) rfl
  have hFc := va_free (wc := []) hD hS hA [] rfl
  refine va_calli (va_runSN (As := [.long (x1 : Int32).toInt64, .long 0, .long 11999]) (rest := []) ⟨hx, hb, hml, hown, hts⟩ (c_PG_isBetween l dC dI cI cL cB  s.heap.size  ((x1 : Int32).toInt64) 0 11999 _ hw) ⟨my_cn 3 hts kw13_0fe5ba3 kw13_dc3dcb6 kw13_12156fe rfl rfl (by decide +kernel) ⟨Nat.le_of_ble_eq_true rfl, Nat.le_of_ble_eq_true rfl⟩, (hts (Cond.static y_PG_isBetween) kw13_674c2bf), trivial⟩ ⟨fun a U g mk q => by obtain ⟨q0, q1, qP, qK, qD⟩ := q; exact ⟨q0, q1, qP, va_K.moved (u := U) (U := U.calling g mk a) (Vm.Alike.refl U.vm) qK, qD⟩, fun U hU hW => ⟨rfl, by rw [hU], by rw [hU]; exact hPc, va_K.moved hW.alike hK, hDc.weaken (fun _ _ _ _ => trivial)⟩⟩ rfl rfl hl.1 rfl (lv_room (Nat.le_of_ble_eq_true rfl)) d_Li_at_6 ⟨Nat.zero_le _, Nat.zero_le _⟩) hS (fun q _ h => hFc q h) hFc (fun r6 u t H locs ht hvm hw hB hz1 hk1 hS => ?_)
  obtain ⟨hP1, hK1, hD1⟩ := hB
  rw [ht] at hP1
  obtain ⟨hP, hD⟩ := va_join (wr := [(q_t, .inr (2, [.ref q_t_words])), (q_t_words, .inl (cL, 750, .inr (.inl f_t_words)))]) (w1 := []) hP hD [] [0, 1] rfl rfl (by decide) (by decide) hk1 hFc hP1 hD1
  have hP : va_P (dC, dI) classes [(q_t, .inr (2, [.ref q_t_words])), (q_t_words, .inl (cL, 750, .inr (.inl f_t_words)))] H := hP.sub (ws' := [(q_t, .inr (2, [.ref q_t_words])), (q_t_words, .inl (cL, 750, .inr (.inl f_t_words)))]) [0, 1] rfl
  have hD : va_D A [(q_t, .inr (2, [.ref q_t_words])), (q_t_words, .inl (cL, 750, .inr (.inl f_t_words)))] := hD.sub (ws' := [(q_t, .inr (2, [.ref q_t_words])), (q_t_words, .inl (cL, 750, .inr (.inl f_t_words)))]) [0, 1] (by decide) rfl
  refine lv_if_ne (tgt := 14) hx hb d_Li_at_9 (by decide) (fun c9 => ?_) (fun c9 => ?_)
  · replace hw := hw.1 c9
    refine lv_aload_n hx hb d_Li_at_14 rfl (lv_at hl 0 rfl) ?_
    refine va_get (D := (dC, dI)) (ci := 2) (v := .ref q_t_words) (C := R_Li) (T := F_Li) (N := 1) hx hb hts i_Li hown hK hP 0 rfl rfl 0 (by decide) (hts (Cond.fieldLink R_Li 11 "PlantGraph$Litres" "words" "[J") kw13_c00f02f) (fun _ h9 => h9) rfl d_Li_at_15 ?_
    refine lv_iload_n hx hb d_Li_at_18 rfl (lv_at hl 1 rfl) ?_
    refine lv_bipush (v := 16) hx hb d_Li_at_19 (by decide) ?_
    refine lv_idiv hx hb d_Li_at_21 (by decide) ?_
    refine va_lald hx hb hK hP 1 1 rfl rfl hw.1 d_Li_at_22 ?_
    replace hw := hw.2
    refine lv_iload_n hx hb d_Li_at_23 rfl (lv_at hl 1 rfl) ?_
    have hPc := hP.sub (ws' := []) [] rfl
    have hDc := hD.sub (ws' := []) [] (by decide) rfl
    have hFc := va_free (wc := []) hD hS hA [] rfl
    refine va_calli (va_runS (As := [.int x1]) (rest := [.long (f_t_words (x1 / 16).toNatClampNeg)]) ⟨hx, hb, hml, hown, hts⟩ (c_Li_shift l dC dI cI cL cB  H.size  x1 _ hw) (my_cwS 1 hts kw13_72e9b09 kw13_0bb7906 kw13_59924f3 kw13_10ca6d0 rfl rfl (by decide +kernel) ⟨Nat.le_of_ble_eq_true rfl, Nat.le_of_ble_eq_true rfl⟩) ⟨fun a U g mk q => by obtain ⟨q0, q1, qP, qK, qD⟩ := q; exact ⟨q0, q1, qP, va_K.moved (u := U) (U := U.calling g mk a) (Vm.Alike.refl U.vm) qK, qD⟩, fun U hU hW => ⟨rfl, by rw [hU], by rw [hU]; exact hPc, va_K.moved hW.alike hK, hDc.weaken (fun _ _ _ _ => trivial)⟩⟩ rfl rfl hl.1 rfl (lv_room (Nat.le_of_ble_eq_true rfl)) d_Li_at_24 ⟨Nat.zero_le _, Nat.zero_le _⟩) hS (fun q _ h => hFc q h) hFc (fun r24 u t H locs ht hvm hw hB hz1 hk1 hS => ?_)
    obtain ⟨hP1, hK1, hD1⟩ := hB
    rw [ht] at hP1
    obtain ⟨hP, hD⟩ := va_join (wr := [(q_t, .inr (2, [.ref q_t_words])), (q_t_words, .inl (cL, 750, .inr (.inl f_t_words)))]) (w1 := []) hP hD [] [0, 1] rfl rfl (by decide) (by decide) hk1 hFc hP1 hD1
    have hP : va_P (dC, dI) classes [(q_t, .inr (2, [.ref q_t_words])), (q_t_words, .inl (cL, 750, .inr (.inl f_t_words)))] H := hP.sub (ws' := [(q_t, .inr (2, [.ref q_t_words])), (q_t_words, .inl (cL, 750, .inr (.inl f_t_words)))]) [0, 1] rfl
    have hD : va_D A [(q_t, .inr (2, [.ref q_t_words])), (q_t_words, .inl (cL, 750, .inr (.inl f_t_words)))] := hD.sub (ws' := [(q_t, .inr (2, [.ref q_t_words])), (q_t_words, .inl (cL, 750, .inr (.inl f_t_words)))]) [0, 1] (by decide) rfl
    refine lv_lushr hx hb d_Li_at_27 rfl ?_
    refine lv_l2i hx hb d_Li_at_28 rfl ?_
    refine lv_bipush (v := 15) hx hb d_Li_at_29 (by decide) ?_
    refine lv_iand hx hb d_Li_at_31 ?_
    exact W.iret (v := (((((f_t_words (x1 / 16).toNatClampNeg) : Int64).toUInt64 >>> ((r24 : Int32).toInt64.toUInt64 &&& Int64.toUInt64 63)).toInt64 : Int64).toInt32 &&& 15)) hx hb hr (fun t ht hW => ⟨⟨(((((f_t_words (x1 / 16).toNatClampNeg) : Int64).toUInt64 >>> ((r24 : Int32).toInt64.toUInt64 &&& Int64.toUInt64 63)).toInt64 : Int64).toInt32 &&& 15), (), rfl, hw, by rw [ht]; exact hP, va_K.moved hW.alike hK, hD⟩, hS.F ht⟩) hS.2.2 d_Li_at_32
  · replace hw := hw.2 c9
    refine lv_iconst (v := 0) hx hb d_Li_at_12 (by decide) ?_
    exact W.iret (v := 0) hx hb hr (fun t ht hW => ⟨⟨0, (), rfl, hw, by rw [ht]; exact hP, va_K.moved hW.alike hK, hD⟩, hS.F ht⟩) hS.2.2 d_Li_at_13
def wp_Li_set (f_t_words : (Nat → Int64)) (x1 : Int32) (x2 : Int32) (P : (Nat → Int64) → Prop) : Prop := wp_PG_isBetween ((x1 : Int32).toInt64) 0 11999 (fun r6 => ((¬ r6 = 0 → (vp_in (x1 / 16) 750 ∧ wp_Li_shift x1 (fun r26 => wp_Li_shift x1 (fun r51 => (vp_in (x1 / 16) 750 ∧ P (vp_updL f_t_words (x1 / 16).toNatClampNeg (((f_t_words (x1 / 16).toNatClampNeg) &&& ((15 <<< ((r26 : Int32).toInt64 &&& 63)) ^^^ (-1))) ||| (((x2 &&& 15) : Int32).toInt64 <<< ((r51 : Int32).toInt64 &&& 63))))))))) ∧ (r6 = 0 → P f_t_words)))
def w_Li_set : List Cond := .code y_Li_set b_Li_set 5 none :: tb
abbrev rm_Li_set : Room := { frames := 1, cells := 0, slots := 0, locals := 25 }
abbrev Q_Li_set (dC : Nat → ClassId) (dI : Nat → Nat → Nat) (cI cL cB : ClassId) (q_t : Nat) (q_t_words : Nat) (f_t_words : (Nat → Int64)) (x1 : Int32) (x2 : Int32) (P : (Nat → Int64) → Prop) (A : Nat → Prop) : Array Value → State → Outcome → State → Prop := va_Qv (fun (u : (Nat → Int64)) => P u) (fun u t => va_P (dC, dI) classes [(q_t, .inr (2, [.ref q_t_words])), (q_t_words, .inl (cL, 750, .inr (.inl u)))] t.heap ∧ va_K (dC, dI) classes [(cI, .int), (cL, .long), (cB, .byte)] t ∧ va_D A [(q_t, .inr (2, [.ref q_t_words])), (q_t_words, .inl (cL, 750, .inr (.inl u)))]) A
set_option maxHeartbeats 4000000 in
set_option maxRecDepth 100000 in
theorem c_Li_set (l : Launch) (dC : Nat → ClassId) (dI : Nat → Nat → Nat) (cI cL cB : ClassId) (q_t : Nat) (q_t_words : Nat) (sz : Nat) (f_t_words : (Nat → Int64)) (x1 : Int32) (x2 : Int32) (P : (Nat → Int64) → Prop) (hw : wp_Li_set f_t_words x1 x2 P) : Met l y_Li_set w_Li_set rm_Li_set (va_Pc [.ref q_t, .int x1, .int x2] (fun U => U.heap.size = sz ∧ va_P (dC, dI) classes [(q_t, .inr (2, [.ref q_t_words])), (q_t_words, .inl (cL, 750, .inr (.inl f_t_words)))] U.heap ∧ va_K (dC, dI) classes [(cI, .int), (cL, .long), (cB, .byte)] U ∧ va_D (fun _ => True) [(q_t, .inr (2, [.ref q_t_words])), (q_t_words, .inl (cL, 750, .inr (.inl f_t_words)))])) (Q_Li_set dC dI cI cL cB q_t q_t_words f_t_words x1 x2 P (va_A [(q_t, .inr (2, [.ref q_t_words])), (q_t_words, .inl (cL, 750, .inr (.inl f_t_words)))] sz)) 0 0 (va_A [(q_t, .inr (2, [.ref q_t_words])), (q_t_words, .inl (cL, 750, .inr (.inl f_t_words)))] sz) := by
  refine Met.ofW (cc := b_Li_set) (maxL := 5) (ret := none) (by decide) rfl ?_
  intro p e s m args below meth c s₁ B hml hv
  obtain ⟨ha, hsz, hP, hK, hD0⟩ := hv
  have hx := B.exec
  have hb := B.bytes
  have hr := B.returns
  have hts0 := atoms_spec (ws := w_Li_set) B.pre
  have hts : ∀ w ∈ tb, w.before args s = true := fun w h => hts0 w (List.mem_cons_of_mem _ h)
  have hown : s.vm.findClass R_Li = some m.cls := findClass_of_methodNamed B.named
  have hlocks := B.notSynchronized
  subst hsz
  have hD := hD0.self (sz := s.heap.size)
  generalize hAe : va_A [(q_t, .inr (2, [.ref q_t_words])), (q_t_words, .inl (cL, 750, .inr (.inl f_t_words)))] s.heap.size = A at hD ⊢
  have hA : ∀ q : Nat, s.heap.size ≤ q → A q := fun q h => by rw [← hAe]; exact Or.inr h
  have hS : va_S A s.heap s.heap [] := va_S.rf
  have hP : va_P (dC, dI) classes [(q_t, .inr (2, [.ref q_t_words])), (q_t_words, .inl (cL, 750, .inr (.inl f_t_words)))] s.heap := hP
  have hl := lv_entry [.ref q_t, .int x1, .int x2] (n := 5) (Nat.le_of_ble_eq_true rfl)
  have he9 : entryFrame m args 5 = F0 m 0 ((lg_sl [.ref q_t, .int x1, .int x2] ++ List.replicate (5 - (lg_sl [.ref q_t, .int x1, .int x2]).length) Slot.unset).toArray) [] := by rw [ha]; exact lg_entry_eq _ _ _
  rw [he9]
  clear he9
  generalize (lg_sl [.ref q_t, .int x1, .int x2] ++ List.replicate (5 - (lg_sl [.ref q_t, .int x1, .int x2]).length) Slot.unset).toArray = ls at hl ⊢
  have hl : lv_has ls 5 [(0, .ref q_t), (1, .int x1), (2, .int x2)] := hl
  unfold wp_Li_set at hw
  refine lv_iload_n hx hb d_Li_set_0 rfl (lv_at hl 1 rfl) ?_
  refine lv_i2l hx hb d_Li_set_1 rfl ?_
  refine lv_lconst (v := 0) hx hb d_Li_set_2 (by decide) ?_
  refine lv_ldc2 (v := 11999) hx hb hown (hts (Cond.constantLong R_Li 21 11999) kw13_be8ba7f) d_Li_set_3 ?_
  have hPc := hP.sub (ws' := []) [] rfl
  have hDc := hD.sub (ws' := []) [] (by decide) rfl
  have hFc := va_free (wc := []) hD hS hA [] rfl
  refine va_calli (va_runSN (As := [.long (x1 : Int32).toInt64, .long 0, .long 11999]) (rest := []) ⟨hx, hb, hml, hown, hts⟩ (c_PG_isBetween l dC dI cI cL cB  s.heap.size  ((x1 : Int32).toInt64) 0 11999 _ hw) ⟨my_cn 3 hts kw13_0fe5ba3 kw13_dc3dcb6 kw13_12156fe rfl rfl (by decide +kernel) ⟨Nat.le_of_ble_eq_true rfl, Nat.le_of_ble_eq_true rfl⟩, (hts (Cond.static y_PG_isBetween) kw13_674c2bf), trivial⟩ ⟨fun a U g mk q => by obtain ⟨q0, q1, qP, qK, qD⟩ := q; exact ⟨q0, q1, qP, va_K.moved (u := U) (U := U.calling g mk a) (Vm.Alike.refl U.vm) qK, qD⟩, fun U hU hW => ⟨rfl, by rw [hU], by rw [hU]; exact hPc, va_K.moved hW.alike hK, hDc.weaken (fun _ _ _ _ => trivial)⟩⟩ rfl rfl hl.1 rfl (lv_room (Nat.le_of_ble_eq_true rfl)) d_Li_set_6 ⟨Nat.zero_le _, Nat.zero_le _⟩) hS (fun q _ h => hFc q h) hFc (fun r6 u t H locs ht hvm hw hB hz1 hk1 hS => ?_)
  obtain ⟨hP1, hK1, hD1⟩ := hB
  rw [ht] at hP1
  obtain ⟨hP, hD⟩ := va_join (wr := [(q_t, .inr (2, [.ref q_t_words])), (q_t_words, .inl (cL, 750, .inr (.inl f_t_words)))]) (w1 := []) hP hD [] [0, 1] rfl rfl (by decide) (by decide) hk1 hFc hP1 hD1
  have hP : va_P (dC, dI) classes [(q_t, .inr (2, [.ref q_t_words])), (q_t_words, .inl (cL, 750, .inr (.inl f_t_words)))] H := hP.sub (ws' := [(q_t, .inr (2, [.ref q_t_words])), (q_t_words, .inl (cL, 750, .inr (.inl f_t_words)))]) [0, 1] rfl
  have hD : va_D A [(q_t, .inr (2, [.ref q_t_words])), (q_t_words, .inl (cL, 750, .inr (.inl f_t_words)))] := hD.sub (ws' := [(q_t, .inr (2, [.ref q_t_words])), (q_t_words, .inl (cL, 750, .inr (.inl f_t_words)))]) [0, 1] (by decide) rfl
  refine lv_if_ne (tgt := 13) hx hb d_Li_set_9 (by decide) (fun c9 => ?_) (fun c9 => ?_)
  · replace hw := hw.1 c9
    refine lv_aload_n hx hb d_Li_set_13 rfl (lv_at hl 0 rfl) ?_
    refine va_get (D := (dC, dI)) (ci := 2) (v := .ref q_t_words) (C := R_Li) (T := F_Li) (N := 1) hx hb hts i_Li hown hK hP 0 rfl rfl 0 (by decide) (hts (Cond.fieldLink R_Li 11 "PlantGraph$Litres" "words" "[J") kw13_c00f02f) (fun _ h9 => h9) rfl d_Li_set_14 ?_
    refine lv_iload_n hx hb d_Li_set_17 rfl (lv_at hl 1 rfl) ?_
    refine lv_bipush (v := 16) hx hb d_Li_set_18 (by decide) ?_
    refine lv_idiv hx hb d_Li_set_20 (by decide) ?_
    refine va_lald hx hb hK hP 1 1 rfl rfl hw.1 d_Li_set_21 ?_
    replace hw := hw.2
    refine lv_ldc2 (v := 15) hx hb hown (hts (Cond.constantLong R_Li 31 15) kw13_b98ec27) d_Li_set_22 ?_
    refine lv_iload_n hx hb d_Li_set_25 rfl (lv_at hl 1 rfl) ?_
    have hPc := hP.sub (ws' := []) [] rfl
    have hDc := hD.sub (ws' := []) [] (by decide) rfl
    have hFc := va_free (wc := []) hD hS hA [] rfl
    refine va_calli (va_runS (As := [.int x1]) (rest := [.long 15, .long (f_t_words (x1 / 16).toNatClampNeg)]) ⟨hx, hb, hml, hown, hts⟩ (c_Li_shift l dC dI cI cL cB  H.size  x1 _ hw) (my_cwS 1 hts kw13_72e9b09 kw13_0bb7906 kw13_59924f3 kw13_10ca6d0 rfl rfl (by decide +kernel) ⟨Nat.le_of_ble_eq_true rfl, Nat.le_of_ble_eq_true rfl⟩) ⟨fun a U g mk q => by obtain ⟨q0, q1, qP, qK, qD⟩ := q; exact ⟨q0, q1, qP, va_K.moved (u := U) (U := U.calling g mk a) (Vm.Alike.refl U.vm) qK, qD⟩, fun U hU hW => ⟨rfl, by rw [hU], by rw [hU]; exact hPc, va_K.moved hW.alike hK, hDc.weaken (fun _ _ _ _ => trivial)⟩⟩ rfl rfl hl.1 rfl (lv_room (Nat.le_of_ble_eq_true rfl)) d_Li_set_26 ⟨Nat.zero_le _, Nat.zero_le _⟩) hS (fun q _ h => hFc q h) hFc (fun r26 u t H locs ht hvm hw hB hz1 hk1 hS => ?_)
    obtain ⟨hP1, hK1, hD1⟩ := hB
    rw [ht] at hP1
    obtain ⟨hP, hD⟩ := va_join (wr := [(q_t, .inr (2, [.ref q_t_words])), (q_t_words, .inl (cL, 750, .inr (.inl f_t_words)))]) (w1 := []) hP hD [] [0, 1] rfl rfl (by decide) (by decide) hk1 hFc hP1 hD1
    have hP : va_P (dC, dI) classes [(q_t, .inr (2, [.ref q_t_words])), (q_t_words, .inl (cL, 750, .inr (.inl f_t_words)))] H := hP.sub (ws' := [(q_t, .inr (2, [.ref q_t_words])), (q_t_words, .inl (cL, 750, .inr (.inl f_t_words)))]) [0, 1] rfl
    have hD : va_D A [(q_t, .inr (2, [.ref q_t_words])), (q_t_words, .inl (cL, 750, .inr (.inl f_t_words)))] := hD.sub (ws' := [(q_t, .inr (2, [.ref q_t_words])), (q_t_words, .inl (cL, 750, .inr (.inl f_t_words)))]) [0, 1] (by decide) rfl
    refine lv_lshl hx hb d_Li_set_29 rfl ?_
    refine lv_ldc2 (v := (-1)) hx hb hown (hts (Cond.constantLong R_Li 33 (-1)) kw13_ce16155) d_Li_set_30 ?_
    refine lv_lxor hx hb d_Li_set_33 ?_
    refine lv_land hx hb d_Li_set_34 ?_
    refine lv_lstore_n (lv' := [(3, .long ((f_t_words (x1 / 16).toNatClampNeg) &&& ((15 <<< ((r26 : Int32).toInt64 &&& 63)) ^^^ (-1)))), (0, .ref q_t), (1, .int x1), (2, .int x2)]) hx hb d_Li_set_35 rfl hl (by decide) rfl (fun ls hl => ?_)
    refine lv_aload_n hx hb d_Li_set_36 rfl (lv_at hl 1 rfl) ?_
    refine va_get (D := (dC, dI)) (ci := 2) (v := .ref q_t_words) (C := R_Li) (T := F_Li) (N := 1) hx hb hts i_Li hown hK hP 0 rfl rfl 0 (by decide) (hts (Cond.fieldLink R_Li 11 "PlantGraph$Litres" "words" "[J") kw13_c00f02f) (fun _ h9 => h9) rfl d_Li_set_37 ?_
    refine lv_iload_n hx hb d_Li_set_40 rfl (lv_at hl 2 rfl) ?_
    refine lv_bipush (v := 16) hx hb d_Li_set_41 (by decide) ?_
    refine lv_idiv hx hb d_Li_set_43 (by decide) ?_
    refine lv_lload_n hx hb d_Li_set_44 rfl (lv_at hl 0 rfl) ?_
    refine lv_iload_n hx hb d_Li_set_45 rfl (lv_at hl 3 rfl) ?_
    refine lv_bipush (v := 15) hx hb d_Li_set_46 (by decide) ?_
    refine lv_iand hx hb d_Li_set_48 ?_
    refine lv_i2l hx hb d_Li_set_49 rfl ?_
    refine lv_iload_n hx hb d_Li_set_50 rfl (lv_at hl 2 rfl) ?_
    have hPc := hP.sub (ws' := []) [] rfl
    have hDc := hD.sub (ws' := []) [] (by decide) rfl
    have hFc := va_free (wc := []) hD hS hA [] rfl
    refine va_calli (va_runS (As := [.int x1]) (rest := [.long ((x2 &&& 15) : Int32).toInt64, .long ((f_t_words (x1 / 16).toNatClampNeg) &&& ((15 <<< ((r26 : Int32).toInt64 &&& 63)) ^^^ (-1))), .int (x1 / 16), .ref q_t_words]) ⟨hx, hb, hml, hown, hts⟩ (c_Li_shift l dC dI cI cL cB  H.size  x1 _ hw) (my_cwS 1 hts kw13_72e9b09 kw13_0bb7906 kw13_59924f3 kw13_10ca6d0 rfl rfl (by decide +kernel) ⟨Nat.le_of_ble_eq_true rfl, Nat.le_of_ble_eq_true rfl⟩) ⟨fun a U g mk q => by obtain ⟨q0, q1, qP, qK, qD⟩ := q; exact ⟨q0, q1, qP, va_K.moved (u := U) (U := U.calling g mk a) (Vm.Alike.refl U.vm) qK, qD⟩, fun U hU hW => ⟨rfl, by rw [hU], by rw [hU]; exact hPc, va_K.moved hW.alike hK, hDc.weaken (fun _ _ _ _ => trivial)⟩⟩ rfl rfl hl.1 rfl (lv_room (Nat.le_of_ble_eq_true rfl)) d_Li_set_51 ⟨Nat.zero_le _, Nat.zero_le _⟩) hS (fun q _ h => hFc q h) hFc (fun r51 u t H locs ht hvm hw hB hz1 hk1 hS => ?_)
    obtain ⟨hP1, hK1, hD1⟩ := hB
    rw [ht] at hP1
    obtain ⟨hP, hD⟩ := va_join (wr := [(q_t, .inr (2, [.ref q_t_words])), (q_t_words, .inl (cL, 750, .inr (.inl f_t_words)))]) (w1 := []) hP hD [] [0, 1] rfl rfl (by decide) (by decide) hk1 hFc hP1 hD1
    have hP : va_P (dC, dI) classes [(q_t, .inr (2, [.ref q_t_words])), (q_t_words, .inl (cL, 750, .inr (.inl f_t_words)))] H := hP.sub (ws' := [(q_t, .inr (2, [.ref q_t_words])), (q_t_words, .inl (cL, 750, .inr (.inl f_t_words)))]) [0, 1] rfl
    have hD : va_D A [(q_t, .inr (2, [.ref q_t_words])), (q_t_words, .inl (cL, 750, .inr (.inl f_t_words)))] := hD.sub (ws' := [(q_t, .inr (2, [.ref q_t_words])), (q_t_words, .inl (cL, 750, .inr (.inl f_t_words)))]) [0, 1] (by decide) rfl
    refine lv_lshl hx hb d_Li_set_54 rfl ?_
    refine lv_lor hx hb d_Li_set_55 ?_
    refine va_last hx hb hK hP hD hS 1 1 rfl rfl hw.1 d_Li_set_56 (fun H locs hP hD hS => ?_)
    replace hw := hw.2
    have hP : va_P (dC, dI) classes [(q_t, .inr (2, [.ref q_t_words])), (q_t_words, .inl (cL, 750, .inr (.inl (vp_updL f_t_words (x1 / 16).toNatClampNeg (((f_t_words (x1 / 16).toNatClampNeg) &&& ((15 <<< ((r26 : Int32).toInt64 &&& 63)) ^^^ (-1))) ||| (((x2 &&& 15) : Int32).toInt64 <<< ((r51 : Int32).toInt64 &&& 63)))))))] H := hP
    have hD : va_D A [(q_t, .inr (2, [.ref q_t_words])), (q_t_words, .inl (cL, 750, .inr (.inl (vp_updL f_t_words (x1 / 16).toNatClampNeg (((f_t_words (x1 / 16).toNatClampNeg) &&& ((15 <<< ((r26 : Int32).toInt64 &&& 63)) ^^^ (-1))) ||| (((x2 &&& 15) : Int32).toInt64 <<< ((r51 : Int32).toInt64 &&& 63)))))))] := hD
    exact W.vret hx hb hr (fun t ht hW => ⟨⟨(vp_updL f_t_words (x1 / 16).toNatClampNeg (((f_t_words (x1 / 16).toNatClampNeg) &&& ((15 <<< ((r26 : Int32).toInt64 &&& 63)) ^^^ (-1))) ||| (((x2 &&& 15) : Int32).toInt64 <<< ((r51 : Int32).toInt64 &&& 63)))), rfl, hw, by rw [ht]; exact hP, va_K.moved hW.alike hK, hD⟩, hS.F ht⟩) hS.2.2 d_Li_set_57
  · replace hw := hw.2 c9
    exact W.vret hx hb hr (fun t ht hW => ⟨⟨f_t_words, rfl, hw, by rw [ht]; exact hP, va_K.moved hW.alike hK, hD⟩, hS.F ht⟩) hS.2.2 d_Li_set_12
def wp_Li_clear (f_t_words : (Nat → Int64)) (P : (Nat → Int64) → Prop) : Prop := wp_Ar_fillJ 750 f_t_words 0 (fun f_t_words_c5 => P f_t_words_c5)
def w_Li_clear : List Cond := .code y_Li_clear b_Li_clear 1 none :: tb
abbrev rm_Li_clear : Room := { frames := 1, cells := 0, slots := 0, locals := 24 }
abbrev Q_Li_clear (dC : Nat → ClassId) (dI : Nat → Nat → Nat) (cI cL cB : ClassId) (q_t : Nat) (q_t_words : Nat) (f_t_words : (Nat → Int64)) (P : (Nat → Int64) → Prop) (A : Nat → Prop) : Array Value → State → Outcome → State → Prop := va_Qv (fun (u : (Nat → Int64)) => P u) (fun u t => va_P (dC, dI) classes [(q_t, .inr (2, [.ref q_t_words])), (q_t_words, .inl (cL, 750, .inr (.inl u)))] t.heap ∧ va_K (dC, dI) classes [(cI, .int), (cL, .long), (cB, .byte)] t ∧ va_D A [(q_t, .inr (2, [.ref q_t_words])), (q_t_words, .inl (cL, 750, .inr (.inl u)))]) A
set_option maxHeartbeats 4000000 in
set_option maxRecDepth 100000 in
theorem c_Li_clear (l : Launch) (dC : Nat → ClassId) (dI : Nat → Nat → Nat) (cI cL cB : ClassId) (q_t : Nat) (q_t_words : Nat) (sz : Nat) (f_t_words : (Nat → Int64)) (P : (Nat → Int64) → Prop) (hw : wp_Li_clear f_t_words P) : Met l y_Li_clear w_Li_clear rm_Li_clear (va_Pc [.ref q_t] (fun U => U.heap.size = sz ∧ va_P (dC, dI) classes [(q_t, .inr (2, [.ref q_t_words])), (q_t_words, .inl (cL, 750, .inr (.inl f_t_words)))] U.heap ∧ va_K (dC, dI) classes [(cI, .int), (cL, .long), (cB, .byte)] U ∧ va_D (fun _ => True) [(q_t, .inr (2, [.ref q_t_words])), (q_t_words, .inl (cL, 750, .inr (.inl f_t_words)))])) (Q_Li_clear dC dI cI cL cB q_t q_t_words f_t_words P (va_A [(q_t, .inr (2, [.ref q_t_words])), (q_t_words, .inl (cL, 750, .inr (.inl f_t_words)))] sz)) 0 0 (va_A [(q_t, .inr (2, [.ref q_t_words])), (q_t_words, .inl (cL, 750, .inr (.inl f_t_words)))] sz) := by
  refine Met.ofW (cc := b_Li_clear) (maxL := 1) (ret := none) (by decide) rfl ?_
  intro p e s m args below meth c s₁ B hml hv
  obtain ⟨ha, hsz, hP, hK, hD0⟩ := hv
  have hx := B.exec
  have hb := B.bytes
  have hr := B.returns
  have hts0 := atoms_spec (ws := w_Li_clear) B.pre
  have hts : ∀ w ∈ tb, w.before args s = true := fun w h => hts0 w (List.mem_cons_of_mem _ h)
  have hown : s.vm.findClass R_Li = some m.cls := findClass_of_methodNamed B.named
  have hlocks := B.notSynchronized
  subst hsz
  have hD := hD0.self (sz := s.heap.size)
  generalize hAe : va_A [(q_t, .inr (2, [.ref q_t_words])), (q_t_words, .inl (cL, 750, .inr (.inl f_t_words)))] s.heap.size = A at hD ⊢
  have hA : ∀ q : Nat, s.heap.size ≤ q → A q := fun q h => by rw [← hAe]; exact Or.inr h
  have hS : va_S A s.heap s.heap [] := va_S.rf
  have hP : va_P (dC, dI) classes [(q_t, .inr (2, [.ref q_t_words])), (q_t_words, .inl (cL, 750, .inr (.inl f_t_words)))] s.heap := hP
  have hl := lv_entry [.ref q_t] (n := 1) (Nat.le_of_ble_eq_true rfl)
  have he9 : entryFrame m args 1 = F0 m 0 ((lg_sl [.ref q_t] ++ List.replicate (1 - (lg_sl [.ref q_t]).length) Slot.unset).toArray) [] := by rw [ha]; exact lg_entry_eq _ _ _
  rw [he9]
  clear he9
  generalize (lg_sl [.ref q_t] ++ List.replicate (1 - (lg_sl [.ref q_t]).length) Slot.unset).toArray = ls at hl ⊢
  have hl : lv_has ls 1 [(0, .ref q_t)] := hl
  unfold wp_Li_clear at hw
  refine lv_aload_n hx hb d_Li_clear_0 rfl (lv_at hl 0 rfl) ?_
  refine va_get (D := (dC, dI)) (ci := 2) (v := .ref q_t_words) (C := R_Li) (T := F_Li) (N := 1) hx hb hts i_Li hown hK hP 0 rfl rfl 0 (by decide) (hts (Cond.fieldLink R_Li 11 "PlantGraph$Litres" "words" "[J") kw13_c00f02f) (fun _ h9 => h9) rfl d_Li_clear_1 ?_
  refine lv_lconst (v := 0) hx hb d_Li_clear_4 (by decide) ?_
  have hPc := hP.sub (ws' := [(q_t_words, .inl (cL, 750, .inr (.inl f_t_words)))]) [1] rfl
  have hDc := hD.sub (ws' := [(q_t_words, .inl (cL, 750, .inr (.inl f_t_words)))]) [1] (by decide) rfl
  have hFc := va_free (wc := [(q_t_words, .inl (cL, 750, .inr (.inl f_t_words)))]) hD hS hA [1] rfl
  refine va_callv (va_runS (As := [.ref q_t_words, .long 0]) (rest := []) ⟨hx, hb, hml, hown, hts⟩ (c_Ar_fillJ l dC dI cI cL cB q_t_words s.heap.size f_t_words 750 0 _ hw) (my_cwS 2 hts kw13_28882ec kw13_9472b6e kw13_7ae4a73 kw13_3f1e355 rfl rfl (by decide +kernel) ⟨Nat.le_of_ble_eq_true rfl, Nat.le_of_ble_eq_true rfl⟩) ⟨fun a U g mk q => by obtain ⟨q0, q1, qP, qK, qD⟩ := q; exact ⟨q0, q1, qP, va_K.moved (u := U) (U := U.calling g mk a) (Vm.Alike.refl U.vm) qK, qD⟩, fun U hU hW => ⟨rfl, by rw [hU], by rw [hU]; exact hPc, va_K.moved hW.alike hK, hDc.weaken (fun _ _ _ _ => trivial)⟩⟩ rfl rfl hl.1 rfl (lv_room (Nat.le_of_ble_eq_true rfl)) d_Li_clear_5 ⟨Nat.zero_le _, Nat.zero_le _⟩) hS (fun q _ h => hFc q h) hFc (fun f_t_words_c5 t H locs ht hvm hw hB hz1 hk1 hS => ?_)
  obtain ⟨hP1, hK1, hD1⟩ := hB
  rw [ht] at hP1
  obtain ⟨hP, hD⟩ := va_join (wr := [(q_t, .inr (2, [.ref q_t_words]))]) (w1 := [(q_t_words, .inl (cL, 750, .inr (.inl f_t_words_c5)))]) hP hD [1] [0] rfl rfl (by decide) (by decide) hk1 hFc hP1 hD1
  have hP : va_P (dC, dI) classes [(q_t, .inr (2, [.ref q_t_words])), (q_t_words, .inl (cL, 750, .inr (.inl f_t_words_c5)))] H := hP.sub (ws' := [(q_t, .inr (2, [.ref q_t_words])), (q_t_words, .inl (cL, 750, .inr (.inl f_t_words_c5)))]) [0, 1] rfl
  have hD : va_D A [(q_t, .inr (2, [.ref q_t_words])), (q_t_words, .inl (cL, 750, .inr (.inl f_t_words_c5)))] := hD.sub (ws' := [(q_t, .inr (2, [.ref q_t_words])), (q_t_words, .inl (cL, 750, .inr (.inl f_t_words_c5)))]) [0, 1] (by decide) rfl
  exact W.vret hx hb hr (fun t ht hW => ⟨⟨f_t_words_c5, rfl, hw, by rw [ht]; exact hP, va_K.moved hW.alike hK, hD⟩, hS.F ht⟩) hS.2.2 d_Li_clear_8
