theorem d_Li_init_0 : decode b_Li_init 0 = .ok (.aload_n 0, 1) := by decide +kernel
theorem d_Li_init_1 : decode b_Li_init 1 = .ok (.invokespecial 3, 3) := by decide +kernel
theorem d_Li_init_4 : decode b_Li_init 4 = .ok (.aload_n 0, 1) := by decide +kernel
theorem d_Li_init_5 : decode b_Li_init 5 = .ok (.sipush 750, 3) := by decide +kernel
theorem d_Li_init_8 : decode b_Li_init 8 = .ok (.newarray .long, 2) := by decide +kernel
theorem d_Li_init_10 : decode b_Li_init 10 = .ok (.putfield 11, 3) := by decide +kernel
theorem d_Li_init_13 : decode b_Li_init 13 = .ok (.return_, 1) := by decide +kernel
theorem d_Pl_init_0 : decode b_Pl_init 0 = .ok (.aload_n 0, 1) := by decide +kernel
theorem d_Pl_init_1 : decode b_Pl_init 1 = .ok (.invokespecial 3, 3) := by decide +kernel
theorem d_Pl_init_4 : decode b_Pl_init 4 = .ok (.aload_n 0, 1) := by decide +kernel
theorem d_Pl_init_5 : decode b_Pl_init 5 = .ok (.bipush 40, 2) := by decide +kernel
theorem d_Pl_init_7 : decode b_Pl_init 7 = .ok (.newarray .int, 2) := by decide +kernel
theorem d_Pl_init_9 : decode b_Pl_init 9 = .ok (.putfield 9, 3) := by decide +kernel
theorem d_Pl_init_12 : decode b_Pl_init 12 = .ok (.aload_n 0, 1) := by decide +kernel
theorem d_Pl_init_13 : decode b_Pl_init 13 = .ok (.bipush 40, 2) := by decide +kernel
theorem d_Pl_init_15 : decode b_Pl_init 15 = .ok (.newarray .int, 2) := by decide +kernel
theorem d_Pl_init_17 : decode b_Pl_init 17 = .ok (.putfield 15, 3) := by decide +kernel
theorem d_Pl_init_20 : decode b_Pl_init 20 = .ok (.aload_n 0, 1) := by decide +kernel
theorem d_Pl_init_21 : decode b_Pl_init 21 = .ok (.bipush 40, 2) := by decide +kernel
theorem d_Pl_init_23 : decode b_Pl_init 23 = .ok (.newarray .int, 2) := by decide +kernel
theorem d_Pl_init_25 : decode b_Pl_init 25 = .ok (.putfield 18, 3) := by decide +kernel
theorem d_Pl_init_28 : decode b_Pl_init 28 = .ok (.aload_n 0, 1) := by decide +kernel
theorem d_Pl_init_29 : decode b_Pl_init 29 = .ok (.bipush 40, 2) := by decide +kernel
theorem d_Pl_init_31 : decode b_Pl_init 31 = .ok (.newarray .int, 2) := by decide +kernel
theorem d_Pl_init_33 : decode b_Pl_init 33 = .ok (.putfield 21, 3) := by decide +kernel
theorem d_Pl_init_36 : decode b_Pl_init 36 = .ok (.aload_n 0, 1) := by decide +kernel
theorem d_Pl_init_37 : decode b_Pl_init 37 = .ok (.bipush 40, 2) := by decide +kernel
theorem d_Pl_init_39 : decode b_Pl_init 39 = .ok (.newarray .int, 2) := by decide +kernel
theorem d_Pl_init_41 : decode b_Pl_init 41 = .ok (.putfield 24, 3) := by decide +kernel
theorem d_Pl_init_44 : decode b_Pl_init 44 = .ok (.aload_n 0, 1) := by decide +kernel
theorem d_Pl_init_45 : decode b_Pl_init 45 = .ok (.bipush 40, 2) := by decide +kernel
theorem d_Pl_init_47 : decode b_Pl_init 47 = .ok (.newarray .int, 2) := by decide +kernel
theorem d_Pl_init_49 : decode b_Pl_init 49 = .ok (.putfield 27, 3) := by decide +kernel
theorem d_Pl_init_52 : decode b_Pl_init 52 = .ok (.aload_n 0, 1) := by decide +kernel
theorem d_Pl_init_53 : decode b_Pl_init 53 = .ok (.bipush 40, 2) := by decide +kernel
theorem d_Pl_init_55 : decode b_Pl_init 55 = .ok (.newarray .int, 2) := by decide +kernel
theorem d_Pl_init_57 : decode b_Pl_init 57 = .ok (.putfield 30, 3) := by decide +kernel
theorem d_Pl_init_60 : decode b_Pl_init 60 = .ok (.aload_n 0, 1) := by decide +kernel
theorem d_Pl_init_61 : decode b_Pl_init 61 = .ok (.sipush 160, 3) := by decide +kernel
theorem d_Pl_init_64 : decode b_Pl_init 64 = .ok (.newarray .int, 2) := by decide +kernel
theorem d_Pl_init_66 : decode b_Pl_init 66 = .ok (.putfield 33, 3) := by decide +kernel
theorem d_Pl_init_69 : decode b_Pl_init 69 = .ok (.aload_n 0, 1) := by decide +kernel
theorem d_Pl_init_70 : decode b_Pl_init 70 = .ok (.bipush 60, 2) := by decide +kernel
theorem d_Pl_init_72 : decode b_Pl_init 72 = .ok (.newarray .int, 2) := by decide +kernel
theorem d_Pl_init_74 : decode b_Pl_init 74 = .ok (.putfield 36, 3) := by decide +kernel
theorem d_Pl_init_77 : decode b_Pl_init 77 = .ok (.aload_n 0, 1) := by decide +kernel
theorem d_Pl_init_78 : decode b_Pl_init 78 = .ok (.bipush 120, 2) := by decide +kernel
theorem d_Pl_init_80 : decode b_Pl_init 80 = .ok (.newarray .int, 2) := by decide +kernel
theorem d_Pl_init_82 : decode b_Pl_init 82 = .ok (.putfield 39, 3) := by decide +kernel
theorem d_Pl_init_85 : decode b_Pl_init 85 = .ok (.aload_n 0, 1) := by decide +kernel
theorem d_Pl_init_86 : decode b_Pl_init 86 = .ok (.bipush 120, 2) := by decide +kernel
theorem d_Pl_init_88 : decode b_Pl_init 88 = .ok (.newarray .int, 2) := by decide +kernel
theorem d_Pl_init_90 : decode b_Pl_init 90 = .ok (.putfield 42, 3) := by decide +kernel
theorem d_Pl_init_93 : decode b_Pl_init 93 = .ok (.aload_n 0, 1) := by decide +kernel
theorem d_Pl_init_94 : decode b_Pl_init 94 = .ok (.bipush 120, 2) := by decide +kernel
theorem d_Pl_init_96 : decode b_Pl_init 96 = .ok (.newarray .int, 2) := by decide +kernel
theorem d_Pl_init_98 : decode b_Pl_init 98 = .ok (.putfield 45, 3) := by decide +kernel
theorem d_Pl_init_101 : decode b_Pl_init 101 = .ok (.aload_n 0, 1) := by decide +kernel
theorem d_Pl_init_102 : decode b_Pl_init 102 = .ok (.new 48, 3) := by decide +kernel
theorem d_Pl_init_105 : decode b_Pl_init 105 = .ok (.dup, 1) := by decide +kernel
theorem d_Pl_init_106 : decode b_Pl_init 106 = .ok (.invokespecial 50, 3) := by decide +kernel
theorem d_Pl_init_109 : decode b_Pl_init 109 = .ok (.putfield 51, 3) := by decide +kernel
theorem d_Pl_init_112 : decode b_Pl_init 112 = .ok (.return_, 1) := by decide +kernel
theorem d_Wa_init_0 : decode b_Wa_init 0 = .ok (.aload_n 0, 1) := by decide +kernel
theorem d_Wa_init_1 : decode b_Wa_init 1 = .ok (.invokespecial 3, 3) := by decide +kernel
theorem d_Wa_init_4 : decode b_Wa_init 4 = .ok (.aload_n 0, 1) := by decide +kernel
theorem d_Wa_init_5 : decode b_Wa_init 5 = .ok (.bipush 120, 2) := by decide +kernel
theorem d_Wa_init_7 : decode b_Wa_init 7 = .ok (.newarray .int, 2) := by decide +kernel
theorem d_Wa_init_9 : decode b_Wa_init 9 = .ok (.putfield 9, 3) := by decide +kernel
theorem d_Wa_init_12 : decode b_Wa_init 12 = .ok (.aload_n 0, 1) := by decide +kernel
theorem d_Wa_init_13 : decode b_Wa_init 13 = .ok (.bipush 120, 2) := by decide +kernel
theorem d_Wa_init_15 : decode b_Wa_init 15 = .ok (.newarray .int, 2) := by decide +kernel
theorem d_Wa_init_17 : decode b_Wa_init 17 = .ok (.putfield 15, 3) := by decide +kernel
theorem d_Wa_init_20 : decode b_Wa_init 20 = .ok (.aload_n 0, 1) := by decide +kernel
theorem d_Wa_init_21 : decode b_Wa_init 21 = .ok (.bipush 40, 2) := by decide +kernel
theorem d_Wa_init_23 : decode b_Wa_init 23 = .ok (.newarray .int, 2) := by decide +kernel
theorem d_Wa_init_25 : decode b_Wa_init 25 = .ok (.putfield 18, 3) := by decide +kernel
theorem d_Wa_init_28 : decode b_Wa_init 28 = .ok (.return_, 1) := by decide +kernel
theorem d_Fl_init_0 : decode b_Fl_init 0 = .ok (.aload_n 0, 1) := by decide +kernel
theorem d_Fl_init_1 : decode b_Fl_init 1 = .ok (.invokespecial 3, 3) := by decide +kernel
theorem d_Fl_init_4 : decode b_Fl_init 4 = .ok (.aload_n 0, 1) := by decide +kernel
theorem d_Fl_init_5 : decode b_Fl_init 5 = .ok (.new 9, 3) := by decide +kernel
theorem d_Fl_init_8 : decode b_Fl_init 8 = .ok (.dup, 1) := by decide +kernel
theorem d_Fl_init_9 : decode b_Fl_init 9 = .ok (.invokespecial 11, 3) := by decide +kernel
theorem d_Fl_init_12 : decode b_Fl_init 12 = .ok (.putfield 12, 3) := by decide +kernel
theorem d_Fl_init_15 : decode b_Fl_init 15 = .ok (.return_, 1) := by decide +kernel
theorem d_Te_init_0 : decode b_Te_init 0 = .ok (.aload_n 0, 1) := by decide +kernel
theorem d_Te_init_1 : decode b_Te_init 1 = .ok (.invokespecial 3, 3) := by decide +kernel
theorem d_Te_init_4 : decode b_Te_init 4 = .ok (.aload_n 0, 1) := by decide +kernel
theorem d_Te_init_5 : decode b_Te_init 5 = .ok (.sipush 2000, 3) := by decide +kernel
theorem d_Te_init_8 : decode b_Te_init 8 = .ok (.newarray .byte, 2) := by decide +kernel
theorem d_Te_init_10 : decode b_Te_init 10 = .ok (.putfield 9, 3) := by decide +kernel
theorem d_Te_init_13 : decode b_Te_init 13 = .ok (.return_, 1) := by decide +kernel
theorem d_Ln_init_0 : decode b_Ln_init 0 = .ok (.aload_n 0, 1) := by decide +kernel
theorem d_Ln_init_1 : decode b_Ln_init 1 = .ok (.invokespecial 3, 3) := by decide +kernel
theorem d_Ln_init_4 : decode b_Ln_init 4 = .ok (.aload_n 0, 1) := by decide +kernel
theorem d_Ln_init_5 : decode b_Ln_init 5 = .ok (.bipush 15, 2) := by decide +kernel
theorem d_Ln_init_7 : decode b_Ln_init 7 = .ok (.newarray .byte, 2) := by decide +kernel
theorem d_Ln_init_9 : decode b_Ln_init 9 = .ok (.putfield 11, 3) := by decide +kernel
theorem d_Ln_init_12 : decode b_Ln_init 12 = .ok (.return_, 1) := by decide +kernel
theorem kw96_1813874 : (Cond.methodLink R_Li 3 objectInit : Cond) ∈ tb := by decide +kernel
theorem kw96_8796edd : (Cond.instanceMethod objectInit : Cond) ∈ tb := by decide +kernel
theorem kw96_5c52052 : (Cond.code objectInit ⟨#[0xb1]⟩ 1 none : Cond) ∈ tb := by decide +kernel
theorem kw96_93731f4 : (Cond.arrayClass .long : Cond) ∈ tb := by decide +kernel
theorem kw96_c00f02f : (Cond.fieldLink R_Li 11 "PlantGraph$Litres" "words" "[J" : Cond) ∈ tb := by decide +kernel
theorem kw96_cc0cd0c : (Cond.methodLink R_Pl 3 objectInit : Cond) ∈ tb := by decide +kernel
theorem kw96_32e41f5 : (Cond.arrayClass .int : Cond) ∈ tb := by decide +kernel
theorem kw96_c0ecaf9 : (Cond.fieldLink R_Pl 9 "PlantGraph$Plant" "kind" "[I" : Cond) ∈ tb := by decide +kernel
theorem kw96_08c6805 : (Cond.fieldLink R_Pl 15 "PlantGraph$Plant" "position" "[I" : Cond) ∈ tb := by decide +kernel
theorem kw96_164fad7 : (Cond.fieldLink R_Pl 18 "PlantGraph$Plant" "told" "[I" : Cond) ∈ tb := by decide +kernel
theorem kw96_41ec014 : (Cond.fieldLink R_Pl 21 "PlantGraph$Plant" "capacity" "[I" : Cond) ∈ tb := by decide +kernel
theorem kw96_c5682d8 : (Cond.fieldLink R_Pl 24 "PlantGraph$Plant" "amount" "[I" : Cond) ∈ tb := by decide +kernel
theorem kw96_5d95be5 : (Cond.fieldLink R_Pl 27 "PlantGraph$Plant" "liquid" "[I" : Cond) ∈ tb := by decide +kernel
theorem kw96_8803cf4 : (Cond.fieldLink R_Pl 30 "PlantGraph$Plant" "portsTaken" "[I" : Cond) ∈ tb := by decide +kernel
theorem kw96_494cd3a : (Cond.fieldLink R_Pl 33 "PlantGraph$Plant" "endAtPort" "[I" : Cond) ∈ tb := by decide +kernel
theorem kw96_9698590 : (Cond.fieldLink R_Pl 36 "PlantGraph$Plant" "pipeLitres" "[I" : Cond) ∈ tb := by decide +kernel
theorem kw96_1e13089 : (Cond.fieldLink R_Pl 39 "PlantGraph$Plant" "thingAtEnd" "[I" : Cond) ∈ tb := by decide +kernel
theorem kw96_5601ff4 : (Cond.fieldLink R_Pl 42 "PlantGraph$Plant" "portAtEnd" "[I" : Cond) ∈ tb := by decide +kernel
theorem kw96_ff072c0 : (Cond.fieldLink R_Pl 45 "PlantGraph$Plant" "bendAtEnd" "[I" : Cond) ∈ tb := by decide +kernel
theorem kw96_d7966e9 : (Cond.classLink R_Pl 48 R_Li : Cond) ∈ tb := by decide +kernel
theorem kw96_a47d698 : (Cond.instantiable R_Li 1 : Cond) ∈ tb := by decide +kernel
theorem kw96_59924f3 : (Cond.initialized R_Li : Cond) ∈ tb := by decide +kernel
theorem kw96_0db2ffa : (Cond.methodLinkNest R_Pl 50 y_Li_init "PlantGraph" : Cond) ∈ tb := by decide +kernel
theorem kw96_ba86722 : (Cond.code y_Li_init b_Li_init 1 none : Cond) ∈ tb := by decide +kernel
theorem kw96_54923eb : (Cond.instanceMethod y_Li_init : Cond) ∈ tb := by decide +kernel
theorem kw96_11754c3 : (Cond.fieldLink R_Pl 51 "PlantGraph$Plant" "inPipes" "LPlantGraph$Litres;" : Cond) ∈ tb := by decide +kernel
theorem kw96_28ada11 : (Cond.methodLink R_Wa 3 objectInit : Cond) ∈ tb := by decide +kernel
theorem kw96_33ac900 : (Cond.fieldLink R_Wa 9 "PlantGraph$Ways" "found" "[I" : Cond) ∈ tb := by decide +kernel
theorem kw96_8cf4f1c : (Cond.fieldLink R_Wa 15 "PlantGraph$Ways" "previous" "[I" : Cond) ∈ tb := by decide +kernel
theorem kw96_e057f73 : (Cond.fieldLink R_Wa 18 "PlantGraph$Ways" "lastEndAtThing" "[I" : Cond) ∈ tb := by decide +kernel
theorem kw96_b090dbf : (Cond.methodLink R_Fl 3 objectInit : Cond) ∈ tb := by decide +kernel
theorem kw96_ed9cbe4 : (Cond.classLink R_Fl 9 R_Li : Cond) ∈ tb := by decide +kernel
theorem kw96_7100705 : (Cond.methodLinkNest R_Fl 11 y_Li_init "PlantGraph" : Cond) ∈ tb := by decide +kernel
theorem kw96_2debef0 : (Cond.fieldLink R_Fl 12 "PlantGraph$Flow" "row" "LPlantGraph$Litres;" : Cond) ∈ tb := by decide +kernel
theorem kw96_cb665a6 : (Cond.methodLink R_Te 3 objectInit : Cond) ∈ tb := by decide +kernel
theorem kw96_b849ad0 : (Cond.arrayClass .byte : Cond) ∈ tb := by decide +kernel
theorem kw96_0536dcc : (Cond.fieldLink R_Te 9 "PlantGraph$Text" "bytes" "[B" : Cond) ∈ tb := by decide +kernel
theorem kw96_deb6fa5 : (Cond.methodLink R_Ln 3 objectInit : Cond) ∈ tb := by decide +kernel
theorem kw96_4c1e67f : (Cond.fieldLink R_Ln 11 "PlantGraph$Line" "bytes" "[B" : Cond) ∈ tb := by decide +kernel
def w_Li_init : List Cond := .code y_Li_init b_Li_init 1 none :: tb
abbrev rm_Li_init : Room := { frames := 1, cells := 1, slots := 750, locals := 12 }
set_option maxHeartbeats 4000000 in
set_option maxRecDepth 100000 in
theorem c_Li_init (l : Launch) (dC : Nat → ClassId) (dI : Nat → Nat → Nat) (cI cL cB : ClassId) (q_t : Nat) (sz : Nat) : Met l y_Li_init w_Li_init rm_Li_init (va_Pc [.ref q_t] (fun U => U.heap.size = sz ∧ va_P (dC, dI) classes [(q_t, .inr (2, [.null]))] U.heap ∧ va_K (dC, dI) classes [(cI, .int), (cL, .long), (cB, .byte)] U ∧ va_D (fun _ => True) [(q_t, .inr (2, [.null]))])) (va_Qv (fun (_ : Unit) => True) (fun _ t => ∃ (q8 : Nat), va_P (dC, dI) classes [(q_t, .inr (2, [.ref q8])), (q8, .inl (cL, 750, .inr (.inl (fun _ => 0))))] t.heap ∧ va_K (dC, dI) classes [(cI, .int), (cL, .long), (cB, .byte)] t ∧ va_D (va_A [(q_t, .inr (2, [.null]))] sz) [(q_t, .inr (2, [.ref q8])), (q8, .inl (cL, 750, .inr (.inl (fun _ => 0))))]) (va_A [(q_t, .inr (2, [.null]))] sz)) 1 750 (va_A [(q_t, .inr (2, [.null]))] sz) := by
  refine Met.ofW (cc := b_Li_init) (maxL := 1) (ret := none) (by decide) rfl ?_
  intro p e s m args below meth c s₁ B hml hv
  obtain ⟨ha, hsz, hP, hK, hD0⟩ := hv
  have hx := B.exec
  have hb := B.bytes
  have hr := B.returns
  have hts0 := atoms_spec (ws := w_Li_init) B.pre
  have hts : ∀ w ∈ tb, w.before args s = true := fun w h => hts0 w (List.mem_cons_of_mem _ h)
  have hown : s.vm.findClass R_Li = some m.cls := findClass_of_methodNamed B.named
  have hlocks := B.notSynchronized
  have hin : meth.name = "<init>" := (name_of_methodNamed B.named B.method).1
  subst hsz
  have hD := hD0.self (sz := s.heap.size)
  generalize hAe : va_A [(q_t, .inr (2, [.null]))] s.heap.size = A at hD ⊢
  have hA : ∀ q : Nat, s.heap.size ≤ q → A q := fun q h => by rw [← hAe]; exact Or.inr h
  have hS : va_S A s.heap s.heap [] := va_S.rf
  have hP : va_P (dC, dI) classes [(q_t, .inr (2, [.null]))] s.heap := hP
  have hl := lv_entry [.ref q_t] (n := 1) (Nat.le_of_ble_eq_true rfl)
  have he9 : entryFrame m args 1 = F0 m 0 ((lg_sl [.ref q_t] ++ List.replicate (1 - (lg_sl [.ref q_t]).length) Slot.unset).toArray) [] := by rw [ha]; exact lg_entry_eq _ _ _
  rw [he9]
  clear he9
  generalize (lg_sl [.ref q_t] ++ List.replicate (1 - (lg_sl [.ref q_t]).length) Slot.unset).toArray = ls at hl ⊢
  have hl : lv_has ls 1 [(0, .ref q_t)] := hl
  refine lv_aload_n hx hb d_Li_init_0 rfl (lv_at hl 0 rfl) ?_
  refine W.objInit hx hb hown (hts (Cond.methodLink R_Li 3 objectInit) kw96_1813874) (hts (Cond.instanceMethod objectInit) kw96_8796edd) (hts (Cond.code objectInit ⟨#[0xb1]⟩ 1 none) kw96_5c52052) rfl (by rw [hml]; exact hl.1) rfl d_Li_init_1 (Nat.le_of_ble_eq_true rfl) (Nat.le_of_ble_eq_true rfl) ?_
  refine W.eq (g2 := F0 m 4 ls []) rfl ?_
  refine lv_aload_n hx hb d_Li_init_4 rfl (lv_at hl 0 rfl) ?_
  refine lv_sipush (v := 750) hx hb d_Li_init_5 (by decide) ?_
  refine va_newa (atype := .long) (ty := .long) (n := 750) (N' := 750) (a0 := (750, .inr (.inl (fun _ => 0)))) hx hb (hts (Cond.arrayClass .long) kw96_93731f4) rfl hK hP hD hS hA (fun _ => rfl) (by decide) (by decide) (by decide) (Nat.le_of_ble_eq_true rfl) (Nat.le_of_ble_eq_true rfl) d_Li_init_8 (fun q8 cA8 H hK9 hP hD hS => ?_)
  have e9 : cL = cA8 := gn_arr hK9 1 3 rfl rfl
  subst e9
  have hP : va_P (dC, dI) classes [(q_t, .inr (2, [.null])), (q8, .inl (cL, 750, .inr (.inl (fun _ => 0))))] H := hP
  have hD : va_D A [(q_t, .inr (2, [.null])), (q8, .inl (cL, 750, .inr (.inl (fun _ => 0))))] := hD
  refine va_putF (D := (dC, dI)) (ci := 2) (v := .ref q8) (ty := .array .long) (C := R_Li) (T := F_Li) (N := 1) hx hb hts i_Li t_Li t_Li_ok n_Li hown hK hP hD hS 0 rfl rfl 0 (by decide) (hts (Cond.fieldLink R_Li 11 "PlantGraph$Litres" "words" "[J") kw96_c00f02f) (fun _ h9 => h9) rfl hin rfl (by decide +kernel) rfl rfl (Nat.le_of_ble_eq_true rfl) d_Li_init_10 (fun H locs hP hD hS => ?_)
  have hP : va_P (dC, dI) classes [(q_t, .inr (2, [.ref q8])), (q8, .inl (cL, 750, .inr (.inl (fun _ => 0))))] H := hP
  have hD : va_D A [(q_t, .inr (2, [.ref q8])), (q8, .inl (cL, 750, .inr (.inl (fun _ => 0))))] := hD
  refine W.widen (k := 1) (n := 750) (Nat.le_of_ble_eq_true rfl) (Nat.le_of_ble_eq_true rfl) ?_
  exact W.vret hx hb hr (fun t ht hW => ⟨⟨(), rfl, trivial, q8, by rw [ht]; exact hP, va_K.moved hW.alike hK, hD⟩, hS.F ht⟩) hS.2.2 d_Li_init_13
def w_Pl_init : List Cond := .code y_Pl_init b_Pl_init 1 none :: tb
abbrev rm_Pl_init : Room := { frames := 2, cells := 14, slots := 1611, locals := 32 }
set_option maxHeartbeats 4000000 in
set_option maxRecDepth 100000 in
theorem c_Pl_init (l : Launch) (dC : Nat → ClassId) (dI : Nat → Nat → Nat) (cI cL cB : ClassId) (q_t : Nat) (sz : Nat) : Met l y_Pl_init w_Pl_init rm_Pl_init (va_Pc [.ref q_t] (fun U => U.heap.size = sz ∧ va_P (dC, dI) classes [(q_t, .inr (1, [.int 0, .null, .null, .null, .null, .null, .null, .null, .null, .int 0, .null, .null, .null, .null, .null]))] U.heap ∧ va_K (dC, dI) classes [(cI, .int), (cL, .long), (cB, .byte)] U ∧ va_D (fun _ => True) [(q_t, .inr (1, [.int 0, .null, .null, .null, .null, .null, .null, .null, .null, .int 0, .null, .null, .null, .null, .null]))])) (va_Qv (fun (_ : Unit) => True) (fun _ t => ∃ (q7 q15 q23 q31 q39 q47 q55 q64 q72 q80 q88 q96 q102 q8_106 : Nat), va_P (dC, dI) classes [(q_t, .inr (1, [.int 0, .ref q7, .ref q15, .ref q23, .ref q31, .ref q39, .ref q47, .ref q55, .ref q64, .int 0, .ref q72, .ref q80, .ref q88, .ref q96, .ref q102])), (q7, .inl (cI, 40, .inl (fun _ => 0))), (q15, .inl (cI, 40, .inl (fun _ => 0))), (q23, .inl (cI, 40, .inl (fun _ => 0))), (q31, .inl (cI, 40, .inl (fun _ => 0))), (q39, .inl (cI, 40, .inl (fun _ => 0))), (q47, .inl (cI, 40, .inl (fun _ => 0))), (q55, .inl (cI, 40, .inl (fun _ => 0))), (q64, .inl (cI, 160, .inl (fun _ => 0))), (q72, .inl (cI, 60, .inl (fun _ => 0))), (q80, .inl (cI, 120, .inl (fun _ => 0))), (q88, .inl (cI, 120, .inl (fun _ => 0))), (q96, .inl (cI, 120, .inl (fun _ => 0))), (q102, .inr (2, [.ref q8_106])), (q8_106, .inl (cL, 750, .inr (.inl (fun _ => 0))))] t.heap ∧ va_K (dC, dI) classes [(cI, .int), (cL, .long), (cB, .byte)] t ∧ va_D (va_A [(q_t, .inr (1, [.int 0, .null, .null, .null, .null, .null, .null, .null, .null, .int 0, .null, .null, .null, .null, .null]))] sz) [(q_t, .inr (1, [.int 0, .ref q7, .ref q15, .ref q23, .ref q31, .ref q39, .ref q47, .ref q55, .ref q64, .int 0, .ref q72, .ref q80, .ref q88, .ref q96, .ref q102])), (q7, .inl (cI, 40, .inl (fun _ => 0))), (q15, .inl (cI, 40, .inl (fun _ => 0))), (q23, .inl (cI, 40, .inl (fun _ => 0))), (q31, .inl (cI, 40, .inl (fun _ => 0))), (q39, .inl (cI, 40, .inl (fun _ => 0))), (q47, .inl (cI, 40, .inl (fun _ => 0))), (q55, .inl (cI, 40, .inl (fun _ => 0))), (q64, .inl (cI, 160, .inl (fun _ => 0))), (q72, .inl (cI, 60, .inl (fun _ => 0))), (q80, .inl (cI, 120, .inl (fun _ => 0))), (q88, .inl (cI, 120, .inl (fun _ => 0))), (q96, .inl (cI, 120, .inl (fun _ => 0))), (q102, .inr (2, [.ref q8_106])), (q8_106, .inl (cL, 750, .inr (.inl (fun _ => 0))))]) (va_A [(q_t, .inr (1, [.int 0, .null, .null, .null, .null, .null, .null, .null, .null, .int 0, .null, .null, .null, .null, .null]))] sz)) 14 1611 (va_A [(q_t, .inr (1, [.int 0, .null, .null, .null, .null, .null, .null, .null, .null, .int 0, .null, .null, .null, .null, .null]))] sz) := by
  refine Met.ofW (cc := b_Pl_init) (maxL := 1) (ret := none) (by decide) rfl ?_
  intro p e s m args below meth c s₁ B hml hv
  obtain ⟨ha, hsz, hP, hK, hD0⟩ := hv
  have hx := B.exec
  have hb := B.bytes
  have hr := B.returns
  have hts0 := atoms_spec (ws := w_Pl_init) B.pre
  have hts : ∀ w ∈ tb, w.before args s = true := fun w h => hts0 w (List.mem_cons_of_mem _ h)
  have hown : s.vm.findClass R_Pl = some m.cls := findClass_of_methodNamed B.named
  have hlocks := B.notSynchronized
  have hin : meth.name = "<init>" := (name_of_methodNamed B.named B.method).1
  subst hsz
  have hD := hD0.self (sz := s.heap.size)
  generalize hAe : va_A [(q_t, .inr (1, [.int 0, .null, .null, .null, .null, .null, .null, .null, .null, .int 0, .null, .null, .null, .null, .null]))] s.heap.size = A at hD ⊢
  have hA : ∀ q : Nat, s.heap.size ≤ q → A q := fun q h => by rw [← hAe]; exact Or.inr h
  have hS : va_S A s.heap s.heap [] := va_S.rf
  have hP : va_P (dC, dI) classes [(q_t, .inr (1, [.int 0, .null, .null, .null, .null, .null, .null, .null, .null, .int 0, .null, .null, .null, .null, .null]))] s.heap := hP
  have hl := lv_entry [.ref q_t] (n := 1) (Nat.le_of_ble_eq_true rfl)
  have he9 : entryFrame m args 1 = F0 m 0 ((lg_sl [.ref q_t] ++ List.replicate (1 - (lg_sl [.ref q_t]).length) Slot.unset).toArray) [] := by rw [ha]; exact lg_entry_eq _ _ _
  rw [he9]
  clear he9
  generalize (lg_sl [.ref q_t] ++ List.replicate (1 - (lg_sl [.ref q_t]).length) Slot.unset).toArray = ls at hl ⊢
  have hl : lv_has ls 1 [(0, .ref q_t)] := hl
  refine lv_aload_n hx hb d_Pl_init_0 rfl (lv_at hl 0 rfl) ?_
  refine W.objInit hx hb hown (hts (Cond.methodLink R_Pl 3 objectInit) kw96_cc0cd0c) (hts (Cond.instanceMethod objectInit) kw96_8796edd) (hts (Cond.code objectInit ⟨#[0xb1]⟩ 1 none) kw96_5c52052) rfl (by rw [hml]; exact hl.1) rfl d_Pl_init_1 (Nat.le_of_ble_eq_true rfl) (Nat.le_of_ble_eq_true rfl) ?_
  refine W.eq (g2 := F0 m 4 ls []) rfl ?_
  refine lv_aload_n hx hb d_Pl_init_4 rfl (lv_at hl 0 rfl) ?_
  refine lv_bipush (v := 40) hx hb d_Pl_init_5 (by decide) ?_
  refine va_newa (atype := .int) (ty := .int) (n := 40) (N' := 40) (a0 := (40, .inl (fun _ => 0))) hx hb (hts (Cond.arrayClass .int) kw96_32e41f5) rfl hK hP hD hS hA (fun _ => rfl) (by decide) (by decide) (by decide) (Nat.le_of_ble_eq_true rfl) (Nat.le_of_ble_eq_true rfl) d_Pl_init_7 (fun q7 cA7 H hK9 hP hD hS => ?_)
  have e9 : cI = cA7 := gn_arr hK9 0 3 rfl rfl
  subst e9
  have hP : va_P (dC, dI) classes [(q_t, .inr (1, [.int 0, .null, .null, .null, .null, .null, .null, .null, .null, .int 0, .null, .null, .null, .null, .null])), (q7, .inl (cI, 40, .inl (fun _ => 0)))] H := hP
  have hD : va_D A [(q_t, .inr (1, [.int 0, .null, .null, .null, .null, .null, .null, .null, .null, .int 0, .null, .null, .null, .null, .null])), (q7, .inl (cI, 40, .inl (fun _ => 0)))] := hD
  refine va_putF (D := (dC, dI)) (ci := 1) (v := .ref q7) (ty := .array .int) (C := R_Pl) (T := F_Pl) (N := 15) hx hb hts i_Pl t_Pl t_Pl_ok n_Pl hown hK hP hD hS 0 rfl rfl 1 (by decide) (hts (Cond.fieldLink R_Pl 9 "PlantGraph$Plant" "kind" "[I") kw96_c0ecaf9) (fun _ h9 => h9) rfl hin rfl (by decide +kernel) rfl rfl (Nat.le_of_ble_eq_true rfl) d_Pl_init_9 (fun H locs hP hD hS => ?_)
  have hP : va_P (dC, dI) classes [(q_t, .inr (1, [.int 0, .ref q7, .null, .null, .null, .null, .null, .null, .null, .int 0, .null, .null, .null, .null, .null])), (q7, .inl (cI, 40, .inl (fun _ => 0)))] H := hP
  have hD : va_D A [(q_t, .inr (1, [.int 0, .ref q7, .null, .null, .null, .null, .null, .null, .null, .int 0, .null, .null, .null, .null, .null])), (q7, .inl (cI, 40, .inl (fun _ => 0)))] := hD
  refine lv_aload_n hx hb d_Pl_init_12 rfl (lv_at hl 0 rfl) ?_
  refine lv_bipush (v := 40) hx hb d_Pl_init_13 (by decide) ?_
  refine va_newa (atype := .int) (ty := .int) (n := 40) (N' := 40) (a0 := (40, .inl (fun _ => 0))) hx hb (hts (Cond.arrayClass .int) kw96_32e41f5) rfl hK hP hD hS hA (fun _ => rfl) (by decide) (by decide) (by decide) (Nat.le_of_ble_eq_true rfl) (Nat.le_of_ble_eq_true rfl) d_Pl_init_15 (fun q15 cA15 H hK9 hP hD hS => ?_)
  have e9 : cI = cA15 := gn_arr hK9 0 3 rfl rfl
  subst e9
  have hP : va_P (dC, dI) classes [(q_t, .inr (1, [.int 0, .ref q7, .null, .null, .null, .null, .null, .null, .null, .int 0, .null, .null, .null, .null, .null])), (q7, .inl (cI, 40, .inl (fun _ => 0))), (q15, .inl (cI, 40, .inl (fun _ => 0)))] H := hP
  have hD : va_D A [(q_t, .inr (1, [.int 0, .ref q7, .null, .null, .null, .null, .null, .null, .null, .int 0, .null, .null, .null, .null, .null])), (q7, .inl (cI, 40, .inl (fun _ => 0))), (q15, .inl (cI, 40, .inl (fun _ => 0)))] := hD
  refine va_putF (D := (dC, dI)) (ci := 1) (v := .ref q15) (ty := .array .int) (C := R_Pl) (T := F_Pl) (N := 15) hx hb hts i_Pl t_Pl t_Pl_ok n_Pl hown hK hP hD hS 0 rfl rfl 2 (by decide) (hts (Cond.fieldLink R_Pl 15 "PlantGraph$Plant" "position" "[I") kw96_08c6805) (fun _ h9 => h9) rfl hin rfl (by decide +kernel) rfl rfl (Nat.le_of_ble_eq_true rfl) d_Pl_init_17 (fun H locs hP hD hS => ?_)
  have hP : va_P (dC, dI) classes [(q_t, .inr (1, [.int 0, .ref q7, .ref q15, .null, .null, .null, .null, .null, .null, .int 0, .null, .null, .null, .null, .null])), (q7, .inl (cI, 40, .inl (fun _ => 0))), (q15, .inl (cI, 40, .inl (fun _ => 0)))] H := hP
  have hD : va_D A [(q_t, .inr (1, [.int 0, .ref q7, .ref q15, .null, .null, .null, .null, .null, .null, .int 0, .null, .null, .null, .null, .null])), (q7, .inl (cI, 40, .inl (fun _ => 0))), (q15, .inl (cI, 40, .inl (fun _ => 0)))] := hD
  refine lv_aload_n hx hb d_Pl_init_20 rfl (lv_at hl 0 rfl) ?_
  refine lv_bipush (v := 40) hx hb d_Pl_init_21 (by decide) ?_
  refine va_newa (atype := .int) (ty := .int) (n := 40) (N' := 40) (a0 := (40, .inl (fun _ => 0))) hx hb (hts (Cond.arrayClass .int) kw96_32e41f5) rfl hK hP hD hS hA (fun _ => rfl) (by decide) (by decide) (by decide) (Nat.le_of_ble_eq_true rfl) (Nat.le_of_ble_eq_true rfl) d_Pl_init_23 (fun q23 cA23 H hK9 hP hD hS => ?_)
  have e9 : cI = cA23 := gn_arr hK9 0 3 rfl rfl
  subst e9
  have hP : va_P (dC, dI) classes [(q_t, .inr (1, [.int 0, .ref q7, .ref q15, .null, .null, .null, .null, .null, .null, .int 0, .null, .null, .null, .null, .null])), (q7, .inl (cI, 40, .inl (fun _ => 0))), (q15, .inl (cI, 40, .inl (fun _ => 0))), (q23, .inl (cI, 40, .inl (fun _ => 0)))] H := hP
  have hD : va_D A [(q_t, .inr (1, [.int 0, .ref q7, .ref q15, .null, .null, .null, .null, .null, .null, .int 0, .null, .null, .null, .null, .null])), (q7, .inl (cI, 40, .inl (fun _ => 0))), (q15, .inl (cI, 40, .inl (fun _ => 0))), (q23, .inl (cI, 40, .inl (fun _ => 0)))] := hD
  refine va_putF (D := (dC, dI)) (ci := 1) (v := .ref q23) (ty := .array .int) (C := R_Pl) (T := F_Pl) (N := 15) hx hb hts i_Pl t_Pl t_Pl_ok n_Pl hown hK hP hD hS 0 rfl rfl 3 (by decide) (hts (Cond.fieldLink R_Pl 18 "PlantGraph$Plant" "told" "[I") kw96_164fad7) (fun _ h9 => h9) rfl hin rfl (by decide +kernel) rfl rfl (Nat.le_of_ble_eq_true rfl) d_Pl_init_25 (fun H locs hP hD hS => ?_)
  have hP : va_P (dC, dI) classes [(q_t, .inr (1, [.int 0, .ref q7, .ref q15, .ref q23, .null, .null, .null, .null, .null, .int 0, .null, .null, .null, .null, .null])), (q7, .inl (cI, 40, .inl (fun _ => 0))), (q15, .inl (cI, 40, .inl (fun _ => 0))), (q23, .inl (cI, 40, .inl (fun _ => 0)))] H := hP
  have hD : va_D A [(q_t, .inr (1, [.int 0, .ref q7, .ref q15, .ref q23, .null, .null, .null, .null, .null, .int 0, .null, .null, .null, .null, .null])), (q7, .inl (cI, 40, .inl (fun _ => 0))), (q15, .inl (cI, 40, .inl (fun _ => 0))), (q23, .inl (cI, 40, .inl (fun _ => 0)))] := hD
  refine lv_aload_n hx hb d_Pl_init_28 rfl (lv_at hl 0 rfl) ?_
  refine lv_bipush (v := 40) hx hb d_Pl_init_29 (by decide) ?_
  refine va_newa (atype := .int) (ty := .int) (n := 40) (N' := 40) (a0 := (40, .inl (fun _ => 0))) hx hb (hts (Cond.arrayClass .int) kw96_32e41f5) rfl hK hP hD hS hA (fun _ => rfl) (by decide) (by decide) (by decide) (Nat.le_of_ble_eq_true rfl) (Nat.le_of_ble_eq_true rfl) d_Pl_init_31 (fun q31 cA31 H hK9 hP hD hS => ?_)
  have e9 : cI = cA31 := gn_arr hK9 0 3 rfl rfl
  subst e9
  have hP : va_P (dC, dI) classes [(q_t, .inr (1, [.int 0, .ref q7, .ref q15, .ref q23, .null, .null, .null, .null, .null, .int 0, .null, .null, .null, .null, .null])), (q7, .inl (cI, 40, .inl (fun _ => 0))), (q15, .inl (cI, 40, .inl (fun _ => 0))), (q23, .inl (cI, 40, .inl (fun _ => 0))), (q31, .inl (cI, 40, .inl (fun _ => 0)))] H := hP
  have hD : va_D A [(q_t, .inr (1, [.int 0, .ref q7, .ref q15, .ref q23, .null, .null, .null, .null, .null, .int 0, .null, .null, .null, .null, .null])), (q7, .inl (cI, 40, .inl (fun _ => 0))), (q15, .inl (cI, 40, .inl (fun _ => 0))), (q23, .inl (cI, 40, .inl (fun _ => 0))), (q31, .inl (cI, 40, .inl (fun _ => 0)))] := hD
  refine va_putF (D := (dC, dI)) (ci := 1) (v := .ref q31) (ty := .array .int) (C := R_Pl) (T := F_Pl) (N := 15) hx hb hts i_Pl t_Pl t_Pl_ok n_Pl hown hK hP hD hS 0 rfl rfl 4 (by decide) (hts (Cond.fieldLink R_Pl 21 "PlantGraph$Plant" "capacity" "[I") kw96_41ec014) (fun _ h9 => h9) rfl hin rfl (by decide +kernel) rfl rfl (Nat.le_of_ble_eq_true rfl) d_Pl_init_33 (fun H locs hP hD hS => ?_)
  have hP : va_P (dC, dI) classes [(q_t, .inr (1, [.int 0, .ref q7, .ref q15, .ref q23, .ref q31, .null, .null, .null, .null, .int 0, .null, .null, .null, .null, .null])), (q7, .inl (cI, 40, .inl (fun _ => 0))), (q15, .inl (cI, 40, .inl (fun _ => 0))), (q23, .inl (cI, 40, .inl (fun _ => 0))), (q31, .inl (cI, 40, .inl (fun _ => 0)))] H := hP
  have hD : va_D A [(q_t, .inr (1, [.int 0, .ref q7, .ref q15, .ref q23, .ref q31, .null, .null, .null, .null, .int 0, .null, .null, .null, .null, .null])), (q7, .inl (cI, 40, .inl (fun _ => 0))), (q15, .inl (cI, 40, .inl (fun _ => 0))), (q23, .inl (cI, 40, .inl (fun _ => 0))), (q31, .inl (cI, 40, .inl (fun _ => 0)))] := hD
  refine lv_aload_n hx hb d_Pl_init_36 rfl (lv_at hl 0 rfl) ?_
  refine lv_bipush (v := 40) hx hb d_Pl_init_37 (by decide) ?_
  refine va_newa (atype := .int) (ty := .int) (n := 40) (N' := 40) (a0 := (40, .inl (fun _ => 0))) hx hb (hts (Cond.arrayClass .int) kw96_32e41f5) rfl hK hP hD hS hA (fun _ => rfl) (by decide) (by decide) (by decide) (Nat.le_of_ble_eq_true rfl) (Nat.le_of_ble_eq_true rfl) d_Pl_init_39 (fun q39 cA39 H hK9 hP hD hS => ?_)
  have e9 : cI = cA39 := gn_arr hK9 0 3 rfl rfl
  subst e9
  have hP : va_P (dC, dI) classes [(q_t, .inr (1, [.int 0, .ref q7, .ref q15, .ref q23, .ref q31, .null, .null, .null, .null, .int 0, .null, .null, .null, .null, .null])), (q7, .inl (cI, 40, .inl (fun _ => 0))), (q15, .inl (cI, 40, .inl (fun _ => 0))), (q23, .inl (cI, 40, .inl (fun _ => 0))), (q31, .inl (cI, 40, .inl (fun _ => 0))), (q39, .inl (cI, 40, .inl (fun _ => 0)))] H := hP
  have hD : va_D A [(q_t, .inr (1, [.int 0, .ref q7, .ref q15, .ref q23, .ref q31, .null, .null, .null, .null, .int 0, .null, .null, .null, .null, .null])), (q7, .inl (cI, 40, .inl (fun _ => 0))), (q15, .inl (cI, 40, .inl (fun _ => 0))), (q23, .inl (cI, 40, .inl (fun _ => 0))), (q31, .inl (cI, 40, .inl (fun _ => 0))), (q39, .inl (cI, 40, .inl (fun _ => 0)))] := hD
  refine va_putF (D := (dC, dI)) (ci := 1) (v := .ref q39) (ty := .array .int) (C := R_Pl) (T := F_Pl) (N := 15) hx hb hts i_Pl t_Pl t_Pl_ok n_Pl hown hK hP hD hS 0 rfl rfl 5 (by decide) (hts (Cond.fieldLink R_Pl 24 "PlantGraph$Plant" "amount" "[I") kw96_c5682d8) (fun _ h9 => h9) rfl hin rfl (by decide +kernel) rfl rfl (Nat.le_of_ble_eq_true rfl) d_Pl_init_41 (fun H locs hP hD hS => ?_)
  have hP : va_P (dC, dI) classes [(q_t, .inr (1, [.int 0, .ref q7, .ref q15, .ref q23, .ref q31, .ref q39, .null, .null, .null, .int 0, .null, .null, .null, .null, .null])), (q7, .inl (cI, 40, .inl (fun _ => 0))), (q15, .inl (cI, 40, .inl (fun _ => 0))), (q23, .inl (cI, 40, .inl (fun _ => 0))), (q31, .inl (cI, 40, .inl (fun _ => 0))), (q39, .inl (cI, 40, .inl (fun _ => 0)))] H := hP
  have hD : va_D A [(q_t, .inr (1, [.int 0, .ref q7, .ref q15, .ref q23, .ref q31, .ref q39, .null, .null, .null, .int 0, .null, .null, .null, .null, .null])), (q7, .inl (cI, 40, .inl (fun _ => 0))), (q15, .inl (cI, 40, .inl (fun _ => 0))), (q23, .inl (cI, 40, .inl (fun _ => 0))), (q31, .inl (cI, 40, .inl (fun _ => 0))), (q39, .inl (cI, 40, .inl (fun _ => 0)))] := hD
  refine lv_aload_n hx hb d_Pl_init_44 rfl (lv_at hl 0 rfl) ?_
  refine lv_bipush (v := 40) hx hb d_Pl_init_45 (by decide) ?_
  refine va_newa (atype := .int) (ty := .int) (n := 40) (N' := 40) (a0 := (40, .inl (fun _ => 0))) hx hb (hts (Cond.arrayClass .int) kw96_32e41f5) rfl hK hP hD hS hA (fun _ => rfl) (by decide) (by decide) (by decide) (Nat.le_of_ble_eq_true rfl) (Nat.le_of_ble_eq_true rfl) d_Pl_init_47 (fun q47 cA47 H hK9 hP hD hS => ?_)
  have e9 : cI = cA47 := gn_arr hK9 0 3 rfl rfl
  subst e9
  have hP : va_P (dC, dI) classes [(q_t, .inr (1, [.int 0, .ref q7, .ref q15, .ref q23, .ref q31, .ref q39, .null, .null, .null, .int 0, .null, .null, .null, .null, .null])), (q7, .inl (cI, 40, .inl (fun _ => 0))), (q15, .inl (cI, 40, .inl (fun _ => 0))), (q23, .inl (cI, 40, .inl (fun _ => 0))), (q31, .inl (cI, 40, .inl (fun _ => 0))), (q39, .inl (cI, 40, .inl (fun _ => 0))), (q47, .inl (cI, 40, .inl (fun _ => 0)))] H := hP
  have hD : va_D A [(q_t, .inr (1, [.int 0, .ref q7, .ref q15, .ref q23, .ref q31, .ref q39, .null, .null, .null, .int 0, .null, .null, .null, .null, .null])), (q7, .inl (cI, 40, .inl (fun _ => 0))), (q15, .inl (cI, 40, .inl (fun _ => 0))), (q23, .inl (cI, 40, .inl (fun _ => 0))), (q31, .inl (cI, 40, .inl (fun _ => 0))), (q39, .inl (cI, 40, .inl (fun _ => 0))), (q47, .inl (cI, 40, .inl (fun _ => 0)))] := hD
  refine va_putF (D := (dC, dI)) (ci := 1) (v := .ref q47) (ty := .array .int) (C := R_Pl) (T := F_Pl) (N := 15) hx hb hts i_Pl t_Pl t_Pl_ok n_Pl hown hK hP hD hS 0 rfl rfl 6 (by decide) (hts (Cond.fieldLink R_Pl 27 "PlantGraph$Plant" "liquid" "[I") kw96_5d95be5) (fun _ h9 => h9) rfl hin rfl (by decide +kernel) rfl rfl (Nat.le_of_ble_eq_true rfl) d_Pl_init_49 (fun H locs hP hD hS => ?_)
  have hP : va_P (dC, dI) classes [(q_t, .inr (1, [.int 0, .ref q7, .ref q15, .ref q23, .ref q31, .ref q39, .ref q47, .null, .null, .int 0, .null, .null, .null, .null, .null])), (q7, .inl (cI, 40, .inl (fun _ => 0))), (q15, .inl (cI, 40, .inl (fun _ => 0))), (q23, .inl (cI, 40, .inl (fun _ => 0))), (q31, .inl (cI, 40, .inl (fun _ => 0))), (q39, .inl (cI, 40, .inl (fun _ => 0))), (q47, .inl (cI, 40, .inl (fun _ => 0)))] H := hP
  have hD : va_D A [(q_t, .inr (1, [.int 0, .ref q7, .ref q15, .ref q23, .ref q31, .ref q39, .ref q47, .null, .null, .int 0, .null, .null, .null, .null, .null])), (q7, .inl (cI, 40, .inl (fun _ => 0))), (q15, .inl (cI, 40, .inl (fun _ => 0))), (q23, .inl (cI, 40, .inl (fun _ => 0))), (q31, .inl (cI, 40, .inl (fun _ => 0))), (q39, .inl (cI, 40, .inl (fun _ => 0))), (q47, .inl (cI, 40, .inl (fun _ => 0)))] := hD
  refine lv_aload_n hx hb d_Pl_init_52 rfl (lv_at hl 0 rfl) ?_
  refine lv_bipush (v := 40) hx hb d_Pl_init_53 (by decide) ?_
  refine va_newa (atype := .int) (ty := .int) (n := 40) (N' := 40) (a0 := (40, .inl (fun _ => 0))) hx hb (hts (Cond.arrayClass .int) kw96_32e41f5) rfl hK hP hD hS hA (fun _ => rfl) (by decide) (by decide) (by decide) (Nat.le_of_ble_eq_true rfl) (Nat.le_of_ble_eq_true rfl) d_Pl_init_55 (fun q55 cA55 H hK9 hP hD hS => ?_)
  have e9 : cI = cA55 := gn_arr hK9 0 3 rfl rfl
  subst e9
  have hP : va_P (dC, dI) classes [(q_t, .inr (1, [.int 0, .ref q7, .ref q15, .ref q23, .ref q31, .ref q39, .ref q47, .null, .null, .int 0, .null, .null, .null, .null, .null])), (q7, .inl (cI, 40, .inl (fun _ => 0))), (q15, .inl (cI, 40, .inl (fun _ => 0))), (q23, .inl (cI, 40, .inl (fun _ => 0))), (q31, .inl (cI, 40, .inl (fun _ => 0))), (q39, .inl (cI, 40, .inl (fun _ => 0))), (q47, .inl (cI, 40, .inl (fun _ => 0))), (q55, .inl (cI, 40, .inl (fun _ => 0)))] H := hP
  have hD : va_D A [(q_t, .inr (1, [.int 0, .ref q7, .ref q15, .ref q23, .ref q31, .ref q39, .ref q47, .null, .null, .int 0, .null, .null, .null, .null, .null])), (q7, .inl (cI, 40, .inl (fun _ => 0))), (q15, .inl (cI, 40, .inl (fun _ => 0))), (q23, .inl (cI, 40, .inl (fun _ => 0))), (q31, .inl (cI, 40, .inl (fun _ => 0))), (q39, .inl (cI, 40, .inl (fun _ => 0))), (q47, .inl (cI, 40, .inl (fun _ => 0))), (q55, .inl (cI, 40, .inl (fun _ => 0)))] := hD
  refine va_putF (D := (dC, dI)) (ci := 1) (v := .ref q55) (ty := .array .int) (C := R_Pl) (T := F_Pl) (N := 15) hx hb hts i_Pl t_Pl t_Pl_ok n_Pl hown hK hP hD hS 0 rfl rfl 7 (by decide) (hts (Cond.fieldLink R_Pl 30 "PlantGraph$Plant" "portsTaken" "[I") kw96_8803cf4) (fun _ h9 => h9) rfl hin rfl (by decide +kernel) rfl rfl (Nat.le_of_ble_eq_true rfl) d_Pl_init_57 (fun H locs hP hD hS => ?_)
  have hP : va_P (dC, dI) classes [(q_t, .inr (1, [.int 0, .ref q7, .ref q15, .ref q23, .ref q31, .ref q39, .ref q47, .ref q55, .null, .int 0, .null, .null, .null, .null, .null])), (q7, .inl (cI, 40, .inl (fun _ => 0))), (q15, .inl (cI, 40, .inl (fun _ => 0))), (q23, .inl (cI, 40, .inl (fun _ => 0))), (q31, .inl (cI, 40, .inl (fun _ => 0))), (q39, .inl (cI, 40, .inl (fun _ => 0))), (q47, .inl (cI, 40, .inl (fun _ => 0))), (q55, .inl (cI, 40, .inl (fun _ => 0)))] H := hP
  have hD : va_D A [(q_t, .inr (1, [.int 0, .ref q7, .ref q15, .ref q23, .ref q31, .ref q39, .ref q47, .ref q55, .null, .int 0, .null, .null, .null, .null, .null])), (q7, .inl (cI, 40, .inl (fun _ => 0))), (q15, .inl (cI, 40, .inl (fun _ => 0))), (q23, .inl (cI, 40, .inl (fun _ => 0))), (q31, .inl (cI, 40, .inl (fun _ => 0))), (q39, .inl (cI, 40, .inl (fun _ => 0))), (q47, .inl (cI, 40, .inl (fun _ => 0))), (q55, .inl (cI, 40, .inl (fun _ => 0)))] := hD
  refine lv_aload_n hx hb d_Pl_init_60 rfl (lv_at hl 0 rfl) ?_
  refine lv_sipush (v := 160) hx hb d_Pl_init_61 (by decide) ?_
  refine va_newa (atype := .int) (ty := .int) (n := 160) (N' := 160) (a0 := (160, .inl (fun _ => 0))) hx hb (hts (Cond.arrayClass .int) kw96_32e41f5) rfl hK hP hD hS hA (fun _ => rfl) (by decide) (by decide) (by decide) (Nat.le_of_ble_eq_true rfl) (Nat.le_of_ble_eq_true rfl) d_Pl_init_64 (fun q64 cA64 H hK9 hP hD hS => ?_)
  have e9 : cI = cA64 := gn_arr hK9 0 3 rfl rfl
  subst e9
  have hP : va_P (dC, dI) classes [(q_t, .inr (1, [.int 0, .ref q7, .ref q15, .ref q23, .ref q31, .ref q39, .ref q47, .ref q55, .null, .int 0, .null, .null, .null, .null, .null])), (q7, .inl (cI, 40, .inl (fun _ => 0))), (q15, .inl (cI, 40, .inl (fun _ => 0))), (q23, .inl (cI, 40, .inl (fun _ => 0))), (q31, .inl (cI, 40, .inl (fun _ => 0))), (q39, .inl (cI, 40, .inl (fun _ => 0))), (q47, .inl (cI, 40, .inl (fun _ => 0))), (q55, .inl (cI, 40, .inl (fun _ => 0))), (q64, .inl (cI, 160, .inl (fun _ => 0)))] H := hP
  have hD : va_D A [(q_t, .inr (1, [.int 0, .ref q7, .ref q15, .ref q23, .ref q31, .ref q39, .ref q47, .ref q55, .null, .int 0, .null, .null, .null, .null, .null])), (q7, .inl (cI, 40, .inl (fun _ => 0))), (q15, .inl (cI, 40, .inl (fun _ => 0))), (q23, .inl (cI, 40, .inl (fun _ => 0))), (q31, .inl (cI, 40, .inl (fun _ => 0))), (q39, .inl (cI, 40, .inl (fun _ => 0))), (q47, .inl (cI, 40, .inl (fun _ => 0))), (q55, .inl (cI, 40, .inl (fun _ => 0))), (q64, .inl (cI, 160, .inl (fun _ => 0)))] := hD
  refine va_putF (D := (dC, dI)) (ci := 1) (v := .ref q64) (ty := .array .int) (C := R_Pl) (T := F_Pl) (N := 15) hx hb hts i_Pl t_Pl t_Pl_ok n_Pl hown hK hP hD hS 0 rfl rfl 8 (by decide) (hts (Cond.fieldLink R_Pl 33 "PlantGraph$Plant" "endAtPort" "[I") kw96_494cd3a) (fun _ h9 => h9) rfl hin rfl (by decide +kernel) rfl rfl (Nat.le_of_ble_eq_true rfl) d_Pl_init_66 (fun H locs hP hD hS => ?_)
  have hP : va_P (dC, dI) classes [(q_t, .inr (1, [.int 0, .ref q7, .ref q15, .ref q23, .ref q31, .ref q39, .ref q47, .ref q55, .ref q64, .int 0, .null, .null, .null, .null, .null])), (q7, .inl (cI, 40, .inl (fun _ => 0))), (q15, .inl (cI, 40, .inl (fun _ => 0))), (q23, .inl (cI, 40, .inl (fun _ => 0))), (q31, .inl (cI, 40, .inl (fun _ => 0))), (q39, .inl (cI, 40, .inl (fun _ => 0))), (q47, .inl (cI, 40, .inl (fun _ => 0))), (q55, .inl (cI, 40, .inl (fun _ => 0))), (q64, .inl (cI, 160, .inl (fun _ => 0)))] H := hP
  have hD : va_D A [(q_t, .inr (1, [.int 0, .ref q7, .ref q15, .ref q23, .ref q31, .ref q39, .ref q47, .ref q55, .ref q64, .int 0, .null, .null, .null, .null, .null])), (q7, .inl (cI, 40, .inl (fun _ => 0))), (q15, .inl (cI, 40, .inl (fun _ => 0))), (q23, .inl (cI, 40, .inl (fun _ => 0))), (q31, .inl (cI, 40, .inl (fun _ => 0))), (q39, .inl (cI, 40, .inl (fun _ => 0))), (q47, .inl (cI, 40, .inl (fun _ => 0))), (q55, .inl (cI, 40, .inl (fun _ => 0))), (q64, .inl (cI, 160, .inl (fun _ => 0)))] := hD
  refine lv_aload_n hx hb d_Pl_init_69 rfl (lv_at hl 0 rfl) ?_
  refine lv_bipush (v := 60) hx hb d_Pl_init_70 (by decide) ?_
  refine va_newa (atype := .int) (ty := .int) (n := 60) (N' := 60) (a0 := (60, .inl (fun _ => 0))) hx hb (hts (Cond.arrayClass .int) kw96_32e41f5) rfl hK hP hD hS hA (fun _ => rfl) (by decide) (by decide) (by decide) (Nat.le_of_ble_eq_true rfl) (Nat.le_of_ble_eq_true rfl) d_Pl_init_72 (fun q72 cA72 H hK9 hP hD hS => ?_)
  have e9 : cI = cA72 := gn_arr hK9 0 3 rfl rfl
  subst e9
  have hP : va_P (dC, dI) classes [(q_t, .inr (1, [.int 0, .ref q7, .ref q15, .ref q23, .ref q31, .ref q39, .ref q47, .ref q55, .ref q64, .int 0, .null, .null, .null, .null, .null])), (q7, .inl (cI, 40, .inl (fun _ => 0))), (q15, .inl (cI, 40, .inl (fun _ => 0))), (q23, .inl (cI, 40, .inl (fun _ => 0))), (q31, .inl (cI, 40, .inl (fun _ => 0))), (q39, .inl (cI, 40, .inl (fun _ => 0))), (q47, .inl (cI, 40, .inl (fun _ => 0))), (q55, .inl (cI, 40, .inl (fun _ => 0))), (q64, .inl (cI, 160, .inl (fun _ => 0))), (q72, .inl (cI, 60, .inl (fun _ => 0)))] H := hP
  have hD : va_D A [(q_t, .inr (1, [.int 0, .ref q7, .ref q15, .ref q23, .ref q31, .ref q39, .ref q47, .ref q55, .ref q64, .int 0, .null, .null, .null, .null, .null])), (q7, .inl (cI, 40, .inl (fun _ => 0))), (q15, .inl (cI, 40, .inl (fun _ => 0))), (q23, .inl (cI, 40, .inl (fun _ => 0))), (q31, .inl (cI, 40, .inl (fun _ => 0))), (q39, .inl (cI, 40, .inl (fun _ => 0))), (q47, .inl (cI, 40, .inl (fun _ => 0))), (q55, .inl (cI, 40, .inl (fun _ => 0))), (q64, .inl (cI, 160, .inl (fun _ => 0))), (q72, .inl (cI, 60, .inl (fun _ => 0)))] := hD
  refine va_putF (D := (dC, dI)) (ci := 1) (v := .ref q72) (ty := .array .int) (C := R_Pl) (T := F_Pl) (N := 15) hx hb hts i_Pl t_Pl t_Pl_ok n_Pl hown hK hP hD hS 0 rfl rfl 10 (by decide) (hts (Cond.fieldLink R_Pl 36 "PlantGraph$Plant" "pipeLitres" "[I") kw96_9698590) (fun _ h9 => h9) rfl hin rfl (by decide +kernel) rfl rfl (Nat.le_of_ble_eq_true rfl) d_Pl_init_74 (fun H locs hP hD hS => ?_)
  have hP : va_P (dC, dI) classes [(q_t, .inr (1, [.int 0, .ref q7, .ref q15, .ref q23, .ref q31, .ref q39, .ref q47, .ref q55, .ref q64, .int 0, .ref q72, .null, .null, .null, .null])), (q7, .inl (cI, 40, .inl (fun _ => 0))), (q15, .inl (cI, 40, .inl (fun _ => 0))), (q23, .inl (cI, 40, .inl (fun _ => 0))), (q31, .inl (cI, 40, .inl (fun _ => 0))), (q39, .inl (cI, 40, .inl (fun _ => 0))), (q47, .inl (cI, 40, .inl (fun _ => 0))), (q55, .inl (cI, 40, .inl (fun _ => 0))), (q64, .inl (cI, 160, .inl (fun _ => 0))), (q72, .inl (cI, 60, .inl (fun _ => 0)))] H := hP
  have hD : va_D A [(q_t, .inr (1, [.int 0, .ref q7, .ref q15, .ref q23, .ref q31, .ref q39, .ref q47, .ref q55, .ref q64, .int 0, .ref q72, .null, .null, .null, .null])), (q7, .inl (cI, 40, .inl (fun _ => 0))), (q15, .inl (cI, 40, .inl (fun _ => 0))), (q23, .inl (cI, 40, .inl (fun _ => 0))), (q31, .inl (cI, 40, .inl (fun _ => 0))), (q39, .inl (cI, 40, .inl (fun _ => 0))), (q47, .inl (cI, 40, .inl (fun _ => 0))), (q55, .inl (cI, 40, .inl (fun _ => 0))), (q64, .inl (cI, 160, .inl (fun _ => 0))), (q72, .inl (cI, 60, .inl (fun _ => 0)))] := hD
  refine lv_aload_n hx hb d_Pl_init_77 rfl (lv_at hl 0 rfl) ?_
  refine lv_bipush (v := 120) hx hb d_Pl_init_78 (by decide) ?_
  refine va_newa (atype := .int) (ty := .int) (n := 120) (N' := 120) (a0 := (120, .inl (fun _ => 0))) hx hb (hts (Cond.arrayClass .int) kw96_32e41f5) rfl hK hP hD hS hA (fun _ => rfl) (by decide) (by decide) (by decide) (Nat.le_of_ble_eq_true rfl) (Nat.le_of_ble_eq_true rfl) d_Pl_init_80 (fun q80 cA80 H hK9 hP hD hS => ?_)
  have e9 : cI = cA80 := gn_arr hK9 0 3 rfl rfl
  subst e9
  have hP : va_P (dC, dI) classes [(q_t, .inr (1, [.int 0, .ref q7, .ref q15, .ref q23, .ref q31, .ref q39, .ref q47, .ref q55, .ref q64, .int 0, .ref q72, .null, .null, .null, .null])), (q7, .inl (cI, 40, .inl (fun _ => 0))), (q15, .inl (cI, 40, .inl (fun _ => 0))), (q23, .inl (cI, 40, .inl (fun _ => 0))), (q31, .inl (cI, 40, .inl (fun _ => 0))), (q39, .inl (cI, 40, .inl (fun _ => 0))), (q47, .inl (cI, 40, .inl (fun _ => 0))), (q55, .inl (cI, 40, .inl (fun _ => 0))), (q64, .inl (cI, 160, .inl (fun _ => 0))), (q72, .inl (cI, 60, .inl (fun _ => 0))), (q80, .inl (cI, 120, .inl (fun _ => 0)))] H := hP
  have hD : va_D A [(q_t, .inr (1, [.int 0, .ref q7, .ref q15, .ref q23, .ref q31, .ref q39, .ref q47, .ref q55, .ref q64, .int 0, .ref q72, .null, .null, .null, .null])), (q7, .inl (cI, 40, .inl (fun _ => 0))), (q15, .inl (cI, 40, .inl (fun _ => 0))), (q23, .inl (cI, 40, .inl (fun _ => 0))), (q31, .inl (cI, 40, .inl (fun _ => 0))), (q39, .inl (cI, 40, .inl (fun _ => 0))), (q47, .inl (cI, 40, .inl (fun _ => 0))), (q55, .inl (cI, 40, .inl (fun _ => 0))), (q64, .inl (cI, 160, .inl (fun _ => 0))), (q72, .inl (cI, 60, .inl (fun _ => 0))), (q80, .inl (cI, 120, .inl (fun _ => 0)))] := hD
  refine va_putF (D := (dC, dI)) (ci := 1) (v := .ref q80) (ty := .array .int) (C := R_Pl) (T := F_Pl) (N := 15) hx hb hts i_Pl t_Pl t_Pl_ok n_Pl hown hK hP hD hS 0 rfl rfl 11 (by decide) (hts (Cond.fieldLink R_Pl 39 "PlantGraph$Plant" "thingAtEnd" "[I") kw96_1e13089) (fun _ h9 => h9) rfl hin rfl (by decide +kernel) rfl rfl (Nat.le_of_ble_eq_true rfl) d_Pl_init_82 (fun H locs hP hD hS => ?_)
  have hP : va_P (dC, dI) classes [(q_t, .inr (1, [.int 0, .ref q7, .ref q15, .ref q23, .ref q31, .ref q39, .ref q47, .ref q55, .ref q64, .int 0, .ref q72, .ref q80, .null, .null, .null])), (q7, .inl (cI, 40, .inl (fun _ => 0))), (q15, .inl (cI, 40, .inl (fun _ => 0))), (q23, .inl (cI, 40, .inl (fun _ => 0))), (q31, .inl (cI, 40, .inl (fun _ => 0))), (q39, .inl (cI, 40, .inl (fun _ => 0))), (q47, .inl (cI, 40, .inl (fun _ => 0))), (q55, .inl (cI, 40, .inl (fun _ => 0))), (q64, .inl (cI, 160, .inl (fun _ => 0))), (q72, .inl (cI, 60, .inl (fun _ => 0))), (q80, .inl (cI, 120, .inl (fun _ => 0)))] H := hP
  have hD : va_D A [(q_t, .inr (1, [.int 0, .ref q7, .ref q15, .ref q23, .ref q31, .ref q39, .ref q47, .ref q55, .ref q64, .int 0, .ref q72, .ref q80, .null, .null, .null])), (q7, .inl (cI, 40, .inl (fun _ => 0))), (q15, .inl (cI, 40, .inl (fun _ => 0))), (q23, .inl (cI, 40, .inl (fun _ => 0))), (q31, .inl (cI, 40, .inl (fun _ => 0))), (q39, .inl (cI, 40, .inl (fun _ => 0))), (q47, .inl (cI, 40, .inl (fun _ => 0))), (q55, .inl (cI, 40, .inl (fun _ => 0))), (q64, .inl (cI, 160, .inl (fun _ => 0))), (q72, .inl (cI, 60, .inl (fun _ => 0))), (q80, .inl (cI, 120, .inl (fun _ => 0)))] := hD
  refine lv_aload_n hx hb d_Pl_init_85 rfl (lv_at hl 0 rfl) ?_
  refine lv_bipush (v := 120) hx hb d_Pl_init_86 (by decide) ?_
  refine va_newa (atype := .int) (ty := .int) (n := 120) (N' := 120) (a0 := (120, .inl (fun _ => 0))) hx hb (hts (Cond.arrayClass .int) kw96_32e41f5) rfl hK hP hD hS hA (fun _ => rfl) (by decide) (by decide) (by decide) (Nat.le_of_ble_eq_true rfl) (Nat.le_of_ble_eq_true rfl) d_Pl_init_88 (fun q88 cA88 H hK9 hP hD hS => ?_)
  have e9 : cI = cA88 := gn_arr hK9 0 3 rfl rfl
  subst e9
  have hP : va_P (dC, dI) classes [(q_t, .inr (1, [.int 0, .ref q7, .ref q15, .ref q23, .ref q31, .ref q39, .ref q47, .ref q55, .ref q64, .int 0, .ref q72, .ref q80, .null, .null, .null])), (q7, .inl (cI, 40, .inl (fun _ => 0))), (q15, .inl (cI, 40, .inl (fun _ => 0))), (q23, .inl (cI, 40, .inl (fun _ => 0))), (q31, .inl (cI, 40, .inl (fun _ => 0))), (q39, .inl (cI, 40, .inl (fun _ => 0))), (q47, .inl (cI, 40, .inl (fun _ => 0))), (q55, .inl (cI, 40, .inl (fun _ => 0))), (q64, .inl (cI, 160, .inl (fun _ => 0))), (q72, .inl (cI, 60, .inl (fun _ => 0))), (q80, .inl (cI, 120, .inl (fun _ => 0))), (q88, .inl (cI, 120, .inl (fun _ => 0)))] H := hP
  have hD : va_D A [(q_t, .inr (1, [.int 0, .ref q7, .ref q15, .ref q23, .ref q31, .ref q39, .ref q47, .ref q55, .ref q64, .int 0, .ref q72, .ref q80, .null, .null, .null])), (q7, .inl (cI, 40, .inl (fun _ => 0))), (q15, .inl (cI, 40, .inl (fun _ => 0))), (q23, .inl (cI, 40, .inl (fun _ => 0))), (q31, .inl (cI, 40, .inl (fun _ => 0))), (q39, .inl (cI, 40, .inl (fun _ => 0))), (q47, .inl (cI, 40, .inl (fun _ => 0))), (q55, .inl (cI, 40, .inl (fun _ => 0))), (q64, .inl (cI, 160, .inl (fun _ => 0))), (q72, .inl (cI, 60, .inl (fun _ => 0))), (q80, .inl (cI, 120, .inl (fun _ => 0))), (q88, .inl (cI, 120, .inl (fun _ => 0)))] := hD
  refine va_putF (D := (dC, dI)) (ci := 1) (v := .ref q88) (ty := .array .int) (C := R_Pl) (T := F_Pl) (N := 15) hx hb hts i_Pl t_Pl t_Pl_ok n_Pl hown hK hP hD hS 0 rfl rfl 12 (by decide) (hts (Cond.fieldLink R_Pl 42 "PlantGraph$Plant" "portAtEnd" "[I") kw96_5601ff4) (fun _ h9 => h9) rfl hin rfl (by decide +kernel) rfl rfl (Nat.le_of_ble_eq_true rfl) d_Pl_init_90 (fun H locs hP hD hS => ?_)
  have hP : va_P (dC, dI) classes [(q_t, .inr (1, [.int 0, .ref q7, .ref q15, .ref q23, .ref q31, .ref q39, .ref q47, .ref q55, .ref q64, .int 0, .ref q72, .ref q80, .ref q88, .null, .null])), (q7, .inl (cI, 40, .inl (fun _ => 0))), (q15, .inl (cI, 40, .inl (fun _ => 0))), (q23, .inl (cI, 40, .inl (fun _ => 0))), (q31, .inl (cI, 40, .inl (fun _ => 0))), (q39, .inl (cI, 40, .inl (fun _ => 0))), (q47, .inl (cI, 40, .inl (fun _ => 0))), (q55, .inl (cI, 40, .inl (fun _ => 0))), (q64, .inl (cI, 160, .inl (fun _ => 0))), (q72, .inl (cI, 60, .inl (fun _ => 0))), (q80, .inl (cI, 120, .inl (fun _ => 0))), (q88, .inl (cI, 120, .inl (fun _ => 0)))] H := hP
  have hD : va_D A [(q_t, .inr (1, [.int 0, .ref q7, .ref q15, .ref q23, .ref q31, .ref q39, .ref q47, .ref q55, .ref q64, .int 0, .ref q72, .ref q80, .ref q88, .null, .null])), (q7, .inl (cI, 40, .inl (fun _ => 0))), (q15, .inl (cI, 40, .inl (fun _ => 0))), (q23, .inl (cI, 40, .inl (fun _ => 0))), (q31, .inl (cI, 40, .inl (fun _ => 0))), (q39, .inl (cI, 40, .inl (fun _ => 0))), (q47, .inl (cI, 40, .inl (fun _ => 0))), (q55, .inl (cI, 40, .inl (fun _ => 0))), (q64, .inl (cI, 160, .inl (fun _ => 0))), (q72, .inl (cI, 60, .inl (fun _ => 0))), (q80, .inl (cI, 120, .inl (fun _ => 0))), (q88, .inl (cI, 120, .inl (fun _ => 0)))] := hD
  refine lv_aload_n hx hb d_Pl_init_93 rfl (lv_at hl 0 rfl) ?_
  refine lv_bipush (v := 120) hx hb d_Pl_init_94 (by decide) ?_
  refine va_newa (atype := .int) (ty := .int) (n := 120) (N' := 120) (a0 := (120, .inl (fun _ => 0))) hx hb (hts (Cond.arrayClass .int) kw96_32e41f5) rfl hK hP hD hS hA (fun _ => rfl) (by decide) (by decide) (by decide) (Nat.le_of_ble_eq_true rfl) (Nat.le_of_ble_eq_true rfl) d_Pl_init_96 (fun q96 cA96 H hK9 hP hD hS => ?_)
  have e9 : cI = cA96 := gn_arr hK9 0 3 rfl rfl
  subst e9
  have hP : va_P (dC, dI) classes [(q_t, .inr (1, [.int 0, .ref q7, .ref q15, .ref q23, .ref q31, .ref q39, .ref q47, .ref q55, .ref q64, .int 0, .ref q72, .ref q80, .ref q88, .null, .null])), (q7, .inl (cI, 40, .inl (fun _ => 0))), (q15, .inl (cI, 40, .inl (fun _ => 0))), (q23, .inl (cI, 40, .inl (fun _ => 0))), (q31, .inl (cI, 40, .inl (fun _ => 0))), (q39, .inl (cI, 40, .inl (fun _ => 0))), (q47, .inl (cI, 40, .inl (fun _ => 0))), (q55, .inl (cI, 40, .inl (fun _ => 0))), (q64, .inl (cI, 160, .inl (fun _ => 0))), (q72, .inl (cI, 60, .inl (fun _ => 0))), (q80, .inl (cI, 120, .inl (fun _ => 0))), (q88, .inl (cI, 120, .inl (fun _ => 0))), (q96, .inl (cI, 120, .inl (fun _ => 0)))] H := hP
  have hD : va_D A [(q_t, .inr (1, [.int 0, .ref q7, .ref q15, .ref q23, .ref q31, .ref q39, .ref q47, .ref q55, .ref q64, .int 0, .ref q72, .ref q80, .ref q88, .null, .null])), (q7, .inl (cI, 40, .inl (fun _ => 0))), (q15, .inl (cI, 40, .inl (fun _ => 0))), (q23, .inl (cI, 40, .inl (fun _ => 0))), (q31, .inl (cI, 40, .inl (fun _ => 0))), (q39, .inl (cI, 40, .inl (fun _ => 0))), (q47, .inl (cI, 40, .inl (fun _ => 0))), (q55, .inl (cI, 40, .inl (fun _ => 0))), (q64, .inl (cI, 160, .inl (fun _ => 0))), (q72, .inl (cI, 60, .inl (fun _ => 0))), (q80, .inl (cI, 120, .inl (fun _ => 0))), (q88, .inl (cI, 120, .inl (fun _ => 0))), (q96, .inl (cI, 120, .inl (fun _ => 0)))] := hD
  refine va_putF (D := (dC, dI)) (ci := 1) (v := .ref q96) (ty := .array .int) (C := R_Pl) (T := F_Pl) (N := 15) hx hb hts i_Pl t_Pl t_Pl_ok n_Pl hown hK hP hD hS 0 rfl rfl 13 (by decide) (hts (Cond.fieldLink R_Pl 45 "PlantGraph$Plant" "bendAtEnd" "[I") kw96_ff072c0) (fun _ h9 => h9) rfl hin rfl (by decide +kernel) rfl rfl (Nat.le_of_ble_eq_true rfl) d_Pl_init_98 (fun H locs hP hD hS => ?_)
  have hP : va_P (dC, dI) classes [(q_t, .inr (1, [.int 0, .ref q7, .ref q15, .ref q23, .ref q31, .ref q39, .ref q47, .ref q55, .ref q64, .int 0, .ref q72, .ref q80, .ref q88, .ref q96, .null])), (q7, .inl (cI, 40, .inl (fun _ => 0))), (q15, .inl (cI, 40, .inl (fun _ => 0))), (q23, .inl (cI, 40, .inl (fun _ => 0))), (q31, .inl (cI, 40, .inl (fun _ => 0))), (q39, .inl (cI, 40, .inl (fun _ => 0))), (q47, .inl (cI, 40, .inl (fun _ => 0))), (q55, .inl (cI, 40, .inl (fun _ => 0))), (q64, .inl (cI, 160, .inl (fun _ => 0))), (q72, .inl (cI, 60, .inl (fun _ => 0))), (q80, .inl (cI, 120, .inl (fun _ => 0))), (q88, .inl (cI, 120, .inl (fun _ => 0))), (q96, .inl (cI, 120, .inl (fun _ => 0)))] H := hP
  have hD : va_D A [(q_t, .inr (1, [.int 0, .ref q7, .ref q15, .ref q23, .ref q31, .ref q39, .ref q47, .ref q55, .ref q64, .int 0, .ref q72, .ref q80, .ref q88, .ref q96, .null])), (q7, .inl (cI, 40, .inl (fun _ => 0))), (q15, .inl (cI, 40, .inl (fun _ => 0))), (q23, .inl (cI, 40, .inl (fun _ => 0))), (q31, .inl (cI, 40, .inl (fun _ => 0))), (q39, .inl (cI, 40, .inl (fun _ => 0))), (q47, .inl (cI, 40, .inl (fun _ => 0))), (q55, .inl (cI, 40, .inl (fun _ => 0))), (q64, .inl (cI, 160, .inl (fun _ => 0))), (q72, .inl (cI, 60, .inl (fun _ => 0))), (q80, .inl (cI, 120, .inl (fun _ => 0))), (q88, .inl (cI, 120, .inl (fun _ => 0))), (q96, .inl (cI, 120, .inl (fun _ => 0)))] := hD
  refine lv_aload_n hx hb d_Pl_init_101 rfl (lv_at hl 0 rfl) ?_
  refine va_new (ci := 2) (fs := [.null]) (C := R_Li) (T := F_Li) (N := 1) hx hb hts i_Li t_Li t_Li_ok hown (hts (Cond.classLink R_Pl 48 R_Li) kw96_d7966e9) (hts (Cond.instantiable R_Li 1) kw96_a47d698) (hts (Cond.initialized R_Li) kw96_59924f3) hK hP hD hS hA rfl (fun j hj => by rcases (show j = 0 by omega) with rfl <;> rfl) (Nat.le_of_ble_eq_true rfl) (Nat.le_of_ble_eq_true rfl) d_Pl_init_102 (fun q102 H hP hD hS => ?_)
  have hP : va_P (dC, dI) classes [(q_t, .inr (1, [.int 0, .ref q7, .ref q15, .ref q23, .ref q31, .ref q39, .ref q47, .ref q55, .ref q64, .int 0, .ref q72, .ref q80, .ref q88, .ref q96, .null])), (q7, .inl (cI, 40, .inl (fun _ => 0))), (q15, .inl (cI, 40, .inl (fun _ => 0))), (q23, .inl (cI, 40, .inl (fun _ => 0))), (q31, .inl (cI, 40, .inl (fun _ => 0))), (q39, .inl (cI, 40, .inl (fun _ => 0))), (q47, .inl (cI, 40, .inl (fun _ => 0))), (q55, .inl (cI, 40, .inl (fun _ => 0))), (q64, .inl (cI, 160, .inl (fun _ => 0))), (q72, .inl (cI, 60, .inl (fun _ => 0))), (q80, .inl (cI, 120, .inl (fun _ => 0))), (q88, .inl (cI, 120, .inl (fun _ => 0))), (q96, .inl (cI, 120, .inl (fun _ => 0))), (q102, .inr (2, [.null]))] H := hP
  have hD : va_D A [(q_t, .inr (1, [.int 0, .ref q7, .ref q15, .ref q23, .ref q31, .ref q39, .ref q47, .ref q55, .ref q64, .int 0, .ref q72, .ref q80, .ref q88, .ref q96, .null])), (q7, .inl (cI, 40, .inl (fun _ => 0))), (q15, .inl (cI, 40, .inl (fun _ => 0))), (q23, .inl (cI, 40, .inl (fun _ => 0))), (q31, .inl (cI, 40, .inl (fun _ => 0))), (q39, .inl (cI, 40, .inl (fun _ => 0))), (q47, .inl (cI, 40, .inl (fun _ => 0))), (q55, .inl (cI, 40, .inl (fun _ => 0))), (q64, .inl (cI, 160, .inl (fun _ => 0))), (q72, .inl (cI, 60, .inl (fun _ => 0))), (q80, .inl (cI, 120, .inl (fun _ => 0))), (q88, .inl (cI, 120, .inl (fun _ => 0))), (q96, .inl (cI, 120, .inl (fun _ => 0))), (q102, .inr (2, [.null]))] := hD
  refine lv_dup hx hb d_Pl_init_105 rfl ?_
  have hPc := hP.sub (ws' := [(q102, .inr (2, [.null]))]) [13] rfl
  have hDc := hD.sub (ws' := [(q102, .inr (2, [.null]))]) [13] (by decide) rfl
  have hFc := va_free (wc := [(q102, .inr (2, [.null]))]) hD hS hA [13] rfl
  refine va_callv (va_runIN (As := []) (rest := [.ref q102, .ref q_t]) ⟨hx, hb, hml, hown, hts⟩ (c_Li_init l dC dI cI cL cB q102 H.size) ⟨my_cn 0 hts kw96_0db2ffa kw96_59924f3 kw96_ba86722 rfl rfl (by decide +kernel) ⟨Nat.le_of_ble_eq_true rfl, Nat.le_of_ble_eq_true rfl⟩, rfl, (hts (Cond.instanceMethod y_Li_init) kw96_54923eb)⟩ ⟨fun a U g mk q => by obtain ⟨q0, q1, qP, qK, qD⟩ := q; exact ⟨q0, q1, qP, va_K.moved (u := U) (U := U.calling g mk a) (Vm.Alike.refl U.vm) qK, qD⟩, fun U hU hW => ⟨rfl, by rw [hU], by rw [hU]; exact hPc, va_K.moved hW.alike hK, hDc.weaken (fun _ _ _ _ => trivial)⟩⟩ rfl rfl hl.1 rfl (lv_room (Nat.le_of_ble_eq_true rfl)) d_Pl_init_106 ⟨Nat.le_of_ble_eq_true rfl, Nat.le_of_ble_eq_true rfl⟩) hS (fun q _ h => hFc q h) hFc (fun u t H locs ht hvm hw hB hz1 hk1 hS => ?_)
  obtain ⟨q8_106, hP1, hK1, hD1⟩ := hB
  rw [ht] at hP1
  obtain ⟨hP, hD⟩ := va_join (wr := [(q_t, .inr (1, [.int 0, .ref q7, .ref q15, .ref q23, .ref q31, .ref q39, .ref q47, .ref q55, .ref q64, .int 0, .ref q72, .ref q80, .ref q88, .ref q96, .null])), (q7, .inl (cI, 40, .inl (fun _ => 0))), (q15, .inl (cI, 40, .inl (fun _ => 0))), (q23, .inl (cI, 40, .inl (fun _ => 0))), (q31, .inl (cI, 40, .inl (fun _ => 0))), (q39, .inl (cI, 40, .inl (fun _ => 0))), (q47, .inl (cI, 40, .inl (fun _ => 0))), (q55, .inl (cI, 40, .inl (fun _ => 0))), (q64, .inl (cI, 160, .inl (fun _ => 0))), (q72, .inl (cI, 60, .inl (fun _ => 0))), (q80, .inl (cI, 120, .inl (fun _ => 0))), (q88, .inl (cI, 120, .inl (fun _ => 0))), (q96, .inl (cI, 120, .inl (fun _ => 0)))]) (w1 := [(q102, .inr (2, [.ref q8_106])), (q8_106, .inl (cL, 750, .inr (.inl (fun _ => 0))))]) hP hD [13] [0, 1, 2, 3, 4, 5, 6, 7, 8, 9, 10, 11, 12] rfl rfl (by decide) (by decide) hk1 hFc hP1 hD1
  have hP : va_P (dC, dI) classes [(q_t, .inr (1, [.int 0, .ref q7, .ref q15, .ref q23, .ref q31, .ref q39, .ref q47, .ref q55, .ref q64, .int 0, .ref q72, .ref q80, .ref q88, .ref q96, .null])), (q7, .inl (cI, 40, .inl (fun _ => 0))), (q15, .inl (cI, 40, .inl (fun _ => 0))), (q23, .inl (cI, 40, .inl (fun _ => 0))), (q31, .inl (cI, 40, .inl (fun _ => 0))), (q39, .inl (cI, 40, .inl (fun _ => 0))), (q47, .inl (cI, 40, .inl (fun _ => 0))), (q55, .inl (cI, 40, .inl (fun _ => 0))), (q64, .inl (cI, 160, .inl (fun _ => 0))), (q72, .inl (cI, 60, .inl (fun _ => 0))), (q80, .inl (cI, 120, .inl (fun _ => 0))), (q88, .inl (cI, 120, .inl (fun _ => 0))), (q96, .inl (cI, 120, .inl (fun _ => 0))), (q102, .inr (2, [.ref q8_106])), (q8_106, .inl (cL, 750, .inr (.inl (fun _ => 0))))] H := hP
  have hD : va_D A [(q_t, .inr (1, [.int 0, .ref q7, .ref q15, .ref q23, .ref q31, .ref q39, .ref q47, .ref q55, .ref q64, .int 0, .ref q72, .ref q80, .ref q88, .ref q96, .null])), (q7, .inl (cI, 40, .inl (fun _ => 0))), (q15, .inl (cI, 40, .inl (fun _ => 0))), (q23, .inl (cI, 40, .inl (fun _ => 0))), (q31, .inl (cI, 40, .inl (fun _ => 0))), (q39, .inl (cI, 40, .inl (fun _ => 0))), (q47, .inl (cI, 40, .inl (fun _ => 0))), (q55, .inl (cI, 40, .inl (fun _ => 0))), (q64, .inl (cI, 160, .inl (fun _ => 0))), (q72, .inl (cI, 60, .inl (fun _ => 0))), (q80, .inl (cI, 120, .inl (fun _ => 0))), (q88, .inl (cI, 120, .inl (fun _ => 0))), (q96, .inl (cI, 120, .inl (fun _ => 0))), (q102, .inr (2, [.ref q8_106])), (q8_106, .inl (cL, 750, .inr (.inl (fun _ => 0))))] := hD
  refine va_putF (D := (dC, dI)) (ci := 1) (v := .ref q102) (ty := .object "PlantGraph$Litres") (C := R_Pl) (T := F_Pl) (N := 15) hx hb hts i_Pl t_Pl t_Pl_ok n_Pl hown hK hP hD hS 0 rfl rfl 14 (by decide) (hts (Cond.fieldLink R_Pl 51 "PlantGraph$Plant" "inPipes" "LPlantGraph$Litres;") kw96_11754c3) (fun _ h9 => h9) rfl hin rfl (by decide +kernel) rfl rfl (Nat.le_of_ble_eq_true rfl) d_Pl_init_109 (fun H locs hP hD hS => ?_)
  have hP : va_P (dC, dI) classes [(q_t, .inr (1, [.int 0, .ref q7, .ref q15, .ref q23, .ref q31, .ref q39, .ref q47, .ref q55, .ref q64, .int 0, .ref q72, .ref q80, .ref q88, .ref q96, .ref q102])), (q7, .inl (cI, 40, .inl (fun _ => 0))), (q15, .inl (cI, 40, .inl (fun _ => 0))), (q23, .inl (cI, 40, .inl (fun _ => 0))), (q31, .inl (cI, 40, .inl (fun _ => 0))), (q39, .inl (cI, 40, .inl (fun _ => 0))), (q47, .inl (cI, 40, .inl (fun _ => 0))), (q55, .inl (cI, 40, .inl (fun _ => 0))), (q64, .inl (cI, 160, .inl (fun _ => 0))), (q72, .inl (cI, 60, .inl (fun _ => 0))), (q80, .inl (cI, 120, .inl (fun _ => 0))), (q88, .inl (cI, 120, .inl (fun _ => 0))), (q96, .inl (cI, 120, .inl (fun _ => 0))), (q102, .inr (2, [.ref q8_106])), (q8_106, .inl (cL, 750, .inr (.inl (fun _ => 0))))] H := hP
  have hD : va_D A [(q_t, .inr (1, [.int 0, .ref q7, .ref q15, .ref q23, .ref q31, .ref q39, .ref q47, .ref q55, .ref q64, .int 0, .ref q72, .ref q80, .ref q88, .ref q96, .ref q102])), (q7, .inl (cI, 40, .inl (fun _ => 0))), (q15, .inl (cI, 40, .inl (fun _ => 0))), (q23, .inl (cI, 40, .inl (fun _ => 0))), (q31, .inl (cI, 40, .inl (fun _ => 0))), (q39, .inl (cI, 40, .inl (fun _ => 0))), (q47, .inl (cI, 40, .inl (fun _ => 0))), (q55, .inl (cI, 40, .inl (fun _ => 0))), (q64, .inl (cI, 160, .inl (fun _ => 0))), (q72, .inl (cI, 60, .inl (fun _ => 0))), (q80, .inl (cI, 120, .inl (fun _ => 0))), (q88, .inl (cI, 120, .inl (fun _ => 0))), (q96, .inl (cI, 120, .inl (fun _ => 0))), (q102, .inr (2, [.ref q8_106])), (q8_106, .inl (cL, 750, .inr (.inl (fun _ => 0))))] := hD
  refine W.widen (k := 14) (n := 1611) (Nat.le_of_ble_eq_true rfl) (Nat.le_of_ble_eq_true rfl) ?_
  exact W.vret hx hb hr (fun t ht hW => ⟨⟨(), rfl, trivial, q7, q15, q23, q31, q39, q47, q55, q64, q72, q80, q88, q96, q102, q8_106, by rw [ht]; exact hP, va_K.moved hW.alike hK, hD⟩, hS.F ht⟩) hS.2.2 d_Pl_init_112
def w_Wa_init : List Cond := .code y_Wa_init b_Wa_init 1 none :: tb
abbrev rm_Wa_init : Room := { frames := 1, cells := 3, slots := 280, locals := 12 }
set_option maxHeartbeats 4000000 in
set_option maxRecDepth 100000 in
theorem c_Wa_init (l : Launch) (dC : Nat → ClassId) (dI : Nat → Nat → Nat) (cI cL cB : ClassId) (q_t : Nat) (sz : Nat) : Met l y_Wa_init w_Wa_init rm_Wa_init (va_Pc [.ref q_t] (fun U => U.heap.size = sz ∧ va_P (dC, dI) classes [(q_t, .inr (3, [.null, .int 0, .null, .null]))] U.heap ∧ va_K (dC, dI) classes [(cI, .int), (cL, .long), (cB, .byte)] U ∧ va_D (fun _ => True) [(q_t, .inr (3, [.null, .int 0, .null, .null]))])) (va_Qv (fun (_ : Unit) => True) (fun _ t => ∃ (q7 q15 q23 : Nat), va_P (dC, dI) classes [(q_t, .inr (3, [.ref q7, .int 0, .ref q15, .ref q23])), (q7, .inl (cI, 120, .inl (fun _ => 0))), (q15, .inl (cI, 120, .inl (fun _ => 0))), (q23, .inl (cI, 40, .inl (fun _ => 0)))] t.heap ∧ va_K (dC, dI) classes [(cI, .int), (cL, .long), (cB, .byte)] t ∧ va_D (va_A [(q_t, .inr (3, [.null, .int 0, .null, .null]))] sz) [(q_t, .inr (3, [.ref q7, .int 0, .ref q15, .ref q23])), (q7, .inl (cI, 120, .inl (fun _ => 0))), (q15, .inl (cI, 120, .inl (fun _ => 0))), (q23, .inl (cI, 40, .inl (fun _ => 0)))]) (va_A [(q_t, .inr (3, [.null, .int 0, .null, .null]))] sz)) 3 280 (va_A [(q_t, .inr (3, [.null, .int 0, .null, .null]))] sz) := by
  refine Met.ofW (cc := b_Wa_init) (maxL := 1) (ret := none) (by decide) rfl ?_
  intro p e s m args below meth c s₁ B hml hv
  obtain ⟨ha, hsz, hP, hK, hD0⟩ := hv
  have hx := B.exec
  have hb := B.bytes
  have hr := B.returns
  have hts0 := atoms_spec (ws := w_Wa_init) B.pre
  have hts : ∀ w ∈ tb, w.before args s = true := fun w h => hts0 w (List.mem_cons_of_mem _ h)
  have hown : s.vm.findClass R_Wa = some m.cls := findClass_of_methodNamed B.named
  have hlocks := B.notSynchronized
  have hin : meth.name = "<init>" := (name_of_methodNamed B.named B.method).1
  subst hsz
  have hD := hD0.self (sz := s.heap.size)
  generalize hAe : va_A [(q_t, .inr (3, [.null, .int 0, .null, .null]))] s.heap.size = A at hD ⊢
  have hA : ∀ q : Nat, s.heap.size ≤ q → A q := fun q h => by rw [← hAe]; exact Or.inr h
  have hS : va_S A s.heap s.heap [] := va_S.rf
  have hP : va_P (dC, dI) classes [(q_t, .inr (3, [.null, .int 0, .null, .null]))] s.heap := hP
  have hl := lv_entry [.ref q_t] (n := 1) (Nat.le_of_ble_eq_true rfl)
  have he9 : entryFrame m args 1 = F0 m 0 ((lg_sl [.ref q_t] ++ List.replicate (1 - (lg_sl [.ref q_t]).length) Slot.unset).toArray) [] := by rw [ha]; exact lg_entry_eq _ _ _
  rw [he9]
  clear he9
  generalize (lg_sl [.ref q_t] ++ List.replicate (1 - (lg_sl [.ref q_t]).length) Slot.unset).toArray = ls at hl ⊢
  have hl : lv_has ls 1 [(0, .ref q_t)] := hl
  refine lv_aload_n hx hb d_Wa_init_0 rfl (lv_at hl 0 rfl) ?_
  refine W.objInit hx hb hown (hts (Cond.methodLink R_Wa 3 objectInit) kw96_28ada11) (hts (Cond.instanceMethod objectInit) kw96_8796edd) (hts (Cond.code objectInit ⟨#[0xb1]⟩ 1 none) kw96_5c52052) rfl (by rw [hml]; exact hl.1) rfl d_Wa_init_1 (Nat.le_of_ble_eq_true rfl) (Nat.le_of_ble_eq_true rfl) ?_
  refine W.eq (g2 := F0 m 4 ls []) rfl ?_
  refine lv_aload_n hx hb d_Wa_init_4 rfl (lv_at hl 0 rfl) ?_
  refine lv_bipush (v := 120) hx hb d_Wa_init_5 (by decide) ?_
  refine va_newa (atype := .int) (ty := .int) (n := 120) (N' := 120) (a0 := (120, .inl (fun _ => 0))) hx hb (hts (Cond.arrayClass .int) kw96_32e41f5) rfl hK hP hD hS hA (fun _ => rfl) (by decide) (by decide) (by decide) (Nat.le_of_ble_eq_true rfl) (Nat.le_of_ble_eq_true rfl) d_Wa_init_7 (fun q7 cA7 H hK9 hP hD hS => ?_)
  have e9 : cI = cA7 := gn_arr hK9 0 3 rfl rfl
  subst e9
  have hP : va_P (dC, dI) classes [(q_t, .inr (3, [.null, .int 0, .null, .null])), (q7, .inl (cI, 120, .inl (fun _ => 0)))] H := hP
  have hD : va_D A [(q_t, .inr (3, [.null, .int 0, .null, .null])), (q7, .inl (cI, 120, .inl (fun _ => 0)))] := hD
  refine va_putF (D := (dC, dI)) (ci := 3) (v := .ref q7) (ty := .array .int) (C := R_Wa) (T := F_Wa) (N := 4) hx hb hts i_Wa t_Wa t_Wa_ok n_Wa hown hK hP hD hS 0 rfl rfl 0 (by decide) (hts (Cond.fieldLink R_Wa 9 "PlantGraph$Ways" "found" "[I") kw96_33ac900) (fun _ h9 => h9) rfl hin rfl (by decide +kernel) rfl rfl (Nat.le_of_ble_eq_true rfl) d_Wa_init_9 (fun H locs hP hD hS => ?_)
  have hP : va_P (dC, dI) classes [(q_t, .inr (3, [.ref q7, .int 0, .null, .null])), (q7, .inl (cI, 120, .inl (fun _ => 0)))] H := hP
  have hD : va_D A [(q_t, .inr (3, [.ref q7, .int 0, .null, .null])), (q7, .inl (cI, 120, .inl (fun _ => 0)))] := hD
  refine lv_aload_n hx hb d_Wa_init_12 rfl (lv_at hl 0 rfl) ?_
  refine lv_bipush (v := 120) hx hb d_Wa_init_13 (by decide) ?_
  refine va_newa (atype := .int) (ty := .int) (n := 120) (N' := 120) (a0 := (120, .inl (fun _ => 0))) hx hb (hts (Cond.arrayClass .int) kw96_32e41f5) rfl hK hP hD hS hA (fun _ => rfl) (by decide) (by decide) (by decide) (Nat.le_of_ble_eq_true rfl) (Nat.le_of_ble_eq_true rfl) d_Wa_init_15 (fun q15 cA15 H hK9 hP hD hS => ?_)
  have e9 : cI = cA15 := gn_arr hK9 0 3 rfl rfl
  subst e9
  have hP : va_P (dC, dI) classes [(q_t, .inr (3, [.ref q7, .int 0, .null, .null])), (q7, .inl (cI, 120, .inl (fun _ => 0))), (q15, .inl (cI, 120, .inl (fun _ => 0)))] H := hP
  have hD : va_D A [(q_t, .inr (3, [.ref q7, .int 0, .null, .null])), (q7, .inl (cI, 120, .inl (fun _ => 0))), (q15, .inl (cI, 120, .inl (fun _ => 0)))] := hD
  refine va_putF (D := (dC, dI)) (ci := 3) (v := .ref q15) (ty := .array .int) (C := R_Wa) (T := F_Wa) (N := 4) hx hb hts i_Wa t_Wa t_Wa_ok n_Wa hown hK hP hD hS 0 rfl rfl 2 (by decide) (hts (Cond.fieldLink R_Wa 15 "PlantGraph$Ways" "previous" "[I") kw96_8cf4f1c) (fun _ h9 => h9) rfl hin rfl (by decide +kernel) rfl rfl (Nat.le_of_ble_eq_true rfl) d_Wa_init_17 (fun H locs hP hD hS => ?_)
  have hP : va_P (dC, dI) classes [(q_t, .inr (3, [.ref q7, .int 0, .ref q15, .null])), (q7, .inl (cI, 120, .inl (fun _ => 0))), (q15, .inl (cI, 120, .inl (fun _ => 0)))] H := hP
  have hD : va_D A [(q_t, .inr (3, [.ref q7, .int 0, .ref q15, .null])), (q7, .inl (cI, 120, .inl (fun _ => 0))), (q15, .inl (cI, 120, .inl (fun _ => 0)))] := hD
  refine lv_aload_n hx hb d_Wa_init_20 rfl (lv_at hl 0 rfl) ?_
  refine lv_bipush (v := 40) hx hb d_Wa_init_21 (by decide) ?_
  refine va_newa (atype := .int) (ty := .int) (n := 40) (N' := 40) (a0 := (40, .inl (fun _ => 0))) hx hb (hts (Cond.arrayClass .int) kw96_32e41f5) rfl hK hP hD hS hA (fun _ => rfl) (by decide) (by decide) (by decide) (Nat.le_of_ble_eq_true rfl) (Nat.le_of_ble_eq_true rfl) d_Wa_init_23 (fun q23 cA23 H hK9 hP hD hS => ?_)
  have e9 : cI = cA23 := gn_arr hK9 0 3 rfl rfl
  subst e9
  have hP : va_P (dC, dI) classes [(q_t, .inr (3, [.ref q7, .int 0, .ref q15, .null])), (q7, .inl (cI, 120, .inl (fun _ => 0))), (q15, .inl (cI, 120, .inl (fun _ => 0))), (q23, .inl (cI, 40, .inl (fun _ => 0)))] H := hP
  have hD : va_D A [(q_t, .inr (3, [.ref q7, .int 0, .ref q15, .null])), (q7, .inl (cI, 120, .inl (fun _ => 0))), (q15, .inl (cI, 120, .inl (fun _ => 0))), (q23, .inl (cI, 40, .inl (fun _ => 0)))] := hD
  refine va_putF (D := (dC, dI)) (ci := 3) (v := .ref q23) (ty := .array .int) (C := R_Wa) (T := F_Wa) (N := 4) hx hb hts i_Wa t_Wa t_Wa_ok n_Wa hown hK hP hD hS 0 rfl rfl 3 (by decide) (hts (Cond.fieldLink R_Wa 18 "PlantGraph$Ways" "lastEndAtThing" "[I") kw96_e057f73) (fun _ h9 => h9) rfl hin rfl (by decide +kernel) rfl rfl (Nat.le_of_ble_eq_true rfl) d_Wa_init_25 (fun H locs hP hD hS => ?_)
  have hP : va_P (dC, dI) classes [(q_t, .inr (3, [.ref q7, .int 0, .ref q15, .ref q23])), (q7, .inl (cI, 120, .inl (fun _ => 0))), (q15, .inl (cI, 120, .inl (fun _ => 0))), (q23, .inl (cI, 40, .inl (fun _ => 0)))] H := hP
  have hD : va_D A [(q_t, .inr (3, [.ref q7, .int 0, .ref q15, .ref q23])), (q7, .inl (cI, 120, .inl (fun _ => 0))), (q15, .inl (cI, 120, .inl (fun _ => 0))), (q23, .inl (cI, 40, .inl (fun _ => 0)))] := hD
  refine W.widen (k := 3) (n := 280) (Nat.le_of_ble_eq_true rfl) (Nat.le_of_ble_eq_true rfl) ?_
  exact W.vret hx hb hr (fun t ht hW => ⟨⟨(), rfl, trivial, q7, q15, q23, by rw [ht]; exact hP, va_K.moved hW.alike hK, hD⟩, hS.F ht⟩) hS.2.2 d_Wa_init_28
def w_Fl_init : List Cond := .code y_Fl_init b_Fl_init 1 none :: tb
abbrev rm_Fl_init : Room := { frames := 2, cells := 2, slots := 751, locals := 32 }
set_option maxHeartbeats 4000000 in
set_option maxRecDepth 100000 in
theorem c_Fl_init (l : Launch) (dC : Nat → ClassId) (dI : Nat → Nat → Nat) (cI cL cB : ClassId) (q_t : Nat) (sz : Nat) : Met l y_Fl_init w_Fl_init rm_Fl_init (va_Pc [.ref q_t] (fun U => U.heap.size = sz ∧ va_P (dC, dI) classes [(q_t, .inr (4, [.null, .int 0]))] U.heap ∧ va_K (dC, dI) classes [(cI, .int), (cL, .long), (cB, .byte)] U ∧ va_D (fun _ => True) [(q_t, .inr (4, [.null, .int 0]))])) (va_Qv (fun (_ : Unit) => True) (fun _ t => ∃ (q5 q8_9 : Nat), va_P (dC, dI) classes [(q_t, .inr (4, [.ref q5, .int 0])), (q5, .inr (2, [.ref q8_9])), (q8_9, .inl (cL, 750, .inr (.inl (fun _ => 0))))] t.heap ∧ va_K (dC, dI) classes [(cI, .int), (cL, .long), (cB, .byte)] t ∧ va_D (va_A [(q_t, .inr (4, [.null, .int 0]))] sz) [(q_t, .inr (4, [.ref q5, .int 0])), (q5, .inr (2, [.ref q8_9])), (q8_9, .inl (cL, 750, .inr (.inl (fun _ => 0))))]) (va_A [(q_t, .inr (4, [.null, .int 0]))] sz)) 2 751 (va_A [(q_t, .inr (4, [.null, .int 0]))] sz) := by
  refine Met.ofW (cc := b_Fl_init) (maxL := 1) (ret := none) (by decide) rfl ?_
  intro p e s m args below meth c s₁ B hml hv
  obtain ⟨ha, hsz, hP, hK, hD0⟩ := hv
  have hx := B.exec
  have hb := B.bytes
  have hr := B.returns
  have hts0 := atoms_spec (ws := w_Fl_init) B.pre
  have hts : ∀ w ∈ tb, w.before args s = true := fun w h => hts0 w (List.mem_cons_of_mem _ h)
  have hown : s.vm.findClass R_Fl = some m.cls := findClass_of_methodNamed B.named
  have hlocks := B.notSynchronized
  have hin : meth.name = "<init>" := (name_of_methodNamed B.named B.method).1
  subst hsz
  have hD := hD0.self (sz := s.heap.size)
  generalize hAe : va_A [(q_t, .inr (4, [.null, .int 0]))] s.heap.size = A at hD ⊢
  have hA : ∀ q : Nat, s.heap.size ≤ q → A q := fun q h => by rw [← hAe]; exact Or.inr h
  have hS : va_S A s.heap s.heap [] := va_S.rf
  have hP : va_P (dC, dI) classes [(q_t, .inr (4, [.null, .int 0]))] s.heap := hP
  have hl := lv_entry [.ref q_t] (n := 1) (Nat.le_of_ble_eq_true rfl)
  have he9 : entryFrame m args 1 = F0 m 0 ((lg_sl [.ref q_t] ++ List.replicate (1 - (lg_sl [.ref q_t]).length) Slot.unset).toArray) [] := by rw [ha]; exact lg_entry_eq _ _ _
  rw [he9]
  clear he9
  generalize (lg_sl [.ref q_t] ++ List.replicate (1 - (lg_sl [.ref q_t]).length) Slot.unset).toArray = ls at hl ⊢
  have hl : lv_has ls 1 [(0, .ref q_t)] := hl
  refine lv_aload_n hx hb d_Fl_init_0 rfl (lv_at hl 0 rfl) ?_
  refine W.objInit hx hb hown (hts (Cond.methodLink R_Fl 3 objectInit) kw96_b090dbf) (hts (Cond.instanceMethod objectInit) kw96_8796edd) (hts (Cond.code objectInit ⟨#[0xb1]⟩ 1 none) kw96_5c52052) rfl (by rw [hml]; exact hl.1) rfl d_Fl_init_1 (Nat.le_of_ble_eq_true rfl) (Nat.le_of_ble_eq_true rfl) ?_
  refine W.eq (g2 := F0 m 4 ls []) rfl ?_
  refine lv_aload_n hx hb d_Fl_init_4 rfl (lv_at hl 0 rfl) ?_
  refine va_new (ci := 2) (fs := [.null]) (C := R_Li) (T := F_Li) (N := 1) hx hb hts i_Li t_Li t_Li_ok hown (hts (Cond.classLink R_Fl 9 R_Li) kw96_ed9cbe4) (hts (Cond.instantiable R_Li 1) kw96_a47d698) (hts (Cond.initialized R_Li) kw96_59924f3) hK hP hD hS hA rfl (fun j hj => by rcases (show j = 0 by omega) with rfl <;> rfl) (Nat.le_of_ble_eq_true rfl) (Nat.le_of_ble_eq_true rfl) d_Fl_init_5 (fun q5 H hP hD hS => ?_)
  have hP : va_P (dC, dI) classes [(q_t, .inr (4, [.null, .int 0])), (q5, .inr (2, [.null]))] H := hP
  have hD : va_D A [(q_t, .inr (4, [.null, .int 0])), (q5, .inr (2, [.null]))] := hD
  refine lv_dup hx hb d_Fl_init_8 rfl ?_
  have hPc := hP.sub (ws' := [(q5, .inr (2, [.null]))]) [1] rfl
  have hDc := hD.sub (ws' := [(q5, .inr (2, [.null]))]) [1] (by decide) rfl
  have hFc := va_free (wc := [(q5, .inr (2, [.null]))]) hD hS hA [1] rfl
  refine va_callv (va_runIN (As := []) (rest := [.ref q5, .ref q_t]) ⟨hx, hb, hml, hown, hts⟩ (c_Li_init l dC dI cI cL cB q5 H.size) ⟨my_cn 0 hts kw96_7100705 kw96_59924f3 kw96_ba86722 rfl rfl (by decide +kernel) ⟨Nat.le_of_ble_eq_true rfl, Nat.le_of_ble_eq_true rfl⟩, rfl, (hts (Cond.instanceMethod y_Li_init) kw96_54923eb)⟩ ⟨fun a U g mk q => by obtain ⟨q0, q1, qP, qK, qD⟩ := q; exact ⟨q0, q1, qP, va_K.moved (u := U) (U := U.calling g mk a) (Vm.Alike.refl U.vm) qK, qD⟩, fun U hU hW => ⟨rfl, by rw [hU], by rw [hU]; exact hPc, va_K.moved hW.alike hK, hDc.weaken (fun _ _ _ _ => trivial)⟩⟩ rfl rfl hl.1 rfl (lv_room (Nat.le_of_ble_eq_true rfl)) d_Fl_init_9 ⟨Nat.le_of_ble_eq_true rfl, Nat.le_of_ble_eq_true rfl⟩) hS (fun q _ h => hFc q h) hFc (fun u t H locs ht hvm hw hB hz1 hk1 hS => ?_)
  obtain ⟨q8_9, hP1, hK1, hD1⟩ := hB
  rw [ht] at hP1
  obtain ⟨hP, hD⟩ := va_join (wr := [(q_t, .inr (4, [.null, .int 0]))]) (w1 := [(q5, .inr (2, [.ref q8_9])), (q8_9, .inl (cL, 750, .inr (.inl (fun _ => 0))))]) hP hD [1] [0] rfl rfl (by decide) (by decide) hk1 hFc hP1 hD1
  have hP : va_P (dC, dI) classes [(q_t, .inr (4, [.null, .int 0])), (q5, .inr (2, [.ref q8_9])), (q8_9, .inl (cL, 750, .inr (.inl (fun _ => 0))))] H := hP
  have hD : va_D A [(q_t, .inr (4, [.null, .int 0])), (q5, .inr (2, [.ref q8_9])), (q8_9, .inl (cL, 750, .inr (.inl (fun _ => 0))))] := hD
  refine va_putF (D := (dC, dI)) (ci := 4) (v := .ref q5) (ty := .object "PlantGraph$Litres") (C := R_Fl) (T := F_Fl) (N := 2) hx hb hts i_Fl t_Fl t_Fl_ok n_Fl hown hK hP hD hS 0 rfl rfl 0 (by decide) (hts (Cond.fieldLink R_Fl 12 "PlantGraph$Flow" "row" "LPlantGraph$Litres;") kw96_2debef0) (fun _ h9 => h9) rfl hin rfl (by decide +kernel) rfl rfl (Nat.le_of_ble_eq_true rfl) d_Fl_init_12 (fun H locs hP hD hS => ?_)
  have hP : va_P (dC, dI) classes [(q_t, .inr (4, [.ref q5, .int 0])), (q5, .inr (2, [.ref q8_9])), (q8_9, .inl (cL, 750, .inr (.inl (fun _ => 0))))] H := hP
  have hD : va_D A [(q_t, .inr (4, [.ref q5, .int 0])), (q5, .inr (2, [.ref q8_9])), (q8_9, .inl (cL, 750, .inr (.inl (fun _ => 0))))] := hD
  refine W.widen (k := 2) (n := 751) (Nat.le_of_ble_eq_true rfl) (Nat.le_of_ble_eq_true rfl) ?_
  exact W.vret hx hb hr (fun t ht hW => ⟨⟨(), rfl, trivial, q5, q8_9, by rw [ht]; exact hP, va_K.moved hW.alike hK, hD⟩, hS.F ht⟩) hS.2.2 d_Fl_init_15
def w_Te_init : List Cond := .code y_Te_init b_Te_init 1 none :: tb
abbrev rm_Te_init : Room := { frames := 1, cells := 1, slots := 2000, locals := 12 }
set_option maxHeartbeats 4000000 in
set_option maxRecDepth 100000 in
theorem c_Te_init (l : Launch) (dC : Nat → ClassId) (dI : Nat → Nat → Nat) (cI cL cB : ClassId) (q_t : Nat) (sz : Nat) : Met l y_Te_init w_Te_init rm_Te_init (va_Pc [.ref q_t] (fun U => U.heap.size = sz ∧ va_P (dC, dI) classes [(q_t, .inr (5, [.null, .int 0, .int 0, .int 0]))] U.heap ∧ va_K (dC, dI) classes [(cI, .int), (cL, .long), (cB, .byte)] U ∧ va_D (fun _ => True) [(q_t, .inr (5, [.null, .int 0, .int 0, .int 0]))])) (va_Qv (fun (_ : Unit) => True) (fun _ t => ∃ (q8 : Nat), va_P (dC, dI) classes [(q_t, .inr (5, [.ref q8, .int 0, .int 0, .int 0])), (q8, .inl (cB, 2000, .inl (fun _ => 0)))] t.heap ∧ va_K (dC, dI) classes [(cI, .int), (cL, .long), (cB, .byte)] t ∧ va_D (va_A [(q_t, .inr (5, [.null, .int 0, .int 0, .int 0]))] sz) [(q_t, .inr (5, [.ref q8, .int 0, .int 0, .int 0])), (q8, .inl (cB, 2000, .inl (fun _ => 0)))]) (va_A [(q_t, .inr (5, [.null, .int 0, .int 0, .int 0]))] sz)) 1 2000 (va_A [(q_t, .inr (5, [.null, .int 0, .int 0, .int 0]))] sz) := by
  refine Met.ofW (cc := b_Te_init) (maxL := 1) (ret := none) (by decide) rfl ?_
  intro p e s m args below meth c s₁ B hml hv
  obtain ⟨ha, hsz, hP, hK, hD0⟩ := hv
  have hx := B.exec
  have hb := B.bytes
  have hr := B.returns
  have hts0 := atoms_spec (ws := w_Te_init) B.pre
  have hts : ∀ w ∈ tb, w.before args s = true := fun w h => hts0 w (List.mem_cons_of_mem _ h)
  have hown : s.vm.findClass R_Te = some m.cls := findClass_of_methodNamed B.named
  have hlocks := B.notSynchronized
  have hin : meth.name = "<init>" := (name_of_methodNamed B.named B.method).1
  subst hsz
  have hD := hD0.self (sz := s.heap.size)
  generalize hAe : va_A [(q_t, .inr (5, [.null, .int 0, .int 0, .int 0]))] s.heap.size = A at hD ⊢
  have hA : ∀ q : Nat, s.heap.size ≤ q → A q := fun q h => by rw [← hAe]; exact Or.inr h
  have hS : va_S A s.heap s.heap [] := va_S.rf
  have hP : va_P (dC, dI) classes [(q_t, .inr (5, [.null, .int 0, .int 0, .int 0]))] s.heap := hP
  have hl := lv_entry [.ref q_t] (n := 1) (Nat.le_of_ble_eq_true rfl)
  have he9 : entryFrame m args 1 = F0 m 0 ((lg_sl [.ref q_t] ++ List.replicate (1 - (lg_sl [.ref q_t]).length) Slot.unset).toArray) [] := by rw [ha]; exact lg_entry_eq _ _ _
  rw [he9]
  clear he9
  generalize (lg_sl [.ref q_t] ++ List.replicate (1 - (lg_sl [.ref q_t]).length) Slot.unset).toArray = ls at hl ⊢
  have hl : lv_has ls 1 [(0, .ref q_t)] := hl
  refine lv_aload_n hx hb d_Te_init_0 rfl (lv_at hl 0 rfl) ?_
  refine W.objInit hx hb hown (hts (Cond.methodLink R_Te 3 objectInit) kw96_cb665a6) (hts (Cond.instanceMethod objectInit) kw96_8796edd) (hts (Cond.code objectInit ⟨#[0xb1]⟩ 1 none) kw96_5c52052) rfl (by rw [hml]; exact hl.1) rfl d_Te_init_1 (Nat.le_of_ble_eq_true rfl) (Nat.le_of_ble_eq_true rfl) ?_
  refine W.eq (g2 := F0 m 4 ls []) rfl ?_
  refine lv_aload_n hx hb d_Te_init_4 rfl (lv_at hl 0 rfl) ?_
  refine lv_sipush (v := 2000) hx hb d_Te_init_5 (by decide) ?_
  refine va_newa (atype := .byte) (ty := .byte) (n := 2000) (N' := 2000) (a0 := (2000, .inl (fun _ => 0))) hx hb (hts (Cond.arrayClass .byte) kw96_b849ad0) rfl hK hP hD hS hA (fun _ => rfl) (by decide) (by decide) (by decide) (Nat.le_of_ble_eq_true rfl) (Nat.le_of_ble_eq_true rfl) d_Te_init_8 (fun q8 cA8 H hK9 hP hD hS => ?_)
  have e9 : cB = cA8 := gn_arr hK9 2 3 rfl rfl
  subst e9
  have hP : va_P (dC, dI) classes [(q_t, .inr (5, [.null, .int 0, .int 0, .int 0])), (q8, .inl (cB, 2000, .inl (fun _ => 0)))] H := hP
  have hD : va_D A [(q_t, .inr (5, [.null, .int 0, .int 0, .int 0])), (q8, .inl (cB, 2000, .inl (fun _ => 0)))] := hD
  refine va_putF (D := (dC, dI)) (ci := 5) (v := .ref q8) (ty := .array .byte) (C := R_Te) (T := F_Te) (N := 4) hx hb hts i_Te t_Te t_Te_ok n_Te hown hK hP hD hS 0 rfl rfl 0 (by decide) (hts (Cond.fieldLink R_Te 9 "PlantGraph$Text" "bytes" "[B") kw96_0536dcc) (fun _ h9 => h9) rfl hin rfl (by decide +kernel) rfl rfl (Nat.le_of_ble_eq_true rfl) d_Te_init_10 (fun H locs hP hD hS => ?_)
  have hP : va_P (dC, dI) classes [(q_t, .inr (5, [.ref q8, .int 0, .int 0, .int 0])), (q8, .inl (cB, 2000, .inl (fun _ => 0)))] H := hP
  have hD : va_D A [(q_t, .inr (5, [.ref q8, .int 0, .int 0, .int 0])), (q8, .inl (cB, 2000, .inl (fun _ => 0)))] := hD
  refine W.widen (k := 1) (n := 2000) (Nat.le_of_ble_eq_true rfl) (Nat.le_of_ble_eq_true rfl) ?_
  exact W.vret hx hb hr (fun t ht hW => ⟨⟨(), rfl, trivial, q8, by rw [ht]; exact hP, va_K.moved hW.alike hK, hD⟩, hS.F ht⟩) hS.2.2 d_Te_init_13
def w_Ln_init : List Cond := .code y_Ln_init b_Ln_init 1 none :: tb
abbrev rm_Ln_init : Room := { frames := 1, cells := 1, slots := 15, locals := 12 }
set_option maxHeartbeats 4000000 in
set_option maxRecDepth 100000 in
theorem c_Ln_init (l : Launch) (dC : Nat → ClassId) (dI : Nat → Nat → Nat) (cI cL cB : ClassId) (q_t : Nat) (sz : Nat) : Met l y_Ln_init w_Ln_init rm_Ln_init (va_Pc [.ref q_t] (fun U => U.heap.size = sz ∧ va_P (dC, dI) classes [(q_t, .inr (6, [.null, .int 0]))] U.heap ∧ va_K (dC, dI) classes [(cI, .int), (cL, .long), (cB, .byte)] U ∧ va_D (fun _ => True) [(q_t, .inr (6, [.null, .int 0]))])) (va_Qv (fun (_ : Unit) => True) (fun _ t => ∃ (q7 : Nat), va_P (dC, dI) classes [(q_t, .inr (6, [.ref q7, .int 0])), (q7, .inl (cB, 15, .inl (fun _ => 0)))] t.heap ∧ va_K (dC, dI) classes [(cI, .int), (cL, .long), (cB, .byte)] t ∧ va_D (va_A [(q_t, .inr (6, [.null, .int 0]))] sz) [(q_t, .inr (6, [.ref q7, .int 0])), (q7, .inl (cB, 15, .inl (fun _ => 0)))]) (va_A [(q_t, .inr (6, [.null, .int 0]))] sz)) 1 15 (va_A [(q_t, .inr (6, [.null, .int 0]))] sz) := by
  refine Met.ofW (cc := b_Ln_init) (maxL := 1) (ret := none) (by decide) rfl ?_
  intro p e s m args below meth c s₁ B hml hv
  obtain ⟨ha, hsz, hP, hK, hD0⟩ := hv
  have hx := B.exec
  have hb := B.bytes
  have hr := B.returns
  have hts0 := atoms_spec (ws := w_Ln_init) B.pre
  have hts : ∀ w ∈ tb, w.before args s = true := fun w h => hts0 w (List.mem_cons_of_mem _ h)
  have hown : s.vm.findClass R_Ln = some m.cls := findClass_of_methodNamed B.named
  have hlocks := B.notSynchronized
  have hin : meth.name = "<init>" := (name_of_methodNamed B.named B.method).1
  subst hsz
  have hD := hD0.self (sz := s.heap.size)
  generalize hAe : va_A [(q_t, .inr (6, [.null, .int 0]))] s.heap.size = A at hD ⊢
  have hA : ∀ q : Nat, s.heap.size ≤ q → A q := fun q h => by rw [← hAe]; exact Or.inr h
  have hS : va_S A s.heap s.heap [] := va_S.rf
  have hP : va_P (dC, dI) classes [(q_t, .inr (6, [.null, .int 0]))] s.heap := hP
  have hl := lv_entry [.ref q_t] (n := 1) (Nat.le_of_ble_eq_true rfl)
  have he9 : entryFrame m args 1 = F0 m 0 ((lg_sl [.ref q_t] ++ List.replicate (1 - (lg_sl [.ref q_t]).length) Slot.unset).toArray) [] := by rw [ha]; exact lg_entry_eq _ _ _
  rw [he9]
  clear he9
  generalize (lg_sl [.ref q_t] ++ List.replicate (1 - (lg_sl [.ref q_t]).length) Slot.unset).toArray = ls at hl ⊢
  have hl : lv_has ls 1 [(0, .ref q_t)] := hl
  refine lv_aload_n hx hb d_Ln_init_0 rfl (lv_at hl 0 rfl) ?_
  refine W.objInit hx hb hown (hts (Cond.methodLink R_Ln 3 objectInit) kw96_deb6fa5) (hts (Cond.instanceMethod objectInit) kw96_8796edd) (hts (Cond.code objectInit ⟨#[0xb1]⟩ 1 none) kw96_5c52052) rfl (by rw [hml]; exact hl.1) rfl d_Ln_init_1 (Nat.le_of_ble_eq_true rfl) (Nat.le_of_ble_eq_true rfl) ?_
  refine W.eq (g2 := F0 m 4 ls []) rfl ?_
  refine lv_aload_n hx hb d_Ln_init_4 rfl (lv_at hl 0 rfl) ?_
  refine lv_bipush (v := 15) hx hb d_Ln_init_5 (by decide) ?_
  refine va_newa (atype := .byte) (ty := .byte) (n := 15) (N' := 15) (a0 := (15, .inl (fun _ => 0))) hx hb (hts (Cond.arrayClass .byte) kw96_b849ad0) rfl hK hP hD hS hA (fun _ => rfl) (by decide) (by decide) (by decide) (Nat.le_of_ble_eq_true rfl) (Nat.le_of_ble_eq_true rfl) d_Ln_init_7 (fun q7 cA7 H hK9 hP hD hS => ?_)
  have e9 : cB = cA7 := gn_arr hK9 2 3 rfl rfl
  subst e9
  have hP : va_P (dC, dI) classes [(q_t, .inr (6, [.null, .int 0])), (q7, .inl (cB, 15, .inl (fun _ => 0)))] H := hP
  have hD : va_D A [(q_t, .inr (6, [.null, .int 0])), (q7, .inl (cB, 15, .inl (fun _ => 0)))] := hD
  refine va_putF (D := (dC, dI)) (ci := 6) (v := .ref q7) (ty := .array .byte) (C := R_Ln) (T := F_Ln) (N := 2) hx hb hts i_Ln t_Ln t_Ln_ok n_Ln hown hK hP hD hS 0 rfl rfl 0 (by decide) (hts (Cond.fieldLink R_Ln 11 "PlantGraph$Line" "bytes" "[B") kw96_4c1e67f) (fun _ h9 => h9) rfl hin rfl (by decide +kernel) rfl rfl (Nat.le_of_ble_eq_true rfl) d_Ln_init_9 (fun H locs hP hD hS => ?_)
  have hP : va_P (dC, dI) classes [(q_t, .inr (6, [.ref q7, .int 0])), (q7, .inl (cB, 15, .inl (fun _ => 0)))] H := hP
  have hD : va_D A [(q_t, .inr (6, [.ref q7, .int 0])), (q7, .inl (cB, 15, .inl (fun _ => 0)))] := hD
  refine W.widen (k := 1) (n := 15) (Nat.le_of_ble_eq_true rfl) (Nat.le_of_ble_eq_true rfl) ?_
  exact W.vret hx hb hr (fun t ht hW => ⟨⟨(), rfl, trivial, q7, by rw [ht]; exact hP, va_K.moved hW.alike hK, hD⟩, hS.F ht⟩) hS.2.2 d_Ln_init_12
