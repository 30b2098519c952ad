theorem d_PG_isBetween_0 : decode b_PG_isBetween 0 = .ok (.lload_n 0, 1) := by decide +kernel
theorem d_PG_isBetween_1 : decode b_PG_isBetween 1 = .ok (.lload_n 2, 1) := by decide +kernel
theorem d_PG_isBetween_2 : decode b_PG_isBetween 2 = .ok (.lcmp, 1) := by decide +kernel
theorem d_PG_isBetween_3 : decode b_PG_isBetween 3 = .ok (.ifCond .lt 14, 3) := by decide +kernel
theorem d_PG_isBetween_6 : decode b_PG_isBetween 6 = .ok (.lload_n 0, 1) := by decide +kernel
theorem d_PG_isBetween_7 : decode b_PG_isBetween 7 = .ok (.lload 4, 2) := by decide +kernel
theorem d_PG_isBetween_9 : decode b_PG_isBetween 9 = .ok (.lcmp, 1) := by decide +kernel
theorem d_PG_isBetween_10 : decode b_PG_isBetween 10 = .ok (.ifCond .gt 7, 3) := by decide +kernel
theorem d_PG_isBetween_13 : decode b_PG_isBetween 13 = .ok (.iconst 1, 1) := by decide +kernel
theorem d_PG_isBetween_14 : decode b_PG_isBetween 14 = .ok (.goto 4, 3) := by decide +kernel
theorem d_PG_isBetween_17 : decode b_PG_isBetween 17 = .ok (.iconst 0, 1) := by decide +kernel
theorem d_PG_isBetween_18 : decode b_PG_isBetween 18 = .ok (.ireturn, 1) := by decide +kernel
theorem d_PG_isPosition_0 : decode b_PG_isPosition 0 = .ok (.iload_n 0, 1) := by decide +kernel
theorem d_PG_isPosition_1 : decode b_PG_isPosition 1 = .ok (.i2l, 1) := by decide +kernel
theorem d_PG_isPosition_2 : decode b_PG_isPosition 2 = .ok (.lconst 0, 1) := by decide +kernel
theorem d_PG_isPosition_3 : decode b_PG_isPosition 3 = .ok (.ldc2_w 170, 3) := by decide +kernel
theorem d_PG_isPosition_6 : decode b_PG_isPosition 6 = .ok (.invokestatic 113, 3) := by decide +kernel
theorem d_PG_isPosition_9 : decode b_PG_isPosition 9 = .ok (.ireturn, 1) := by decide +kernel
theorem d_Pl_isThing_0 : decode b_Pl_isThing 0 = .ok (.iload_n 1, 1) := by decide +kernel
theorem d_Pl_isThing_1 : decode b_Pl_isThing 1 = .ok (.ifCond .lt 15, 3) := by decide +kernel
theorem d_Pl_isThing_4 : decode b_Pl_isThing 4 = .ok (.iload_n 1, 1) := by decide +kernel
theorem d_Pl_isThing_5 : decode b_Pl_isThing 5 = .ok (.aload_n 0, 1) := by decide +kernel
theorem d_Pl_isThing_6 : decode b_Pl_isThing 6 = .ok (.getfield 55, 3) := by decide +kernel
theorem d_Pl_isThing_9 : decode b_Pl_isThing 9 = .ok (.if_icmp .ge 7, 3) := by decide +kernel
theorem d_Pl_isThing_12 : decode b_Pl_isThing 12 = .ok (.iconst 1, 1) := by decide +kernel
theorem d_Pl_isThing_13 : decode b_Pl_isThing 13 = .ok (.goto 4, 3) := by decide +kernel
theorem d_Pl_isThing_16 : decode b_Pl_isThing 16 = .ok (.iconst 0, 1) := by decide +kernel
theorem d_Pl_isThing_17 : decode b_Pl_isThing 17 = .ok (.ireturn, 1) := by decide +kernel
theorem d_Pl_isTank_0 : decode b_Pl_isTank 0 = .ok (.aload_n 0, 1) := by decide +kernel
theorem d_Pl_isTank_1 : decode b_Pl_isTank 1 = .ok (.iload_n 1, 1) := by decide +kernel
theorem d_Pl_isTank_2 : decode b_Pl_isTank 2 = .ok (.invokevirtual 65, 3) := by decide +kernel
theorem d_Pl_isTank_5 : decode b_Pl_isTank 5 = .ok (.ifCond .eq 18, 3) := by decide +kernel
theorem d_Pl_isTank_8 : decode b_Pl_isTank 8 = .ok (.aload_n 0, 1) := by decide +kernel
theorem d_Pl_isTank_9 : decode b_Pl_isTank 9 = .ok (.getfield 9, 3) := by decide +kernel
theorem d_Pl_isTank_12 : decode b_Pl_isTank 12 = .ok (.iload_n 1, 1) := by decide +kernel
theorem d_Pl_isTank_13 : decode b_Pl_isTank 13 = .ok (.iaload, 1) := by decide +kernel
theorem d_Pl_isTank_14 : decode b_Pl_isTank 14 = .ok (.bipush 10, 2) := by decide +kernel
theorem d_Pl_isTank_16 : decode b_Pl_isTank 16 = .ok (.if_icmp .ne 7, 3) := by decide +kernel
theorem d_Pl_isTank_19 : decode b_Pl_isTank 19 = .ok (.iconst 1, 1) := by decide +kernel
theorem d_Pl_isTank_20 : decode b_Pl_isTank 20 = .ok (.goto 4, 3) := by decide +kernel
theorem d_Pl_isTank_23 : decode b_Pl_isTank 23 = .ok (.iconst 0, 1) := by decide +kernel
theorem d_Pl_isTank_24 : decode b_Pl_isTank 24 = .ok (.ireturn, 1) := by decide +kernel
theorem d_Pl_isValve_0 : decode b_Pl_isValve 0 = .ok (.aload_n 0, 1) := by decide +kernel
theorem d_Pl_isValve_1 : decode b_Pl_isValve 1 = .ok (.iload_n 1, 1) := by decide +kernel
theorem d_Pl_isValve_2 : decode b_Pl_isValve 2 = .ok (.invokevirtual 65, 3) := by decide +kernel
theorem d_Pl_isValve_5 : decode b_Pl_isValve 5 = .ok (.ifCond .eq 18, 3) := by decide +kernel
theorem d_Pl_isValve_8 : decode b_Pl_isValve 8 = .ok (.aload_n 0, 1) := by decide +kernel
theorem d_Pl_isValve_9 : decode b_Pl_isValve 9 = .ok (.getfield 9, 3) := by decide +kernel
theorem d_Pl_isValve_12 : decode b_Pl_isValve 12 = .ok (.iload_n 1, 1) := by decide +kernel
theorem d_Pl_isValve_13 : decode b_Pl_isValve 13 = .ok (.iaload, 1) := by decide +kernel
theorem d_Pl_isValve_14 : decode b_Pl_isValve 14 = .ok (.bipush 9, 2) := by decide +kernel
theorem d_Pl_isValve_16 : decode b_Pl_isValve 16 = .ok (.if_icmp .ge 7, 3) := by decide +kernel
theorem d_Pl_isValve_19 : decode b_Pl_isValve 19 = .ok (.iconst 1, 1) := by decide +kernel
theorem d_Pl_isValve_20 : decode b_Pl_isValve 20 = .ok (.goto 4, 3) := by decide +kernel
theorem d_Pl_isValve_23 : decode b_Pl_isValve 23 = .ok (.iconst 0, 1) := by decide +kernel
theorem d_Pl_isValve_24 : decode b_Pl_isValve 24 = .ok (.ireturn, 1) := by decide +kernel
theorem d_Pl_isPipe_0 : decode b_Pl_isPipe 0 = .ok (.iload_n 1, 1) := by decide +kernel
theorem d_Pl_isPipe_1 : decode b_Pl_isPipe 1 = .ok (.ifCond .lt 15, 3) := by decide +kernel
theorem d_Pl_isPipe_4 : decode b_Pl_isPipe 4 = .ok (.iload_n 1, 1) := by decide +kernel
theorem d_Pl_isPipe_5 : decode b_Pl_isPipe 5 = .ok (.aload_n 0, 1) := by decide +kernel
theorem d_Pl_isPipe_6 : decode b_Pl_isPipe 6 = .ok (.getfield 59, 3) := by decide +kernel
theorem d_Pl_isPipe_9 : decode b_Pl_isPipe 9 = .ok (.if_icmp .ge 7, 3) := by decide +kernel
theorem d_Pl_isPipe_12 : decode b_Pl_isPipe 12 = .ok (.iconst 1, 1) := by decide +kernel
theorem d_Pl_isPipe_13 : decode b_Pl_isPipe 13 = .ok (.goto 4, 3) := by decide +kernel
theorem d_Pl_isPipe_16 : decode b_Pl_isPipe 16 = .ok (.iconst 0, 1) := by decide +kernel
theorem d_Pl_isPipe_17 : decode b_Pl_isPipe 17 = .ok (.ireturn, 1) := by decide +kernel
theorem kw11_0345dcc : (Cond.constantLong R_PG 170 9 : Cond) ∈ tb := by decide +kernel
theorem kw11_9c8562c : (Cond.methodLink R_PG 113 y_PG_isBetween : Cond) ∈ tb := by decide +kernel
theorem kw11_674c2bf : (Cond.static y_PG_isBetween : Cond) ∈ tb := by decide +kernel
theorem kw11_dc3dcb6 : (Cond.initialized R_PG : Cond) ∈ tb := by decide +kernel
theorem kw11_12156fe : (Cond.code y_PG_isBetween b_PG_isBetween 6 (some .boolean) : Cond) ∈ tb := by decide +kernel
theorem kw11_8296991 : (Cond.fieldLink R_Pl 55 "PlantGraph$Plant" "things" "I" : Cond) ∈ tb := by decide +kernel
theorem kw11_2e300e8 : (Cond.methodLink R_Pl 65 y_Pl_isThing : Cond) ∈ tb := by decide +kernel
theorem kw11_3a0aa7d : (Cond.instanceMethod y_Pl_isThing : Cond) ∈ tb := by decide +kernel
theorem kw11_1aee59d : (Cond.selects R_Pl y_Pl_isThing y_Pl_isThing : Cond) ∈ tb := by decide +kernel
theorem kw11_cd65af8 : (Cond.initialized R_Pl : Cond) ∈ tb := by decide +kernel
theorem kw11_a1735ca : (Cond.code y_Pl_isThing b_Pl_isThing 2 (some .boolean) : Cond) ∈ tb := by decide +kernel
theorem kw11_c0ecaf9 : (Cond.fieldLink R_Pl 9 "PlantGraph$Plant" "kind" "[I" : Cond) ∈ tb := by decide +kernel
theorem kw11_92ca4a3 : (Cond.fieldLink R_Pl 59 "PlantGraph$Plant" "pipes" "I" : Cond) ∈ tb := by decide +kernel
def wp_PG_isBetween (x0 : Int64) (x2 : Int64) (x4 : Int64) (P : Int32 → Prop) : Prop := (((lg_cmp x0 x2) < 0 → P 0) ∧ (¬ (lg_cmp x0 x2) < 0 → ((0 < (lg_cmp x0 x4) → P 0) ∧ (¬ 0 < (lg_cmp x0 x4) → P 1))))
def w_PG_isBetween : List Cond := .code y_PG_isBetween b_PG_isBetween 6 (some .boolean) :: tb
abbrev rm_PG_isBetween : Room := { frames := 0, cells := 0, slots := 0, locals := 0 }
abbrev Q_PG_isBetween (dC : Nat → ClassId) (dI : Nat → Nat → Nat) (cI cL cB : ClassId) (x0 : Int64) (x2 : Int64) (x4 : Int64) (P : Int32 → Prop) (A : Nat → Prop) : Array Value → State → Outcome → State → Prop := va_Qi (fun (r : Int32) (u : Unit) => P r) (fun u t => va_P (dC, dI) classes [] t.heap ∧ va_K (dC, dI) classes [(cI, .int), (cL, .long), (cB, .byte)] t ∧ va_D A []) A
set_option maxHeartbeats 4000000 in
set_option maxRecDepth 100000 in
theorem c_PG_isBetween (l : Launch) (dC : Nat → ClassId) (dI : Nat → Nat → Nat) (cI cL cB : ClassId) (sz : Nat) (x0 : Int64) (x2 : Int64) (x4 : Int64) (P : Int32 → Prop) (hw : wp_PG_isBetween x0 x2 x4 P) : Met l y_PG_isBetween w_PG_isBetween rm_PG_isBetween (va_Pc [.long x0, .long x2, .long x4] (fun U => U.heap.size = sz ∧ va_P (dC, dI) classes [] U.heap ∧ va_K (dC, dI) classes [(cI, .int), (cL, .long), (cB, .byte)] U ∧ va_D (fun _ => True) [])) (Q_PG_isBetween dC dI cI cL cB x0 x2 x4 P (va_A [] sz)) 0 0 (va_A [] sz) := by
  refine Met.ofW (cc := b_PG_isBetween) (maxL := 6) (ret := (some .boolean)) (by decide) rfl ?_
  intro p e s m args below meth c s₁ B hml hv
  obtain ⟨ha, hsz, hP, hK, hD0⟩ := hv
  have hx := B.exec
  have hb := B.bytes
  have hr := B.returns
  have hts0 := atoms_spec (ws := w_PG_isBetween) B.pre
  have hts : ∀ w ∈ tb, w.before args s = true := fun w h => hts0 w (List.mem_cons_of_mem _ h)
  have hown : s.vm.findClass R_PG = some m.cls := findClass_of_methodNamed B.named
  have hlocks := B.notSynchronized
  subst hsz
  have hD := hD0.self (sz := s.heap.size)
  generalize hAe : va_A [] s.heap.size = A at hD ⊢
  have hA : ∀ q : Nat, s.heap.size ≤ q → A q := fun q h => by rw [← hAe]; exact Or.inr h
  have hS : va_S A s.heap s.heap [] := va_S.rf
  have hP : va_P (dC, dI) classes [] s.heap := hP
  have hl := lv_entry [.long x0, .long x2, .long x4] (n := 6) (Nat.le_of_ble_eq_true rfl)
  have he9 : entryFrame m args 6 = F0 m 0 ((lg_sl [.long x0, .long x2, .long x4] ++ List.replicate (6 - (lg_sl [.long x0, .long x2, .long x4]).length) Slot.unset).toArray) [] := by rw [ha]; exact lg_entry_eq _ _ _
  rw [he9]
  clear he9
  generalize (lg_sl [.long x0, .long x2, .long x4] ++ List.replicate (6 - (lg_sl [.long x0, .long x2, .long x4]).length) Slot.unset).toArray = ls at hl ⊢
  have hl : lv_has ls 6 [(0, .long x0), (2, .long x2), (4, .long x4)] := hl
  unfold wp_PG_isBetween at hw
  refine lv_lload_n hx hb d_PG_isBetween_0 rfl (lv_at hl 0 rfl) ?_
  refine lv_lload_n hx hb d_PG_isBetween_1 rfl (lv_at hl 1 rfl) ?_
  refine W.lcmp hx hb d_PG_isBetween_2 ?_
  refine lv_if_lt (tgt := 17) hx hb d_PG_isBetween_3 (by decide) (fun c3 => ?_) (fun c3 => ?_)
  · replace hw := hw.1 c3
    refine lv_iconst (v := 0) hx hb d_PG_isBetween_17 (by decide) ?_
    exact W.zret (v := 0) hx hb hr (by decide) (fun t ht hW => ⟨⟨0, (), rfl, hw, by rw [ht]; exact hP, va_K.moved hW.alike hK, hD⟩, hS.F ht⟩) hS.2.2 d_PG_isBetween_18
  · replace hw := hw.2 c3
    refine lv_lload_n hx hb d_PG_isBetween_6 rfl (lv_at hl 0 rfl) ?_
    refine lv_lload hx hb d_PG_isBetween_7 (lv_at hl 2 rfl) ?_
    refine W.lcmp hx hb d_PG_isBetween_9 ?_
    refine lv_if_gt (tgt := 17) hx hb d_PG_isBetween_10 (by decide) (fun c10 => ?_) (fun c10 => ?_)
    · replace hw := hw.1 c10
      refine lv_iconst (v := 0) hx hb d_PG_isBetween_17 (by decide) ?_
      exact W.zret (v := 0) hx hb hr (by decide) (fun t ht hW => ⟨⟨0, (), rfl, hw, by rw [ht]; exact hP, va_K.moved hW.alike hK, hD⟩, hS.F ht⟩) hS.2.2 d_PG_isBetween_18
    · replace hw := hw.2 c10
      refine lv_iconst (v := 1) hx hb d_PG_isBetween_13 (by decide) ?_
      refine lv_goto (tgt := 18) hx hb d_PG_isBetween_14 (by decide) ?_
      exact W.zret (v := 1) hx hb hr (by decide) (fun t ht hW => ⟨⟨1, (), rfl, hw, by rw [ht]; exact hP, va_K.moved hW.alike hK, hD⟩, hS.F ht⟩) hS.2.2 d_PG_isBetween_18
def wp_PG_isPosition (x0 : Int32) (P : Int32 → Prop) : Prop := wp_PG_isBetween ((x0 : Int32).toInt64) 0 9 (fun r6 => (narrow .boolean (.int r6) = .int r6 ∧ P r6))
def w_PG_isPosition : List Cond := .code y_PG_isPosition b_PG_isPosition 1 (some .boolean) :: tb
abbrev rm_PG_isPosition : Room := { frames := 1, cells := 0, slots := 0, locals := 25 }
abbrev Q_PG_isPosition (dC : Nat → ClassId) (dI : Nat → Nat → Nat) (cI cL cB : ClassId) (x0 : Int32) (P : Int32 → Prop) (A : Nat → Prop) : Array Value → State → Outcome → State → Prop := va_Qi (fun (r : Int32) (u : Unit) => P r) (fun u t => va_P (dC, dI) classes [] t.heap ∧ va_K (dC, dI) classes [(cI, .int), (cL, .long), (cB, .byte)] t ∧ va_D A []) A
set_option maxHeartbeats 4000000 in
set_option maxRecDepth 100000 in
theorem c_PG_isPosition (l : Launch) (dC : Nat → ClassId) (dI : Nat → Nat → Nat) (cI cL cB : ClassId) (sz : Nat) (x0 : Int32) (P : Int32 → Prop) (hw : wp_PG_isPosition x0 P) : Met l y_PG_isPosition w_PG_isPosition rm_PG_isPosition (va_Pc [.int x0] (fun U => U.heap.size = sz ∧ va_P (dC, dI) classes [] U.heap ∧ va_K (dC, dI) classes [(cI, .int), (cL, .long), (cB, .byte)] U ∧ va_D (fun _ => True) [])) (Q_PG_isPosition dC dI cI cL cB x0 P (va_A [] sz)) 0 0 (va_A [] sz) := by
  refine Met.ofW (cc := b_PG_isPosition) (maxL := 1) (ret := (some .boolean)) (by decide) rfl ?_
  intro p e s m args below meth c s₁ B hml hv
  obtain ⟨ha, hsz, hP, hK, hD0⟩ := hv
  have hx := B.exec
  have hb := B.bytes
  have hr := B.returns
  have hts0 := atoms_spec (ws := w_PG_isPosition) B.pre
  have hts : ∀ w ∈ tb, w.before args s = true := fun w h => hts0 w (List.mem_cons_of_mem _ h)
  have hown : s.vm.findClass R_PG = some m.cls := findClass_of_methodNamed B.named
  have hlocks := B.notSynchronized
  subst hsz
  have hD := hD0.self (sz := s.heap.size)
  generalize hAe : va_A [] s.heap.size = A at hD ⊢
  have hA : ∀ q : Nat, s.heap.size ≤ q → A q := fun q h => by rw [← hAe]; exact Or.inr h
  have hS : va_S A s.heap s.heap [] := va_S.rf
  have hP : va_P (dC, dI) classes [] s.heap := hP
  have hl := lv_entry [.int x0] (n := 1) (Nat.le_of_ble_eq_true rfl)
  have he9 : entryFrame m args 1 = F0 m 0 ((lg_sl [.int x0] ++ List.replicate (1 - (lg_sl [.int x0]).length) Slot.unset).toArray) [] := by rw [ha]; exact lg_entry_eq _ _ _
  rw [he9]
  clear he9
  generalize (lg_sl [.int x0] ++ List.replicate (1 - (lg_sl [.int x0]).length) Slot.unset).toArray = ls at hl ⊢
  have hl : lv_has ls 1 [(0, .int x0)] := hl
  unfold wp_PG_isPosition at hw
  refine lv_iload_n hx hb d_PG_isPosition_0 rfl (lv_at hl 0 rfl) ?_
  refine lv_i2l hx hb d_PG_isPosition_1 rfl ?_
  refine lv_lconst (v := 0) hx hb d_PG_isPosition_2 (by decide) ?_
  refine lv_ldc2 (v := 9) hx hb hown (hts (Cond.constantLong R_PG 170 9) kw11_0345dcc) d_PG_isPosition_3 ?_
  have hPc := hP.sub (ws' := []) [] rfl
  have hDc := hD.sub (ws' := []) [] (by decide) rfl
  have hFc := va_free (wc := []) hD hS hA [] rfl
  refine va_calli (va_runS (As := [.long (x0 : Int32).toInt64, .long 0, .long 9]) (rest := []) ⟨hx, hb, hml, hown, hts⟩ (c_PG_isBetween l dC dI cI cL cB  s.heap.size  ((x0 : Int32).toInt64) 0 9 _ hw) (my_cwS 3 hts kw11_9c8562c kw11_674c2bf kw11_dc3dcb6 kw11_12156fe rfl rfl (by decide +kernel) ⟨Nat.le_of_ble_eq_true rfl, Nat.le_of_ble_eq_true rfl⟩) ⟨fun a U g mk q => by obtain ⟨q0, q1, qP, qK, qD⟩ := q; exact ⟨q0, q1, qP, va_K.moved (u := U) (U := U.calling g mk a) (Vm.Alike.refl U.vm) qK, qD⟩, fun U hU hW => ⟨rfl, by rw [hU], by rw [hU]; exact hPc, va_K.moved hW.alike hK, hDc.weaken (fun _ _ _ _ => trivial)⟩⟩ rfl rfl hl.1 rfl (lv_room (Nat.le_of_ble_eq_true rfl)) d_PG_isPosition_6 ⟨Nat.zero_le _, Nat.zero_le _⟩) hS (fun q _ h => hFc q h) hFc (fun r6 u t H locs ht hvm hw hB hz1 hk1 hS => ?_)
  obtain ⟨hP1, hK1, hD1⟩ := hB
  rw [ht] at hP1
  obtain ⟨hP, hD⟩ := va_join (wr := []) (w1 := []) hP hD [] [] rfl rfl (by decide) (by decide) hk1 hFc hP1 hD1
  have hP : va_P (dC, dI) classes [] H := hP.sub (ws' := []) [] rfl
  have hD : va_D A [] := hD.sub (ws' := []) [] (by decide) rfl
  exact W.zret (v := r6) hx hb hr hw.1 (fun t ht hW => ⟨⟨r6, (), rfl, hw.2, by rw [ht]; exact hP, va_K.moved hW.alike hK, hD⟩, hS.F ht⟩) hS.2.2 d_PG_isPosition_9
def wp_Pl_isThing (v_t_things : Int32) (x1 : Int32) (P : Int32 → Prop) : Prop := ((x1 < 0 → P 0) ∧ (¬ x1 < 0 → ((v_t_things ≤ x1 → P 0) ∧ (¬ v_t_things ≤ x1 → P 1))))
def w_Pl_isThing : List Cond := .code y_Pl_isThing b_Pl_isThing 2 (some .boolean) :: tb
abbrev rm_Pl_isThing : Room := { frames := 0, cells := 0, slots := 0, locals := 0 }
abbrev Q_Pl_isThing (dC : Nat → ClassId) (dI : Nat → Nat → Nat) (cI cL cB : ClassId) (q_t : Nat) (q_t_kind : Nat) (q_t_position : Nat) (q_t_told : Nat) (q_t_capacity : Nat) (q_t_amount : Nat) (q_t_liquid : Nat) (q_t_portsTaken : Nat) (q_t_endAtPort : Nat) (q_t_pipeLitres : Nat) (q_t_thingAtEnd : Nat) (q_t_portAtEnd : Nat) (q_t_bendAtEnd : Nat) (q_t_inPipes : Nat) (v_t_things : Int32) (v_t_pipes : Int32) (x1 : Int32) (P : Int32 → Prop) (A : Nat → Prop) : Array Value → State → Outcome → State → Prop := va_Qi (fun (r : Int32) (u : Unit) => P r) (fun u t => va_P (dC, dI) classes [(q_t, .inr (1, [.int v_t_things, .ref q_t_kind, .ref q_t_position, .ref q_t_told, .ref q_t_capacity, .ref q_t_amount, .ref q_t_liquid, .ref q_t_portsTaken, .ref q_t_endAtPort, .int v_t_pipes, .ref q_t_pipeLitres, .ref q_t_thingAtEnd, .ref q_t_portAtEnd, .ref q_t_bendAtEnd, .ref q_t_inPipes]))] t.heap ∧ va_K (dC, dI) classes [(cI, .int), (cL, .long), (cB, .byte)] t ∧ va_D A [(q_t, .inr (1, [.int v_t_things, .ref q_t_kind, .ref q_t_position, .ref q_t_told, .ref q_t_capacity, .ref q_t_amount, .ref q_t_liquid, .ref q_t_portsTaken, .ref q_t_endAtPort, .int v_t_pipes, .ref q_t_pipeLitres, .ref q_t_thingAtEnd, .ref q_t_portAtEnd, .ref q_t_bendAtEnd, .ref q_t_inPipes]))]) A
set_option maxHeartbeats 4000000 in
set_option maxRecDepth 100000 in
theorem c_Pl_isThing (l : Launch) (dC : Nat → ClassId) (dI : Nat → Nat → Nat) (cI cL cB : ClassId) (q_t : Nat) (q_t_kind : Nat) (q_t_position : Nat) (q_t_told : Nat) (q_t_capacity : Nat) (q_t_amount : Nat) (q_t_liquid : Nat) (q_t_portsTaken : Nat) (q_t_endAtPort : Nat) (q_t_pipeLitres : Nat) (q_t_thingAtEnd : Nat) (q_t_portAtEnd : Nat) (q_t_bendAtEnd : Nat) (q_t_inPipes : Nat) (sz : Nat) (v_t_things : Int32) (v_t_pipes : Int32) (x1 : Int32) (P : Int32 → Prop) (hw : wp_Pl_isThing v_t_things x1 P) : Met l y_Pl_isThing w_Pl_isThing rm_Pl_isThing (va_Pc [.ref q_t, .int x1] (fun U => U.heap.size = sz ∧ va_P (dC, dI) classes [(q_t, .inr (1, [.int v_t_things, .ref q_t_kind, .ref q_t_position, .ref q_t_told, .ref q_t_capacity, .ref q_t_amount, .ref q_t_liquid, .ref q_t_portsTaken, .ref q_t_endAtPort, .int v_t_pipes, .ref q_t_pipeLitres, .ref q_t_thingAtEnd, .ref q_t_portAtEnd, .ref q_t_bendAtEnd, .ref q_t_inPipes]))] U.heap ∧ va_K (dC, dI) classes [(cI, .int), (cL, .long), (cB, .byte)] U ∧ va_D (fun _ => True) [(q_t, .inr (1, [.int v_t_things, .ref q_t_kind, .ref q_t_position, .ref q_t_told, .ref q_t_capacity, .ref q_t_amount, .ref q_t_liquid, .ref q_t_portsTaken, .ref q_t_endAtPort, .int v_t_pipes, .ref q_t_pipeLitres, .ref q_t_thingAtEnd, .ref q_t_portAtEnd, .ref q_t_bendAtEnd, .ref q_t_inPipes]))])) (Q_Pl_isThing dC dI cI cL cB q_t q_t_kind q_t_position q_t_told q_t_capacity q_t_amount q_t_liquid q_t_portsTaken q_t_endAtPort q_t_pipeLitres q_t_thingAtEnd q_t_portAtEnd q_t_bendAtEnd q_t_inPipes v_t_things v_t_pipes x1 P (va_A [(q_t, .inr (1, [.int v_t_things, .ref q_t_kind, .ref q_t_position, .ref q_t_told, .ref q_t_capacity, .ref q_t_amount, .ref q_t_liquid, .ref q_t_portsTaken, .ref q_t_endAtPort, .int v_t_pipes, .ref q_t_pipeLitres, .ref q_t_thingAtEnd, .ref q_t_portAtEnd, .ref q_t_bendAtEnd, .ref q_t_inPipes]))] sz)) 0 0 (va_A [(q_t, .inr (1, [.int v_t_things, .ref q_t_kind, .ref q_t_position, .ref q_t_told, .ref q_t_capacity, .ref q_t_amount, .ref q_t_liquid, .ref q_t_portsTaken, .ref q_t_endAtPort, .int v_t_pipes, .ref q_t_pipeLitres, .ref q_t_thingAtEnd, .ref q_t_portAtEnd, .ref q_t_bendAtEnd, .ref q_t_inPipes]))] sz) := by
  refine Met.ofW (cc := b_Pl_isThing) (maxL := 2) (ret := (some .boolean)) (by decide) rfl ?_
  intro p e s m args below meth c s₁ B hml hv
  obtain ⟨ha, hsz, hP, hK, hD0⟩ := hv
  have hx := B.exec
  have hb := B.bytes
  have hr := B.returns
  have hts0 := atoms_spec (ws := w_Pl_isThing) B.pre
  have hts : ∀ w ∈ tb, w.before args s = true := fun w h => hts0 w (List.mem_cons_of_mem _ h)
  have hown : s.vm.findClass R_Pl = some m.cls := findClass_of_methodNamed B.named
  have hlocks := B.notSynchronized
  subst hsz
  have hD := hD0.self (sz := s.heap.size)
  generalize hAe : va_A [(q_t, .inr (1, [.int v_t_things, .ref q_t_kind, .ref q_t_position, .ref q_t_told, .ref q_t_capacity, .ref q_t_amount, .ref q_t_liquid, .ref q_t_portsTaken, .ref q_t_endAtPort, .int v_t_pipes, .ref q_t_pipeLitres, .ref q_t_thingAtEnd, .ref q_t_portAtEnd, .ref q_t_bendAtEnd, .ref q_t_inPipes]))] s.heap.size = A at hD ⊢
  have hA : ∀ q : Nat, s.heap.size ≤ q → A q := fun q h => by rw [← hAe]; exact Or.inr h
  have hS : va_S A s.heap s.heap [] := va_S.rf
  have hP : va_P (dC, dI) classes [(q_t, .inr (1, [.int v_t_things, .ref q_t_kind, .ref q_t_position, .ref q_t_told, .ref q_t_capacity, .ref q_t_amount, .ref q_t_liquid, .ref q_t_portsTaken, .ref q_t_endAtPort, .int v_t_pipes, .ref q_t_pipeLitres, .ref q_t_thingAtEnd, .ref q_t_portAtEnd, .ref q_t_bendAtEnd, .ref q_t_inPipes]))] s.heap := hP
  have hl := lv_entry [.ref q_t, .int x1] (n := 2) (Nat.le_of_ble_eq_true rfl)
  have he9 : entryFrame m args 2 = F0 m 0 ((lg_sl [.ref q_t, .int x1] ++ List.replicate (2 - (lg_sl [.ref q_t, .int x1]).length) Slot.unset).toArray) [] := by rw [ha]; exact lg_entry_eq _ _ _
  rw [he9]
  clear he9
  generalize (lg_sl [.ref q_t, .int x1] ++ List.replicate (2 - (lg_sl [.ref q_t, .int x1]).length) Slot.unset).toArray = ls at hl ⊢
  have hl : lv_has ls 2 [(0, .ref q_t), (1, .int x1)] := hl
  unfold wp_Pl_isThing at hw
  refine lv_iload_n hx hb d_Pl_isThing_0 rfl (lv_at hl 1 rfl) ?_
  refine lv_if_lt (tgt := 16) hx hb d_Pl_isThing_1 (by decide) (fun c1 => ?_) (fun c1 => ?_)
  · replace hw := hw.1 c1
    refine lv_iconst (v := 0) hx hb d_Pl_isThing_16 (by decide) ?_
    exact W.zret (v := 0) hx hb hr (by decide) (fun t ht hW => ⟨⟨0, (), rfl, hw, by rw [ht]; exact hP, va_K.moved hW.alike hK, hD⟩, hS.F ht⟩) hS.2.2 d_Pl_isThing_17
  · replace hw := hw.2 c1
    refine lv_iload_n hx hb d_Pl_isThing_4 rfl (lv_at hl 1 rfl) ?_
    refine lv_aload_n hx hb d_Pl_isThing_5 rfl (lv_at hl 0 rfl) ?_
    refine va_get (D := (dC, dI)) (ci := 1) (v := .int v_t_things) (C := R_Pl) (T := F_Pl) (N := 15) hx hb hts i_Pl hown hK hP 0 rfl rfl 0 (by decide) (hts (Cond.fieldLink R_Pl 55 "PlantGraph$Plant" "things" "I") kw11_8296991) (fun _ h9 => h9) rfl d_Pl_isThing_6 ?_
    refine lv_icmp_ge (tgt := 16) hx hb d_Pl_isThing_9 (by decide) (fun c9 => ?_) (fun c9 => ?_)
    · replace hw := hw.1 c9
      refine lv_iconst (v := 0) hx hb d_Pl_isThing_16 (by decide) ?_
      exact W.zret (v := 0) hx hb hr (by decide) (fun t ht hW => ⟨⟨0, (), rfl, hw, by rw [ht]; exact hP, va_K.moved hW.alike hK, hD⟩, hS.F ht⟩) hS.2.2 d_Pl_isThing_17
    · replace hw := hw.2 c9
      refine lv_iconst (v := 1) hx hb d_Pl_isThing_12 (by decide) ?_
      refine lv_goto (tgt := 17) hx hb d_Pl_isThing_13 (by decide) ?_
      exact W.zret (v := 1) hx hb hr (by decide) (fun t ht hW => ⟨⟨1, (), rfl, hw, by rw [ht]; exact hP, va_K.moved hW.alike hK, hD⟩, hS.F ht⟩) hS.2.2 d_Pl_isThing_17
def wp_Pl_isTank (v_t_things : Int32) (f_t_kind : (Nat → Int32)) (x1 : Int32) (P : Int32 → Prop) : Prop := wp_Pl_isThing v_t_things x1 (fun r2 => ((r2 = 0 → P 0) ∧ (¬ r2 = 0 → (vp_in x1 40 ∧ ((¬ (f_t_kind x1.toNatClampNeg) = (10 : Int32) → P 0) ∧ ((f_t_kind x1.toNatClampNeg) = (10 : Int32) → P 1))))))
def w_Pl_isTank : List Cond := .code y_Pl_isTank b_Pl_isTank 2 (some .boolean) :: tb
abbrev rm_Pl_isTank : Room := { frames := 1, cells := 0, slots := 0, locals := 21 }
abbrev Q_Pl_isTank (dC : Nat → ClassId) (dI : Nat → Nat → Nat) (cI cL cB : ClassId) (q_t : Nat) (q_t_kind : Nat) (q_t_position : Nat) (q_t_told : Nat) (q_t_capacity : Nat) (q_t_amount : Nat) (q_t_liquid : Nat) (q_t_portsTaken : Nat) (q_t_endAtPort : Nat) (q_t_pipeLitres : Nat) (q_t_thingAtEnd : Nat) (q_t_portAtEnd : Nat) (q_t_bendAtEnd : Nat) (q_t_inPipes : Nat) (v_t_things : Int32) (v_t_pipes : Int32) (f_t_kind : (Nat → Int32)) (x1 : Int32) (P : Int32 → Prop) (A : Nat → Prop) : Array Value → State → Outcome → State → Prop := va_Qi (fun (r : Int32) (u : Unit) => P r) (fun u t => va_P (dC, dI) classes [(q_t, .inr (1, [.int v_t_things, .ref q_t_kind, .ref q_t_position, .ref q_t_told, .ref q_t_capacity, .ref q_t_amount, .ref q_t_liquid, .ref q_t_portsTaken, .ref q_t_endAtPort, .int v_t_pipes, .ref q_t_pipeLitres, .ref q_t_thingAtEnd, .ref q_t_portAtEnd, .ref q_t_bendAtEnd, .ref q_t_inPipes])), (q_t_kind, .inl (cI, 40, .inl f_t_kind))] t.heap ∧ va_K (dC, dI) classes [(cI, .int), (cL, .long), (cB, .byte)] t ∧ va_D A [(q_t, .inr (1, [.int v_t_things, .ref q_t_kind, .ref q_t_position, .ref q_t_told, .ref q_t_capacity, .ref q_t_amount, .ref q_t_liquid, .ref q_t_portsTaken, .ref q_t_endAtPort, .int v_t_pipes, .ref q_t_pipeLitres, .ref q_t_thingAtEnd, .ref q_t_portAtEnd, .ref q_t_bendAtEnd, .ref q_t_inPipes])), (q_t_kind, .inl (cI, 40, .inl f_t_kind))]) A
set_option maxHeartbeats 4000000 in
set_option maxRecDepth 100000 in
theorem c_Pl_isTank (l : Launch) (dC : Nat → ClassId) (dI : Nat → Nat → Nat) (cI cL cB : ClassId) (q_t : Nat) (q_t_kind : Nat) (q_t_position : Nat) (q_t_told : Nat) (q_t_capacity : Nat) (q_t_amount : Nat) (q_t_liquid : Nat) (q_t_portsTaken : Nat) (q_t_endAtPort : Nat) (q_t_pipeLitres : Nat) (q_t_thingAtEnd : Nat) (q_t_portAtEnd : Nat) (q_t_bendAtEnd : Nat) (q_t_inPipes : Nat) (sz : Nat) (v_t_things : Int32) (v_t_pipes : Int32) (f_t_kind : (Nat → Int32)) (x1 : Int32) (P : Int32 → Prop) (hw : wp_Pl_isTank v_t_things f_t_kind x1 P) : Met l y_Pl_isTank w_Pl_isTank rm_Pl_isTank (va_Pc [.ref q_t, .int x1] (fun U => U.heap.size = sz ∧ va_P (dC, dI) classes [(q_t, .inr (1, [.int v_t_things, .ref q_t_kind, .ref q_t_position, .ref q_t_told, .ref q_t_capacity, .ref q_t_amount, .ref q_t_liquid, .ref q_t_portsTaken, .ref q_t_endAtPort, .int v_t_pipes, .ref q_t_pipeLitres, .ref q_t_thingAtEnd, .ref q_t_portAtEnd, .ref q_t_bendAtEnd, .ref q_t_inPipes])), (q_t_kind, .inl (cI, 40, .inl f_t_kind))] U.heap ∧ va_K (dC, dI) classes [(cI, .int), (cL, .long), (cB, .byte)] U ∧ va_D (fun _ => True) [(q_t, .inr (1, [.int v_t_things, .ref q_t_kind, .ref q_t_position, .ref q_t_told, .ref q_t_capacity, .ref q_t_amount, .ref q_t_liquid, .ref q_t_portsTaken, .ref q_t_endAtPort, .int v_t_pipes, .ref q_t_pipeLitres, .ref q_t_thingAtEnd, .ref q_t_portAtEnd, .ref q_t_bendAtEnd, .ref q_t_inPipes])), (q_t_kind, .inl (cI, 40, .inl f_t_kind))])) (Q_Pl_isTank dC dI cI cL cB q_t q_t_kind q_t_position q_t_told q_t_capacity q_t_amount q_t_liquid q_t_portsTaken q_t_endAtPort q_t_pipeLitres q_t_thingAtEnd q_t_portAtEnd q_t_bendAtEnd q_t_inPipes v_t_things v_t_pipes f_t_kind x1 P (va_A [(q_t, .inr (1, [.int v_t_things, .ref q_t_kind, .ref q_t_position, .ref q_t_told, .ref q_t_capacity, .ref q_t_amount, .ref q_t_liquid, .ref q_t_portsTaken, .ref q_t_endAtPort, .int v_t_pipes, .ref q_t_pipeLitres, .ref q_t_thingAtEnd, .ref q_t_portAtEnd, .ref q_t_bendAtEnd, .ref q_t_inPipes])), (q_t_kind, .inl (cI, 40, .inl f_t_kind))] sz)) 0 0 (va_A [(q_t, .inr (1, [.int v_t_things, .ref q_t_kind, .ref q_t_position, .ref q_t_told, .ref q_t_capacity, .ref q_t_amount, .ref q_t_liquid, .ref q_t_portsTaken, .ref q_t_endAtPort, .int v_t_pipes, .ref q_t_pipeLitres, .ref q_t_thingAtEnd, .ref q_t_portAtEnd, .ref q_t_bendAtEnd, .ref q_t_inPipes])), (q_t_kind, .inl (cI, 40, .inl f_t_kind))] sz) := by
  refine Met.ofW (cc := b_Pl_isTank) (maxL := 2) (ret := (some .boolean)) (by decide) rfl ?_
  intro p e s m args below meth c s₁ B hml hv
  obtain ⟨ha, hsz, hP, hK, hD0⟩ := hv
  have hx := B.exec
  have hb := B.bytes
  have hr := B.returns
  have hts0 := atoms_spec (ws := w_Pl_isTank) B.pre
  have hts : ∀ w ∈ tb, w.before args s = true := fun w h => hts0 w (List.mem_cons_of_mem _ h)
  have hown : s.vm.findClass R_Pl = some m.cls := findClass_of_methodNamed B.named
  have hlocks := B.notSynchronized
  subst hsz
  have hD := hD0.self (sz := s.heap.size)
  generalize hAe : va_A [(q_t, .inr (1, [.int v_t_things, .ref q_t_kind, .ref q_t_position, .ref q_t_told, .ref q_t_capacity, .ref q_t_amount, .ref q_t_liquid, .ref q_t_portsTaken, .ref q_t_endAtPort, .int v_t_pipes, .ref q_t_pipeLitres, .ref q_t_thingAtEnd, .ref q_t_portAtEnd, .ref q_t_bendAtEnd, .ref q_t_inPipes])), (q_t_kind, .inl (cI, 40, .inl f_t_kind))] s.heap.size = A at hD ⊢
  have hA : ∀ q : Nat, s.heap.size ≤ q → A q := fun q h => by rw [← hAe]; exact Or.inr h
  have hS : va_S A s.heap s.heap [] := va_S.rf
  have hP : va_P (dC, dI) classes [(q_t, .inr (1, [.int v_t_things, .ref q_t_kind, .ref q_t_position, .ref q_t_told, .ref q_t_capacity, .ref q_t_amount, .ref q_t_liquid, .ref q_t_portsTaken, .ref q_t_endAtPort, .int v_t_pipes, .ref q_t_pipeLitres, .ref q_t_thingAtEnd, .ref q_t_portAtEnd, .ref q_t_bendAtEnd, .ref q_t_inPipes])), (q_t_kind, .inl (cI, 40, .inl f_t_kind))] s.heap := hP
  have hl := lv_entry [.ref q_t, .int x1] (n := 2) (Nat.le_of_ble_eq_true rfl)
  have he9 : entryFrame m args 2 = F0 m 0 ((lg_sl [.ref q_t, .int x1] ++ List.replicate (2 - (lg_sl [.ref q_t, .int x1]).length) Slot.unset).toArray) [] := by rw [ha]; exact lg_entry_eq _ _ _
  rw [he9]
  clear he9
  generalize (lg_sl [.ref q_t, .int x1] ++ List.replicate (2 - (lg_sl [.ref q_t, .int x1]).length) Slot.unset).toArray = ls at hl ⊢
  have hl : lv_has ls 2 [(0, .ref q_t), (1, .int x1)] := hl
  unfold wp_Pl_isTank at hw
  refine lv_aload_n hx hb d_Pl_isTank_0 rfl (lv_at hl 0 rfl) ?_
  refine lv_iload_n hx hb d_Pl_isTank_1 rfl (lv_at hl 1 rfl) ?_
  have hPc := hP.sub (ws' := [(q_t, .inr (1, [.int v_t_things, .ref q_t_kind, .ref q_t_position, .ref q_t_told, .ref q_t_capacity, .ref q_t_amount, .ref q_t_liquid, .ref q_t_portsTaken, .ref q_t_endAtPort, .int v_t_pipes, .ref q_t_pipeLitres, .ref q_t_thingAtEnd, .ref q_t_portAtEnd, .ref q_t_bendAtEnd, .ref q_t_inPipes]))]) [0] rfl
  have hDc := hD.sub (ws' := [(q_t, .inr (1, [.int v_t_things, .ref q_t_kind, .ref q_t_position, .ref q_t_told, .ref q_t_capacity, .ref q_t_amount, .ref q_t_liquid, .ref q_t_portsTaken, .ref q_t_endAtPort, .int v_t_pipes, .ref q_t_pipeLitres, .ref q_t_thingAtEnd, .ref q_t_portAtEnd, .ref q_t_bendAtEnd, .ref q_t_inPipes]))]) [0] (by decide) rfl
  have hFc := va_free (wc := [(q_t, .inr (1, [.int v_t_things, .ref q_t_kind, .ref q_t_position, .ref q_t_told, .ref q_t_capacity, .ref q_t_amount, .ref q_t_liquid, .ref q_t_portsTaken, .ref q_t_endAtPort, .int v_t_pipes, .ref q_t_pipeLitres, .ref q_t_thingAtEnd, .ref q_t_portAtEnd, .ref q_t_bendAtEnd, .ref q_t_inPipes]))]) hD hS hA [0] rfl
  refine va_calli (va_runV (As := [.int x1]) (rest := []) ⟨hx, hb, hml, hown, hts⟩ (c_Pl_isThing l dC dI cI cL cB q_t q_t_kind q_t_position q_t_told q_t_capacity q_t_amount q_t_liquid q_t_portsTaken q_t_endAtPort q_t_pipeLitres q_t_thingAtEnd q_t_portAtEnd q_t_bendAtEnd q_t_inPipes s.heap.size v_t_things v_t_pipes x1 _ hw) (my_cwV 1 hts kw11_2e300e8 kw11_3a0aa7d kw11_1aee59d kw11_cd65af8 kw11_a1735ca rfl rfl (by decide +kernel) ⟨Nat.le_of_ble_eq_true rfl, Nat.le_of_ble_eq_true rfl⟩) ⟨fun a U g mk q => by obtain ⟨q0, q1, qP, qK, qD⟩ := q; exact ⟨q0, q1, qP, va_K.moved (u := U) (U := U.calling g mk a) (Vm.Alike.refl U.vm) qK, qD⟩, va_recv hK hP (ci := 1) (q0 := 0) rfl rfl, fun U hU hW => ⟨rfl, by rw [hU], by rw [hU]; exact hPc, va_K.moved hW.alike hK, hDc.weaken (fun _ _ _ _ => trivial)⟩⟩ rfl rfl hl.1 rfl (lv_room (Nat.le_of_ble_eq_true rfl)) d_Pl_isTank_2 ⟨Nat.zero_le _, Nat.zero_le _⟩) hS (fun q _ h => hFc q h) hFc (fun r2 u t H locs ht hvm hw hB hz1 hk1 hS => ?_)
  obtain ⟨hP1, hK1, hD1⟩ := hB
  rw [ht] at hP1
  obtain ⟨hP, hD⟩ := va_join (wr := [(q_t_kind, .inl (cI, 40, .inl f_t_kind))]) (w1 := [(q_t, .inr (1, [.int v_t_things, .ref q_t_kind, .ref q_t_position, .ref q_t_told, .ref q_t_capacity, .ref q_t_amount, .ref q_t_liquid, .ref q_t_portsTaken, .ref q_t_endAtPort, .int v_t_pipes, .ref q_t_pipeLitres, .ref q_t_thingAtEnd, .ref q_t_portAtEnd, .ref q_t_bendAtEnd, .ref q_t_inPipes]))]) hP hD [0] [1] rfl rfl (by decide) (by decide) hk1 hFc hP1 hD1
  have hP : va_P (dC, dI) classes [(q_t, .inr (1, [.int v_t_things, .ref q_t_kind, .ref q_t_position, .ref q_t_told, .ref q_t_capacity, .ref q_t_amount, .ref q_t_liquid, .ref q_t_portsTaken, .ref q_t_endAtPort, .int v_t_pipes, .ref q_t_pipeLitres, .ref q_t_thingAtEnd, .ref q_t_portAtEnd, .ref q_t_bendAtEnd, .ref q_t_inPipes])), (q_t_kind, .inl (cI, 40, .inl f_t_kind))] H := hP.sub (ws' := [(q_t, .inr (1, [.int v_t_things, .ref q_t_kind, .ref q_t_position, .ref q_t_told, .ref q_t_capacity, .ref q_t_amount, .ref q_t_liquid, .ref q_t_portsTaken, .ref q_t_endAtPort, .int v_t_pipes, .ref q_t_pipeLitres, .ref q_t_thingAtEnd, .ref q_t_portAtEnd, .ref q_t_bendAtEnd, .ref q_t_inPipes])), (q_t_kind, .inl (cI, 40, .inl f_t_kind))]) [1, 0] rfl
  have hD : va_D A [(q_t, .inr (1, [.int v_t_things, .ref q_t_kind, .ref q_t_position, .ref q_t_told, .ref q_t_capacity, .ref q_t_amount, .ref q_t_liquid, .ref q_t_portsTaken, .ref q_t_endAtPort, .int v_t_pipes, .ref q_t_pipeLitres, .ref q_t_thingAtEnd, .ref q_t_portAtEnd, .ref q_t_bendAtEnd, .ref q_t_inPipes])), (q_t_kind, .inl (cI, 40, .inl f_t_kind))] := hD.sub (ws' := [(q_t, .inr (1, [.int v_t_things, .ref q_t_kind, .ref q_t_position, .ref q_t_told, .ref q_t_capacity, .ref q_t_amount, .ref q_t_liquid, .ref q_t_portsTaken, .ref q_t_endAtPort, .int v_t_pipes, .ref q_t_pipeLitres, .ref q_t_thingAtEnd, .ref q_t_portAtEnd, .ref q_t_bendAtEnd, .ref q_t_inPipes])), (q_t_kind, .inl (cI, 40, .inl f_t_kind))]) [1, 0] (by decide) rfl
  refine lv_if_eq (tgt := 23) hx hb d_Pl_isTank_5 (by decide) (fun c5 => ?_) (fun c5 => ?_)
  · replace hw := hw.1 c5
    refine lv_iconst (v := 0) hx hb d_Pl_isTank_23 (by decide) ?_
    exact W.zret (v := 0) hx hb hr (by decide) (fun t ht hW => ⟨⟨0, (), rfl, hw, by rw [ht]; exact hP, va_K.moved hW.alike hK, hD⟩, hS.F ht⟩) hS.2.2 d_Pl_isTank_24
  · replace hw := hw.2 c5
    refine lv_aload_n hx hb d_Pl_isTank_8 rfl (lv_at hl 0 rfl) ?_
    refine va_get (D := (dC, dI)) (ci := 1) (v := .ref q_t_kind) (C := R_Pl) (T := F_Pl) (N := 15) hx hb hts i_Pl hown hK hP 0 rfl rfl 1 (by decide) (hts (Cond.fieldLink R_Pl 9 "PlantGraph$Plant" "kind" "[I") kw11_c0ecaf9) (fun _ h9 => h9) rfl d_Pl_isTank_9 ?_
    refine lv_iload_n hx hb d_Pl_isTank_12 rfl (lv_at hl 1 rfl) ?_
    refine va_iald hx hb hK hP 1 0 rfl rfl hw.1 d_Pl_isTank_13 ?_
    replace hw := hw.2
    refine lv_bipush (v := 10) hx hb d_Pl_isTank_14 (by decide) ?_
    refine lv_icmp_ne (tgt := 23) hx hb d_Pl_isTank_16 (by decide) (fun c16 => ?_) (fun c16 => ?_)
    · replace hw := hw.1 c16
      refine lv_iconst (v := 0) hx hb d_Pl_isTank_23 (by decide) ?_
      exact W.zret (v := 0) hx hb hr (by decide) (fun t ht hW => ⟨⟨0, (), rfl, hw, by rw [ht]; exact hP, va_K.moved hW.alike hK, hD⟩, hS.F ht⟩) hS.2.2 d_Pl_isTank_24
    · replace hw := hw.2 c16
      refine lv_iconst (v := 1) hx hb d_Pl_isTank_19 (by decide) ?_
      refine lv_goto (tgt := 24) hx hb d_Pl_isTank_20 (by decide) ?_
      exact W.zret (v := 1) hx hb hr (by decide) (fun t ht hW => ⟨⟨1, (), rfl, hw, by rw [ht]; exact hP, va_K.moved hW.alike hK, hD⟩, hS.F ht⟩) hS.2.2 d_Pl_isTank_24
def wp_Pl_isValve (v_t_things : Int32) (f_t_kind : (Nat → Int32)) (x1 : Int32) (P : Int32 → Prop) : Prop := wp_Pl_isThing v_t_things x1 (fun r2 => ((r2 = 0 → P 0) ∧ (¬ r2 = 0 → (vp_in x1 40 ∧ (((9 : Int32) ≤ (f_t_kind x1.toNatClampNeg) → P 0) ∧ (¬ (9 : Int32) ≤ (f_t_kind x1.toNatClampNeg) → P 1))))))
def w_Pl_isValve : List Cond := .code y_Pl_isValve b_Pl_isValve 2 (some .boolean) :: tb
abbrev rm_Pl_isValve : Room := { frames := 1, cells := 0, slots := 0, locals := 21 }
abbrev Q_Pl_isValve (dC : Nat → ClassId) (dI : Nat → Nat → Nat) (cI cL cB : ClassId) (q_t : Nat) (q_t_kind : Nat) (q_t_position : Nat) (q_t_told : Nat) (q_t_capacity : Nat) (q_t_amount : Nat) (q_t_liquid : Nat) (q_t_portsTaken : Nat) (q_t_endAtPort : Nat) (q_t_pipeLitres : Nat) (q_t_thingAtEnd : Nat) (q_t_portAtEnd : Nat) (q_t_bendAtEnd : Nat) (q_t_inPipes : Nat) (v_t_things : Int32) (v_t_pipes : Int32) (f_t_kind : (Nat → Int32)) (x1 : Int32) (P : Int32 → Prop) (A : Nat → Prop) : Array Value → State → Outcome → State → Prop := va_Qi (fun (r : Int32) (u : Unit) => P r) (fun u t => va_P (dC, dI) classes [(q_t, .inr (1, [.int v_t_things, .ref q_t_kind, .ref q_t_position, .ref q_t_told, .ref q_t_capacity, .ref q_t_amount, .ref q_t_liquid, .ref q_t_portsTaken, .ref q_t_endAtPort, .int v_t_pipes, .ref q_t_pipeLitres, .ref q_t_thingAtEnd, .ref q_t_portAtEnd, .ref q_t_bendAtEnd, .ref q_t_inPipes])), (q_t_kind, .inl (cI, 40, .inl f_t_kind))] t.heap ∧ va_K (dC, dI) classes [(cI, .int), (cL, .long), (cB, .byte)] t ∧ va_D A [(q_t, .inr (1, [.int v_t_things, .ref q_t_kind, .ref q_t_position, .ref q_t_told, .ref q_t_capacity, .ref q_t_amount, .ref q_t_liquid, .ref q_t_portsTaken, .ref q_t_endAtPort, .int v_t_pipes, .ref q_t_pipeLitres, .ref q_t_thingAtEnd, .ref q_t_portAtEnd, .ref q_t_bendAtEnd, .ref q_t_inPipes])), (q_t_kind, .inl (cI, 40, .inl f_t_kind))]) A
set_option maxHeartbeats 4000000 in
set_option maxRecDepth 100000 in
theorem c_Pl_isValve (l : Launch) (dC : Nat → ClassId) (dI : Nat → Nat → Nat) (cI cL cB : ClassId) (q_t : Nat) (q_t_kind : Nat) (q_t_position : Nat) (q_t_told : Nat) (q_t_capacity : Nat) (q_t_amount : Nat) (q_t_liquid : Nat) (q_t_portsTaken : Nat) (q_t_endAtPort : Nat) (q_t_pipeLitres : Nat) (q_t_thingAtEnd : Nat) (q_t_portAtEnd : Nat) (q_t_bendAtEnd : Nat) (q_t_inPipes : Nat) (sz : Nat) (v_t_things : Int32) (v_t_pipes : Int32) (f_t_kind : (Nat → Int32)) (x1 : Int32) (P : Int32 → Prop) (hw : wp_Pl_isValve v_t_things f_t_kind x1 P) : Met l y_Pl_isValve w_Pl_isValve rm_Pl_isValve (va_Pc [.ref q_t, .int x1] (fun U => U.heap.size = sz ∧ va_P (dC, dI) classes [(q_t, .inr (1, [.int v_t_things, .ref q_t_kind, .ref q_t_position, .ref q_t_told, .ref q_t_capacity, .ref q_t_amount, .ref q_t_liquid, .ref q_t_portsTaken, .ref q_t_endAtPort, .int v_t_pipes, .ref q_t_pipeLitres, .ref q_t_thingAtEnd, .ref q_t_portAtEnd, .ref q_t_bendAtEnd, .ref q_t_inPipes])), (q_t_kind, .inl (cI, 40, .inl f_t_kind))] U.heap ∧ va_K (dC, dI) classes [(cI, .int), (cL, .long), (cB, .byte)] U ∧ va_D (fun _ => True) [(q_t, .inr (1, [.int v_t_things, .ref q_t_kind, .ref q_t_position, .ref q_t_told, .ref q_t_capacity, .ref q_t_amount, .ref q_t_liquid, .ref q_t_portsTaken, .ref q_t_endAtPort, .int v_t_pipes, .ref q_t_pipeLitres, .ref q_t_thingAtEnd, .ref q_t_portAtEnd, .ref q_t_bendAtEnd, .ref q_t_inPipes])), (q_t_kind, .inl (cI, 40, .inl f_t_kind))])) (Q_Pl_isValve dC dI cI cL cB q_t q_t_kind q_t_position q_t_told q_t_capacity q_t_amount q_t_liquid q_t_portsTaken q_t_endAtPort q_t_pipeLitres q_t_thingAtEnd q_t_portAtEnd q_t_bendAtEnd q_t_inPipes v_t_things v_t_pipes f_t_kind x1 P (va_A [(q_t, .inr (1, [.int v_t_things, .ref q_t_kind, .ref q_t_position, .ref q_t_told, .ref q_t_capacity, .ref q_t_amount, .ref q_t_liquid, .ref q_t_portsTaken, .ref q_t_endAtPort, .int v_t_pipes, .ref q_t_pipeLitres, .ref q_t_thingAtEnd, .ref q_t_portAtEnd, .ref q_t_bendAtEnd, .ref q_t_inPipes])), (q_t_kind, .inl (cI, 40, .inl f_t_kind))] sz)) 0 0 (va_A [(q_t, .inr (1, [.int v_t_things, .ref q_t_kind, .ref q_t_position, .ref q_t_told, .ref q_t_capacity, .ref q_t_amount, .ref q_t_liquid, .ref q_t_portsTaken, .ref q_t_endAtPort, .int v_t_pipes, .ref q_t_pipeLitres, .ref q_t_thingAtEnd, .ref q_t_portAtEnd, .ref q_t_bendAtEnd, .ref q_t_inPipes])), (q_t_kind, .inl (cI, 40, .inl f_t_kind))] sz) := by
  refine Met.ofW (cc := b_Pl_isValve) (maxL := 2) (ret := (some .boolean)) (by decide) rfl ?_
  intro p e s m args below meth c s₁ B hml hv
  obtain ⟨ha, hsz, hP, hK, hD0⟩ := hv
  have hx := B.exec
  have hb := B.bytes
  have hr := B.returns
  have hts0 := atoms_spec (ws := w_Pl_isValve) B.pre
  have hts : ∀ w ∈ tb, w.before args s = true := fun w h => hts0 w (List.mem_cons_of_mem _ h)
  have hown : s.vm.findClass R_Pl = some m.cls := findClass_of_methodNamed B.named
  have hlocks := B.notSynchronized
  subst hsz
  have hD := hD0.self (sz := s.heap.size)
  generalize hAe : va_A [(q_t, .inr (1, [.int v_t_things, .ref q_t_kind, .ref q_t_position, .ref q_t_told, .ref q_t_capacity, .ref q_t_amount, .ref q_t_liquid, .ref q_t_portsTaken, .ref q_t_endAtPort, .int v_t_pipes, .ref q_t_pipeLitres, .ref q_t_thingAtEnd, .ref q_t_portAtEnd, .ref q_t_bendAtEnd, .ref q_t_inPipes])), (q_t_kind, .inl (cI, 40, .inl f_t_kind))] s.heap.size = A at hD ⊢
  have hA : ∀ q : Nat, s.heap.size ≤ q → A q := fun q h => by rw [← hAe]; exact Or.inr h
  have hS : va_S A s.heap s.heap [] := va_S.rf
  have hP : va_P (dC, dI) classes [(q_t, .inr (1, [.int v_t_things, .ref q_t_kind, .ref q_t_position, .ref q_t_told, .ref q_t_capacity, .ref q_t_amount, .ref q_t_liquid, .ref q_t_portsTaken, .ref q_t_endAtPort, .int v_t_pipes, .ref q_t_pipeLitres, .ref q_t_thingAtEnd, .ref q_t_portAtEnd, .ref q_t_bendAtEnd, .ref q_t_inPipes])), (q_t_kind, .inl (cI, 40, .inl f_t_kind))] s.heap := hP
  have hl := lv_entry [.ref q_t, .int x1] (n := 2) (Nat.le_of_ble_eq_true rfl)
  have he9 : entryFrame m args 2 = F0 m 0 ((lg_sl [.ref q_t, .int x1] ++ List.replicate (2 - (lg_sl [.ref q_t, .int x1]).length) Slot.unset).toArray) [] := by rw [ha]; exact lg_entry_eq _ _ _
  rw [he9]
  clear he9
  generalize (lg_sl [.ref q_t, .int x1] ++ List.replicate (2 - (lg_sl [.ref q_t, .int x1]).length) Slot.unset).toArray = ls at hl ⊢
  have hl : lv_has ls 2 [(0, .ref q_t), (1, .int x1)] := hl
  unfold wp_Pl_isValve at hw
  refine lv_aload_n hx hb d_Pl_isValve_0 rfl (lv_at hl 0 rfl) ?_
  refine lv_iload_n hx hb d_Pl_isValve_1 rfl (lv_at hl 1 rfl) ?_
  have hPc := hP.sub (ws' := [(q_t, .inr (1, [.int v_t_things, .ref q_t_kind, .ref q_t_position, .ref q_t_told, .ref q_t_capacity, .ref q_t_amount, .ref q_t_liquid, .ref q_t_portsTaken, .ref q_t_endAtPort, .int v_t_pipes, .ref q_t_pipeLitres, .ref q_t_thingAtEnd, .ref q_t_portAtEnd, .ref q_t_bendAtEnd, .ref q_t_inPipes]))]) [0] rfl
  have hDc := hD.sub (ws' := [(q_t, .inr (1, [.int v_t_things, .ref q_t_kind, .ref q_t_position, .ref q_t_told, .ref q_t_capacity, .ref q_t_amount, .ref q_t_liquid, .ref q_t_portsTaken, .ref q_t_endAtPort, .int v_t_pipes, .ref q_t_pipeLitres, .ref q_t_thingAtEnd, .ref q_t_portAtEnd, .ref q_t_bendAtEnd, .ref q_t_inPipes]))]) [0] (by decide) rfl
  have hFc := va_free (wc := [(q_t, .inr (1, [.int v_t_things, .ref q_t_kind, .ref q_t_position, .ref q_t_told, .ref q_t_capacity, .ref q_t_amount, .ref q_t_liquid, .ref q_t_portsTaken, .ref q_t_endAtPort, .int v_t_pipes, .ref q_t_pipeLitres, .ref q_t_thingAtEnd, .ref q_t_portAtEnd, .ref q_t_bendAtEnd, .ref q_t_inPipes]))]) hD hS hA [0] rfl
  refine va_calli (va_runV (As := [.int x1]) (rest := []) ⟨hx, hb, hml, hown, hts⟩ (c_Pl_isThing l dC dI cI cL cB q_t q_t_kind q_t_position q_t_told q_t_capacity q_t_amount q_t_liquid q_t_portsTaken q_t_endAtPort q_t_pipeLitres q_t_thingAtEnd q_t_portAtEnd q_t_bendAtEnd q_t_inPipes s.heap.size v_t_things v_t_pipes x1 _ hw) (my_cwV 1 hts kw11_2e300e8 kw11_3a0aa7d kw11_1aee59d kw11_cd65af8 kw11_a1735ca rfl rfl (by decide +kernel) ⟨Nat.le_of_ble_eq_true rfl, Nat.le_of_ble_eq_true rfl⟩) ⟨fun a U g mk q => by obtain ⟨q0, q1, qP, qK, qD⟩ := q; exact ⟨q0, q1, qP, va_K.moved (u := U) (U := U.calling g mk a) (Vm.Alike.refl U.vm) qK, qD⟩, va_recv hK hP (ci := 1) (q0 := 0) rfl rfl, fun U hU hW => ⟨rfl, by rw [hU], by rw [hU]; exact hPc, va_K.moved hW.alike hK, hDc.weaken (fun _ _ _ _ => trivial)⟩⟩ rfl rfl hl.1 rfl (lv_room (Nat.le_of_ble_eq_true rfl)) d_Pl_isValve_2 ⟨Nat.zero_le _, Nat.zero_le _⟩) hS (fun q _ h => hFc q h) hFc (fun r2 u t H locs ht hvm hw hB hz1 hk1 hS => ?_)
  obtain ⟨hP1, hK1, hD1⟩ := hB
  rw [ht] at hP1
  obtain ⟨hP, hD⟩ := va_join (wr := [(q_t_kind, .inl (cI, 40, .inl f_t_kind))]) (w1 := [(q_t, .inr (1, [.int v_t_things, .ref q_t_kind, .ref q_t_position, .ref q_t_told, .ref q_t_capacity, .ref q_t_amount, .ref q_t_liquid, .ref q_t_portsTaken, .ref q_t_endAtPort, .int v_t_pipes, .ref q_t_pipeLitres, .ref q_t_thingAtEnd, .ref q_t_portAtEnd, .ref q_t_bendAtEnd, .ref q_t_inPipes]))]) hP hD [0] [1] rfl rfl (by decide) (by decide) hk1 hFc hP1 hD1
  have hP : va_P (dC, dI) classes [(q_t, .inr (1, [.int v_t_things, .ref q_t_kind, .ref q_t_position, .ref q_t_told, .ref q_t_capacity, .ref q_t_amount, .ref q_t_liquid, .ref q_t_portsTaken, .ref q_t_endAtPort, .int v_t_pipes, .ref q_t_pipeLitres, .ref q_t_thingAtEnd, .ref q_t_portAtEnd, .ref q_t_bendAtEnd, .ref q_t_inPipes])), (q_t_kind, .inl (cI, 40, .inl f_t_kind))] H := hP.sub (ws' := [(q_t, .inr (1, [.int v_t_things, .ref q_t_kind, .ref q_t_position, .ref q_t_told, .ref q_t_capacity, .ref q_t_amount, .ref q_t_liquid, .ref q_t_portsTaken, .ref q_t_endAtPort, .int v_t_pipes, .ref q_t_pipeLitres, .ref q_t_thingAtEnd, .ref q_t_portAtEnd, .ref q_t_bendAtEnd, .ref q_t_inPipes])), (q_t_kind, .inl (cI, 40, .inl f_t_kind))]) [1, 0] rfl
  have hD : va_D A [(q_t, .inr (1, [.int v_t_things, .ref q_t_kind, .ref q_t_position, .ref q_t_told, .ref q_t_capacity, .ref q_t_amount, .ref q_t_liquid, .ref q_t_portsTaken, .ref q_t_endAtPort, .int v_t_pipes, .ref q_t_pipeLitres, .ref q_t_thingAtEnd, .ref q_t_portAtEnd, .ref q_t_bendAtEnd, .ref q_t_inPipes])), (q_t_kind, .inl (cI, 40, .inl f_t_kind))] := hD.sub (ws' := [(q_t, .inr (1, [.int v_t_things, .ref q_t_kind, .ref q_t_position, .ref q_t_told, .ref q_t_capacity, .ref q_t_amount, .ref q_t_liquid, .ref q_t_portsTaken, .ref q_t_endAtPort, .int v_t_pipes, .ref q_t_pipeLitres, .ref q_t_thingAtEnd, .ref q_t_portAtEnd, .ref q_t_bendAtEnd, .ref q_t_inPipes])), (q_t_kind, .inl (cI, 40, .inl f_t_kind))]) [1, 0] (by decide) rfl
  refine lv_if_eq (tgt := 23) hx hb d_Pl_isValve_5 (by decide) (fun c5 => ?_) (fun c5 => ?_)
  · replace hw := hw.1 c5
    refine lv_iconst (v := 0) hx hb d_Pl_isValve_23 (by decide) ?_
    exact W.zret (v := 0) hx hb hr (by decide) (fun t ht hW => ⟨⟨0, (), rfl, hw, by rw [ht]; exact hP, va_K.moved hW.alike hK, hD⟩, hS.F ht⟩) hS.2.2 d_Pl_isValve_24
  · replace hw := hw.2 c5
    refine lv_aload_n hx hb d_Pl_isValve_8 rfl (lv_at hl 0 rfl) ?_
    refine va_get (D := (dC, dI)) (ci := 1) (v := .ref q_t_kind) (C := R_Pl) (T := F_Pl) (N := 15) hx hb hts i_Pl hown hK hP 0 rfl rfl 1 (by decide) (hts (Cond.fieldLink R_Pl 9 "PlantGraph$Plant" "kind" "[I") kw11_c0ecaf9) (fun _ h9 => h9) rfl d_Pl_isValve_9 ?_
    refine lv_iload_n hx hb d_Pl_isValve_12 rfl (lv_at hl 1 rfl) ?_
    refine va_iald hx hb hK hP 1 0 rfl rfl hw.1 d_Pl_isValve_13 ?_
    replace hw := hw.2
    refine lv_bipush (v := 9) hx hb d_Pl_isValve_14 (by decide) ?_
    refine lv_icmp_ge (tgt := 23) hx hb d_Pl_isValve_16 (by decide) (fun c16 => ?_) (fun c16 => ?_)
    · replace hw := hw.1 c16
      refine lv_iconst (v := 0) hx hb d_Pl_isValve_23 (by decide) ?_
      exact W.zret (v := 0) hx hb hr (by decide) (fun t ht hW => ⟨⟨0, (), rfl, hw, by rw [ht]; exact hP, va_K.moved hW.alike hK, hD⟩, hS.F ht⟩) hS.2.2 d_Pl_isValve_24
    · replace hw := hw.2 c16
      refine lv_iconst (v := 1) hx hb d_Pl_isValve_19 (by decide) ?_
      refine lv_goto (tgt := 24) hx hb d_Pl_isValve_20 (by decide) ?_
      exact W.zret (v := 1) hx hb hr (by decide) (fun t ht hW => ⟨⟨1, (), rfl, hw, by rw [ht]; exact hP, va_K.moved hW.alike hK, hD⟩, hS.F ht⟩) hS.2.2 d_Pl_isValve_24
def wp_Pl_isPipe (v_t_pipes : Int32) (x1 : Int32) (P : Int32 → Prop) : Prop := ((x1 < 0 → P 0) ∧ (¬ x1 < 0 → ((v_t_pipes ≤ x1 → P 0) ∧ (¬ v_t_pipes ≤ x1 → P 1))))
def w_Pl_isPipe : List Cond := .code y_Pl_isPipe b_Pl_isPipe 2 (some .boolean) :: tb
abbrev rm_Pl_isPipe : Room := { frames := 0, cells := 0, slots := 0, locals := 0 }
abbrev Q_Pl_isPipe (dC : Nat → ClassId) (dI : Nat → Nat → Nat) (cI cL cB : ClassId) (q_t : Nat) (q_t_kind : Nat) (q_t_position : Nat) (q_t_told : Nat) (q_t_capacity : Nat) (q_t_amount : Nat) (q_t_liquid : Nat) (q_t_portsTaken : Nat) (q_t_endAtPort : Nat) (q_t_pipeLitres : Nat) (q_t_thingAtEnd : Nat) (q_t_portAtEnd : Nat) (q_t_bendAtEnd : Nat) (q_t_inPipes : Nat) (v_t_things : Int32) (v_t_pipes : Int32) (x1 : Int32) (P : Int32 → Prop) (A : Nat → Prop) : Array Value → State → Outcome → State → Prop := va_Qi (fun (r : Int32) (u : Unit) => P r) (fun u t => va_P (dC, dI) classes [(q_t, .inr (1, [.int v_t_things, .ref q_t_kind, .ref q_t_position, .ref q_t_told, .ref q_t_capacity, .ref q_t_amount, .ref q_t_liquid, .ref q_t_portsTaken, .ref q_t_endAtPort, .int v_t_pipes, .ref q_t_pipeLitres, .ref q_t_thingAtEnd, .ref q_t_portAtEnd, .ref q_t_bendAtEnd, .ref q_t_inPipes]))] t.heap ∧ va_K (dC, dI) classes [(cI, .int), (cL, .long), (cB, .byte)] t ∧ va_D A [(q_t, .inr (1, [.int v_t_things, .ref q_t_kind, .ref q_t_position, .ref q_t_told, .ref q_t_capacity, .ref q_t_amount, .ref q_t_liquid, .ref q_t_portsTaken, .ref q_t_endAtPort, .int v_t_pipes, .ref q_t_pipeLitres, .ref q_t_thingAtEnd, .ref q_t_portAtEnd, .ref q_t_bendAtEnd, .ref q_t_inPipes]))]) A
set_option maxHeartbeats 4000000 in
set_option maxRecDepth 100000 in
theorem c_Pl_isPipe (l : Launch) (dC : Nat → ClassId) (dI : Nat → Nat → Nat) (cI cL cB : ClassId) (q_t : Nat) (q_t_kind : Nat) (q_t_position : Nat) (q_t_told : Nat) (q_t_capacity : Nat) (q_t_amount : Nat) (q_t_liquid : Nat) (q_t_portsTaken : Nat) (q_t_endAtPort : Nat) (q_t_pipeLitres : Nat) (q_t_thingAtEnd : Nat) (q_t_portAtEnd : Nat) (q_t_bendAtEnd : Nat) (q_t_inPipes : Nat) (sz : Nat) (v_t_things : Int32) (v_t_pipes : Int32) (x1 : Int32) (P : Int32 → Prop) (hw : wp_Pl_isPipe v_t_pipes x1 P) : Met l y_Pl_isPipe w_Pl_isPipe rm_Pl_isPipe (va_Pc [.ref q_t, .int x1] (fun U => U.heap.size = sz ∧ va_P (dC, dI) classes [(q_t, .inr (1, [.int v_t_things, .ref q_t_kind, .ref q_t_position, .ref q_t_told, .ref q_t_capacity, .ref q_t_amount, .ref q_t_liquid, .ref q_t_portsTaken, .ref q_t_endAtPort, .int v_t_pipes, .ref q_t_pipeLitres, .ref q_t_thingAtEnd, .ref q_t_portAtEnd, .ref q_t_bendAtEnd, .ref q_t_inPipes]))] U.heap ∧ va_K (dC, dI) classes [(cI, .int), (cL, .long), (cB, .byte)] U ∧ va_D (fun _ => True) [(q_t, .inr (1, [.int v_t_things, .ref q_t_kind, .ref q_t_position, .ref q_t_told, .ref q_t_capacity, .ref q_t_amount, .ref q_t_liquid, .ref q_t_portsTaken, .ref q_t_endAtPort, .int v_t_pipes, .ref q_t_pipeLitres, .ref q_t_thingAtEnd, .ref q_t_portAtEnd, .ref q_t_bendAtEnd, .ref q_t_inPipes]))])) (Q_Pl_isPipe dC dI cI cL cB q_t q_t_kind q_t_position q_t_told q_t_capacity q_t_amount q_t_liquid q_t_portsTaken q_t_endAtPort q_t_pipeLitres q_t_thingAtEnd q_t_portAtEnd q_t_bendAtEnd q_t_inPipes v_t_things v_t_pipes x1 P (va_A [(q_t, .inr (1, [.int v_t_things, .ref q_t_kind, .ref q_t_position, .ref q_t_told, .ref q_t_capacity, .ref q_t_amount, .ref q_t_liquid, .ref q_t_portsTaken, .ref q_t_endAtPort, .int v_t_pipes, .ref q_t_pipeLitres, .ref q_t_thingAtEnd, .ref q_t_portAtEnd, .ref q_t_bendAtEnd, .ref q_t_inPipes]))] sz)) 0 0 (va_A [(q_t, .inr (1, [.int v_t_things, .ref q_t_kind, .ref q_t_position, .ref q_t_told, .ref q_t_capacity, .ref q_t_amount, .ref q_t_liquid, .ref q_t_portsTaken, .ref q_t_endAtPort, .int v_t_pipes, .ref q_t_pipeLitres, .ref q_t_thingAtEnd, .ref q_t_portAtEnd, .ref q_t_bendAtEnd, .ref q_t_inPipes]))] sz) := by
  refine Met.ofW (cc := b_Pl_isPipe) (maxL := 2) (ret := (some .boolean)) (by decide) rfl ?_
  intro p e s m args below meth c s₁ B hml hv
  obtain ⟨ha, hsz, hP, hK, hD0⟩ := hv
  have hx := B.exec
  have hb := B.bytes
  have hr := B.returns
  have hts0 := atoms_spec (ws := w_Pl_isPipe) B.pre
  have hts : ∀ w ∈ tb, w.before args s = true := fun w h => hts0 w (List.mem_cons_of_mem _ h)
  have hown : s.vm.findClass R_Pl = some m.cls := findClass_of_methodNamed B.named
  have hlocks := B.notSynchronized
  subst hsz
  have hD := hD0.self (sz := s.heap.size)
  generalize hAe : va_A [(q_t, .inr (1, [.int v_t_things, .ref q_t_kind, .ref q_t_position, .ref q_t_told, .ref q_t_capacity, .ref q_t_amount, .ref q_t_liquid, .ref q_t_portsTaken, .ref q_t_endAtPort, .int v_t_pipes, .ref q_t_pipeLitres, .ref q_t_thingAtEnd, .ref q_t_portAtEnd, .ref q_t_bendAtEnd, .ref q_t_inPipes]))] s.heap.size = A at hD ⊢
  have hA : ∀ q : Nat, s.heap.size ≤ q → A q := fun q h => by rw [← hAe]; exact Or.inr h
  have hS : va_S A s.heap s.heap [] := va_S.rf
  have hP : va_P (dC, dI) classes [(q_t, .inr (1, [.int v_t_things, .ref q_t_kind, .ref q_t_position, .ref q_t_told, .ref q_t_capacity, .ref q_t_amount, .ref q_t_liquid, .ref q_t_portsTaken, .ref q_t_endAtPort, .int v_t_pipes, .ref q_t_pipeLitres, .ref q_t_thingAtEnd, .ref q_t_portAtEnd, .ref q_t_bendAtEnd, .ref q_t_inPipes]))] s.heap := hP
  have hl := lv_entry [.ref q_t, .int x1] (n := 2) (Nat.le_of_ble_eq_true rfl)
  have he9 : entryFrame m args 2 = F0 m 0 ((lg_sl [.ref q_t, .int x1] ++ List.replicate (2 - (lg_sl [.ref q_t, .int x1]).length) Slot.unset).toArray) [] := by rw [ha]; exact lg_entry_eq _ _ _
  rw [he9]
  clear he9
  generalize (lg_sl [.ref q_t, .int x1] ++ List.replicate (2 - (lg_sl [.ref q_t, .int x1]).length) Slot.unset).toArray = ls at hl ⊢
  have hl : lv_has ls 2 [(0, .ref q_t), (1, .int x1)] := hl
  unfold wp_Pl_isPipe at hw
  refine lv_iload_n hx hb d_Pl_isPipe_0 rfl (lv_at hl 1 rfl) ?_
  refine lv_if_lt (tgt := 16) hx hb d_Pl_isPipe_1 (by decide) (fun c1 => ?_) (fun c1 => ?_)
  · replace hw := hw.1 c1
    refine lv_iconst (v := 0) hx hb d_Pl_isPipe_16 (by decide) ?_
    exact W.zret (v := 0) hx hb hr (by decide) (fun t ht hW => ⟨⟨0, (), rfl, hw, by rw [ht]; exact hP, va_K.moved hW.alike hK, hD⟩, hS.F ht⟩) hS.2.2 d_Pl_isPipe_17
  · replace hw := hw.2 c1
    refine lv_iload_n hx hb d_Pl_isPipe_4 rfl (lv_at hl 1 rfl) ?_
    refine lv_aload_n hx hb d_Pl_isPipe_5 rfl (lv_at hl 0 rfl) ?_
    refine va_get (D := (dC, dI)) (ci := 1) (v := .int v_t_pipes) (C := R_Pl) (T := F_Pl) (N := 15) hx hb hts i_Pl hown hK hP 0 rfl rfl 9 (by decide) (hts (Cond.fieldLink R_Pl 59 "PlantGraph$Plant" "pipes" "I") kw11_92ca4a3) (fun _ h9 => h9) rfl d_Pl_isPipe_6 ?_
    refine lv_icmp_ge (tgt := 16) hx hb d_Pl_isPipe_9 (by decide) (fun c9 => ?_) (fun c9 => ?_)
    · replace hw := hw.1 c9
      refine lv_iconst (v := 0) hx hb d_Pl_isPipe_16 (by decide) ?_
      exact W.zret (v := 0) hx hb hr (by decide) (fun t ht hW => ⟨⟨0, (), rfl, hw, by rw [ht]; exact hP, va_K.moved hW.alike hK, hD⟩, hS.F ht⟩) hS.2.2 d_Pl_isPipe_17
    · replace hw := hw.2 c9
      refine lv_iconst (v := 1) hx hb d_Pl_isPipe_12 (by decide) ?_
      refine lv_goto (tgt := 17) hx hb d_Pl_isPipe_13 (by decide) ?_
      exact W.zret (v := 1) hx hb hr (by decide) (fun t ht hW => ⟨⟨1, (), rfl, hw, by rw [ht]; exact hP, va_K.moved hW.alike hK, hD⟩, hS.F ht⟩) hS.2.2 d_Pl_isPipe_17
