theorem d_Ar_fillI_0 : decode b_Ar_fillI 0 = .ok (.iconst 0, 1) := by decide +kernel
theorem d_Ar_fillI_1 : decode b_Ar_fillI 1 = .ok (.istore_n 2, 1) := by decide +kernel
theorem d_Ar_fillI_2 : decode b_Ar_fillI 2 = .ok (.aload_n 0, 1) := by decide +kernel
theorem d_Ar_fillI_3 : decode b_Ar_fillI 3 = .ok (.arraylength, 1) := by decide +kernel
theorem d_Ar_fillI_4 : decode b_Ar_fillI 4 = .ok (.istore_n 3, 1) := by decide +kernel
theorem d_Ar_fillI_5 : decode b_Ar_fillI 5 = .ok (.iload_n 2, 1) := by decide +kernel
theorem d_Ar_fillI_6 : decode b_Ar_fillI 6 = .ok (.iload_n 3, 1) := by decide +kernel
theorem d_Ar_fillI_7 : decode b_Ar_fillI 7 = .ok (.if_icmp .ge 13, 3) := by decide +kernel
theorem d_Ar_fillI_10 : decode b_Ar_fillI 10 = .ok (.aload_n 0, 1) := by decide +kernel
theorem d_Ar_fillI_11 : decode b_Ar_fillI 11 = .ok (.iload_n 2, 1) := by decide +kernel
theorem d_Ar_fillI_12 : decode b_Ar_fillI 12 = .ok (.iload_n 1, 1) := by decide +kernel
theorem d_Ar_fillI_13 : decode b_Ar_fillI 13 = .ok (.iastore, 1) := by decide +kernel
theorem d_Ar_fillI_14 : decode b_Ar_fillI 14 = .ok (.iinc 2 1, 3) := by decide +kernel
theorem d_Ar_fillI_17 : decode b_Ar_fillI 17 = .ok (.goto (-12), 3) := by decide +kernel
theorem d_Ar_fillI_20 : decode b_Ar_fillI 20 = .ok (.return_, 1) := by decide +kernel
theorem d_Ar_fillJ_0 : decode b_Ar_fillJ 0 = .ok (.iconst 0, 1) := by decide +kernel
theorem d_Ar_fillJ_1 : decode b_Ar_fillJ 1 = .ok (.istore_n 3, 1) := by decide +kernel
theorem d_Ar_fillJ_2 : decode b_Ar_fillJ 2 = .ok (.aload_n 0, 1) := by decide +kernel
theorem d_Ar_fillJ_3 : decode b_Ar_fillJ 3 = .ok (.arraylength, 1) := by decide +kernel
theorem d_Ar_fillJ_4 : decode b_Ar_fillJ 4 = .ok (.istore 4, 2) := by decide +kernel
theorem d_Ar_fillJ_6 : decode b_Ar_fillJ 6 = .ok (.iload_n 3, 1) := by decide +kernel
theorem d_Ar_fillJ_7 : decode b_Ar_fillJ 7 = .ok (.iload 4, 2) := by decide +kernel
theorem d_Ar_fillJ_9 : decode b_Ar_fillJ 9 = .ok (.if_icmp .ge 13, 3) := by decide +kernel
theorem d_Ar_fillJ_12 : decode b_Ar_fillJ 12 = .ok (.aload_n 0, 1) := by decide +kernel
theorem d_Ar_fillJ_13 : decode b_Ar_fillJ 13 = .ok (.iload_n 3, 1) := by decide +kernel
theorem d_Ar_fillJ_14 : decode b_Ar_fillJ 14 = .ok (.lload_n 1, 1) := by decide +kernel
theorem d_Ar_fillJ_15 : decode b_Ar_fillJ 15 = .ok (.lastore, 1) := by decide +kernel
theorem d_Ar_fillJ_16 : decode b_Ar_fillJ 16 = .ok (.iinc 3 1, 3) := by decide +kernel
theorem d_Ar_fillJ_19 : decode b_Ar_fillJ 19 = .ok (.goto (-13), 3) := by decide +kernel
theorem d_Ar_fillJ_22 : decode b_Ar_fillJ 22 = .ok (.return_, 1) := by decide +kernel
def wk_Ar_fillI_20_5 (P : (Nat → Int32) → Prop) (x2_L5 : Int32) (f_p0_L5 : (Nat → Int32)) : Prop := P f_p0_L5
def wl_Ar_fillI_5 (n_p0 : Nat) (x1 : Int32) (K_20 : Int32 → (Nat → Int32) → Prop) : Nat → Int32 → (Nat → Int32) → Prop
  | 0, _, _ => False
  | k_5 + 1, x2_L5, f_p0_L5 => (((nI n_p0) ≤ x2_L5 → K_20 x2_L5 f_p0_L5) ∧ (¬ (nI n_p0) ≤ x2_L5 → (vp_in x2_L5 n_p0 ∧ wl_Ar_fillI_5 n_p0 x1 K_20 k_5 (x2_L5 + 1) (upd f_p0_L5 x2_L5.toNatClampNeg x1))))
def wp_Ar_fillI (n_p0 : Nat) (f_p0 : (Nat → Int32)) (x1 : Int32) (P : (Nat → Int32) → Prop) : Prop := (∃ n_5 : Nat, wl_Ar_fillI_5 n_p0 x1 (wk_Ar_fillI_20_5 P) n_5 0 f_p0)
def w_Ar_fillI : List Cond := .code y_Ar_fillI b_Ar_fillI 4 none :: tb
abbrev rm_Ar_fillI : Room := { frames := 0, cells := 0, slots := 0, locals := 0 }
abbrev Q_Ar_fillI (dC : Nat → ClassId) (dI : Nat → Nat → Nat) (cI cL cB : ClassId) (q_p0 : Nat) (f_p0 : (Nat → Int32)) (n_p0 : Nat) (x1 : Int32) (P : (Nat → Int32) → Prop) (A : Nat → Prop) : Array Value → State → Outcome → State → Prop := va_Qv (fun (u : (Nat → Int32)) => P u) (fun u t => va_P (dC, dI) classes [(q_p0, .inl (cI, n_p0, .inl u))] t.heap ∧ va_K (dC, dI) classes [(cI, .int), (cL, .long), (cB, .byte)] t ∧ va_D A [(q_p0, .inl (cI, n_p0, .inl u))]) A
set_option maxHeartbeats 4000000 in
set_option maxRecDepth 100000 in
theorem c_Ar_fillI (l : Launch) (dC : Nat → ClassId) (dI : Nat → Nat → Nat) (cI cL cB : ClassId) (q_p0 : Nat) (sz : Nat) (f_p0 : (Nat → Int32)) (n_p0 : Nat) (x1 : Int32) (P : (Nat → Int32) → Prop) (hw : wp_Ar_fillI n_p0 f_p0 x1 P) : Met l y_Ar_fillI w_Ar_fillI rm_Ar_fillI (va_Pc [.ref q_p0, .int x1] (fun U => U.heap.size = sz ∧ va_P (dC, dI) classes [(q_p0, .inl (cI, n_p0, .inl f_p0))] U.heap ∧ va_K (dC, dI) classes [(cI, .int), (cL, .long), (cB, .byte)] U ∧ va_D (fun _ => True) [(q_p0, .inl (cI, n_p0, .inl f_p0))])) (Q_Ar_fillI dC dI cI cL cB q_p0 f_p0 n_p0 x1 P (va_A [(q_p0, .inl (cI, n_p0, .inl f_p0))] sz)) 0 0 (va_A [(q_p0, .inl (cI, n_p0, .inl f_p0))] sz) := by
  refine Met.ofW (cc := b_Ar_fillI) (maxL := 4) (ret := none) (by decide) rfl ?_
  intro p e s m args below meth c s₁ B hml hv
  obtain ⟨ha, hsz, hP, hK, hD0⟩ := hv
  have hx := B.exec
  have hb := B.bytes
  have hr := B.returns
  have hts0 := atoms_spec (ws := w_Ar_fillI) B.pre
  have hts : ∀ w ∈ tb, w.before args s = true := fun w h => hts0 w (List.mem_cons_of_mem _ h)
  have hown : s.vm.findClass R_Ar = some m.cls := findClass_of_methodNamed B.named
  have hlocks := B.notSynchronized
  subst hsz
  have hD := hD0.self (sz := s.heap.size)
  generalize hAe : va_A [(q_p0, .inl (cI, n_p0, .inl f_p0))] s.heap.size = A at hD ⊢
  have hA : ∀ q : Nat, s.heap.size ≤ q → A q := fun q h => by rw [← hAe]; exact Or.inr h
  have hS : va_S A s.heap s.heap [] := va_S.rf
  have hP : va_P (dC, dI) classes [(q_p0, .inl (cI, n_p0, .inl f_p0))] s.heap := hP
  have hl := lv_entry [.ref q_p0, .int x1] (n := 4) (Nat.le_of_ble_eq_true rfl)
  have he9 : entryFrame m args 4 = F0 m 0 ((lg_sl [.ref q_p0, .int x1] ++ List.replicate (4 - (lg_sl [.ref q_p0, .int x1]).length) Slot.unset).toArray) [] := by rw [ha]; exact lg_entry_eq _ _ _
  rw [he9]
  clear he9
  generalize (lg_sl [.ref q_p0, .int x1] ++ List.replicate (4 - (lg_sl [.ref q_p0, .int x1]).length) Slot.unset).toArray = ls at hl ⊢
  have hl : lv_has ls 4 [(0, .ref q_p0), (1, .int x1)] := hl
  unfold wp_Ar_fillI at hw
  refine lv_iconst (v := 0) hx hb d_Ar_fillI_0 (by decide) ?_
  refine lv_istore_n (lv' := [(2, .int 0), (0, .ref q_p0), (1, .int x1)]) hx hb d_Ar_fillI_1 rfl hl (by decide) rfl (fun ls hl => ?_)
  refine lv_aload_n hx hb d_Ar_fillI_2 rfl (lv_at hl 1 rfl) ?_
  refine va_alen (v := nI n_p0) hx hb hK hP 0 0 rfl rfl rfl d_Ar_fillI_3 ?_
  refine lv_istore_n (lv' := [(3, .int (nI n_p0)), (2, .int 0), (0, .ref q_p0), (1, .int x1)]) hx hb d_Ar_fillI_4 rfl hl (by decide) rfl (fun ls hl => ?_)
  obtain ⟨n_5, hw⟩ := hw
  have EX_20 : ∀ (x2_L5 : Int32) (f_p0_L5 : (Nat → Int32)) (H : Heap) (locs : List Loc) (ls : Array Slot), va_P (dC, dI) classes [(q_p0, .inl (cI, n_p0, .inl f_p0_L5))] H → va_D A [(q_p0, .inl (cI, n_p0, .inl f_p0_L5))] → va_S A s.heap H locs → lv_has ls 4 [(0, .ref q_p0), (1, .int x1), (2, .int x2_L5), (3, .int (nI n_p0))] → wk_Ar_fillI_20_5 P x2_L5 f_p0_L5 → W p l e (headSpec w_Ar_fillI rm_Ar_fillI).room s m args below meth c H locs 0 0 (MQ below (Q_Ar_fillI dC dI cI cL cB q_p0 f_p0 n_p0 x1 P A) args s 0 0 A) (F0 m 20 ls []) := by
    intro x2_L5 f_p0_L5 H locs ls hP hD hS hl hw
    unfold wk_Ar_fillI_20_5 at hw
    exact W.vret hx hb hr (fun t ht hW => ⟨⟨f_p0_L5, rfl, hw, by rw [ht]; exact hP, va_K.moved hW.alike hK, hD⟩, hS.F ht⟩) hS.2.2 d_Ar_fillI_20
  have LP_5 : ∀ (k_5 : Nat) (x2_L5 : Int32) (f_p0_L5 : (Nat → Int32)) (H : Heap) (locs : List Loc) (ls : Array Slot), va_P (dC, dI) classes [(q_p0, .inl (cI, n_p0, .inl f_p0_L5))] H → va_D A [(q_p0, .inl (cI, n_p0, .inl f_p0_L5))] → va_S A s.heap H locs → lv_has ls 4 [(0, .ref q_p0), (1, .int x1), (2, .int x2_L5), (3, .int (nI n_p0))] → wl_Ar_fillI_5 n_p0 x1 (wk_Ar_fillI_20_5 P) k_5 x2_L5 f_p0_L5 → W p l e (headSpec w_Ar_fillI rm_Ar_fillI).room s m args below meth c H locs 0 0 (MQ below (Q_Ar_fillI dC dI cI cL cB q_p0 f_p0 n_p0 x1 P A) args s 0 0 A) (F0 m 5 ls []) := by
    intro k_5
    induction k_5 with
    | zero => intro x2_L5 f_p0_L5 H locs ls hP hD hS hl hw; unfold wl_Ar_fillI_5 at hw; exact hw.elim
    | succ k_5 ih_5 =>
      intro x2_L5 f_p0_L5 H locs ls hP hD hS hl hw
      unfold wl_Ar_fillI_5 at hw
      refine lv_iload_n hx hb d_Ar_fillI_5 rfl (lv_at hl 2 rfl) ?_
      refine lv_iload_n hx hb d_Ar_fillI_6 rfl (lv_at hl 3 rfl) ?_
      refine lv_icmp_ge (tgt := 20) hx hb d_Ar_fillI_7 (by decide) (fun c7 => ?_) (fun c7 => ?_)
      · replace hw := hw.1 c7
        exact EX_20 x2_L5 f_p0_L5 H _ _ hP hD hS (lv_sub hl [0, 1, 2, 3] rfl) hw
      · replace hw := hw.2 c7
        refine lv_aload_n hx hb d_Ar_fillI_10 rfl (lv_at hl 0 rfl) ?_
        refine lv_iload_n hx hb d_Ar_fillI_11 rfl (lv_at hl 2 rfl) ?_
        refine lv_iload_n hx hb d_Ar_fillI_12 rfl (lv_at hl 1 rfl) ?_
        refine va_iast hx hb hK hP hD hS 0 0 rfl rfl hw.1 d_Ar_fillI_13 (fun H locs hP hD hS => ?_)
        replace hw := hw.2
        have hP : va_P (dC, dI) classes [(q_p0, .inl (cI, n_p0, .inl (upd f_p0_L5 x2_L5.toNatClampNeg x1)))] H := hP
        have hD : va_D A [(q_p0, .inl (cI, n_p0, .inl (upd f_p0_L5 x2_L5.toNatClampNeg x1)))] := hD
        refine lv_iinc (v := (x2_L5 + 1)) (lv' := [(2, .int (x2_L5 + 1)), (0, .ref q_p0), (1, .int x1), (3, .int (nI n_p0))]) hx hb d_Ar_fillI_14 hl (k := 2) rfl rfl (by decide) rfl (fun ls hl => ?_)
        refine lv_goto (tgt := 5) hx hb d_Ar_fillI_17 (by decide) ?_
        exact ih_5 (x2_L5 + 1) (upd f_p0_L5 x2_L5.toNatClampNeg x1) H _ _ hP hD hS (lv_sub hl [1, 2, 0, 3] rfl) hw
  exact LP_5 n_5 0 f_p0 s.heap _ _ hP hD hS (lv_sub hl [2, 3, 1, 0] rfl) hw
def wk_Ar_fillJ_22_6 (P : (Nat → Int64) → Prop) (x3_L6 : Int32) (f_p0_L6 : (Nat → Int64)) : Prop := P f_p0_L6
def wl_Ar_fillJ_6 (n_p0 : Nat) (x1 : Int64) (K_22 : Int32 → (Nat → Int64) → Prop) : Nat → Int32 → (Nat → Int64) → Prop
  | 0, _, _ => False
  | k_6 + 1, x3_L6, f_p0_L6 => (((nI n_p0) ≤ x3_L6 → K_22 x3_L6 f_p0_L6) ∧ (¬ (nI n_p0) ≤ x3_L6 → (vp_in x3_L6 n_p0 ∧ wl_Ar_fillJ_6 n_p0 x1 K_22 k_6 (x3_L6 + 1) (vp_updL f_p0_L6 x3_L6.toNatClampNeg x1))))
def wp_Ar_fillJ (n_p0 : Nat) (f_p0 : (Nat → Int64)) (x1 : Int64) (P : (Nat → Int64) → Prop) : Prop := (∃ n_6 : Nat, wl_Ar_fillJ_6 n_p0 x1 (wk_Ar_fillJ_22_6 P) n_6 0 f_p0)
def w_Ar_fillJ : List Cond := .code y_Ar_fillJ b_Ar_fillJ 5 none :: tb
abbrev rm_Ar_fillJ : Room := { frames := 0, cells := 0, slots := 0, locals := 0 }
abbrev Q_Ar_fillJ (dC : Nat → ClassId) (dI : Nat → Nat → Nat) (cI cL cB : ClassId) (q_p0 : Nat) (f_p0 : (Nat → Int64)) (n_p0 : Nat) (x1 : Int64) (P : (Nat → Int64) → Prop) (A : Nat → Prop) : Array Value → State → Outcome → State → Prop := va_Qv (fun (u : (Nat → Int64)) => P u) (fun u t => va_P (dC, dI) classes [(q_p0, .inl (cL, n_p0, .inr (.inl u)))] t.heap ∧ va_K (dC, dI) classes [(cI, .int), (cL, .long), (cB, .byte)] t ∧ va_D A [(q_p0, .inl (cL, n_p0, .inr (.inl u)))]) A
set_option maxHeartbeats 4000000 in
set_option maxRecDepth 100000 in
theorem c_Ar_fillJ (l : Launch) (dC : Nat → ClassId) (dI : Nat → Nat → Nat) (cI cL cB : ClassId) (q_p0 : Nat) (sz : Nat) (f_p0 : (Nat → Int64)) (n_p0 : Nat) (x1 : Int64) (P : (Nat → Int64) → Prop) (hw : wp_Ar_fillJ n_p0 f_p0 x1 P) : Met l y_Ar_fillJ w_Ar_fillJ rm_Ar_fillJ (va_Pc [.ref q_p0, .long x1] (fun U => U.heap.size = sz ∧ va_P (dC, dI) classes [(q_p0, .inl (cL, n_p0, .inr (.inl f_p0)))] U.heap ∧ va_K (dC, dI) classes [(cI, .int), (cL, .long), (cB, .byte)] U ∧ va_D (fun _ => True) [(q_p0, .inl (cL, n_p0, .inr (.inl f_p0)))])) (Q_Ar_fillJ dC dI cI cL cB q_p0 f_p0 n_p0 x1 P (va_A [(q_p0, .inl (cL, n_p0, .inr (.inl f_p0)))] sz)) 0 0 (va_A [(q_p0, .inl (cL, n_p0, .inr (.inl f_p0)))] sz) := by
  refine Met.ofW (cc := b_Ar_fillJ) (maxL := 5) (ret := none) (by decide) rfl ?_
  intro p e s m args below meth c s₁ B hml hv
  obtain ⟨ha, hsz, hP, hK, hD0⟩ := hv
  have hx := B.exec
  have hb := B.bytes
  have hr := B.returns
  have hts0 := atoms_spec (ws := w_Ar_fillJ) B.pre
  have hts : ∀ w ∈ tb, w.before args s = true := fun w h => hts0 w (List.mem_cons_of_mem _ h)
  have hown : s.vm.findClass R_Ar = some m.cls := findClass_of_methodNamed B.named
  have hlocks := B.notSynchronized
  subst hsz
  have hD := hD0.self (sz := s.heap.size)
  generalize hAe : va_A [(q_p0, .inl (cL, n_p0, .inr (.inl f_p0)))] s.heap.size = A at hD ⊢
  have hA : ∀ q : Nat, s.heap.size ≤ q → A q := fun q h => by rw [← hAe]; exact Or.inr h
  have hS : va_S A s.heap s.heap [] := va_S.rf
  have hP : va_P (dC, dI) classes [(q_p0, .inl (cL, n_p0, .inr (.inl f_p0)))] s.heap := hP
  have hl := lv_entry [.ref q_p0, .long x1] (n := 5) (Nat.le_of_ble_eq_true rfl)
  have he9 : entryFrame m args 5 = F0 m 0 ((lg_sl [.ref q_p0, .long x1] ++ List.replicate (5 - (lg_sl [.ref q_p0, .long x1]).length) Slot.unset).toArray) [] := by rw [ha]; exact lg_entry_eq _ _ _
  rw [he9]
  clear he9
  generalize (lg_sl [.ref q_p0, .long x1] ++ List.replicate (5 - (lg_sl [.ref q_p0, .long x1]).length) Slot.unset).toArray = ls at hl ⊢
  have hl : lv_has ls 5 [(0, .ref q_p0), (1, .long x1)] := hl
  unfold wp_Ar_fillJ at hw
  refine lv_iconst (v := 0) hx hb d_Ar_fillJ_0 (by decide) ?_
  refine lv_istore_n (lv' := [(3, .int 0), (0, .ref q_p0), (1, .long x1)]) hx hb d_Ar_fillJ_1 rfl hl (by decide) rfl (fun ls hl => ?_)
  refine lv_aload_n hx hb d_Ar_fillJ_2 rfl (lv_at hl 1 rfl) ?_
  refine va_alen (v := nI n_p0) hx hb hK hP 0 1 rfl rfl rfl d_Ar_fillJ_3 ?_
  refine lv_istore (lv' := [(4, .int (nI n_p0)), (3, .int 0), (0, .ref q_p0), (1, .long x1)]) hx hb d_Ar_fillJ_4 hl (by decide) rfl (fun ls hl => ?_)
  obtain ⟨n_6, hw⟩ := hw
  have EX_22 : ∀ (x3_L6 : Int32) (f_p0_L6 : (Nat → Int64)) (H : Heap) (locs : List Loc) (ls : Array Slot), va_P (dC, dI) classes [(q_p0, .inl (cL, n_p0, .inr (.inl f_p0_L6)))] H → va_D A [(q_p0, .inl (cL, n_p0, .inr (.inl f_p0_L6)))] → va_S A s.heap H locs → lv_has ls 5 [(0, .ref q_p0), (1, .long x1), (3, .int x3_L6), (4, .int (nI n_p0))] → wk_Ar_fillJ_22_6 P x3_L6 f_p0_L6 → W p l e (headSpec w_Ar_fillJ rm_Ar_fillJ).room s m args below meth c H locs 0 0 (MQ below (Q_Ar_fillJ dC dI cI cL cB q_p0 f_p0 n_p0 x1 P A) args s 0 0 A) (F0 m 22 ls []) := by
    intro x3_L6 f_p0_L6 H locs ls hP hD hS hl hw
    unfold wk_Ar_fillJ_22_6 at hw
    exact W.vret hx hb hr (fun t ht hW => ⟨⟨f_p0_L6, rfl, hw, by rw [ht]; exact hP, va_K.moved hW.alike hK, hD⟩, hS.F ht⟩) hS.2.2 d_Ar_fillJ_22
  have LP_6 : ∀ (k_6 : Nat) (x3_L6 : Int32) (f_p0_L6 : (Nat → Int64)) (H : Heap) (locs : List Loc) (ls : Array Slot), va_P (dC, dI) classes [(q_p0, .inl (cL, n_p0, .inr (.inl f_p0_L6)))] H → va_D A [(q_p0, .inl (cL, n_p0, .inr (.inl f_p0_L6)))] → va_S A s.heap H locs → lv_has ls 5 [(0, .ref q_p0), (1, .long x1), (3, .int x3_L6), (4, .int (nI n_p0))] → wl_Ar_fillJ_6 n_p0 x1 (wk_Ar_fillJ_22_6 P) k_6 x3_L6 f_p0_L6 → W p l e (headSpec w_Ar_fillJ rm_Ar_fillJ).room s m args below meth c H locs 0 0 (MQ below (Q_Ar_fillJ dC dI cI cL cB q_p0 f_p0 n_p0 x1 P A) args s 0 0 A) (F0 m 6 ls []) := by
    intro k_6
    induction k_6 with
    | zero => intro x3_L6 f_p0_L6 H locs ls hP hD hS hl hw; unfold wl_Ar_fillJ_6 at hw; exact hw.elim
    | succ k_6 ih_6 =>
      intro x3_L6 f_p0_L6 H locs ls hP hD hS hl hw
      unfold wl_Ar_fillJ_6 at hw
      refine lv_iload_n hx hb d_Ar_fillJ_6 rfl (lv_at hl 2 rfl) ?_
      refine lv_iload hx hb d_Ar_fillJ_7 (lv_at hl 3 rfl) ?_
      refine lv_icmp_ge (tgt := 22) hx hb d_Ar_fillJ_9 (by decide) (fun c9 => ?_) (fun c9 => ?_)
      · replace hw := hw.1 c9
        exact EX_22 x3_L6 f_p0_L6 H _ _ hP hD hS (lv_sub hl [0, 1, 2, 3] rfl) hw
      · replace hw := hw.2 c9
        refine lv_aload_n hx hb d_Ar_fillJ_12 rfl (lv_at hl 0 rfl) ?_
        refine lv_iload_n hx hb d_Ar_fillJ_13 rfl (lv_at hl 2 rfl) ?_
        refine lv_lload_n hx hb d_Ar_fillJ_14 rfl (lv_at hl 1 rfl) ?_
        refine va_last hx hb hK hP hD hS 0 1 rfl rfl hw.1 d_Ar_fillJ_15 (fun H locs hP hD hS => ?_)
        replace hw := hw.2
        have hP : va_P (dC, dI) classes [(q_p0, .inl (cL, n_p0, .inr (.inl (vp_updL f_p0_L6 x3_L6.toNatClampNeg x1))))] H := hP
        have hD : va_D A [(q_p0, .inl (cL, n_p0, .inr (.inl (vp_updL f_p0_L6 x3_L6.toNatClampNeg x1))))] := hD
        refine lv_iinc (v := (x3_L6 + 1)) (lv' := [(3, .int (x3_L6 + 1)), (0, .ref q_p0), (1, .long x1), (4, .int (nI n_p0))]) hx hb d_Ar_fillJ_16 hl (k := 2) rfl rfl (by decide) rfl (fun ls hl => ?_)
        refine lv_goto (tgt := 6) hx hb d_Ar_fillJ_19 (by decide) ?_
        exact ih_6 (x3_L6 + 1) (vp_updL f_p0_L6 x3_L6.toNatClampNeg x1) H _ _ hP hD hS (lv_sub hl [1, 2, 0, 3] rfl) hw
  exact LP_6 n_6 0 f_p0 s.heap _ _ hP hD hS (lv_sub hl [2, 3, 1, 0] rfl) hw
