/-! LEVEL 3: what the Statement gives of the start: tables, texts, Throwable's statics -/
def fl9 : List Cond := flatC (Jvm.Cond.and given_1 narrow_1)
def tm9 (i : Nat) : Term := ([.string "PlantGraph$Text" 36, .string "PlantGraph$Text" 54, .string "PlantGraph$Text" 59, .string "PlantGraph$Text" 68, .string "PlantGraph$Text" 73, .string "PlantGraph$Text" 26, .string "PlantGraph$Line" 58, .string "PlantGraph" 87] : List Term).getD i (.arg 0)
def tP9 : Term := .static "PlantGraph" "PORTS" "[I"
def tR9 : Term := .static "PlantGraphModel" "ROOM" "[I"
theorem g9_len : ∀ i, i < 8 → lenS.getD i 0 < 2147483648 := by decide +kernel
theorem g9_ex : ∀ i, i < 8 → (Cond.exactly (tm9 i) "java/lang/String") ∈ fl9 := by decide +kernel
theorem g9_co : ∀ i, i < 8 → (Cond.eq (.field (tm9 i) "java/lang/String" "coder" "B") (.int 0)) ∈ fl9 := by decide +kernel
theorem g9_ar : ∀ i, i < 8 → (Cond.arrayOf (.field (tm9 i) "java/lang/String" "value" "[B") .byte) ∈ fl9 := by decide +kernel
theorem g9_le : ∀ i, i < 8 → (Cond.eq (.length (.field (tm9 i) "java/lang/String" "value" "[B")) (.int (Int32.ofNat (lenS.getD i 0)))) ∈ fl9 := by decide +kernel
theorem g9_el : ∀ i, i < 8 → ∀ j, j < lenS.getD i 0 → (Cond.eq (.elem (.field (tm9 i) "java/lang/String" "value" "[B") (.int (Int32.ofNat j))) (.int ((bytS.getD i []).getD j 0))) ∈ fl9 := by decide +kernel
theorem g9_ne : ∀ i, i < 8 → ∀ j, j < 8 → i ≠ j → (Cond.not (Cond.eq (tm9 i) (tm9 j))) ∈ fl9 ∨ (Cond.not (Cond.eq (tm9 j) (tm9 i))) ∈ fl9 := by decide +kernel
theorem g9_pa : (Cond.arrayOf tP9 .int) ∈ fl9 := by decide +kernel
theorem g9_pl : (Cond.eq (.length tP9) (.int (Int32.ofNat 10))) ∈ fl9 := by decide +kernel
theorem g9_pe : ∀ j, j < 10 → (Cond.eq (.elem tP9 (.int (Int32.ofNat j))) (.int (portsF j))) ∈ fl9 := by decide +kernel
theorem g9_ra : (Cond.arrayOf tR9 .int) ∈ fl9 := by decide +kernel
theorem g9_rl : (Cond.eq (.length tR9) (.int (Int32.ofNat 11))) ∈ fl9 := by decide +kernel
theorem g9_re : ∀ j, j < 11 → (Cond.eq (.elem tR9 (.int (Int32.ofNat j))) (.int (roomF j))) ∈ fl9 := by decide +kernel
theorem g9_cs : (Cond.eq (.static "java/lang/String" "COMPACT_STRINGS" "Z") (.int 1)) ∈ fl9 := by decide +kernel
theorem g9_sf : (Cond.isRef (.static "jdk/internal/util/Preconditions" "SIOOBE_FORMATTER" "Ljava/util/function/BiFunction;")) ∈ fl9 := by decide +kernel
theorem g9_us : (Cond.isRef (.static Bundle.tN "UNASSIGNED_STACK" Bundle.steD)) ∈ fl9 := by decide +kernel
theorem g9_ss : (Cond.isRef (.static Bundle.tN "SUPPRESSED_SENTINEL" Bundle.listD)) ∈ fl9 := by decide +kernel
theorem g9_e0 : (Cond.eq (.string "PlantGraph$Text" 36) (.string "PlantGraph$Line" 25)) ∈ fl9 := by decide +kernel
theorem g9_e1 : (Cond.eq (.string "PlantGraph$Text" 54) (.string "PlantGraph$Line" 40)) ∈ fl9 := by decide +kernel
theorem g9_e2 : (Cond.eq (.string "PlantGraph$Text" 59) (.string "PlantGraph$Line" 38)) ∈ fl9 := by decide +kernel
theorem g9_e3 : (Cond.eq (.string "PlantGraph$Text" 68) (.string "PlantGraph$Line" 45)) ∈ fl9 := by decide +kernel
theorem g9_e4 : (Cond.eq (.string "PlantGraph$Text" 73) (.string "PlantGraph$Line" 53)) ∈ fl9 := by decide +kernel
/-- the other side of an equation of two terms -/
theorem va_eqw {args : Array Value} {s : State} {t u : Term} {a : Nat} (h : (Cond.eq t u).before args s = true) (ht : t.eval args s none [] s = some (.ref a)) : u.eval args s none [] s = some (.ref a) := by
  cases hu : u.eval args s none [] s with
  | none => simp [Cond.before, Cond.holds, Cond.value, ht, hu] at h
  | some w =>
    simp only [Cond.before, Cond.holds, Cond.value, ht, hu] at h
    cases w <;> simp_all
set_option maxHeartbeats 4000000 in
set_option maxRecDepth 100000 in
theorem lw_gx {args : Array Value} {s : State} {A : Nat → Prop} (hpre : (Jvm.Cond.and given_1 narrow_1).before args s = true) (hts : ∀ w ∈ lw_tbl, w.before args s = true) (hA : ∀ a : Nat, a < s.heap.size → ¬ A a) : ∃ (tP tR : Nat) (adK adV : Nat → Nat), gx tP tR adK adV A s s.heap ∧ tX A s s.heap := by
  have hs : ∀ w ∈ fl9, w.before args s = true := flat_of_before _ hpre
  obtain ⟨tP, hP1, hP2⟩ := va_Tof (tm := tP9) (ty := .int) (N := 10) (f := fun j => .int (portsF j)) (A := A) (by decide) (hs _ g9_pa) (va_eqt (hs _ g9_pl)) (fun j hj => va_eqt (hs _ (g9_pe j hj))) hA
  obtain ⟨tR, hR1, hR2⟩ := va_Tof (tm := tR9) (ty := .int) (N := 11) (f := fun j => .int (roomF j)) (A := A) (by decide) (hs _ g9_ra) (va_eqt (hs _ g9_rl)) (fun j hj => va_eqt (hs _ (g9_re j hj))) hA
  obtain ⟨adK, adV, hK1, hK2⟩ := vk_Sof (N := 8) (tm := tm9) (len := lenS) (byt := bytS) (A := A) (args := args) (s := s) g9_len (fun i hi => hs _ (g9_ex i hi)) (fun i hi => hs _ (g9_co i hi)) (fun i hi => hs _ (g9_ar i hi)) (fun i hi => hs _ (g9_le i hi)) (fun i hi j hj => hs _ (g9_el i hi j hj)) (fun i j hi hj hne => (g9_ne i hi j hj hne).imp (hs _) (hs _)) hA
  refine ⟨tP, tR, adK, adV, ⟨va_Zof (hts _ (by decide +kernel)) (hts _ (by decide +kernel)) hP1 hA, hP2, va_Zof (hts _ (by decide +kernel)) (hts _ (by decide +kernel)) hR1 hA, hR2, va_Zof (hts _ (by decide +kernel)) (hts _ (by decide +kernel)) (va_eqt (hs _ g9_cs)) hA, hK1, va_Zqof (hts _ (by decide +kernel)) (hts _ (by decide +kernel)) (hs _ g9_sf) hA, ?_⟩, ?_⟩
  · have k0 := hK2 0 (by decide)
    have k1 := hK2 1 (by decide)
    have k2 := hK2 2 (by decide)
    have k3 := hK2 3 (by decide)
    have k4 := hK2 4 (by decide)
    have k5 := hK2 5 (by decide)
    have k6 := hK2 6 (by decide)
    have k7 := hK2 7 (by decide)
    exact ⟨vk_R.of (A := args) (hts _ (by decide +kernel)) k0, vk_R.of (A := args) (hts _ (by decide +kernel)) k1, vk_R.of (A := args) (hts _ (by decide +kernel)) k2, vk_R.of (A := args) (hts _ (by decide +kernel)) k3, vk_R.of (A := args) (hts _ (by decide +kernel)) k4, vk_R.of (A := args) (hts _ (by decide +kernel)) k5,
      vk_R.of (A := args) (hts _ (by decide +kernel)) (va_eqw (hs _ g9_e0) k0), vk_R.of (A := args) (hts _ (by decide +kernel)) (va_eqw (hs _ g9_e2) k2), vk_R.of (A := args) (hts _ (by decide +kernel)) (va_eqw (hs _ g9_e1) k1), vk_R.of (A := args) (hts _ (by decide +kernel)) (va_eqw (hs _ g9_e3) k3), vk_R.of (A := args) (hts _ (by decide +kernel)) k6, vk_R.of (A := args) (hts _ (by decide +kernel)) (va_eqw (hs _ g9_e4) k4), vk_R.of (A := args) (hts _ (by decide +kernel)) k7⟩
  · exact ⟨tZ.of (args := args) (hts _ (by decide +kernel)) (hs _ g9_us) hA, tZ.of (args := args) (hts _ (by decide +kernel)) (hs _ g9_ss) hA, va_tabs rfl rfl (hts _ (by decide +kernel)), va_tabs rfl rfl (hts _ (by decide +kernel)), va_tabs rfl rfl (hts _ (by decide +kernel)), va_tabs rfl rfl (hts _ (by decide +kernel))⟩
