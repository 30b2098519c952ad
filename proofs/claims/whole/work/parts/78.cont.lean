/-! LEVEL 2: litres in pipes; content. sz q: the litres of pipe q; ct j: the liquid at place j (200 places for each pipe) -/
def cG3 (p : Nat) (sz ct : Nat → Nat) (pipeLitres : Nat → Int32) (w : Nat → Int64) : Prop := (∀ q, q < p → pipeLitres q = nI (sz q)) ∧ ∀ j, j < 12000 → nib w j = ct j
def mG3 (p : Nat) (sz ct : Nat → Nat) (sizes contents : Nat → Int32) : Prop := (∀ q, q < p → sizes q = nI (sz q)) ∧ ∀ q i, q < p → i < 200 → contents (200 * q + i) = nI (ct (200 * q + i))
def vG3 (p : Nat) (sz ct : Nat → Nat) : Prop := (∀ q, q < p → 1 ≤ sz q ∧ sz q ≤ 200) ∧ (∀ j, ct j < 16) ∧ ∀ j, 200 * p ≤ j → ct j = 0
theorem q_rem : ∀ v, v < 120 → nI v - nI v / 2 * 2 = nI (v % 2) := by decide +kernel
theorem q_sub {a b : Nat} (h : b ≤ a) : nI a - nI b = nI (a - b) := by
  have e : nI a = nI (a - b) + nI b := by rw [nI_add, show a - b + b = a by omega]
  rw [e, Int32.add_sub_cancel]
/-- the place of the litre i, seen from end v -/
def pl (sz : Nat → Nat) (v i : Nat) : Nat := 200 * (v / 2) + (if v % 2 = 0 then i else sz (v / 2) - 1 - i)
section Cont
variable {p : Nat} {sz ct : Nat → Nat} {pipeLitres : Nat → Int32} {w : Nat → Int64}
theorem pl_lt (hp : p ≤ 60) (hV : vG3 p sz ct) {v i : Nat} (hv : v < 2 * p) (hi : i < sz (v / 2)) : pl sz v i < 12000 := by
  have := (hV.1 (v / 2) (by omega)).2
  unfold pl
  split <;> omega
theorem s_placeFrom (hp : p ≤ 60) (hV : vG3 p sz ct) (hs : ∀ q, q < p → pipeLitres q = nI (sz q)) {v i : Nat} (hv : v < 2 * p) (hi : i < sz (v / 2)) {P : Int32 → Prop} (h : P (nI (pl sz v i))) : wp_Pl_placeFrom pipeLitres (nI v) (nI i) P := by
  unfold wp_Pl_placeFrom
  obtain ⟨s1, s2⟩ := hV.1 (v / 2) (by omega)
  rw [q_rem v (by omega), q_half v (by omega), nI_clamp (n := v / 2) (by omega), hs (v / 2) (by omega), show (1 : Int32) = nI 1 from rfl, q_sub (a := sz (v / 2)) (b := 1) s1, q_sub (a := sz (v / 2) - 1) (b := i) (by omega), show (200 : Int32) = nI 200 from rfl, pk_mul, nI_add, nI_add, show (0 : Int32) = nI 0 from rfl, nI_eq (by omega) (by decide)]
  unfold pl at h
  refine ⟨fun z => ⟨vp_in_nI (by omega) (by decide), ?_⟩, fun z => ?_⟩
  · rw [if_neg z, show 200 * (v / 2) = v / 2 * 200 by omega] at h
    exact h
  · rw [if_pos z, show 200 * (v / 2) = v / 2 * 200 by omega] at h
    exact h
theorem s_litreFrom (hp : p ≤ 60) (hV : vG3 p sz ct) (hC : cG3 p sz ct pipeLitres w) {v i : Nat} (hv : v < 2 * p) (hi : i < sz (v / 2)) {P : Int32 → Prop} (h : P (nI (ct (pl sz v i)))) : wp_Pl_litreFrom pipeLitres w (nI v) (nI i) P := by
  unfold wp_Pl_litreFrom
  have hl := pl_lt hp hV hv hi
  refine s_placeFrom hp hV hC.1 hv hi (s_at hl ?_)
  rw [hC.2 _ hl]
  exact h
theorem s_setLitreFrom (hp : p ≤ 60) (hV : vG3 p sz ct) (hC : cG3 p sz ct pipeLitres w) {v i l : Nat} (hv : v < 2 * p) (hi : i < sz (v / 2)) (hl16 : l < 16) {P : (Nat → Int64) → Prop} (h : ∀ w', cG3 p sz (va_up ct (pl sz v i) l) pipeLitres w' → P w') : wp_Pl_setLitreFrom pipeLitres w (nI v) (nI i) (nI l) P := by
  unfold wp_Pl_setLitreFrom
  have hl := pl_lt hp hV hv hi
  refine s_placeFrom hp hV hC.1 hv hi (s_set hl hl16 (fun w' hw => h w' ⟨hC.1, fun j hj => ?_⟩))
  rw [hw j]
  by_cases q : j = pl sz v i
  · rw [if_pos q, q, va_up_self]
  · rw [if_neg q, va_up_ne _ _ q]
    exact hC.2 j hj
theorem vG3_set (hp : p ≤ 60) (hV : vG3 p sz ct) {v i l : Nat} (hv : v < 2 * p) (hi : i < sz (v / 2)) (hl : l < 16) : vG3 p sz (va_up ct (pl sz v i) l) := by
  obtain ⟨h1, h2, h3⟩ := hV
  have hb := (h1 (v / 2) (by omega)).2
  refine ⟨h1, fun j => ?_, fun j hj => ?_⟩
  · by_cases q : j = pl sz v i
    · rw [q, va_up_self]; exact hl
    · rw [va_up_ne _ _ q]; exact h2 j
  · have q : ¬ j = pl sz v i := by
      unfold pl
      split <;> omega
    rw [va_up_ne _ _ q]
    exact h3 j hj
/-- the answer of content -/
noncomputable def cA (sz ct : Nat → Nat) (q : Nat) : Int32 := @ite _ (∀ i, i < sz q → ct (200 * q + i) = ct (200 * q)) (Classical.propDecidable _) (nI (ct (200 * q))) 15
theorem pl_A (q i : Nat) : pl sz (2 * q) i = 200 * q + i := by
  unfold pl
  rw [if_pos (by omega), show 2 * q / 2 = q by omega]
theorem c_content (hp : p ≤ 60) (hV : vG3 p sz ct) (hC : cG3 p sz ct pipeLitres w) {x1 : Int32} {P : Int32 → Prop} (h1 : ∀ q, q < p → x1 = nI q → P (cA sz ct q)) (h0 : (∀ q, q < p → ¬ x1 = nI q) → P (-1)) : wp_PG_content (nI p) pipeLitres w x1 P := by
  unfold wp_PG_content
  refine s_isPipe (by omega) (fun q hq e => b_1 ?_) (fun hn => b_0 (h0 hn))
  have hc := h1 q hq e
  clear h1 h0
  subst e
  obtain ⟨s1, s2⟩ := hV.1 q hq
  have m2 : (2 : Int32) * nI q = nI (2 * q) := by rw [show (2 : Int32) = nI 2 from rfl, pk_mul]
  have hd : 2 * q / 2 = q := by omega
  unfold wp_Pl_liquidInPipe
  rw [m2, show (0 : Int32) = nI 0 from rfl]
  refine s_litreFrom hp hV hC (v := 2 * q) (by omega) (by rw [hd]; omega) ⟨201, ?_⟩
  rw [pl_A, Nat.add_zero]
  have c16 := hV.2.1
  have key : ∀ d i, 1 ≤ i → i ≤ sz q → sz q - i < d → (∀ i', i' < i → ct (200 * q + i') = ct (200 * q)) → wl_Pl_liquidInPipe_11 (nI q) pipeLitres w (nI (ct (200 * q))) (wk_Pl_liquidInPipe_33_11 P) (wk_Pl_liquidInPipe_42_11 (nI (ct (200 * q))) P) d (nI i) := by
    intro d
    induction d with
    | zero => intro i a0 a1 a2; omega
    | succ d ih =>
      intro i a0 a1 a2 a3
      unfold wl_Pl_liquidInPipe_11
      rw [nI_clamp (n := q) (by omega), hC.1 q hq, nI_leI (by omega) (by omega), m2]
      refine ⟨vp_in_nI (by omega) (by decide), fun z => ?_, fun z => ?_⟩
      · unfold cA at hc
        rw [if_pos (fun i' hi => a3 i' (by omega))] at hc
        exact hc
      · refine s_litreFrom hp hV hC (v := 2 * q) (by omega) (by rw [hd]; omega) ?_
        have := c16 (200 * q + i)
        have := c16 (200 * q)
        rw [pl_A, nI_eq (by omega) (by omega), nI_1]
        refine ⟨fun y => ih (i + 1) (by omega) (by omega) (by omega) (fun i' hi => ?_), fun y => ?_⟩
        · by_cases r : i' = i
          · rw [r]; exact y
          · exact a3 i' (by omega)
        · unfold cA at hc
          rw [if_neg (fun z2 => y (z2 i (by omega)))] at hc
          exact hc
  exact key 201 1 (by omega) s1 (by omega) (fun i' hi => by rw [show i' = 0 by omega, Nat.add_zero])
theorem m_content {sizes contents : Nat → Int32} {thr : Int32} (hp : p ≤ 60) (hV : vG3 p sz ct) (hC : mG3 p sz ct sizes contents) {x1 : Int32} {P : Int32 → Int32 → Prop} (h1 : ∀ q, q < p → x1 = nI q → P (cA sz ct q) 0) (h0 : (∀ q, q < p → ¬ x1 = nI q) → P (-1) 0) : wp_Mo_content (nI p) thr sizes contents x1 P := by
  unfold wp_Mo_content
  refine m_isPipe (by omega) (fun q hq e => b_1n ?_) (fun hn => b_0n (h0 hn))
  have hc := h1 q hq e
  clear h1 h0
  subst e
  obtain ⟨s1, s2⟩ := hV.1 q hq
  have c16 := hV.2.1
  have m2 : (200 : Int32) * nI q = nI (200 * q) := by rw [show (200 : Int32) = nI 200 from rfl, pk_mul]
  have e0 : contents (200 * q) = nI (ct (200 * q)) := hC.2 q 0 hq (by decide)
  refine ⟨by rw [m2]; exact vp_in_nI (by omega) (by decide), 201, ?_⟩
  have key : ∀ d i, 1 ≤ i → i ≤ sz q → sz q - i < d → (∀ i', i' < i → ct (200 * q + i') = ct (200 * q)) → wl_Mo_content_28 (nI q) sizes contents (wk_Mo_content_54_28 P) (wk_Mo_content_63_28 contents (nI q) P) d (nI i) := by
    intro d
    induction d with
    | zero => intro i a0 a1 a2; omega
    | succ d ih =>
      intro i a0 a1 a2 a3
      unfold wl_Mo_content_28
      rw [nI_clamp (n := q) (by omega), hC.1 q hq, nI_leI (by omega) (by omega), m2, nI_add, nI_1, nI_clamp (n := 200 * q + i) (by omega), nI_clamp (n := 200 * q) (by omega)]
      refine ⟨vp_in_nI (by omega) (by decide), fun z => ?_, fun z => ⟨vp_in_nI (by omega) (by decide), ?_⟩⟩
      · unfold cA at hc
        rw [if_pos (fun i' hi => a3 i' (by omega))] at hc
        unfold wk_Mo_content_63_28
        rw [m2, nI_clamp (n := 200 * q) (by omega), e0]
        exact hc
      · have := c16 (200 * q + i)
        have := c16 (200 * q)
        rw [hC.2 q i hq (by omega), e0, nI_eq (by omega) (by omega)]
        refine ⟨fun y => ih (i + 1) (by omega) (by omega) (by omega) (fun i' hi => ?_), fun y => ?_⟩
        · by_cases r : i' = i
          · rw [r]; exact y
          · exact a3 i' (by omega)
        · unfold cA at hc
          rw [if_neg (fun z2 => y (z2 i (by omega)))] at hc
          exact hc
  exact key 201 1 (by omega) s1 (by omega) (fun i' hi => by rw [show i' = 0 by omega, Nat.add_zero])
end Cont
