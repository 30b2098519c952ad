/-! LEVEL 2: the class's move: gather, pushOut, spread -/
section Flow
variable {p D : Nat} {sz ct W Q : Nat → Nat} {pipeLitres previous : Nat → Int32} {w : Nat → Int64}
/-- the class's end of the pipe before j -/
def eB (W : Nat → Nat) (j : Nat) : Int32 := if j = 0 then -1 else nI (pv (W (j - 1)))
theorem eB_0 (W : Nat → Nat) {i : Nat} (hi : i ≤ 119) : ¬ eB W 0 = nI i := by
  intro e
  have e2 : (-1 : Int32) = nI i := e
  have h : ¬ nI i < 0 := nI_pos (by omega)
  rw [← e2] at h
  exact h (by decide)
theorem s_ga41 (hp : p ≤ 60) (hY : WY p D sz W Q) (hV : vG3 p sz ct) (hC : cG3 p sz ct pipeLitres w) {j : Nat} (hj : j < D) {Kc : Int32 → Int32 → (Nat → Int64) → Prop}
    (hK : ∀ x row, (∀ m, m < sS (zW sz W) D - sS (zW sz W) j → nib row m = ct (Q (sS (zW sz W) D - 1 - m))) → Kc x (nI (sS (zW sz W) D - sS (zW sz W) j)) row) :
    ∀ (d i : Nat) (row : Nat → Int64), i ≤ zW sz W j → zW sz W j - i < d → (∀ m, m < sS (zW sz W) D - sS (zW sz W) (j + 1) + i → nib row m = ct (Q (sS (zW sz W) D - 1 - m))) →
      wl_Fl_gather_49 pipeLitres (nI (pv (W j))) w Kc d (nI i) (nI (sS (zW sz W) D - sS (zW sz W) (j + 1) + i)) row := by
  have hz := hY.z hV hj
  have hw := hY.2.1 j hj
  have hA := hY.A hV
  have hs := sS_mono (z := zW sz W) (i := j + 1) D (by omega)
  have e1 : sS (zW sz W) (j + 1) = sS (zW sz W) j + zW sz W j := rfl
  have hh : pv (W j) / 2 = W j / 2 := pv_half _
  have hl : pv (W j) < 2 * p := pv_lt hw
  intro d
  induction d with
  | zero => intro i row a1 a2; omega
  | succ d ih =>
    intro i row a1 a2 a3
    unfold wl_Fl_gather_49
    rw [q_half _ (by omega), hh, nI_clamp (n := W j / 2) (by omega), hC.1 _ (by omega), show sz (W j / 2) = zW sz W j from rfl, nI_leI (by omega) (by omega)]
    refine ⟨fun q => ?_, fun q => ?_⟩
    · have e : i = zW sz W j := by omega
      have e2 : sS (zW sz W) D - sS (zW sz W) (j + 1) + i = sS (zW sz W) D - sS (zW sz W) j := by omega
      rw [e2] at a3 ⊢
      exact hK _ _ a3
    · have hi : i < zW sz W j := by omega
      refine s_litreFrom hp hV hC hl (by rw [hh]; exact hi) ?_
      rw [hY.back hj hi]
      refine s_set (by omega) (hV.2.1 _) (fun row' hr => ?_)
      rw [nI_1, nI_1, Nat.add_assoc]
      refine ih (i + 1) row' (by omega) (by omega) (fun m hm => ?_)
      rw [hr m]
      by_cases z : m = sS (zW sz W) D - sS (zW sz W) (j + 1) + i
      · rw [if_pos z, z]
        congr 2
        omega
      · rw [if_neg z]
        exact a3 m (by omega)
theorem s_ga15 (hp : p ≤ 60) (hY : WY p D sz W Q) (hV : vG3 p sz ct) (hC : cG3 p sz ct pipeLitres w) (hB : ∀ j, j < D → previous (pv (W j)) = eB W j) {Kc : Int32 → Int32 → Int32 → (Nat → Int64) → Prop}
    (hK : ∀ x y row, (∀ m, m < sS (zW sz W) D → nib row m = ct (Q (sS (zW sz W) D - 1 - m))) → Kc x y (nI (sS (zW sz W) D)) row) :
    ∀ (d j : Nat) (row : Nat → Int64), j ≤ D → j < d → (∀ m, m < sS (zW sz W) D - sS (zW sz W) j → nib row m = ct (Q (sS (zW sz W) D - 1 - m))) →
      wl_Fl_gather_15 pipeLitres w previous Kc d (eB W j) (nI (D - j)) (nI (sS (zW sz W) D - sS (zW sz W) j)) row := by
  have hD := hY.1
  intro d
  induction d with
  | zero => intro j row a1 a2; omega
  | succ d ih =>
    intro j row a1 a2 a3
    unfold wl_Fl_gather_15
    rcases Nat.eq_zero_or_pos j with h0 | h0
    · subst h0
      have e0 : sS (zW sz W) D - sS (zW sz W) 0 = sS (zW sz W) D := Nat.sub_zero _
      rw [e0] at a3 ⊢
      refine ⟨fun _ => hK _ _ _ a3, fun _ => ?_⟩
      refine s_betweenI (a := 0) (b := 119) (by decide) (by decide) (fun i _ i2 e => absurd e (eB_0 W i2)) (fun _ => b_0 (hK _ _ _ a3))
    · obtain ⟨j, rfl⟩ : ∃ k, j = k + 1 := ⟨j - 1, by omega⟩
      have hw := hY.2.1 j (by omega)
      have hz := hY.z hV (j := j) (by omega)
      have hl : pv (W j) < 2 * p := pv_lt hw
      have e0 : eB W (j + 1) = nI (pv (W j)) := by unfold eB; rw [if_neg (by omega), Nat.add_sub_cancel]
      rw [e0, show (60 : Int32) = nI 60 from rfl, nI_leI (by decide) (by omega)]
      refine ⟨fun q => by omega, fun _ => ?_⟩
      refine s_betweenI (a := 0) (b := 119) (by decide) (by decide) (fun _ _ _ _ => b_1 ⟨?_, zW sz W j + 1, ?_⟩) (fun hn => absurd rfl (hn (pv (W j)) (by omega) (by omega)))
      · rw [q_half _ (by omega)]
        exact vp_in_nI (by omega) (by decide)
      · refine s_ga41 hp hY hV hC (j := j) (by omega) (fun x row' hr => ?_) (zW sz W j + 1) 0 row (by omega) (by omega) (by rw [Nat.add_zero]; exact a3)
        unfold wk_Fl_gather_91_49 wp_Wa_endBefore
        refine s_betweenI (a := 0) (b := 119) (by decide) (by decide) (fun _ _ _ _ => b_1 ⟨vp_in_nI (by omega) (by decide), ?_⟩) (fun hn => absurd rfl (hn _ (by omega) (by omega)))
        rw [nI_clamp (n := pv (W j)) (by omega), hB j (by omega), nI_1, show D - (j + 1) + 1 = D - j by omega]
        exact ih j row' (by omega) (by omega) hr
theorem s_gather (hp : p ≤ 60) (hY : WY p D sz W Q) (hV : vG3 p sz ct) (hC : cG3 p sz ct pipeLitres w) (hB : ∀ j, j < D → previous (pv (W j)) = eB W j) {lastE : Nat → Int32} {g : Nat} (hg : g < 40) (hL : lastE g = eB W D) {size : Int32} {row : Nat → Int64} {P : Int32 → (Nat → Int64) → Prop}
    (h : ∀ row, (∀ m, m < sS (zW sz W) D → nib row m = ct (Q (sS (zW sz W) D - 1 - m))) → P (nI (sS (zW sz W) D)) row) : wp_Fl_gather size row pipeLitres w previous lastE (nI g) P := by
  unfold wp_Fl_gather wp_Wa_lastEnd
  refine s_betweenI (a := 0) (b := 39) (by decide) (by decide) (fun _ _ _ _ => b_1 ⟨vp_in_nI (by omega) (by decide), D + 1, ?_⟩) (fun hn => absurd rfl (hn _ (by omega) (by omega)))
  rw [nI_clamp (n := g) (by omega), hL]
  have := s_ga15 hp hY hV hC hB (Kc := wk_Fl_gather_105_15 P) (fun x y row hr => h row hr) (D + 1) D row (Nat.le_refl _) (by omega) (fun m hm => by omega)
  rw [Nat.sub_self, Nat.sub_self] at this
  exact this
/-- the litres are spread: what the cells from m on hold -/
def spC (A : Nat) (Q : Nat → Nat) (M l m : Nat) (ct ct' : Nat → Nat) : Prop := ∀ c, ((∃ n, n < A ∧ A - m ≤ n ∧ Q n = c) → ct' c = mvC A Q M l ct c) ∧ ((¬ ∃ n, n < A ∧ A - m ≤ n ∧ Q n = c) → ct' c = ct c)
theorem spC_0 (A : Nat) (Q : Nat → Nat) (M l : Nat) (ct : Nat → Nat) : spC A Q M l 0 ct ct := fun c => ⟨fun z => by obtain ⟨n, a, b, -⟩ := z; omega, fun _ => rfl⟩
theorem spC_A {A : Nat} {Q : Nat → Nat} {M l : Nat} {ct ct' : Nat → Nat} (h : spC A Q M l A ct ct') : ct' = mvC A Q M l ct := by
  funext c
  obtain ⟨h1, h2⟩ := h c
  by_cases q : ∃ n, n < A ∧ A - A ≤ n ∧ Q n = c
  · exact h1 q
  · rw [h2 q, mvC_out (fun n a b => q ⟨n, a, by omega, b⟩)]
theorem spC_up {A : Nat} {Q : Nat → Nat} (hQ : ∀ i j, i < A → j < A → Q i = Q j → i = j) {M l m : Nat} {ct ct' : Nat → Nat} (h : spC A Q M l m ct ct') (hm : m < A) {v : Nat} (hv : v = if A - 1 - m < M then l else ct (Q (A - 1 - m - M))) : spC A Q M l (m + 1) ct (va_up ct' (Q (A - 1 - m)) v) := by
  intro c
  obtain ⟨h1, h2⟩ := h c
  by_cases q : c = Q (A - 1 - m)
  · subst q
    rw [va_up_self]
    refine ⟨fun _ => ?_, fun z => absurd ⟨A - 1 - m, by omega, by omega, rfl⟩ z⟩
    rw [mvC_in hQ (by omega), hv]
  · rw [va_up_ne _ _ q]
    refine ⟨fun z => ?_, fun z => h2 (fun y => z (by obtain ⟨n, a, b, e⟩ := y; exact ⟨n, a, by omega, e⟩))⟩
    obtain ⟨n, a, b, e⟩ := z
    by_cases r : n = A - 1 - m
    · rw [r] at e; exact absurd e.symm q
    · exact h1 ⟨n, a, by omega, e⟩
theorem s_sp40 (hp : p ≤ 60) (hY : WY p D sz W Q) (hV : vG3 p sz ct) {M l : Nat} (hM : M < 2 ^ 30) (hl : l < 16) {row : Nat → Int64} (hr : ∀ m, m < sS (zW sz W) D → nib row m = ct (Q (sS (zW sz W) D - 1 - m))) {j : Nat} (hj : j < D) {Kc : Int32 → Int32 → (Nat → Int64) → Prop}
    (hK : ∀ x w ct', spC (sS (zW sz W) D) Q M l (sS (zW sz W) D - sS (zW sz W) j) ct ct' → vG3 p sz ct' → cG3 p sz ct' pipeLitres w → Kc (nI (M + (sS (zW sz W) D - sS (zW sz W) j))) x w) :
    ∀ (d i : Nat) (w : Nat → Int64) (ct' : Nat → Nat), i ≤ zW sz W j → zW sz W j - i < d → spC (sS (zW sz W) D) Q M l (sS (zW sz W) D - sS (zW sz W) (j + 1) + i) ct ct' → vG3 p sz ct' → cG3 p sz ct' pipeLitres w →
      wl_Fl_spread_48 pipeLitres (nI (pv (W j))) (nI (sS (zW sz W) D)) (nI l) row Kc d (nI (M + (sS (zW sz W) D - sS (zW sz W) (j + 1) + i))) (nI i) w := by
  have hz := hY.z hV hj
  have hw := hY.2.1 j hj
  have hA := hY.A hV
  have hs := sS_mono (z := zW sz W) (i := j + 1) D (by omega)
  have e1 : sS (zW sz W) (j + 1) = sS (zW sz W) j + zW sz W j := rfl
  have hh : pv (W j) / 2 = W j / 2 := pv_half _
  have hpl : pv (W j) < 2 * p := pv_lt hw
  intro d
  induction d with
  | zero => intro i w ct' a1 a2; omega
  | succ d ih =>
    intro i w ct' a1 a2 a3 a4 a5
    unfold wl_Fl_spread_48
    rw [q_half _ (by omega), hh, nI_clamp (n := W j / 2) (by omega), a5.1 _ (by omega), show sz (W j / 2) = zW sz W j from rfl, nI_leI (by omega) (by omega), nI_leI (by omega) (by omega)]
    refine ⟨fun q => ?_, fun q => ?_⟩
    · have e : i = zW sz W j := by omega
      have e2 : sS (zW sz W) D - sS (zW sz W) (j + 1) + i = sS (zW sz W) D - sS (zW sz W) j := by omega
      rw [e2] at a3 ⊢
      exact hK _ _ _ a3 a4 a5
    · have hi : i < zW sz W j := by omega
      have go : ∀ v, v < 16 → v = (if sS (zW sz W) D - 1 - (sS (zW sz W) D - sS (zW sz W) (j + 1) + i) < M then l else ct (Q (sS (zW sz W) D - 1 - (sS (zW sz W) D - sS (zW sz W) (j + 1) + i) - M))) →
          wp_Pl_setLitreFrom pipeLitres w (nI (pv (W j))) (nI i) (nI v) (fun w' => wl_Fl_spread_48 pipeLitres (nI (pv (W j))) (nI (sS (zW sz W) D)) (nI l) row Kc d (nI (M + (sS (zW sz W) D - sS (zW sz W) (j + 1) + i)) + 1) (nI i + 1) w') := by
        intro v hv16 hv
        refine s_setLitreFrom hp a4 a5 hpl (by rw [hh]; exact hi) hv16 (fun w' hw' => ?_)
        rw [nI_1, nI_1, Nat.add_assoc, Nat.add_assoc]
        have u := spC_up (hY.inj hV) a3 (by omega) hv
        have e3 : pl sz (pv (W j)) i = Q (sS (zW sz W) D - 1 - (sS (zW sz W) D - sS (zW sz W) (j + 1) + i)) := by
          rw [hY.back hj hi]; congr 1; omega
        have v3 := vG3_set hp a4 hpl (by rw [hh]; exact hi) hv16
        rw [e3] at hw' v3
        exact ih (i + 1) w' _ (by omega) (by omega) u v3 hw'
      refine ⟨fun q1 => go l hl (by rw [if_pos (by omega)]), fun q1 => ?_⟩
      refine s_at (by omega) ?_
      rw [hr _ (by omega)]
      refine go _ (hV.2.1 _) ?_
      rw [if_neg (by omega)]
      congr 2
      omega
theorem s_sp14 (hp : p ≤ 60) (hY : WY p D sz W Q) (hV : vG3 p sz ct) {M l : Nat} (hM : M < 2 ^ 30) (hl : l < 16) {row : Nat → Int64} (hr : ∀ m, m < sS (zW sz W) D → nib row m = ct (Q (sS (zW sz W) D - 1 - m))) (hB : ∀ j, j < D → previous (pv (W j)) = eB W j) {Kc : Int32 → Int32 → Int32 → (Nat → Int64) → Prop}
    (hK : ∀ x y z w, vG3 p sz (mvC (sS (zW sz W) D) Q M l ct) → cG3 p sz (mvC (sS (zW sz W) D) Q M l ct) pipeLitres w → Kc x y z w) :
    ∀ (d j : Nat) (w : Nat → Int64) (ct' : Nat → Nat), j ≤ D → j < d → spC (sS (zW sz W) D) Q M l (sS (zW sz W) D - sS (zW sz W) j) ct ct' → vG3 p sz ct' → cG3 p sz ct' pipeLitres w →
      wl_Fl_spread_14 pipeLitres (nI (sS (zW sz W) D)) (nI l) row previous Kc d (nI (M + (sS (zW sz W) D - sS (zW sz W) j))) (eB W j) (nI (D - j)) w := by
  have hD := hY.1
  intro d
  induction d with
  | zero => intro j w ct' a1 a2; omega
  | succ d ih =>
    intro j w ct' a1 a2 a3 a4 a5
    unfold wl_Fl_spread_14
    rcases Nat.eq_zero_or_pos j with h0 | h0
    · subst h0
      have e0 : sS (zW sz W) D - sS (zW sz W) 0 = sS (zW sz W) D := Nat.sub_zero _
      rw [e0] at a3
      have e := spC_A a3
      subst e
      refine ⟨fun _ => hK _ _ _ _ a4 a5, fun _ => ?_⟩
      refine s_betweenI (a := 0) (b := 119) (by decide) (by decide) (fun i _ i2 e => absurd e (eB_0 W i2)) (fun _ => b_0 (hK _ _ _ _ a4 a5))
    · obtain ⟨j, rfl⟩ : ∃ k, j = k + 1 := ⟨j - 1, by omega⟩
      have hw := hY.2.1 j (by omega)
      have hz := hY.z hV (j := j) (by omega)
      have hl2 : pv (W j) < 2 * p := pv_lt hw
      have e0 : eB W (j + 1) = nI (pv (W j)) := by unfold eB; rw [if_neg (by omega), Nat.add_sub_cancel]
      rw [e0, show (60 : Int32) = nI 60 from rfl, nI_leI (by decide) (by omega)]
      refine ⟨fun q => by omega, fun _ => ?_⟩
      refine s_betweenI (a := 0) (b := 119) (by decide) (by decide) (fun _ _ _ _ => b_1 ⟨?_, zW sz W j + 1, ?_⟩) (fun hn => absurd rfl (hn (pv (W j)) (by omega) (by omega)))
      · rw [q_half _ (by omega)]
        exact vp_in_nI (by omega) (by decide)
      · refine s_sp40 hp hY hV hM hl hr (j := j) (by omega) (fun x w' ct2 b3 b4 b5 => ?_) (zW sz W j + 1) 0 w ct' (by omega) (by omega) a3 a4 a5
        unfold wk_Fl_spread_95_48 wp_Wa_endBefore
        refine s_betweenI (a := 0) (b := 119) (by decide) (by decide) (fun _ _ _ _ => b_1 ⟨vp_in_nI (by omega) (by decide), ?_⟩) (fun hn => absurd rfl (hn _ (by omega) (by omega)))
        rw [nI_clamp (n := pv (W j)) (by omega), hB j (by omega), nI_1, show D - (j + 1) + 1 = D - j by omega]
        exact ih j w' ct2 (by omega) (by omega) b3 b4 b5
theorem s_spread (hp : p ≤ 60) (hY : WY p D sz W Q) (hV : vG3 p sz ct) (hC : cG3 p sz ct pipeLitres w) {M l : Nat} (hM : M < 2 ^ 30) (hl : l < 16) {row : Nat → Int64} (hr : ∀ m, m < sS (zW sz W) D → nib row m = ct (Q (sS (zW sz W) D - 1 - m))) (hB : ∀ j, j < D → previous (pv (W j)) = eB W j) {lastE : Nat → Int32} {g : Nat} (hg : g < 40) (hL : lastE g = eB W D) {P : (Nat → Int64) → Prop}
    (h : ∀ w, vG3 p sz (mvC (sS (zW sz W) D) Q M l ct) → cG3 p sz (mvC (sS (zW sz W) D) Q M l ct) pipeLitres w → P w) : wp_Fl_spread (nI (sS (zW sz W) D)) row pipeLitres w previous lastE (nI g) (nI M) (nI l) P := by
  unfold wp_Fl_spread wp_Wa_lastEnd
  refine s_betweenI (a := 0) (b := 39) (by decide) (by decide) (fun _ _ _ _ => b_1 ⟨vp_in_nI (by omega) (by decide), D + 1, ?_⟩) (fun hn => absurd rfl (hn _ (by omega) (by omega)))
  rw [nI_clamp (n := g) (by omega), hL]
  have := s_sp14 hp hY hV hM hl hr hB (Kc := wk_Fl_spread_109_14 P) (fun x y z w h1 h2 => h w h1 h2) (D + 1) D w ct (Nat.le_refl _) (by omega) (by rw [Nat.sub_self]; exact spC_0 _ _ _ _ _) hV hC
  rw [Nat.sub_self, Nat.sub_self] at this
  exact this
end Flow
