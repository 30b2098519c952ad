/-! LEVEL 2: what passes, from port a to port b of a valve or pump of kind k in position q -/
def prB (a b c d : Nat) : Bool := (decide (a = c) && decide (b = d)) || (decide (a = d) && decide (b = c))
def psB (k q a b : Nat) : Bool := if a = b then false else if k = 0 then decide (q = 1) else if k = 1 then (decide (q = 0) && prB a b 0 1) || (decide (q = 1) && prB a b 0 2)
  else if k = 2 then decide (q = 0) || (decide (q = 1) && prB a b 0 1) || (decide (q = 2) && prB a b 0 2) || (decide (q = 3) && prB a b 1 2) else if k = 3 then decide (a = 0)
  else if k = 4 then decide (q = 1) || (decide (q = 0) && (prB a b 0 1 || prB a b 2 3)) else if k = 5 then false
  else if k = 6 then (decide (q = 0) && (prB a b 0 1 || prB a b 2 3)) || (decide (q = 1) && (prB a b 0 3 || prB a b 1 2)) else if k = 7 then !decide (q = 0) else if k = 8 then decide (q = 1) && decide (a = 0) else if k = 9 then decide (a = 0) else false
def PS (k q a b : Nat) : Prop := psB k q a b = true
theorem ps_ne {k q a b : Nat} (h : PS k q a b) : ¬ a = b := by
  intro e
  unfold PS psB at h
  rw [if_pos e] at h
  cases h
theorem ps_9 {q a b : Nat} : PS 9 q a b ↔ ¬ a = b ∧ a = 0 := by
  unfold PS psB
  by_cases e : a = b
  · simp [e]
  · simp [e]
theorem eqS {a b : Nat} (ha : a < 1000) (hb : b < 1000) : nI a = nI b ↔ a = b := nI_eq (by omega) (by omega)
theorem leS {a b : Nat} (ha : a < 1000) (hb : b < 1000) : nI a ≤ nI b ↔ a ≤ b := nI_leI (by omega) (by omega)
theorem qe_0 {n : Nat} (h : n < 1000) : nI n = 0 ↔ n = 0 := eqS (b := 0) h (by decide)
theorem qe_1 {n : Nat} (h : n < 1000) : nI n = 1 ↔ n = 1 := eqS (b := 1) h (by decide)
theorem qe_2 {n : Nat} (h : n < 1000) : nI n = 2 ↔ n = 2 := eqS (b := 2) h (by decide)
theorem qe_3 {n : Nat} (h : n < 1000) : nI n = 3 ↔ n = 3 := eqS (b := 3) h (by decide)
theorem qe_4 {n : Nat} (h : n < 1000) : nI n = 4 ↔ n = 4 := eqS (b := 4) h (by decide)
theorem qe_5 {n : Nat} (h : n < 1000) : nI n = 5 ↔ n = 5 := eqS (b := 5) h (by decide)
theorem qe_6 {n : Nat} (h : n < 1000) : nI n = 6 ↔ n = 6 := eqS (b := 6) h (by decide)
theorem qe_7 {n : Nat} (h : n < 1000) : nI n = 7 ↔ n = 7 := eqS (b := 7) h (by decide)
theorem qe_8 {n : Nat} (h : n < 1000) : nI n = 8 ↔ n = 8 := eqS (b := 8) h (by decide)
theorem qe_9 {n : Nat} (h : n < 1000) : nI n = 9 ↔ n = 9 := eqS (b := 9) h (by decide)
theorem s_isPair {a b c d : Nat} (ha : a < 4) (hb : b < 4) (hc : c < 4) (hd : d < 4) {P : Int32 → Prop} (h1 : prB a b c d = true → P 1) (h0 : prB a b c d = false → P 0) : wp_Pl_isPair (nI a) (nI b) (nI c) (nI d) P := by
  unfold wp_Pl_isPair
  rw [eqS (a := a) (b := c) (by omega) (by omega), eqS (a := a) (b := d) (by omega) (by omega), eqS (a := b) (b := c) (by omega) (by omega), eqS (a := b) (b := d) (by omega) (by omega)]
  unfold prB at h1 h0
  by_cases q1 : a = c <;> by_cases q2 : a = d <;> by_cases q3 : b = c <;> by_cases q4 : b = d <;> simp [q1, q2, q3, q4] at h1 h0 ⊢ <;> first | exact h1 | exact h0 | simp_all
/-- the class's passes -/
theorem s_passes {kind position : Nat → Int32} {t k q a b : Nat} (ht : t < 40) (hk : kind t = nI k) (hq : position t = nI q) (vk : k ≤ 9) (vq : q ≤ 9) (va : a < 4) (vb : b < 4) {P : Int32 → Prop} (h1 : PS k q a b → P 1) (h0 : ¬ PS k q a b → P 0) : wp_Pl_passes kind position (nI t) (nI a) (nI b) P := by
  have hin : vp_in (nI t) 40 := vp_in_nI ht (by decide)
  have g1 : psB k q a b = true → P 1 := h1
  have g0 : psB k q a b = false → P 0 := fun z => h0 (fun y => by unfold PS at y; rw [z] at y; cases y)
  clear h1 h0
  unfold wp_Pl_passes
  rw [nI_clamp (by omega), hk, hq]
  rw [eqS (a := a) (b := b) (by omega) (by omega)]
  rw [qe_0 (n := k) (by omega), qe_1 (n := k) (by omega), qe_2 (n := k) (by omega), qe_3 (n := k) (by omega), qe_4 (n := k) (by omega), qe_5 (n := k) (by omega), qe_6 (n := k) (by omega), qe_7 (n := k) (by omega), qe_8 (n := k) (by omega), qe_9 (n := k) (by omega), qe_0 (n := q) (by omega), qe_1 (n := q) (by omega), qe_2 (n := q) (by omega), qe_3 (n := q) (by omega), qe_0 (n := a) (by omega)]
  refine ⟨fun c0 => ⟨hin, hin, ?_⟩, fun c0 => g0 (by simp [psB, c0] <;> omega)⟩
  refine ⟨fun k0 => ⟨fun q1 => g0 (by simp [psB, c0, k0, q1] <;> omega), fun q1 => g1 (by simp [psB, c0, k0, q1] <;> omega)⟩, fun k0 => ⟨fun k1 => ?_, fun k1 => ⟨fun k2 => ?_, fun k2 => ⟨fun k3 => ⟨fun z => g0 (by simp [psB, c0, k3, z] <;> omega), fun z => g1 (by simp [psB, c0, k3, z] <;> omega)⟩, fun k3 => ⟨fun k4 => ?_, fun k4 => ⟨fun k5 => g0 (by simp [psB, c0, k5] <;> omega), fun k5 => ⟨fun k6 => ?_, fun k6 => ⟨fun k7 => ⟨fun z => g0 (by simp [psB, c0, k7, z] <;> omega), fun z => g1 (by simp [psB, c0, k7, z] <;> omega)⟩, fun k7 => ⟨fun k8 => ⟨fun z => g0 (by simp [psB, c0, k8, z] <;> omega), fun z => ⟨fun y => g0 (by simp [psB, c0, k8, z, y] <;> omega), fun y => g1 (by simp [psB, c0, k8, z, y] <;> omega)⟩⟩, fun k8 => ⟨fun k9 => ⟨fun z => g0 (by simp [psB, c0, k9, z] <;> omega), fun z => g1 (by simp [psB, c0, k9, z] <;> omega)⟩, fun k9 => absurd vk (by omega)⟩⟩⟩⟩⟩⟩⟩⟩⟩⟩
  · exact ⟨fun q0 => ⟨fun q1 => g0 (by simp [psB, c0, k1, q0, q1] <;> omega), fun q1 => s_isPair (c := 0) (d := 2) va vb (by decide) (by decide) (fun z => b_1 (g1 (by simp [psB, c0, k1, q1, z] <;> omega))) (fun z => b_0 (g0 (by simp [psB, c0, k1, q1, z] <;> omega)))⟩, fun q0 => s_isPair (c := 0) (d := 1) va vb (by decide) (by decide) (fun z => b_1n (g1 (by simp [psB, c0, k1, q0, z] <;> omega))) (fun z => b_0n ⟨fun _ => g0 (by simp [psB, c0, k1, q0, z] <;> omega), fun q1 => absurd q1 (by omega)⟩)⟩
  · exact ⟨fun q0 => g1 (by simp [psB, c0, k2, q0] <;> omega), fun q0 => ⟨fun q1 => ⟨fun q2 => ⟨fun q3 => g0 (by simp [psB, c0, k2, q0, q1, q2, q3] <;> omega), fun q3 => s_isPair (c := 1) (d := 2) va vb (by decide) (by decide) (fun z => b_1 (g1 (by simp [psB, c0, k2, q3, z] <;> omega))) (fun z => b_0 (g0 (by simp [psB, c0, k2, q3, z] <;> omega)))⟩, fun q2 => s_isPair (c := 0) (d := 2) va vb (by decide) (by decide) (fun z => b_1n (g1 (by simp [psB, c0, k2, q2, z] <;> omega))) (fun z => b_0n ⟨fun _ => g0 (by simp [psB, c0, k2, q2, z] <;> omega), fun q3 => absurd q3 (by omega)⟩)⟩, fun q1 => s_isPair (c := 0) (d := 1) va vb (by decide) (by decide) (fun z => b_1n (g1 (by simp [psB, c0, k2, q1, z] <;> omega))) (fun z => b_0n ⟨fun _ => ⟨fun _ => g0 (by simp [psB, c0, k2, q1, z] <;> omega), fun q3 => absurd q3 (by omega)⟩, fun q2 => absurd q2 (by omega)⟩)⟩⟩
  · exact ⟨fun q1 => g1 (by simp [psB, c0, k4, q1] <;> omega), fun q1 => ⟨fun q0 => g0 (by simp [psB, c0, k4, q1, q0] <;> omega), fun q0 => s_isPair (c := 0) (d := 1) va vb (by decide) (by decide) (fun z => b_1n (g1 (by simp [psB, c0, k4, q0, z] <;> omega))) (fun z => b_0n (s_isPair (c := 2) (d := 3) va vb (by decide) (by decide) (fun z2 => b_1 (g1 (by simp [psB, c0, k4, q0, z, z2] <;> omega))) (fun z2 => b_0 (g0 (by simp [psB, c0, k4, q0, z, z2] <;> omega)))))⟩⟩
  · exact ⟨fun q0 => ⟨fun q1 => g0 (by simp [psB, c0, k6, q0, q1] <;> omega), fun q1 => s_isPair (c := 0) (d := 3) va vb (by decide) (by decide) (fun z => b_1n (g1 (by simp [psB, c0, k6, q1, z] <;> omega))) (fun z => b_0n (s_isPair (c := 1) (d := 2) va vb (by decide) (by decide) (fun z2 => b_1 (g1 (by simp [psB, c0, k6, q1, z, z2] <;> omega))) (fun z2 => b_0 (g0 (by simp [psB, c0, k6, q1, z, z2] <;> omega)))))⟩, fun q0 => s_isPair (c := 0) (d := 1) va vb (by decide) (by decide) (fun z => b_1n (g1 (by simp [psB, c0, k6, q0, z] <;> omega))) (fun z => b_0n (s_isPair (c := 2) (d := 3) va vb (by decide) (by decide) (fun z2 => b_1n (g1 (by simp [psB, c0, k6, q0, z, z2] <;> omega))) (fun z2 => b_0n ⟨fun _ => g0 (by simp [psB, c0, k6, q0, z, z2] <;> omega), fun q1 => absurd q1 (by omega)⟩)))⟩
/-- the reference's passes, by the lower and the higher port -/
def mB (k q a lo hi : Nat) (pr : Bool) : Bool := if k = 0 then decide (q = 1) else if k = 1 then (decide (q < 2) && (decide (lo = 0) && decide (hi = q + 1)))
  else if k = 2 then decide (q = 0) || ((decide (q = 1) && decide (hi = 1)) || ((decide (q = 2) && (decide (lo = 0) && decide (hi = 2))) || (decide (q = 3) && decide (lo = 1)))) else if k = 3 then decide (a = 0)
  else if k = 4 then decide (q = 1) || (decide (q = 0) && pr) else if k = 5 then false
  else if k = 6 then (decide (q = 0) && pr) || (decide (q = 1) && ((decide (lo = 0) && decide (hi = 3)) || (decide (lo = 1) && decide (hi = 2)))) else if k = 7 then !decide (q = 0) else if k = 8 then decide (q = 1) && decide (a = 0) else false
def prL (a b : Nat) : Bool := (decide (min a b = 0) && decide (max a b = 1)) || (decide (min a b = 2) && decide (max a b = 3))
theorem mB_all : ((List.range 9).all fun k => (List.range 10).all fun q => (List.range 4).all fun a => (List.range 4).all fun b => decide (a = b) || (decide (k = 2) && !(decide (a < 3) && decide (b < 3))) || (mB k q a (min a b) (max a b) (prL a b) == psB k q a b)) = true := by decide +kernel
theorem mB_ps {k q a b : Nat} (hk : k < 9) (hq : q < 10) (ha : a < 4) (hb : b < 4) (hne : ¬ a = b) (h2 : k = 2 → a < 3 ∧ b < 3) : mB k q a (min a b) (max a b) (prL a b) = psB k q a b := by
  have h := List.all_eq_true.mp (List.all_eq_true.mp (List.all_eq_true.mp (List.all_eq_true.mp mB_all k (List.mem_range.mpr hk)) q (List.mem_range.mpr hq)) a (List.mem_range.mpr ha)) b (List.mem_range.mpr hb)
  have e1 : decide (a = b) = false := by simpa using hne
  have e2 : (decide (k = 2) && !(decide (a < 3) && decide (b < 3))) = false := by
    by_cases z : k = 2
    · obtain ⟨z1, z2⟩ := h2 z
      simp [z1, z2]
    · simp [z]
  rw [e1, e2, Bool.false_or, Bool.false_or] at h
  exact beq_iff_eq.mp h
theorem m_52 {k q a lo hi s : Nat} {pr : Bool} (vk : k ≤ 8) (vq : q ≤ 9) (va : a < 4) (hlh : lo < hi) (vh : hi < 4) (vs : s < 2) (hs : s = 0 ↔ pr = false) {P : Int32 → Prop} (g1 : mB k q a lo hi pr = true → P 1) (g0 : mB k q a lo hi pr = false → P 0) : wj_Mo_passes_52 (nI k) (nI q) (nI a) P (nI lo) (nI hi) (nI s) := by
  unfold wj_Mo_passes_52 wj_Mo_passes_154 wj_Mo_passes_226
  rw [show (2 : Int32) ≤ nI q ↔ 2 ≤ q from leS (a := 2) (by decide) (by omega), show nI hi = nI q + 1 ↔ hi = q + 1 from by rw [nI_1]; exact eqS (by omega) (by omega)]
  rw [qe_0 (n := k) (by omega), qe_1 (n := k) (by omega), qe_2 (n := k) (by omega), qe_3 (n := k) (by omega), qe_4 (n := k) (by omega), qe_5 (n := k) (by omega), qe_6 (n := k) (by omega), qe_7 (n := k) (by omega), qe_8 (n := k) (by omega)]
  rw [qe_0 (n := q) (by omega), qe_1 (n := q) (by omega), qe_2 (n := q) (by omega), qe_3 (n := q) (by omega), qe_0 (n := a) (by omega), qe_0 (n := lo) (by omega), qe_1 (n := lo) (by omega), qe_1 (n := hi) (by omega), qe_2 (n := hi) (by omega), qe_3 (n := hi) (by omega), qe_0 (n := s) (by omega), hs]
  unfold mB at g1 g0
  rcases (show k = 0 ∨ k = 1 ∨ k = 2 ∨ k = 3 ∨ k = 4 ∨ k = 5 ∨ k = 6 ∨ k = 7 ∨ k = 8 by omega) with e | e | e | e | e | e | e | e | e <;> subst e <;> simp at g1 g0 ⊢
  all_goals first | grind | grind (splits := 60) | (repeat' (first | refine ⟨?_, ?_⟩ | intro _)) <;> grind
theorem m_22 {k q a b lo hi : Nat} (vk : k ≤ 8) (vq : q ≤ 9) (va : a < 4) (hlh : lo < hi) (vh : hi < 4) (elo : lo = min a b) (ehi : hi = max a b) {P : Int32 → Prop} (g1 : mB k q a lo hi (prL a b) = true → P 1) (g0 : mB k q a lo hi (prL a b) = false → P 0) : wj_Mo_passes_22 (nI k) (nI q) (nI a) P (nI lo) (nI hi) := by
  unfold wj_Mo_passes_22 wj_Mo_passes_35 wj_Mo_passes_47 wj_Mo_passes_51
  rw [qe_0 (n := lo) (by omega), qe_2 (n := lo) (by omega), qe_1 (n := hi) (by omega), qe_3 (n := hi) (by omega)]
  have f1 : (lo = 0 ∧ hi = 1) ∨ (lo = 2 ∧ hi = 3) → prL a b = true := by
    intro z; unfold prL; rw [← elo, ← ehi]; simpa using z
  have f0 : ¬ ((lo = 0 ∧ hi = 1) ∨ (lo = 2 ∧ hi = 3)) → prL a b = false := by
    intro z; unfold prL; rw [← elo, ← ehi]
    rcases Bool.eq_false_or_eq_true ((decide (lo = 0) && decide (hi = 1)) || (decide (lo = 2) && decide (hi = 3))) with y | y
    · exact absurd (by simpa using y) z
    · exact y
  have y1 : (lo = 0 ∧ hi = 1) ∨ (lo = 2 ∧ hi = 3) → wj_Mo_passes_52 (nI k) (nI q) (nI a) P (nI lo) (nI hi) (nI 1) := fun z => m_52 vk vq va hlh vh (by decide) (by rw [f1 z]; simp) g1 g0
  have y0 : ¬ ((lo = 0 ∧ hi = 1) ∨ (lo = 2 ∧ hi = 3)) → wj_Mo_passes_52 (nI k) (nI q) (nI a) P (nI lo) (nI hi) (nI 0) := fun z => m_52 vk vq va hlh vh (by decide) (by rw [f0 z]; simp) g1 g0
  exact ⟨fun c1 => ⟨fun c2 => y0 (by omega), fun c2 => ⟨fun c3 => y0 (by omega), fun c3 => y1 (by omega)⟩⟩, fun c1 => ⟨fun c2 => y1 (by omega), fun c2 => ⟨fun c3 => y0 (by omega), fun c3 => ⟨fun c4 => y0 (by omega), fun c4 => y1 (by omega)⟩⟩⟩⟩
/-- the reference's passes -/
theorem m_passes {k q a b : Nat} (vk : k ≤ 8) (vq : q ≤ 9) (h2 : k = 2 → a < 3 ∧ b < 3) (va : a < 4) (vb : b < 4) (hne : ¬ a = b) {P : Int32 → Prop} (h1 : PS k q a b → P 1) (h0 : ¬ PS k q a b → P 0) : wp_Mo_passes (nI k) (nI q) (nI a) (nI b) P := by
  have em := mB_ps (k := k) (q := q) (a := a) (b := b) (by omega) (by omega) va vb hne h2
  have g1 : mB k q a (min a b) (max a b) (prL a b) = true → P 1 := fun z => h1 (by unfold PS; rw [← em]; exact z)
  have g0 : mB k q a (min a b) (max a b) (prL a b) = false → P 0 := fun z => h0 (fun y => by unfold PS at y; rw [← em, z] at y; cases y)
  unfold wp_Mo_passes wj_Mo_passes_10
  rw [leS (a := b) (b := a) (by omega) (by omega)]
  refine ⟨fun c => ⟨fun _ => ?_, fun c2 => absurd c c2⟩, fun c => ⟨fun c2 => absurd c2 c, fun _ => ?_⟩⟩
  · have z1 : min a b = b := by omega
    have z2 : max a b = a := by omega
    rw [z1, z2] at g1 g0
    exact m_22 vk vq va (by omega) va z1.symm z2.symm g1 g0
  · have z1 : min a b = a := by omega
    have z2 : max a b = b := by omega
    rw [z1, z2] at g1 g0
    exact m_22 vk vq va (by omega) vb z1.symm z2.symm g1 g0
