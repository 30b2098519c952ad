/-! LEVEL 2: what passes, from port a to port b of a valve or pump of kind k in position q -/
def PS (k q a b : Nat) : Prop := ¬ a = b ∧ ((k = 0 ∧ q = 1) ∨ (k = 1 ∧ ((q = 0 ∧ ((a = 0 ∧ b = 1) ∨ (a = 1 ∧ b = 0))) ∨ (q = 1 ∧ ((a = 0 ∧ b = 2) ∨ (a = 2 ∧ b = 0)))))
  ∨ (k = 2 ∧ (q = 0 ∨ (q = 1 ∧ ((a = 0 ∧ b = 1) ∨ (a = 1 ∧ b = 0))) ∨ (q = 2 ∧ ((a = 0 ∧ b = 2) ∨ (a = 2 ∧ b = 0))) ∨ (q = 3 ∧ ((a = 1 ∧ b = 2) ∨ (a = 2 ∧ b = 1)))))
  ∨ (k = 3 ∧ a = 0) ∨ (k = 4 ∧ (q = 1 ∨ (q = 0 ∧ ((a = 0 ∧ b = 1) ∨ (a = 1 ∧ b = 0) ∨ (a = 2 ∧ b = 3) ∨ (a = 3 ∧ b = 2)))))
  ∨ (k = 6 ∧ ((q = 0 ∧ ((a = 0 ∧ b = 1) ∨ (a = 1 ∧ b = 0) ∨ (a = 2 ∧ b = 3) ∨ (a = 3 ∧ b = 2))) ∨ (q = 1 ∧ ((a = 0 ∧ b = 3) ∨ (a = 3 ∧ b = 0) ∨ (a = 1 ∧ b = 2) ∨ (a = 2 ∧ b = 1)))))
  ∨ (k = 7 ∧ ¬ q = 0) ∨ (k = 8 ∧ q = 1 ∧ a = 0) ∨ (k = 9 ∧ a = 0))
theorem eqS {a b : Nat} (ha : a < 1000) (hb : b < 1000) : nI a = nI b ↔ a = b := nI_eq (by omega) (by omega)
theorem leS {a b : Nat} (ha : a < 1000) (hb : b < 1000) : nI a ≤ nI b ↔ a ≤ b := nI_leI (by omega) (by omega)
theorem s_isPair {a b c d : Nat} (ha : a < 4) (hb : b < 4) (hc : c < 4) (hd : d < 4) {P : Int32 → Prop} (h1 : (a = c ∧ b = d) ∨ (a = d ∧ b = c) → P 1) (h0 : ¬ ((a = c ∧ b = d) ∨ (a = d ∧ b = c)) → P 0) : wp_Pl_isPair (nI a) (nI b) (nI c) (nI d) P := by
  unfold wp_Pl_isPair
  rw [eqS (by omega) (by omega), eqS (by omega) (by omega), eqS (by omega) (by omega), eqS (by omega) (by omega)]
  refine ⟨fun q => ⟨fun q2 => h0 (by omega), fun q2 => ⟨fun q3 => h0 (by omega), fun q3 => h1 (by omega)⟩⟩, fun q => ⟨fun q2 => h1 (by omega), fun q2 => ⟨fun q3 => h0 (by omega), fun q3 => ⟨fun q4 => h0 (by omega), fun q4 => h1 (by omega)⟩⟩⟩⟩
set_option maxHeartbeats 4000000 in
/-- the class's passes -/
theorem s_passes {kind position : Nat → Int32} {t k q a b : Nat} (ht : t < 40) (hk : kind t = nI k) (hq : position t = nI q) (vk : k ≤ 9) (vq : q ≤ 9) (va : a < 4) (vb : b < 4) {P : Int32 → Prop} (h1 : PS k q a b → P 1) (h0 : ¬ PS k q a b → P 0) : wp_Pl_passes kind position (nI t) (nI a) (nI b) P := by
  have hin : vp_in (nI t) 40 := vp_in_nI ht (by decide)
  unfold wp_Pl_passes
  rw [nI_clamp (by omega), hk, hq]
  have l0 : ∀ n : Nat, n < 1000 → (nI n = 0 ↔ n = 0) := fun n h => eqS (b := 0) h (by decide)
  have l1 : ∀ n : Nat, n < 1000 → (nI n = 1 ↔ n = 1) := fun n h => eqS (b := 1) h (by decide)
  have l2 : ∀ n : Nat, n < 1000 → (nI n = 2 ↔ n = 2) := fun n h => eqS (b := 2) h (by decide)
  have l3 : ∀ n : Nat, n < 1000 → (nI n = 3 ↔ n = 3) := fun n h => eqS (b := 3) h (by decide)
  have l4 : ∀ n : Nat, n < 1000 → (nI n = 4 ↔ n = 4) := fun n h => eqS (b := 4) h (by decide)
  have l5 : ∀ n : Nat, n < 1000 → (nI n = 5 ↔ n = 5) := fun n h => eqS (b := 5) h (by decide)
  have l6 : ∀ n : Nat, n < 1000 → (nI n = 6 ↔ n = 6) := fun n h => eqS (b := 6) h (by decide)
  have l7 : ∀ n : Nat, n < 1000 → (nI n = 7 ↔ n = 7) := fun n h => eqS (b := 7) h (by decide)
  have l8 : ∀ n : Nat, n < 1000 → (nI n = 8 ↔ n = 8) := fun n h => eqS (b := 8) h (by decide)
  have l9 : ∀ n : Nat, n < 1000 → (nI n = 9 ↔ n = 9) := fun n h => eqS (b := 9) h (by decide)
  rw [eqS (a := a) (b := b) (by omega) (by omega)]
  rw [l0 k (by omega), l1 k (by omega), l2 k (by omega), l3 k (by omega), l4 k (by omega), l5 k (by omega), l6 k (by omega), l7 k (by omega), l8 k (by omega), l9 k (by omega), l0 q (by omega), l1 q (by omega), l2 q (by omega), l3 q (by omega), l0 a (by omega)]
  unfold PS at h1 h0
  repeat' (first
    | exact hin
    | exact h1 (by omega)
    | exact h0 (by omega)
    | refine s_isPair (c := 0) (d := 1) va vb (by decide) (by decide) (fun _ => ?_) (fun _ => ?_)
    | refine s_isPair (c := 0) (d := 2) va vb (by decide) (by decide) (fun _ => ?_) (fun _ => ?_)
    | refine s_isPair (c := 1) (d := 2) va vb (by decide) (by decide) (fun _ => ?_) (fun _ => ?_)
    | refine s_isPair (c := 2) (d := 3) va vb (by decide) (by decide) (fun _ => ?_) (fun _ => ?_)
    | refine s_isPair (c := 0) (d := 3) va vb (by decide) (by decide) (fun _ => ?_) (fun _ => ?_)
    | refine b_1 ?_
    | refine b_0 ?_
    | refine b_1n ?_
    | refine b_0n ?_
    | refine ⟨?_, ?_⟩
    | intro _)
theorem qe_0 {n : Nat} (h : n < 1000) : nI n = 0 ↔ n = 0 := eqS (b := 0) h (by decide)
theorem qe_1 {n : Nat} (h : n < 1000) : nI n = 1 ↔ n = 1 := eqS (b := 1) h (by decide)
theorem qe_2 {n : Nat} (h : n < 1000) : nI n = 2 ↔ n = 2 := eqS (b := 2) h (by decide)
theorem qe_3 {n : Nat} (h : n < 1000) : nI n = 3 ↔ n = 3 := eqS (b := 3) h (by decide)
theorem qe_4 {n : Nat} (h : n < 1000) : nI n = 4 ↔ n = 4 := eqS (b := 4) h (by decide)
theorem qe_5 {n : Nat} (h : n < 1000) : nI n = 5 ↔ n = 5 := eqS (b := 5) h (by decide)
theorem qe_6 {n : Nat} (h : n < 1000) : nI n = 6 ↔ n = 6 := eqS (b := 6) h (by decide)
theorem qe_7 {n : Nat} (h : n < 1000) : nI n = 7 ↔ n = 7 := eqS (b := 7) h (by decide)
theorem qe_8 {n : Nat} (h : n < 1000) : nI n = 8 ↔ n = 8 := eqS (b := 8) h (by decide)
set_option maxHeartbeats 4000000 in
theorem m_52 {k q a b lo hi s : Nat} (vk : k ≤ 8) (vq : q ≤ 9) (h2 : k = 2 → hi < 3) (hlh : lo < hi) (vh : hi < 4) (hab : (a = lo ∧ b = hi) ∨ (a = hi ∧ b = lo)) (hs : (s = 1 ∧ ((lo = 0 ∧ hi = 1) ∨ (lo = 2 ∧ hi = 3))) ∨ (s = 0 ∧ ¬ ((lo = 0 ∧ hi = 1) ∨ (lo = 2 ∧ hi = 3)))) {P : Int32 → Prop} (h1 : PS k q a b → P 1) (h0 : ¬ PS k q a b → P 0) : wj_Mo_passes_52 (nI k) (nI q) (nI a) P (nI lo) (nI hi) (nI s) := by
  unfold wj_Mo_passes_52 wj_Mo_passes_154 wj_Mo_passes_226
  rw [show (2 : Int32) ≤ nI q ↔ 2 ≤ q from leS (a := 2) (by decide) (by omega), show nI hi = nI q + 1 ↔ hi = q + 1 from by rw [nI_1]; exact eqS (by omega) (by omega)]
  rw [qe_0 (n := k) (by omega), qe_1 (n := k) (by omega), qe_2 (n := k) (by omega), qe_3 (n := k) (by omega), qe_4 (n := k) (by omega), qe_5 (n := k) (by omega), qe_6 (n := k) (by omega), qe_7 (n := k) (by omega), qe_8 (n := k) (by omega)]
  rw [qe_0 (n := q) (by omega), qe_1 (n := q) (by omega), qe_2 (n := q) (by omega), qe_3 (n := q) (by omega), qe_0 (n := a) (by omega), qe_0 (n := lo) (by omega), qe_1 (n := lo) (by omega), qe_1 (n := hi) (by omega), qe_2 (n := hi) (by omega), qe_3 (n := hi) (by omega), qe_0 (n := s) (by omega)]
  unfold PS at h1 h0
  repeat' (first
    | exact h1 (by omega)
    | exact h0 (by omega)
    | refine ⟨?_, ?_⟩
    | intro _)
theorem m_22 {k q a b lo hi : Nat} (vk : k ≤ 8) (vq : q ≤ 9) (h2 : k = 2 → hi < 3) (hlh : lo < hi) (vh : hi < 4) (hab : (a = lo ∧ b = hi) ∨ (a = hi ∧ b = lo)) {P : Int32 → Prop} (h1 : PS k q a b → P 1) (h0 : ¬ PS k q a b → P 0) : wj_Mo_passes_22 (nI k) (nI q) (nI a) P (nI lo) (nI hi) := by
  unfold wj_Mo_passes_22 wj_Mo_passes_35 wj_Mo_passes_47 wj_Mo_passes_51
  rw [qe_0 (n := lo) (by omega), qe_2 (n := lo) (by omega), qe_1 (n := hi) (by omega), qe_3 (n := hi) (by omega)]
  refine ⟨fun c1 => ⟨fun c2 => m_52 (s := 0) vk vq h2 hlh vh hab (by omega) h1 h0, fun c2 => ⟨fun c3 => m_52 (s := 0) vk vq h2 hlh vh hab (by omega) h1 h0, fun c3 => m_52 (s := 1) vk vq h2 hlh vh hab (by omega) h1 h0⟩⟩,
    fun c1 => ⟨fun c2 => m_52 (s := 1) vk vq h2 hlh vh hab (by omega) h1 h0, fun c2 => ⟨fun c3 => m_52 (s := 0) vk vq h2 hlh vh hab (by omega) h1 h0, fun c3 => ⟨fun c4 => m_52 (s := 0) vk vq h2 hlh vh hab (by omega) h1 h0, fun c4 => m_52 (s := 1) vk vq h2 hlh vh hab (by omega) h1 h0⟩⟩⟩⟩
/-- the reference's passes -/
theorem m_passes {k q a b : Nat} (vk : k ≤ 8) (vq : q ≤ 9) (h2 : k = 2 → a < 3 ∧ b < 3) (va : a < 4) (vb : b < 4) (hne : ¬ a = b) {P : Int32 → Prop} (h1 : PS k q a b → P 1) (h0 : ¬ PS k q a b → P 0) : wp_Mo_passes (nI k) (nI q) (nI a) (nI b) P := by
  unfold wp_Mo_passes wj_Mo_passes_10
  rw [leS (a := b) (b := a) (by omega) (by omega)]
  refine ⟨fun c => ⟨fun _ => ?_, fun c2 => absurd c c2⟩, fun c => ⟨fun c2 => absurd c2 c, fun _ => ?_⟩⟩
  · exact m_22 vk vq (by omega) (by omega) va (by omega) h1 h0
  · exact m_22 vk vq (by omega) (by omega) vb (by omega) h1 h0
