/-! LEVEL 2: the greedy chain; no pipe is taken twice -/
theorem pigeon : ∀ (p D : Nat) (f : Nat → Nat), (∀ i, i < D → f i < p) → (∀ i j, i < D → j < D → f i = f j → i = j) → D ≤ p := by
  intro p
  induction p with
  | zero =>
    intro D f h1 _
    rcases Nat.eq_zero_or_pos D with h | h
    · omega
    · exact absurd (h1 0 h) (by omega)
  | succ p ih =>
    intro D f h1 h2
    rcases Nat.eq_zero_or_pos D with h | h
    · omega
    · -- the last one gives its place to that which has the number p
      obtain ⟨d, rfl⟩ : ∃ d, D = d + 1 := ⟨D - 1, by omega⟩
      have : d ≤ p := by
        refine ih d (fun i => if f i = p then f d else f i) (fun i hi => ?_) (fun i j hi hj e => ?_)
        · have a := h1 i (by omega)
          have b := h1 d (by omega)
          by_cases q : f i = p
          · simp only [q, if_true]
            rcases Nat.lt_or_ge (f d) p with z | z
            · exact z
            · have := h2 i d (by omega) (by omega) (by omega)
              omega
          · simp only [q, if_false]
            omega
        · by_cases q1 : f i = p
          · by_cases q2 : f j = p
            · exact h2 i j (by omega) (by omega) (by omega)
            · simp only [q1, q2, if_true, if_false] at e
              have := h2 d j (by omega) (by omega) e
              omega
          · by_cases q2 : f j = p
            · simp only [q1, q2, if_true, if_false] at e
              have := h2 i d (by omega) (by omega) e
              omega
            · simp only [q1, q2, if_false] at e
              exact h2 i j (by omega) (by omega) e
      omega
def gB (nx : Nat → Nat → Prop) (L : Nat → Nat) (x f : Nat) : Prop := nx x f ∧ L f + 1 = L x ∧ ∀ f', nx x f' → L f' + 1 = L x → f ≤ f'
theorem gB_ex {nx : Nat → Nat → Prop} {L : Nat → Nat} {x : Nat} (h : ∃ f, nx x f ∧ L f + 1 = L x) : ∃ f, gB nx L x f := by
  obtain ⟨f, h1, h2⟩ := pk_least (fun f => nx x f ∧ L f + 1 = L x) h
  refine ⟨f, h1.1, h1.2, fun f' a b => ?_⟩
  rcases Nat.lt_or_ge f' f with q | q
  · exact absurd ⟨a, b⟩ (h2 f' q)
  · exact q
theorem gB_un {nx : Nat → Nat → Prop} {L : Nat → Nat} {x f f' : Nat} (h : gB nx L x f) (h' : gB nx L x f') : f = f' := by
  have a := h.2.2 f' h'.1 h'.2.1
  have b := h'.2.2 f h.1 h.2.1
  omega
noncomputable def gN (nx : Nat → Nat → Prop) (L : Nat → Nat) (x : Nat) : Nat := @dite Nat (∃ f, gB nx L x f) (Classical.propDecidable _) (fun h => Classical.choose h) (fun _ => 0)
theorem gN_spec {nx : Nat → Nat → Prop} {L : Nat → Nat} {x : Nat} (h : ∃ f, nx x f ∧ L f + 1 = L x) : gB nx L x (gN nx L x) := by
  have h1 := gB_ex h
  unfold gN
  rw [dif_pos h1]
  exact Classical.choose_spec h1
noncomputable def gW (nx : Nat → Nat → Prop) (L : Nat → Nat) (x : Nat) : Nat → Nat
  | 0 => x
  | j + 1 => gN nx L (gW nx L x j)
def psT : Bool := (List.range 10).all fun k => (List.range 10).all fun q => (List.range 4).all fun a => (List.range 4).all fun b => (List.range 4).all fun c => !(psB k q c a && psB k q a b) || decide (b = c) || psB k q c b
theorem psT_ok : psT = true := by decide +kernel
theorem ps_tr {k q a b c : Nat} (hk : k < 10) (hq : q < 10) (ha : a < 4) (hb : b < 4) (hc : c < 4) (h1 : PS k q c a) (h2 : PS k q a b) (hne : ¬ b = c) : PS k q c b := by
  have h := List.all_eq_true.mp (List.all_eq_true.mp (List.all_eq_true.mp (List.all_eq_true.mp (List.all_eq_true.mp psT_ok k (List.mem_range.mpr hk)) q (List.mem_range.mpr hq)) a (List.mem_range.mpr ha)) b (List.mem_range.mpr hb)) c (List.mem_range.mpr hc)
  unfold PS at h1 h2 ⊢
  have e : decide (b = c) = false := by simpa using hne
  rw [h1, h2, e] at h
  simpa using h
section Greedy
variable {T p : Nat} {K pos tk E po : Nat → Nat} {th bd : Nat → Option Nat} {L : Nat → Nat} {g : Nat}
theorem closedNX (hc : mClosed p (nxk K pos tk E po th bd) L) {x f : Nat} (hx : x < 2 * p) (h : NX K pos tk E po th bd x f) : L x ≤ L f + 1 := by
  obtain ⟨k, h1, h2⟩ := h
  exact hc x k f hx h1 h2
theorem goOn (hJ : mJ p g (NX K pos tk E po th bd) th L) (hc : mClosed p (nxk K pos tk E po th bd) L) {x : Nat} (hx : x < 2 * p) (h1 : L x < 1000) (h2 : ¬ L x = 1) : ∃ f, NX K pos tk E po th bd x f ∧ L f + 1 = L x := by
  obtain ⟨f, a, b, c⟩ := (hJ x hx).2.2.2 h1 h2
  have := closedNX hc hx a
  exact ⟨f, a, by omega⟩
theorem gW_spec (hV : vG2 T p K tk E po th bd) (hJ : mJ p g (NX K pos tk E po th bd) th L) (hc : mClosed p (nxk K pos tk E po th bd) L) {x : Nat} (hx : x < 2 * p) (h1 : L x < 1000) :
    ∀ j, j < L x → gW (NX K pos tk E po th bd) L x j < 2 * p ∧ L (gW (NX K pos tk E po th bd) L x j) + j = L x ∧ (∀ i, i + 1 = j → gB (NX K pos tk E po th bd) L (gW (NX K pos tk E po th bd) L x i) (gW (NX K pos tk E po th bd) L x j)) := by
  intro j
  induction j with
  | zero => intro _; exact ⟨hx, rfl, fun i hi => by omega⟩
  | succ j ih =>
    intro hj
    obtain ⟨a1, a2, -⟩ := ih (by omega)
    have h := gN_spec (goOn hJ hc a1 (by omega) (by omega))
    have e : gW (NX K pos tk E po th bd) L x (j + 1) = gN (NX K pos tk E po th bd) L (gW (NX K pos tk E po th bd) L x j) := rfl
    rw [e]
    refine ⟨?_, ?_, fun i hi => ?_⟩
    · obtain ⟨k, -, hk⟩ := h.1
      exact nxk_lt hV (pv_lt a1) hk
    · have := h.2.1; omega
    · have : i = j := by omega
      subst this
      exact h
theorem pv_ne (v : Nat) : ¬ pv v = v := by unfold pv; split <;> omega
/-- a way never takes a pipe both ways -/
theorem gW_norev (hT : T ≤ 40) (vK : ∀ t, t < T → K t ≤ 10) (vq : ∀ t, t < T → pos t ≤ 9) (hV : vG2 T p K tk E po th bd) (hJ : mJ p g (NX K pos tk E po th bd) th L) (hc : mClosed p (nxk K pos tk E po th bd) L) {x s : Nat} (hx : x < 2 * p) (h1 : L x < 1000) (hs : th x = some s) (ks : K s = 10) (hgs : ¬ s = g) (kg : K g = 10) :
    ∀ i j, i < j → j < L x → ¬ gW (NX K pos tk E po th bd) L x j = pv (gW (NX K pos tk E po th bd) L x i) := by
  have sp := gW_spec hV hJ hc hx h1
  have hW0 : gW (NX K pos tk E po th bd) L x 0 = x := rfl
  generalize gW (NX K pos tk E po th bd) L x = W at sp hW0 ⊢
  intro i
  induction i with
  | zero =>
    intro j hij hj e
    rw [hW0] at e
    have ex : pv (W j) = x := by rw [e, pv_pv]
    obtain ⟨b1, b2, -⟩ := sp j hj
    by_cases q : j + 1 < L x
    · obtain ⟨c1, c2, c3⟩ := sp (j + 1) q
      obtain ⟨k, -, hk⟩ := (c3 j rfl).1
      rw [ex] at hk
      rcases hk with ⟨z, -⟩ | ⟨t, z, z2, -⟩
      · rw [hs] at z; cases z
      · rw [hs] at z; cases z; exact z2 ks
    · have hl : L (W j) = 1 := by omega
      have h9 := (hJ (W j) b1).2.2.1.mp hl
      rw [ex, hs] at h9
      exact hgs (Option.some.inj h9)
  | succ i ih =>
    intro j hij hj e
    have ex : pv (W j) = W (i + 1) := by rw [e, pv_pv]
    obtain ⟨b1, b2, -⟩ := sp j hj
    obtain ⟨a1, a2, a3⟩ := sp (i + 1) (by omega)
    obtain ⟨a0, a02, -⟩ := sp i (by omega)
    obtain ⟨k, hk4, hk⟩ := (a3 i rfl).1
    have hy := pv_lt a0
    obtain ⟨hp, v1, v2, v3⟩ := hV
    have last : ¬ j + 1 < L x → th (W (i + 1)) = some g := fun q => by
      have hl : L (W j) = 1 := by omega
      have h9 := (hJ (W j) b1).2.2.1.mp hl
      rw [ex] at h9
      exact h9
    rcases hk with ⟨z1, z2, z3⟩ | ⟨t, z1, z2, z3, z4, z5⟩
    · obtain ⟨y1, y2, y3, y4⟩ := v3 _ _ hy z3
      obtain ⟨-, -, x3, -⟩ := v3 _ _ a1 y2
      by_cases q : j + 1 < L x
      · obtain ⟨c1, c2, c3⟩ := sp (j + 1) q
        obtain ⟨k', -, hk'⟩ := (c3 j rfl).1
        rw [ex] at hk'
        rcases hk' with ⟨-, -, w3⟩ | ⟨t, w, -⟩
        · rw [y2] at w3
          exact ih (j + 1) (by omega) q (Option.some.inj w3).symm
        · rw [x3] at w; cases w
      · have h9 := last q
        rw [x3] at h9; cases h9
    · obtain ⟨ht, u2⟩ := v2 _ t hy z1
      obtain ⟨u3, u4⟩ := u2 z2
      obtain ⟨s1, s2, s3⟩ := v1 t ht z2
      obtain ⟨r1, r2, r3⟩ := s2 k z3
      rw [← z5] at r1 r2 r3
      have hkt := vK t ht
      have hqt := vq t ht
      by_cases q : j + 1 < L x
      · obtain ⟨c1, c2, c3⟩ := sp (j + 1) q
        obtain ⟨k', hk4', hk'⟩ := (c3 j rfl).1
        rw [ex] at hk'
        rcases hk' with ⟨w, -⟩ | ⟨t', w1, w2, w3, w4, w5⟩
        · rw [r2] at w; cases w
        · rw [r2] at w1
          cases w1
          rw [r3] at w4
          by_cases qq : k' = po (pv (W i))
          · rw [qq, u4] at w5
            exact ih (j + 1) (by omega) q w5
          · have hn4 := pN_le (K t) (by omega)
            have tr := ps_tr (by omega) (by omega) hk4 hk4' (by omega) z4 w4 qq
            have h9 := closedNX hc a0 (⟨k', hk4', Or.inr ⟨t, z1, z2, w3, tr, w5⟩⟩ : NX K pos tk E po th bd (W i) (W (j + 1)))
            omega
      · have h9 := last q
        rw [r2] at h9
        cases h9
        exact z2 kg
theorem half_pv {a b : Nat} (h : a / 2 = b / 2) (hne : ¬ a = b) : b = pv a := by unfold pv; split <;> omega
/-- so it has no more pipes than there are -/
theorem gW_len (hT : T ≤ 40) (vK : ∀ t, t < T → K t ≤ 10) (vq : ∀ t, t < T → pos t ≤ 9) (hV : vG2 T p K tk E po th bd) (hJ : mJ p g (NX K pos tk E po th bd) th L) (hc : mClosed p (nxk K pos tk E po th bd) L) {x s : Nat} (hx : x < 2 * p) (h1 : L x < 1000) (hs : th x = some s) (ks : K s = 10) (hgs : ¬ s = g) (kg : K g = 10) : L x ≤ p := by
  have sp := gW_spec hV hJ hc hx h1
  have nr := gW_norev hT vK vq hV hJ hc hx h1 hs ks hgs kg
  generalize gW (NX K pos tk E po th bd) L x = W at sp nr
  refine pigeon p (L x) (fun i => W i / 2) (fun i hi => ?_) (fun i j hi hj e => ?_)
  · have := (sp i hi).1
    show W i / 2 < p
    omega
  · have e' : W i / 2 = W j / 2 := e
    obtain ⟨-, a, -⟩ := sp i hi
    obtain ⟨-, b, -⟩ := sp j hj
    by_cases q : W i = W j
    · rw [q] at a; omega
    · rcases Nat.lt_trichotomy i j with z | z | z
      · exact absurd (half_pv e' q) (nr i j z hj)
      · exact z
      · exact absurd (half_pv e'.symm (fun y => q y.symm)) (nr j i z hi)
end Greedy
