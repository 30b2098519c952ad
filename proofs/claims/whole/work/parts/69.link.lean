/-! LEVEL 2: the search's chain is the greedy one -/
section Link
variable {T p s g c : Nat} {K pos tk E po : Nat → Nat} {th bd : Nat → Option Nat} {L : Nat → Nat} {F : Nat → Nat} {pp : Nat → Option Nat} {found previous lastE : Nat → Int32}
theorem link_no (hV : vG2 T p K tk E po th bd) (hJ : mJ p g (NX K pos tk E po th bd) th L) (hc : mClosed p (nxk K pos tk E po th bd) L) (hS : SI T p c K th F pp found previous lastE) (hB : PB (fun e => e < 2 * p ∧ th e = some s) (nxk K pos tk E po th bd) (NX K pos tk E po th bd) c c 0 F pp) (hg : g < T) (kg : K g = 10) (h0 : gS0 p s th L) : lastE g = -1 := by
  have hp : p ≤ 60 := hV.1
  have hle := hS.le
  rcases hS.2.2.2.2.2 g hg kg with ⟨a, a1, a2, a3, a4⟩ | ⟨-, a2⟩
  · exfalso
    have hF := (hS.1 a a1).1
    have hL1 : L (F a) = 1 := (hJ (F a) hF).2.2.1.mpr a2
    have hL : ∀ e f, NX K pos tk E po th bd e f → (fun x => if x < 2 * p then L x else 0) e ≤ (fun x => if x < 2 * p then L x else 0) f + 1 := by
      intro e f h
      by_cases q : e < 2 * p
      · have hf : f < 2 * p := by obtain ⟨k, -, hk⟩ := h; exact nxk_lt hV (pv_lt q) hk
        simp only [q, hf, if_true]
        exact closedNX hc q h
      · simp only [q, if_false]; omega
    obtain ⟨e, ⟨e1, e2⟩, e3⟩ := hB.toBI.far hL a a1
    have hl := hB.toBI.levle a a1
    simp only [hF, e1, if_true] at e3
    have := h0 e e1 e2
    omega
  · exact a2
theorem link_yes (hT : T ≤ 40) (hV : vG2 T p K tk E po th bd) (hJ : mJ p g (NX K pos tk E po th bd) th L) (hc : mClosed p (nxk K pos tk E po th bd) L) (hS : SI T p c K th F pp found previous lastE) (hB : PB (fun e => e < 2 * p ∧ th e = some s) (nxk K pos tk E po th bd) (NX K pos tk E po th bd) c c 0 F pp) (hg : g < T) (kg : K g = 10) {x : Nat} (hx : gS p s th L x) :
    lastE g = nI (pv (gW (NX K pos tk E po th bd) L x (L x - 1))) ∧ ∀ j, j < L x → previous (pv (gW (NX K pos tk E po th bd) L x j)) = (if j = 0 then -1 else nI (pv (gW (NX K pos tk E po th bd) L x (j - 1)))) := by
  have hp : p ≤ 60 := hV.1
  obtain ⟨x1, x2, x3, x4⟩ := hx
  have hpos := (hJ x x1).1
  have sp := gW_spec hV hJ hc x1 x3
  have hW0 : gW (NX K pos tk E po th bd) L x 0 = x := rfl
  generalize gW (NX K pos tk E po th bd) L x = W at sp hW0 ⊢
  have M : ∀ y, y < 2 * p → (fun x => if x < 2 * p then L x else 0) y = L y := fun y hy => by simp only [hy, if_true]
  have hL : ∀ e f, NX K pos tk E po th bd e f → (fun x => if x < 2 * p then L x else 0) e ≤ (fun x => if x < 2 * p then L x else 0) f + 1 := by
    intro e f h
    by_cases q : e < 2 * p
    · have hf : f < 2 * p := by obtain ⟨k, -, hk⟩ := h; exact nxk_lt hV (pv_lt q) hk
      simp only [q, hf, if_true]
      exact closedNX hc q h
    · simp only [q, if_false]; omega
  generalize (fun x => if x < 2 * p then L x else 0) = M' at M hL
  have hst : ∀ e, (e < 2 * p ∧ th e = some s) → L x ≤ M' e := fun e he => by rw [M e he.1]; exact (x4 e he.1 he.2).1
  have BIh := hB.toBI
  have key : ∀ j, j < L x → ∃ a, a < c ∧ F a = W j ∧ bq_lev pp a = j + 1 ∧ (∀ a', a' < a → ¬ (bq_lev pp a' = j + 1 ∧ M' (F a') + j = L x)) ∧ previous (pv (W j)) = (if j = 0 then -1 else nI (pv (W (j - 1)))) := by
    intro j
    induction j with
    | zero =>
      intro _
      obtain ⟨a, b1, b2, b3, b4, b5⟩ := BIh.base (L := M') (D := L x) (hB.2.2.2.2.2.2 x ⟨x1, x2⟩) ⟨x1, x2⟩ (fun e' he' hl => (x4 e' he'.1 he'.2).2 (by rw [M e' he'.1] at hl; exact hl))
      refine ⟨a, b1, by rw [hW0]; exact b2, b4, fun a' h1 h2 => b5 a' h1 ⟨h2.1, h2.2⟩, ?_⟩
      have := (hS.1 a b1).2.2
      rw [b2, b3] at this
      rw [hW0, if_pos rfl]
      exact this
    | succ j ih =>
      intro hj
      obtain ⟨a, b1, b2, b3, b4, b5⟩ := ih (by omega)
      obtain ⟨w1, w2, w3⟩ := sp (j + 1) hj
      obtain ⟨u1, u2, -⟩ := sp j (by omega)
      obtain ⟨g1, g2, g3⟩ := w3 j rfl
      rw [← b2] at g1
      obtain ⟨a2, c1, c2, c3, c4, c5⟩ := BIh.next (L := M') (D := L x) hst hL b1 b3 b4 g1 (by rw [M _ w1]; omega) (fun f' h1 h2 => by
        have hf : f' < 2 * p := by
          rw [b2] at h1
          obtain ⟨k, -, hk⟩ := h1
          exact nxk_lt hV (pv_lt u1) hk
        rw [M f' hf] at h2
        rw [b2] at h1
        exact g3 f' h1 (by omega))
      refine ⟨a2, c1, c2, c4, c5, ?_⟩
      have := (hS.1 a2 c1).2.2
      rw [c2, c3] at this
      rw [if_neg (by omega), Nat.add_sub_cancel, this, ← b2]
      rfl
  refine ⟨?_, fun j hj => ?_⟩
  · obtain ⟨a, b1, b2, b3, b4, -⟩ := key (L x - 1) (by omega)
    obtain ⟨w1, w2, -⟩ := sp (L x - 1) (by omega)
    have lst := BIh.last (L := M') (D := L x) hst hL b1 b3 (by omega) b4
    have hL1 : L (W (L x - 1)) = 1 := by omega
    have hta : th (pv (F a)) = some g := by rw [b2]; exact (hJ _ w1).2.2.1.mp hL1
    rcases hS.2.2.2.2.2 g hg kg with ⟨a0, d1, d2, d3, d4⟩ | ⟨d1, -⟩
    · have e0 : a0 = a := by
        rcases Nat.lt_trichotomy a0 a with z | z | z
        · have hF := (hS.1 a0 d1).1
          exact absurd (by rw [M _ hF]; exact (hJ _ hF).2.2.1.mpr d2) (lst a0 z)
        · exact z
        · exact absurd hta (d3 a z)
      rw [d4, e0, b2]
    · exact absurd hta (d1 a b1)
  · obtain ⟨a, -, -, -, -, b5⟩ := key j hj
    exact b5
end Link
