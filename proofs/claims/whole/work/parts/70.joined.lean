/-! LEVEL 2: joined -/
section Joined
/-- n pipes lead from the pipe entered at e to the thing g -/
def rR (nx : Nat → Nat → Prop) (th : Nat → Option Nat) (g : Nat) : Nat → Nat → Prop
  | 0, _ => False
  | 1, e => th (pv e) = some g
  | n + 2, e => ∃ f, nx e f ∧ rR nx th g (n + 1) f
theorem rR_succ {nx : Nat → Nat → Prop} {th : Nat → Option Nat} {g n e f : Nat} (h : nx e f) (hf : rR nx th g n f) : rR nx th g (n + 1) e := by
  cases n with
  | zero => exact absurd hf id
  | succ n => exact ⟨f, h, hf⟩
/-- a least one -/
theorem least {Q : Nat → Prop} (h : ∃ n, Q n) : ∃ n, Q n ∧ ∀ m, m < n → ¬ Q m := by
  obtain ⟨n, hn⟩ := h
  induction n using Nat.strongRecOn with
  | ind n ih =>
    by_cases q : ∃ m, m < n ∧ Q m
    · obtain ⟨m, hm, hq⟩ := q
      exact ih m hm hq
    · exact ⟨n, hn, fun m hm hq => q ⟨m, hm, hq⟩⟩
theorem lenAt (nx : Nat → Nat → Prop) (th : Nat → Option Nat) (g e : Nat) : ∃ n, (n < 1000 ∧ rR nx th g n e ∧ ∀ m, m < n → ¬ rR nx th g m e) ∨ (n = 1000 ∧ ∀ m, m < 1000 → ¬ rR nx th g m e) := by
  by_cases q : ∃ n, n < 1000 ∧ rR nx th g n e
  · obtain ⟨n, ⟨h1, h2⟩, h3⟩ := least q
    exact ⟨n, Or.inl ⟨h1, h2, fun m hm hr => h3 m hm ⟨by omega, hr⟩⟩⟩
  · exact ⟨1000, Or.inr ⟨rfl, fun m hm hr => q ⟨m, hm, hr⟩⟩⟩
variable {T p s g : Nat} {K pos tk E po : Nat → Nat} {th bd : Nat → Option Nat}
/-- there are distances -/
theorem lens (hV : vG2 T p K tk E po th bd) : ∃ L, mJ p g (NX K pos tk E po th bd) th L ∧ mClosed p (nxk K pos tk E po th bd) L := by
  have h := fun e => lenAt (NX K pos tk E po th bd) th g e
  refine ⟨fun e => Classical.choose (h e), fun e he => ?_, fun x k f hx hk hn => ?_⟩
  · have w := Classical.choose_spec (h e)
    show 1 ≤ Classical.choose (h e) ∧ Classical.choose (h e) ≤ 1000 ∧ _ ∧ _
    have wf := fun f => Classical.choose_spec (h f)
    generalize hn : Classical.choose (h e) = n at w ⊢
    refine ⟨?_, by omega, ?_, fun h1 h2 => ?_⟩
    · rcases w with ⟨w1, w2, w3⟩ | ⟨w1, w2⟩
      · cases n with
        | zero => exact absurd w2 id
        | succ n => omega
      · omega
    · show Classical.choose (h e) = 1 ↔ _
      rw [hn]
      constructor
      · intro e1
        subst e1
        rcases w with ⟨w1, w2, w3⟩ | ⟨w1, w2⟩
        · exact w2
        · omega
      · intro e1
        rcases w with ⟨w1, w2, w3⟩ | ⟨w1, w2⟩
        · have : ¬ 1 < n := fun z => w3 1 z e1
          cases n with
          | zero => exact absurd w2 id
          | succ n => omega
        · exact absurd e1 (w2 1 (by omega))
    · have h1 : n < 1000 := by rw [← hn]; exact h1
      have h2 : ¬ n = 1 := by rw [← hn]; exact h2
      rcases w with ⟨w1, w2, w3⟩ | ⟨w1, w2⟩
      · match n, w2, h2 with
        | 0, w2, _ => exact absurd w2 id
        | 1, _, h2 => exact absurd rfl h2
        | n + 2, w2, _ =>
          obtain ⟨f, f1, f2⟩ := w2
          have hf : f < 2 * p := by
            obtain ⟨k, -, hk⟩ := f1
            exact nxk_lt hV (pv_lt he) hk
          refine ⟨f, f1, hf, ?_⟩
          show Classical.choose (h f) + 1 ≤ Classical.choose (h e)
          rw [hn]
          rcases wf f with ⟨z1, z2, z3⟩ | ⟨z1, z2⟩
          · have : ¬ n + 1 < Classical.choose (h f) := fun z => z3 _ z f2
            omega
          · exact absurd f2 (z2 _ (by omega))
      · omega
  · show Classical.choose (h x) ≤ Classical.choose (h f) + 1
    have wx := Classical.choose_spec (h x)
    have wf := Classical.choose_spec (h f)
    generalize Classical.choose (h x) = a at *
    generalize Classical.choose (h f) = b at *
    have hnx : NX K pos tk E po th bd x f := ⟨k, hk, hn⟩
    rcases wf with ⟨z1, z2, z3⟩ | ⟨z1, z2⟩
    · have hr := rR_succ hnx z2
      rcases wx with ⟨y1, y2, y3⟩ | ⟨y1, y2⟩
      · have : ¬ b + 1 < a := fun z => y3 _ z hr
        omega
      · have : ¬ b + 1 < 1000 := fun z => y2 _ z hr
        omega
    · rcases wx with ⟨y1, y2, y3⟩ | ⟨y1, y2⟩ <;> omega
/-- and they are the same -/
theorem lens_le {L L' : Nat → Nat} (hJ : mJ p g (NX K pos tk E po th bd) th L) (hc : mClosed p (nxk K pos tk E po th bd) L) (hJ' : mJ p g (NX K pos tk E po th bd) th L') : ∀ e, e < 2 * p → L e ≤ L' e := by
  have key : ∀ n e, e < 2 * p → L' e = n → n < 1000 → L e ≤ n := by
    intro n
    induction n using Nat.strongRecOn with
    | ind n ih =>
      intro e he h1 h2
      obtain ⟨a1, a2, a3, a4⟩ := hJ' e he
      by_cases q : L' e = 1
      · have := (hJ e he).2.2.1.mpr (a3.mp q)
        omega
      · obtain ⟨f, f1, f2, f3⟩ := a4 (by omega) q
        have := ih (L' f) (by omega) f f2 rfl (by omega)
        have := closedNX hc he f1
        omega
  intro e he
  by_cases q : L' e < 1000
  · exact key _ e he rfl q
  · have := (hJ e he).2.1; omega
/-- a way leads from s to g -/
def RW (p s g : Nat) (K pos tk E po : Nat → Nat) (th bd : Nat → Option Nat) : Prop := ∃ L x, mJ p g (NX K pos tk E po th bd) th L ∧ mClosed p (nxk K pos tk E po th bd) L ∧ gS p s th L x
theorem RW_no {L : Nat → Nat} (hJ : mJ p g (NX K pos tk E po th bd) th L) (hc : mClosed p (nxk K pos tk E po th bd) L) (h0 : gS0 p s th L) : ¬ RW p s g K pos tk E po th bd := by
  rintro ⟨L', x, hJ', hc', x1, x2, x3, -⟩
  have := h0 x x1 x2
  have := lens_le hJ hc hJ' x x1
  omega
theorem gS_or (L : Nat → Nat) (p s : Nat) (th : Nat → Option Nat) : (∃ x, gS p s th L x) ∨ gS0 p s th L := by
  by_cases q : gS0 p s th L
  · exact Or.inr q
  · refine Or.inl ?_
    have h : ∃ n, ∃ e, e < 2 * p ∧ th e = some s ∧ L e < 1000 ∧ L e = n := by
      apply Classical.byContradiction
      intro hn
      refine q (fun e h1 h2 => ?_)
      apply Classical.byContradiction
      intro h3
      exact hn ⟨L e, e, h1, h2, by omega, rfl⟩
    obtain ⟨n, ⟨e, h1, h2, h3, h4⟩, hl⟩ := least h
    obtain ⟨x, ⟨y1, y2, y3, y4⟩, hm⟩ := least (Q := fun x => x < 2 * p ∧ th x = some s ∧ L x < 1000 ∧ L x = n) ⟨e, h1, h2, h3, h4⟩
    refine ⟨x, y1, y2, y3, fun e' u1 u2 => ?_⟩
    have z : L x ≤ L e' := by
      apply Classical.byContradiction
      intro hz
      exact hl (L e') (by omega) ⟨e', u1, u2, by omega, rfl⟩
    refine ⟨z, fun hz => ?_⟩
    apply Classical.byContradiction
    intro hh
    exact hm e' (by omega) ⟨u1, u2, by omega, by omega⟩
theorem link_iff (hT : T ≤ 40) (hV : vG2 T p K tk E po th bd) {c : Nat} {F : Nat → Nat} {pp : Nat → Option Nat} {found previous lastE : Nat → Int32} (hS : SI T p c K th F pp found previous lastE) (hB : PB (fun e => e < 2 * p ∧ th e = some s) (nxk K pos tk E po th bd) (NX K pos tk E po th bd) c c 0 F pp) (hg : g < T) (kg : K g = 10) : lastE g = -1 ↔ ¬ RW p s g K pos tk E po th bd := by
  obtain ⟨L, hJ, hc⟩ := lens (g := g) (pos := pos) hV
  rcases gS_or L p s th with ⟨x, hx⟩ | h0
  · have h := (link_yes hT hV hJ hc hS hB hg kg hx).1
    have sp := (gW_spec hV hJ hc hx.1 hx.2.2.1 (L x - 1) (by have := (hJ x hx.1).1; omega)).1
    have hp := hV.1
    have := pv_lt sp
    constructor
    · intro e
      rw [h] at e
      exact absurd e (q_m1 (by omega))
    · intro hn
      exact absurd ⟨L, x, hJ, hc, hx⟩ hn
  · exact ⟨fun _ => RW_no hJ hc h0, fun _ => link_no hV hJ hc hS hB hg kg h0⟩
end Joined
