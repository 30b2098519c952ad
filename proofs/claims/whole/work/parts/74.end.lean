/-! LEVEL 2: one more end of a pipe. The relations of 62.graph over n ends -/
def cH (T n : Nat) (K tk E po : Nat → Nat) (th bd : Nat → Option Nat) (portsTaken endAtPort thingAtEnd portAtEnd bendAtEnd : Nat → Int32) : Prop :=
  (∀ t, t < T → ¬ K t = 10 → portsTaken t = nI (tk t) ∧ ∀ k, k < tk t → endAtPort (4 * t + k) = nI (E (4 * t + k))) ∧
  (∀ e, e < n → thingAtEnd e = oI (th e) ∧ bendAtEnd e = oI (bd e) ∧ ∀ t, th e = some t → ¬ K t = 10 → portAtEnd e = nI (po e))
def mH (T n : Nat) (K tk E po : Nat → Nat) (th bd : Nat → Option Nat) (taken ends ats ports bends : Nat → Int32) : Prop :=
  (∀ t, t < T → ¬ K t = 10 → taken t = nI (tk t) ∧ (∀ k, k < tk t → ends (4 * t + k) = nI (E (4 * t + k))) ∧ ∀ k, tk t ≤ k → k < 4 → ends (4 * t + k) = -1) ∧
  (∀ t, t < T → K t = 10 → ∃ c, c ≤ n ∧ taken t = nI c) ∧
  (∀ e, e < n → ats e = oI (th e) ∧ bends e = oI (bd e) ∧ ∀ t, th e = some t → ¬ K t = 10 → ports e = nI (po e))
def vH (T n : Nat) (K tk E po : Nat → Nat) (th bd : Nat → Option Nat) : Prop :=
  n ≤ 120 ∧ (∀ t, t < T → ¬ K t = 10 → tk t ≤ pN (K t) ∧ (∀ k, k < tk t → E (4 * t + k) < n ∧ th (E (4 * t + k)) = some t ∧ po (E (4 * t + k)) = k) ∧ ∀ k k', k < k' → k' < tk t → E (4 * t + k) < E (4 * t + k')) ∧
  (∀ e t, e < n → th e = some t → t < T ∧ (¬ K t = 10 → po e < tk t ∧ E (4 * t + po e) = e)) ∧
  (∀ e f, e < n → bd e = some f → f < n ∧ bd f = some e ∧ th e = none ∧ ¬ f / 2 = e / 2)
def nT (K tk : Nat → Nat) (o : Option Nat) : Nat → Nat := match o with
  | none => tk
  | some t => if K t = 10 then tk else va_up tk t (tk t + 1)
def nE (K tk E : Nat → Nat) (n : Nat) (o : Option Nat) : Nat → Nat := match o with
  | none => E
  | some t => if K t = 10 then E else va_up E (4 * t + tk t) n
def nP (K tk po : Nat → Nat) (n : Nat) (o : Option Nat) : Nat → Nat := match o with
  | none => po
  | some t => if K t = 10 then po else va_up po n (tk t)
/-- the end has its place -/
def fit (T : Nat) (K tk : Nat → Nat) (o : Option Nat) : Prop := ∀ t, o = some t → t < T ∧ (¬ K t = 10 → tk t < pN (K t))
section End
variable {T n : Nat} {K tk E po : Nat → Nat} {th bd : Nat → Option Nat} {o : Option Nat}
theorem vG2_vH {p : Nat} (h : vG2 T p K tk E po th bd) : vH T (2 * p) K tk E po th bd := ⟨by have := h.1; omega, h.2⟩
theorem vH_vG2 {p : Nat} (h : vH T (2 * p) K tk E po th bd) : vG2 T p K tk E po th bd := ⟨by have := h.1; omega, h.2⟩
theorem vH_add (hV : vH T n K tk E po th bd) (vK : ∀ t, t < T → K t ≤ 10) (hn : n < 120) (hf : fit T K tk o) : vH T (n + 1) K (nT K tk o) (nE K tk E n o) (nP K tk po n o) (va_up th n o) (va_up bd n none) := by
  obtain ⟨h1, h2, h3, h4⟩ := hV
  have C : ∀ e f, e < n + 1 → va_up bd n none e = some f → f < n + 1 ∧ va_up bd n none f = some e ∧ va_up th n o e = none ∧ ¬ f / 2 = e / 2 := by
    intro e f he hz
    by_cases q : e = n
    · rw [q, va_up_self] at hz; cases hz
    · rw [va_up_ne _ _ q] at hz
      obtain ⟨u1, u2, u3, u4⟩ := h4 e f (by omega) hz
      exact ⟨by omega, by rw [va_up_ne _ _ (by omega)]; exact u2, by rw [va_up_ne _ _ q]; exact u3, u4⟩
  -- without a port
  have plain : (∀ t, o = some t → t < T ∧ K t = 10) → vH T (n + 1) K tk E po (va_up th n o) (va_up bd n none) := by
    intro ho
    refine ⟨by omega, fun t ht hk => ?_, fun e t he hz => ?_, C⟩
    · obtain ⟨a1, a2, a3⟩ := h2 t ht hk
      refine ⟨a1, fun k hk' => ?_, a3⟩
      obtain ⟨b1, b2, b3⟩ := a2 k hk'
      exact ⟨by omega, by rw [va_up_ne _ _ (by omega)]; exact b2, b3⟩
    · by_cases q : e = n
      · rw [q, va_up_self] at hz
        exact ⟨(ho t hz).1, fun z => absurd (ho t hz).2 z⟩
      · rw [va_up_ne _ _ q] at hz
        exact h3 e t (by omega) hz
  cases o with
  | none => exact plain (fun t z => by cases z)
  | some t0 =>
    obtain ⟨f1, f2⟩ := hf t0 rfl
    by_cases k10 : K t0 = 10
    · unfold nT nE nP
      simp only [if_pos k10]
      exact plain (fun t z => by cases z; exact ⟨f1, k10⟩)
    · unfold nT nE nP
      simp only [if_neg k10]
      have f2 := f2 k10
      have p4 : pN (K t0) ≤ 4 := pN_le _ (by have := vK t0 f1; omega)
      obtain ⟨g1, g2, g3⟩ := h2 t0 f1 k10
      refine ⟨by omega, fun t ht hk => ?_, fun e t he hz => ?_, C⟩
      · obtain ⟨a1, a2, a3⟩ := h2 t ht hk
        have q4 : pN (K t) ≤ 4 := pN_le _ (by have := vK t ht; omega)
        by_cases q : t = t0
        · subst q
          rw [va_up_self]
          refine ⟨by omega, fun k hk' => ?_, fun k k' hkk hk' => ?_⟩
          · by_cases r : k = tk t
            · rw [r, va_up_self, va_up_self, va_up_self]
              exact ⟨by omega, rfl, rfl⟩
            · obtain ⟨b1, b2, b3⟩ := a2 k (by omega)
              rw [va_up_ne _ _ (by omega), va_up_ne _ _ (by omega), va_up_ne _ _ (by omega)]
              exact ⟨by omega, b2, b3⟩
          · rw [va_up_ne _ _ (show ¬ 4 * t + k = 4 * t + tk t by omega)]
            by_cases r : k' = tk t
            · rw [r, va_up_self]
              exact (a2 k (by omega)).1
            · rw [va_up_ne _ _ (show ¬ 4 * t + k' = 4 * t + tk t by omega)]
              exact a3 k k' hkk (by omega)
        · rw [va_up_ne _ _ q]
          refine ⟨a1, fun k hk' => ?_, fun k k' hkk hk' => ?_⟩
          · obtain ⟨b1, b2, b3⟩ := a2 k hk'
            rw [va_up_ne _ _ (show ¬ 4 * t + k = 4 * t0 + tk t0 by omega), va_up_ne _ _ (by omega), va_up_ne _ _ (by omega)]
            exact ⟨by omega, b2, b3⟩
          · rw [va_up_ne _ _ (show ¬ 4 * t + k = 4 * t0 + tk t0 by omega), va_up_ne _ _ (show ¬ 4 * t + k' = 4 * t0 + tk t0 by omega)]
            exact a3 k k' hkk hk'
      · by_cases q : e = n
        · subst q
          rw [va_up_self] at hz
          cases hz
          rw [va_up_self, va_up_self, va_up_self]
          exact ⟨f1, fun _ => ⟨by omega, rfl⟩⟩
        · rw [va_up_ne _ _ q] at hz
          obtain ⟨u1, u2⟩ := h3 e t (by omega) hz
          refine ⟨u1, fun hk => ?_⟩
          obtain ⟨w1, w2⟩ := u2 hk
          have q4 : pN (K t) ≤ 4 := pN_le _ (by have := vK t u1; omega)
          have := (h2 t u1 hk).1
          rw [va_up_ne _ _ q]
          by_cases r : t = t0
          · subst r
            rw [va_up_self, va_up_ne _ _ (show ¬ 4 * t + po e = 4 * t + tk t by omega)]
            exact ⟨by omega, w2⟩
          · rw [va_up_ne _ _ r, va_up_ne _ _ (show ¬ 4 * t + po e = 4 * t0 + tk t0 by omega)]
            exact ⟨w1, w2⟩
end End
