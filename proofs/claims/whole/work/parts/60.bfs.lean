/-! LEVEL 2: breadth first and the greedy chain are one way (numbers alone). F: what was found, by its place; pp: the place of what it was found from; L: pipes left to the goal. -/
def bq_R (o o' : Option Nat) (x x' : Nat) : Prop := match o, o' with
  | none, none => x < x'
  | none, some _ => True
  | some _, none => False
  | some b, some b' => b < b' ∨ (b = b' ∧ x < x')
def bq_P (st : Nat → Prop) (nx : Nat → Nat → Prop) (i a : Nat) (F : Nat → Nat) (o : Option Nat) : Prop := match o with
  | none => st (F a)
  | some b => b < a ∧ b < i ∧ nx (F b) (F a) ∧ ¬ st (F a) ∧ ∀ b', b' < b → ¬ nx (F b') (F a)
/-- the search, c found, i of them gone on from -/
def BI (st : Nat → Prop) (nx : Nat → Nat → Prop) (c i : Nat) (F : Nat → Nat) (pp : Nat → Option Nat) : Prop :=
  (∀ a b, a < c → b < c → F a = F b → a = b) ∧ (∀ a, a < c → bq_P st nx i a F (pp a)) ∧ (∀ a a', a < a' → a' < c → bq_R (pp a) (pp a') (F a) (F a')) ∧ (∀ b, b < i → ∀ f, nx (F b) f → ∃ a, a < c ∧ F a = f)
def bq_l (pp : Nat → Option Nat) : Nat → Nat → Nat
  | 0, _ => 0
  | n + 1, a => match pp a with
    | none => 1
    | some b => bq_l pp n b + 1
def bq_lev (pp : Nat → Option Nat) (a : Nat) : Nat := bq_l pp (a + 1) a
theorem bq_any {c : Nat} {pp : Nat → Option Nat} (h : ∀ a b, a < c → pp a = some b → b < a) : ∀ (n m a : Nat), a < c → a < n → a < m → bq_l pp n a = bq_l pp m a := by
  intro n
  induction n with
  | zero => intro m a _ h2; omega
  | succ n ih =>
    intro m a hc h2 h3
    cases m with
    | zero => omega
    | succ m =>
      cases e : pp a with
      | none => simp [bq_l, e]
      | some b =>
        have hb := h a b hc e
        simp [bq_l, e, ih m b (by omega) (by omega) (by omega)]
theorem bq_lev0 {pp : Nat → Option Nat} {a : Nat} (e : pp a = none) : bq_lev pp a = 1 := by simp [bq_lev, bq_l, e]
theorem bq_levs {c : Nat} {pp : Nat → Option Nat} (h : ∀ a b, a < c → pp a = some b → b < a) {a b : Nat} (ha : a < c) (e : pp a = some b) : bq_lev pp a = bq_lev pp b + 1 := by
  have hb := h a b ha e
  have h1 : bq_l pp a b = bq_l pp (b + 1) b := bq_any h a (b + 1) b (by omega) hb (by omega)
  have h2 : bq_l pp (a + 1) a = bq_l pp a b + 1 := by simp [bq_l, e]
  unfold bq_lev
  rw [h2, h1]
theorem bq_pos (pp : Nat → Option Nat) (a : Nat) : 1 ≤ bq_lev pp a := by
  unfold bq_lev bq_l
  cases pp a <;> simp
section Bfs
variable {st : Nat → Prop} {nx : Nat → Nat → Prop} {c i : Nat} {F : Nat → Nat} {pp : Nat → Option Nat} {L : Nat → Nat} {D : Nat}
theorem BI.back (H : BI st nx c i F pp) : ∀ a b, a < c → pp a = some b → b < a := by
  intro a b ha e
  have h := H.2.1 a ha
  rw [e] at h
  exact h.1
theorem BI.mono (H : BI st nx c i F pp) : ∀ a' a, a ≤ a' → a' < c → bq_lev pp a ≤ bq_lev pp a' := by
  intro a'
  induction a' using Nat.strongRecOn with
  | _ a' ih =>
    intro a h1 h2
    by_cases q : a = a'
    · rw [q]; exact Nat.le_refl _
    · have hR := H.2.2.1 a a' (by omega) h2
      cases e : pp a with
      | none => rw [bq_lev0 e]; exact bq_pos pp a'
      | some b =>
        cases e' : pp a' with
        | none =>
          rw [e, e'] at hR
          exact (show False from hR).elim
        | some b' =>
          rw [e, e'] at hR
          have hb' := H.back a' b' h2 e'
          rw [bq_levs H.back (by omega) e, bq_levs H.back h2 e']
          rcases (show b < b' ∨ (b = b' ∧ F a < F a') from hR) with hR | hR
          · have := ih b' hb' b (by omega) (by omega)
            omega
          · rw [hR.1]; exact Nat.le_refl _
theorem BI.low (H : BI st nx c i F pp) (hst : ∀ e, st e → D ≤ L e) (hL : ∀ e f, nx e f → L e ≤ L f + 1) : ∀ a, a < c → D + 1 ≤ bq_lev pp a + L (F a) := by
  intro a
  induction a using Nat.strongRecOn with
  | _ a ih =>
    intro ha
    have h := H.2.1 a ha
    cases e : pp a with
    | none =>
      rw [e] at h
      have := hst _ (show st (F a) from h)
      rw [bq_lev0 e]
      omega
    | some b =>
      rw [e] at h
      obtain ⟨h1, h2, h3, -⟩ := (show b < a ∧ b < i ∧ nx (F b) (F a) ∧ ¬ st (F a) ∧ ∀ b', b' < b → ¬ nx (F b') (F a) from h)
      have := ih b h1 (by omega)
      have := hL _ _ h3
      rw [bq_levs H.back ha e]
      omega
/-- the first of the starts with the fewest pipes -/
theorem BI.base (H : BI st nx c i F pp) {e : Nat} (hex : ∃ a, a < c ∧ F a = e) (he : st e) (least : ∀ e', st e' → L e' = D → e ≤ e') : ∃ a, a < c ∧ F a = e ∧ pp a = none ∧ bq_lev pp a = 1 ∧ ∀ a', a' < a → ¬ (bq_lev pp a' = 1 ∧ L (F a') = D) := by
  obtain ⟨a, ha, ea⟩ := hex
  have h := H.2.1 a ha
  cases e1 : pp a with
  | some b =>
    rw [e1] at h
    exact absurd he (by rw [← ea]; exact h.2.2.2.1)
  | none =>
    refine ⟨a, ha, ea, e1, bq_lev0 e1, fun a' h1 h2 => ?_⟩
    have hR := H.2.2.1 a' a h1 ha
    have h' := H.2.1 a' (by omega)
    cases e2 : pp a' with
    | some b =>
      have h3 := h2.1
      rw [bq_levs H.back (by omega) e2] at h3
      have := bq_pos pp b
      omega
    | none =>
      rw [e2, e1] at hR
      rw [e2] at h'
      have h4 := least _ (show st (F a') from h') h2.2
      have h5 : F a' < F a := hR
      omega
/-- a step of the way -/
theorem BI.next (H : BI st nx c c F pp) (hst : ∀ e, st e → D ≤ L e) (hL : ∀ e f, nx e f → L e ≤ L f + 1) {k a f : Nat} (ha : a < c) (hlev : bq_lev pp a = k + 1) (hfirst : ∀ a', a' < a → ¬ (bq_lev pp a' = k + 1 ∧ L (F a') + k = D))
    (hf : nx (F a) f) (hLf : L f + (k + 1) = D) (least : ∀ f', nx (F a) f' → L f' + (k + 1) = D → f ≤ f') :
    ∃ a2, a2 < c ∧ F a2 = f ∧ pp a2 = some a ∧ bq_lev pp a2 = k + 2 ∧ ∀ a', a' < a2 → ¬ (bq_lev pp a' = k + 2 ∧ L (F a') + (k + 1) = D) := by
  obtain ⟨a2, h2, e2⟩ := H.2.2.2 a ha f hf
  have low := H.low hst hL
  have l2 := low a2 h2
  rw [e2] at l2
  cases e3 : pp a2 with
  | none => rw [bq_lev0 e3] at l2; omega
  | some b =>
    have hp := H.2.1 a2 h2
    rw [e3] at hp
    obtain ⟨p1, p2, p3, p4, p5⟩ := (show b < a2 ∧ b < c ∧ nx (F b) (F a2) ∧ ¬ st (F a2) ∧ ∀ b', b' < b → ¬ nx (F b') (F a2) from hp)
    have hba : b ≤ a := by
      rcases Nat.lt_or_ge a b with q | q
      · exact absurd (by rw [e2]; exact hf) (p5 a q)
      · exact q
    have lv2 := bq_levs H.back h2 e3
    have m1 := H.mono a b hba ha
    have lb := low b (by omega)
    have lf := hL _ _ p3
    rw [e2] at lf
    have eb : b = a := by
      rcases Nat.lt_or_ge b a with q | q
      · exact absurd ⟨by omega, by omega⟩ (hfirst b q)
      · omega
    subst eb
    refine ⟨a2, h2, e2, e3, by omega, fun a' h1 h3 => ?_⟩
    have hp' := H.2.1 a' (by omega)
    have hR := H.2.2.1 a' a2 h1 h2
    cases e4 : pp a' with
    | none =>
      have := bq_lev0 e4
      omega
    | some b' =>
      rw [e4] at hp'
      rw [e4, e3] at hR
      obtain ⟨q1, q2, q3, q4, q5⟩ := (show b' < a' ∧ b' < c ∧ nx (F b') (F a') ∧ ¬ st (F a') ∧ ∀ b'', b'' < b' → ¬ nx (F b'') (F a') from hp')
      have lv4 := bq_levs H.back (by omega) e4
      have lb' := low b' (by omega)
      have lf' := hL _ _ q3
      rcases (show b' < b ∨ (b' = b ∧ F a' < F a2) from hR) with hR | ⟨hR1, hR2⟩
      · exact hfirst b' hR ⟨by omega, by omega⟩
      · subst hR1
        have := least _ q3 h3.2
        omega
/-- the way's last pipe is the first found that comes to the goal -/
theorem BI.last (H : BI st nx c i F pp) (hst : ∀ e, st e → D ≤ L e) (hL : ∀ e f, nx e f → L e ≤ L f + 1) {k a : Nat} (ha : a < c) (hlev : bq_lev pp a = k + 1) (hk : k + 1 = D) (hfirst : ∀ a', a' < a → ¬ (bq_lev pp a' = k + 1 ∧ L (F a') + k = D)) : ∀ a', a' < a → ¬ L (F a') = 1 := by
  intro a' h1 h2
  have m1 := H.mono a a' (by omega) ha
  have l1 := H.low hst hL a' (by omega)
  exact hfirst a' h1 ⟨by omega, by omega⟩
/-- what is found comes to the goal in so many pipes, where the goal is found from it -/
theorem BI.far (H : BI st nx c i F pp) (hL : ∀ e f, nx e f → L e ≤ L f + 1) : ∀ a, a < c → ∃ e, st e ∧ L e + 1 ≤ bq_lev pp a + L (F a) := by
  intro a
  induction a using Nat.strongRecOn with
  | _ a ih =>
    intro ha
    have h := H.2.1 a ha
    cases e : pp a with
    | none =>
      rw [e] at h
      refine ⟨F a, h, ?_⟩
      rw [bq_lev0 e]
      omega
    | some b =>
      rw [e] at h
      obtain ⟨h1, h2, h3, -⟩ := (show b < a ∧ b < i ∧ nx (F b) (F a) ∧ ¬ st (F a) ∧ ∀ b', b' < b → ¬ nx (F b') (F a) from h)
      obtain ⟨e0, s0, l0⟩ := ih b h1 (by omega)
      have := hL _ _ h3
      refine ⟨e0, s0, ?_⟩
      rw [bq_levs H.back ha e]
      omega
theorem BI.levle (H : BI st nx c i F pp) : ∀ a, a < c → bq_lev pp a ≤ a + 1 := by
  intro a
  induction a using Nat.strongRecOn with
  | _ a ih =>
    intro ha
    cases e : pp a with
    | none => rw [bq_lev0 e]; omega
    | some b =>
      have hb := H.back a b ha e
      have := ih b hb (by omega)
      rw [bq_levs H.back ha e]
      omega
end Bfs
