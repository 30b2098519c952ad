/-! LEVEL 2: move: the cells of a way in a row, and what comes to the tank -/
def sS (z : Nat → Nat) : Nat → Nat
  | 0 => 0
  | j + 1 => sS z j + z j
theorem sS_mono {z : Nat → Nat} {i : Nat} : ∀ j, i ≤ j → sS z i ≤ sS z j := by
  intro j
  induction j with
  | zero => intro h; rw [show i = 0 by omega]; exact Nat.le_refl _
  | succ j ih =>
    intro h
    by_cases q : i = j + 1
    · rw [q]; exact Nat.le_refl _
    · have := ih (by omega)
      show _ ≤ sS z j + z j
      omega
theorem sS_lt {z : Nat → Nat} {i j : Nat} (h : i < j) : sS z i + z i ≤ sS z j := sS_mono (z := z) (i := i + 1) j h
theorem sS_le {z : Nat → Nat} {D : Nat} (hz : ∀ j, j < D → z j ≤ 200) : ∀ j, j ≤ D → sS z j ≤ 200 * j := by
  intro j
  induction j with
  | zero => intro _; exact Nat.le_refl _
  | succ j ih =>
    intro h
    have a := ih (by omega)
    have b := hz j (by omega)
    show sS z j + z j ≤ _
    omega
theorem sS_at {z : Nat → Nat} : ∀ D n, n < sS z D → ∃ j i, j < D ∧ i < z j ∧ n = sS z j + i := by
  intro D
  induction D with
  | zero => intro n h; exact absurd h (Nat.not_lt_zero _)
  | succ D ih =>
    intro n h
    have h : n < sS z D + z D := h
    by_cases q : n < sS z D
    · obtain ⟨j, i, a, b, c⟩ := ih n q
      exact ⟨j, i, by omega, b, c⟩
    · exact ⟨D, n - sS z D, by omega, by omega, by omega⟩
theorem sS_un {z : Nat → Nat} {j j' i i' : Nat} (h : i < z j) (h' : i' < z j') (e : sS z j + i = sS z j' + i') : j = j' ∧ i = i' := by
  rcases Nat.lt_trichotomy j j' with q | q | q
  · have := sS_lt (z := z) q
    omega
  · subst q
    exact ⟨rfl, by omega⟩
  · have := sS_lt (z := z) q
    omega
def zW (sz W : Nat → Nat) (j : Nat) : Nat := sz (W j / 2)
/-- the cells of a way, from its start on -/
noncomputable def qC (D : Nat) (sz W : Nat → Nat) (n : Nat) : Nat := @dite Nat (∃ c j i, j < D ∧ i < zW sz W j ∧ n = sS (zW sz W) j + i ∧ c = pl sz (W j) i) (Classical.propDecidable _) (fun h => Classical.choose h) (fun _ => 0)
theorem qC_at {D : Nat} {sz W : Nat → Nat} {j i : Nat} (hj : j < D) (hi : i < zW sz W j) : qC D sz W (sS (zW sz W) j + i) = pl sz (W j) i := by
  have h : ∃ c j' i', j' < D ∧ i' < zW sz W j' ∧ sS (zW sz W) j + i = sS (zW sz W) j' + i' ∧ c = pl sz (W j') i' := ⟨_, j, i, hj, hi, rfl, rfl⟩
  unfold qC
  rw [dif_pos h]
  obtain ⟨j', i', a1, a2, a3, a4⟩ := Classical.choose_spec h
  obtain ⟨b1, b2⟩ := sS_un hi a2 a3
  rw [a4, ← b1, ← b2]
/-- what a move leaves in the pipes: M litres of l have come in -/
noncomputable def mvC (A : Nat) (Q : Nat → Nat) (M l : Nat) (ct : Nat → Nat) (c : Nat) : Nat := @dite Nat (∃ n, n < A ∧ Q n = c) (Classical.propDecidable _) (fun h => if Classical.choose h < M then l else ct (Q (Classical.choose h - M))) (fun _ => ct c)
theorem mvC_in {A M l : Nat} {Q ct : Nat → Nat} (hQ : ∀ i j, i < A → j < A → Q i = Q j → i = j) {n : Nat} (hn : n < A) : mvC A Q M l ct (Q n) = if n < M then l else ct (Q (n - M)) := by
  have h : ∃ m, m < A ∧ Q m = Q n := ⟨n, hn, rfl⟩
  unfold mvC
  rw [dif_pos h]
  have s := Classical.choose_spec h
  have e := hQ _ _ s.1 hn s.2
  rw [e]
theorem mvC_out {A M l : Nat} {Q ct : Nat → Nat} {c : Nat} (h : ∀ n, n < A → ¬ Q n = c) : mvC A Q M l ct c = ct c := by
  unfold mvC
  rw [dif_neg (fun z => by obtain ⟨n, a, b⟩ := z; exact h n a b)]
/-- what comes next -/
def cN (A l : Nat) (ln : Nat → Nat) (m : Nat) : Nat := if m < A then ln (A - 1 - m) else l
/-- litre by litre: how many, the tank's litres, its liquid -/
def mvR (n af cp l A : Nat) (ln : Nat → Nat) : Nat → Nat → Nat → Nat → Nat × Nat × Nat
  | 0, m, a, b => (m, a, b)
  | d + 1, m, a, b => if m < n ∧ m < af ∧ (cN A l ln m = 0 ∨ a < cp) then mvR n af cp l A ln d (m + 1) (if cN A l ln m = 0 then a else a + 1) (if cN A l ln m = 0 then b else mix a b (cN A l ln m)) else (m, a, b)
theorem mvR_stop {n af cp l A : Nat} {ln : Nat → Nat} {m a b : Nat} (h : ¬ (m < n ∧ m < af ∧ (cN A l ln m = 0 ∨ a < cp))) : ∀ d, mvR n af cp l A ln d m a b = (m, a, b) := by
  intro d
  cases d with
  | zero => rfl
  | succ d => unfold mvR; rw [if_neg h]
/-- what holds of what comes out -/
theorem mvR_ok {n af cp l A : Nat} {ln : Nat → Nat} (h15 : ∀ m, m < A → ln m < 16) (hl : l ≤ 15) : ∀ d m a b, a ≤ cp → b ≤ 15 → (0 < a ↔ 0 < b) → m ≤ n → m ≤ af → (mvR n af cp l A ln d m a b).1 ≤ n ∧ (mvR n af cp l A ln d m a b).1 ≤ af ∧ (mvR n af cp l A ln d m a b).2.1 ≤ cp ∧ (mvR n af cp l A ln d m a b).2.2 ≤ 15 ∧ (0 < (mvR n af cp l A ln d m a b).2.1 ↔ 0 < (mvR n af cp l A ln d m a b).2.2) := by
  intro d
  induction d with
  | zero => intro m a b h1 h2 h3 h4 h5; exact ⟨h4, h5, h1, h2, h3⟩
  | succ d ih =>
    intro m a b h1 h2 h3 h4 h5
    unfold mvR
    by_cases q : m < n ∧ m < af ∧ (cN A l ln m = 0 ∨ a < cp)
    · rw [if_pos q]
      have hc : cN A l ln m ≤ 15 := by
        unfold cN
        split
        · have := h15 (A - 1 - m) (by omega); omega
        · exact hl
      by_cases z : cN A l ln m = 0
      · rw [if_pos z, if_pos z]
        exact ih _ _ _ h1 h2 h3 (by omega) (by omega)
      · rw [if_neg z, if_neg z]
        have := mix_pos (a := a) (b := b) (q := cN A l ln m) (by omega)
        exact ih _ _ _ (by omega) (mix_le hc) (by omega) (by omega) (by omega)
    · rw [if_neg q]
      exact ⟨h4, h5, h1, h2, h3⟩
theorem mix_mix {a b q : Nat} : mix (a + 1) (mix a b q) q = mix a b q := by
  unfold mix
  by_cases h : a = 0 ∨ b = q
  · rw [if_pos h, if_pos (Or.inr rfl)]
  · rw [if_neg h]
    split <;> omega
/-- the rest comes at once -/
theorem mvR_rest {n af cp l A : Nat} {ln : Nat → Nat} (hl : 0 < l) : ∀ d m a b, A ≤ m → a ≤ cp → m ≤ n → m ≤ af → n - m < d → mvR n af cp l A ln d m a b = (m + min (min n af - m) (cp - a), a + min (min n af - m) (cp - a), if min (min n af - m) (cp - a) = 0 then b else mix a b l) := by
  intro d
  induction d with
  | zero => intro m a b h1 h2 h3 h4 h5; omega
  | succ d ih =>
    intro m a b h1 h2 h3 h4 h5
    have hc : cN A l ln m = l := by unfold cN; rw [if_neg (by omega)]
    unfold mvR
    rw [hc]
    by_cases q : m < n ∧ m < af ∧ (l = 0 ∨ a < cp)
    · rw [if_pos q, if_neg (by omega), if_neg (by omega), ih (m + 1) (a + 1) _ (by omega) (by omega) (by omega) (by omega) (by omega)]
      have e : min (min n af - m) (cp - a) = min (min n af - (m + 1)) (cp - (a + 1)) + 1 := by omega
      rw [e, if_neg (by omega : ¬ min (min n af - (m + 1)) (cp - (a + 1)) + 1 = 0), mix_mix, ite_self]
      generalize min (min n af - (m + 1)) (cp - (a + 1)) = X
      rw [show m + 1 + X = m + (X + 1) by omega, show a + 1 + X = a + (X + 1) by omega]
    · rw [if_neg q]
      have e : min (min n af - m) (cp - a) = 0 := by omega
      rw [e, if_pos rfl]
      rfl
section WayQ
variable {p D : Nat} {sz ct W Q : Nat → Nat}
/-- W is a way of D pipes, each once; Q has its cells -/
def WY (p D : Nat) (sz W Q : Nat → Nat) : Prop := D ≤ 60 ∧ (∀ j, j < D → W j < 2 * p) ∧ (∀ i j, i < D → j < D → W i / 2 = W j / 2 → i = j) ∧ ∀ j i, j < D → i < zW sz W j → Q (sS (zW sz W) j + i) = pl sz (W j) i
theorem WY.z (hY : WY p D sz W Q) (hV : vG3 p sz ct) {j : Nat} (hj : j < D) : 1 ≤ zW sz W j ∧ zW sz W j ≤ 200 := hV.1 _ (by have := hY.2.1 j hj; omega)
theorem WY.le (hY : WY p D sz W Q) (hV : vG3 p sz ct) : ∀ j, j ≤ D → sS (zW sz W) j ≤ 200 * j := sS_le (fun j hj => (hY.z hV hj).2)
theorem WY.A (hY : WY p D sz W Q) (hV : vG3 p sz ct) : sS (zW sz W) D ≤ 12000 := by
  have := hY.le hV D (Nat.le_refl _)
  have := hY.1
  omega
theorem WY.inj (hY : WY p D sz W Q) (hV : vG3 p sz ct) : ∀ n n', n < sS (zW sz W) D → n' < sS (zW sz W) D → Q n = Q n' → n = n' := by
  intro n n' h h' e
  obtain ⟨j, i, a1, a2, a3⟩ := sS_at D n h
  obtain ⟨j', i', b1, b2, b3⟩ := sS_at D n' h'
  have z1 := (hY.z hV a1)
  have z2 := (hY.z hV b1)
  rw [a3, b3, hY.2.2.2 j i a1 a2, hY.2.2.2 j' i' b1 b2] at e
  have hj : W j / 2 = W j' / 2 := by
    unfold pl at e
    unfold zW at z1 z2 a2 b2
    split at e <;> split at e <;> omega
  have hj := hY.2.2.1 j j' a1 b1 hj
  subst hj
  unfold pl at e
  unfold zW at a2 b2
  have : i = i' := by split at e <;> omega
  rw [a3, b3, this]
theorem pl_pv {v i : Nat} (hi : i < sz (v / 2)) : pl sz (pv v) i = pl sz v (sz (v / 2) - 1 - i) := by
  unfold pl pv
  by_cases h : v % 2 = 0
  · have e : (v + 1) / 2 = v / 2 := by omega
    rw [if_pos h, if_pos h, if_neg (by omega), e]
  · have e : (v - 1) / 2 = v / 2 := by omega
    rw [if_neg h, if_neg h, if_pos (by omega), e]
    omega
theorem WY.back (hY : WY p D sz W Q) {j i : Nat} (hj : j < D) (hi : i < zW sz W j) : pl sz (pv (W j)) i = Q (sS (zW sz W) (j + 1) - 1 - i) := by
  rw [pl_pv hi, ← hY.2.2.2 j _ hj (by unfold zW at hi ⊢; omega)]
  congr 1
  show _ = sS (zW sz W) j + zW sz W j - 1 - i
  unfold zW at hi ⊢
  omega
end WayQ
