/-! LEVEL 2: one more thing -/
section New
variable {T p k : Nat} {K tk E po : Nat → Nat} {th bd : Nat → Option Nat}
theorem vG2_thing (hV : vG2 T p K tk E po th bd) : vG2 (T + 1) p (va_up K T k) (va_up tk T 0) E po th bd := by
  obtain ⟨h1, h2, h3, h4⟩ := hV
  refine ⟨h1, fun t ht hk => ?_, fun e t he hz => ?_, h4⟩
  · by_cases q : t = T
    · subst q
      rw [va_up_self]
      exact ⟨by omega, fun k' hk' => by omega, fun k1 k2 _ hk' => by omega⟩
    · rw [va_up_ne _ _ q] at hk ⊢
      rw [va_up_ne _ _ q]
      exact h2 t (by omega) hk
  · obtain ⟨u1, u2⟩ := h3 e t he hz
    have q : ¬ t = T := by omega
    rw [va_up_ne _ _ q, va_up_ne _ _ q]
    exact ⟨by omega, u2⟩
theorem cG2_thing {portsTaken endAtPort thingAtEnd portAtEnd bendAtEnd : Nat → Int32} (hC : cG2 T p K tk E po th bd portsTaken endAtPort thingAtEnd portAtEnd bendAtEnd) (hV : vG2 T p K tk E po th bd) : cG2 (T + 1) p (va_up K T k) (va_up tk T 0) E po th bd (upd portsTaken T 0) endAtPort thingAtEnd portAtEnd bendAtEnd := by
  refine ⟨fun t ht hk => ?_, fun e he => ?_⟩
  · by_cases q : t = T
    · subst q
      rw [va_up_self, pk_us]
      exact ⟨rfl, fun k' hk' => by omega⟩
    · rw [va_up_ne _ _ q] at hk
      rw [va_up_ne _ _ q, pk_un q]
      exact hC.1 t (by omega) hk
  · obtain ⟨a1, a2, a3⟩ := hC.2 e he
    refine ⟨a1, a2, fun t hz hk => ?_⟩
    have := (hV.2.2.1 e t he hz).1
    rw [va_up_ne _ _ (by omega)] at hk
    exact a3 t hz hk
theorem mG2_thing {taken ends ends' ats ports bends : Nat → Int32} (hC : mG2 T p K tk E po th bd taken ends ats ports bends) (hV : vG2 T p K tk E po th bd) (vK : ∀ t, t < T → K t ≤ 10) (h1 : ∀ i, i < 4 → ends' (4 * T + i) = -1) (h2 : ∀ j, j < 4 * T → ends' j = ends j) : mG2 (T + 1) p (va_up K T k) (va_up tk T 0) E po th bd (upd taken T 0) ends' ats ports bends := by
  refine ⟨fun t ht hk => ?_, fun t ht hk => ?_, fun e he => ?_⟩
  · by_cases q : t = T
    · subst q
      rw [va_up_self, pk_us]
      exact ⟨rfl, fun k' hk' => by omega, fun k' _ hk' => h1 k' hk'⟩
    · rw [va_up_ne _ _ q] at hk
      rw [va_up_ne _ _ q, pk_un q]
      obtain ⟨a1, a2, a3⟩ := hC.1 t (by omega) hk
      have p4 := pN_le (K t) (by have := vK t (by omega); omega)
      have := (hV.2.1 t (by omega) hk).1
      exact ⟨a1, fun k' hk' => by rw [h2 _ (by omega)]; exact a2 k' hk', fun k' hk' h4 => by rw [h2 _ (by omega)]; exact a3 k' hk' h4⟩
  · by_cases q : t = T
    · subst q
      rw [pk_us]
      exact ⟨0, by omega, rfl⟩
    · rw [va_up_ne _ _ q] at hk
      rw [pk_un q]
      exact hC.2.1 t (by omega) hk
  · obtain ⟨a1, a2, a3⟩ := hC.2.2 e he
    refine ⟨a1, a2, fun t hz hk => ?_⟩
    have := (hV.2.2.1 e t he hz).1
    rw [va_up_ne _ _ (by omega)] at hk
    exact a3 t hz hk
end New
