/-! LEVEL 2: one more thing: kinds, positions, tanks -/
section New1
variable {T k j : Nat} {K pos cap am lq : Nat → Nat} {tl : Nat → Int32}
theorem cG1_thing {kind position told capacity amount liquid : Nat → Int32} (h : cG1 T K pos tl cap am lq kind position told capacity amount liquid) : cG1 (T + 1) (va_up K T k) (va_up pos T 0) (va_up tl T (-1)) (va_up cap T j) (va_up am T 0) (va_up lq T 0) (upd kind T (nI k)) (upd position T 0) (upd told T (-1)) (upd capacity T (nI j)) (upd amount T 0) (upd liquid T 0) := by
  intro t ht
  by_cases q : t = T
  · subst q
    simp only [va_up_self, pk_us]
    exact ⟨trivial, rfl, trivial, trivial, rfl, rfl⟩
  · simp only [va_up_ne _ _ q, pk_un q]
    exact h t (by omega)
theorem vG1_thing (h : vG1 T K pos cap am lq) (hT : T < 40) (hk : k ≤ 10) (hj : j ≤ 100000) : vG1 (T + 1) (va_up K T k) (va_up pos T 0) (va_up cap T j) (va_up am T 0) (va_up lq T 0) := by
  refine ⟨by omega, fun t ht => ?_⟩
  by_cases q : t = T
  · subst q
    simp only [va_up_self]
    exact ⟨hk, by omega, hj, by omega, by omega, fun z => by omega, fun _ => trivial⟩
  · simp only [va_up_ne _ _ q]
    exact h.2 t (by omega)
theorem mG1_thing {kinds positions sensors liquids : Nat → Int32} {rooms litres : Nat → Int64} (h : mG1 T K pos tl cap am lq kinds positions sensors rooms litres liquids) {r : Int64} (hr : r = lN j) {k' : Int32} (hk : k' = nI (rk k)) : mG1 (T + 1) (va_up K T k) (va_up pos T 0) (va_up tl T (-1)) (va_up cap T j) (va_up am T 0) (va_up lq T 0) (upd kinds T k') (upd positions T 0) (upd sensors T (-1)) (vp_updL rooms T r) (vp_updL litres T 0) (upd liquids T 0) := by
  intro t ht
  by_cases q : t = T
  · subst q
    rw [va_up_self, va_up_self, va_up_self, va_up_self, va_up_self, va_up_self, pk_us, pk_us, pk_us, pk_us]
    refine ⟨hk, rfl, rfl, ?_, ?_, rfl⟩
    · rw [← hr]; unfold vp_updL; rw [if_pos rfl]
    · unfold vp_updL; rw [if_pos rfl]; rfl
  · rw [va_up_ne _ _ q, va_up_ne _ _ q, va_up_ne _ _ q, va_up_ne _ _ q, va_up_ne _ _ q, va_up_ne _ _ q, pk_un q, pk_un q, pk_un q, pk_un q]
    have e : ∀ (f : Nat → Int64) (v : Int64), vp_updL f T v t = f t := fun f v => by unfold vp_updL; rw [if_neg q]
    rw [e, e]
    exact h t (by omega)
end New1
