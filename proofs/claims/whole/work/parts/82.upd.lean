/-! LEVEL 2: position, sensor and fill change the things' cells -/
section Upd
variable {T t0 q n m : Nat} {K pos cap am lq : Nat → Nat} {tl : Nat → Int32}
theorem cG1_pos {kind position told capacity amount liquid : Nat → Int32} (h : cG1 T K pos tl cap am lq kind position told capacity amount liquid) : cG1 T K (va_up pos t0 q) tl cap am lq kind (upd position t0 (nI q)) told capacity amount liquid := by
  intro t ht
  obtain ⟨a1, a2, a3⟩ := h t ht
  refine ⟨a1, ?_, a3⟩
  by_cases z : t = t0
  · rw [z, va_up_self, pk_us]
  · rw [va_up_ne _ _ z, pk_un z]; exact a2
theorem cG1_told {kind position told capacity amount liquid : Nat → Int32} (h : cG1 T K pos tl cap am lq kind position told capacity amount liquid) {v : Int32} : cG1 T K pos (va_up tl t0 v) cap am lq kind position (upd told t0 v) capacity amount liquid := by
  intro t ht
  obtain ⟨a1, a2, a3, a4⟩ := h t ht
  refine ⟨a1, a2, ?_, a4⟩
  by_cases z : t = t0
  · rw [z, va_up_self, pk_us]
  · rw [va_up_ne _ _ z, pk_un z]; exact a3
theorem cG1_pour {kind position told capacity amount liquid : Nat → Int32} (h : cG1 T K pos tl cap am lq kind position told capacity amount liquid) : cG1 T K pos tl cap (va_up am t0 n) (va_up lq t0 m) kind position told capacity (upd amount t0 (nI n)) (upd liquid t0 (nI m)) := by
  intro t ht
  obtain ⟨a1, a2, a3, a4, a5, a6⟩ := h t ht
  by_cases z : t = t0
  · rw [z, va_up_self, va_up_self, pk_us, pk_us]
    rw [z] at a1 a2 a3 a4
    exact ⟨a1, a2, a3, a4, rfl, rfl⟩
  · rw [va_up_ne _ _ z, va_up_ne _ _ z, pk_un z, pk_un z]
    exact ⟨a1, a2, a3, a4, a5, a6⟩
theorem mG1_pos {kinds positions sensors liquids : Nat → Int32} {rooms litres : Nat → Int64} (h : mG1 T K pos tl cap am lq kinds positions sensors rooms litres liquids) : mG1 T K (va_up pos t0 q) tl cap am lq kinds (upd positions t0 (nI q)) sensors rooms litres liquids := by
  intro t ht
  obtain ⟨a1, a2, a3⟩ := h t ht
  refine ⟨a1, ?_, a3⟩
  by_cases z : t = t0
  · rw [z, va_up_self, pk_us]
  · rw [va_up_ne _ _ z, pk_un z]; exact a2
theorem mG1_told {kinds positions sensors liquids : Nat → Int32} {rooms litres : Nat → Int64} (h : mG1 T K pos tl cap am lq kinds positions sensors rooms litres liquids) {v : Int32} : mG1 T K pos (va_up tl t0 v) cap am lq kinds positions (upd sensors t0 v) rooms litres liquids := by
  intro t ht
  obtain ⟨a1, a2, a3, a4⟩ := h t ht
  refine ⟨a1, a2, ?_, a4⟩
  by_cases z : t = t0
  · rw [z, va_up_self, pk_us]
  · rw [va_up_ne _ _ z, pk_un z]; exact a3
theorem mG1_pour {kinds positions sensors liquids : Nat → Int32} {rooms litres : Nat → Int64} (h : mG1 T K pos tl cap am lq kinds positions sensors rooms litres liquids) : mG1 T K pos tl cap (va_up am t0 n) (va_up lq t0 m) kinds positions sensors rooms (vp_updL litres t0 (lN n)) (upd liquids t0 (nI m)) := by
  intro t ht
  obtain ⟨a1, a2, a3, a4, a5, a6⟩ := h t ht
  by_cases z : t = t0
  · rw [z, va_up_self, va_up_self, pk_us]
    rw [z] at a1 a2 a3 a4
    exact ⟨a1, a2, a3, a4, by unfold vp_updL; rw [if_pos rfl], rfl⟩
  · rw [va_up_ne _ _ z, va_up_ne _ _ z, pk_un z]
    exact ⟨a1, a2, a3, a4, by unfold vp_updL; rw [if_neg z]; exact a5, a6⟩
theorem vG1_pos (h : vG1 T K pos cap am lq) (hq : q ≤ 9) : vG1 T K (va_up pos t0 q) cap am lq := by
  refine ⟨h.1, fun t ht => ?_⟩
  obtain ⟨a1, a2, a3⟩ := h.2 t ht
  refine ⟨a1, ?_, a3⟩
  by_cases z : t = t0
  · rw [z, va_up_self]; exact hq
  · rw [va_up_ne _ _ z]; exact a2
theorem vG1_pour (h : vG1 T K pos cap am lq) (h1 : n ≤ cap t0) (h2 : m ≤ 15) (h3 : 0 < n ↔ 0 < m) : vG1 T K pos cap (va_up am t0 n) (va_up lq t0 m) := by
  refine ⟨h.1, fun t ht => ?_⟩
  obtain ⟨a1, a2, a3, a4⟩ := h.2 t ht
  by_cases z : t = t0
  · rw [z, va_up_self, va_up_self]
    rw [z] at a1 a2 a3
    exact ⟨a1, a2, a3, h1, h2, h3.mp, fun y => by omega⟩
  · rw [va_up_ne _ _ z, va_up_ne _ _ z]
    exact ⟨a1, a2, a3, a4⟩
end Upd
