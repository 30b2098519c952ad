/-! LEVEL 2: unit; one more pipe's litres -/
theorem q_byte : ∀ u, u < 128 → vp_nar .byte ((nI u).toInt8.toInt32) = nI u := by decide +kernel
theorem c_unit {n : Nat} {bytes : Nat → Int32} {x1 : Int32} (hn : n ≤ 2000) {P : Int32 → Int32 → (Nat → Int32) → Prop} (h1 : ∀ u : Nat, 1 ≤ u → u ≤ 127 → x1 = nI u → n < 2000 → P 1 (nI (n + 1)) (upd bytes n (nI u))) (h0 : (∀ u : Nat, 1 ≤ u → u ≤ 127 → x1 = nI u → ¬ n < 2000) → P 0 (nI n) bytes) : wp_PG_unit (nI n) bytes x1 P := by
  unfold wp_PG_unit
  refine s_betweenI (a := 1) (b := 127) (by decide) (by decide) (fun u u1 u2 e => b_1 ?_) (fun hz => b_0 (h0 (fun u u1 u2 e => absurd e (hz u u1 u2))))
  unfold wp_Te_add
  rw [show (2000 : Int32) = nI 2000 from rfl, nI_ltI (by omega) (by decide), nI_clamp (n := n) (by omega), nI_1]
  refine ⟨fun z => ⟨vp_in_nI (by omega) (by decide), b_1 ?_⟩, fun z => b_0 (h0 (fun _ _ _ _ => z))⟩
  rw [e, q_byte u (by omega)]
  exact h1 u u1 u2 e z
theorem m_unit {n : Nat} {text : Nat → Int32} {thr x1 : Int32} (hn : n ≤ 2000) {P : Int32 → Int32 → Int32 → (Nat → Int32) → Prop} (h1 : ∀ u : Nat, 1 ≤ u → u ≤ 127 → x1 = nI u → n < 2000 → P 1 (nI (n + 1)) 0 (upd text n (nI u))) (h0 : (∀ u : Nat, 1 ≤ u → u ≤ 127 → x1 = nI u → ¬ n < 2000) → P 0 (nI n) 0 text) : wp_Mo_unit (nI n) thr text x1 P := by
  unfold wp_Mo_unit
  rcases q_arg x1 (n := 128) (by decide) with ⟨u, hu, e⟩ | ⟨hx, hno⟩
  · subst e
    rw [show (1 : Int32) = nI 1 from rfl, nI_ltI (by omega) (by decide), show (127 : Int32) = nI 127 from rfl, nI_ltI (by decide) (by omega), show (2000 : Int32) = nI 2000 from rfl, nI_eq (by omega) (by decide), nI_clamp (n := n) (by omega)]
    refine ⟨fun z => h0 (fun v v1 v2 ev => ?_), fun z => ⟨fun z2 => by omega, fun _ => ⟨fun z3 => ⟨vp_in_nI (by omega) (by decide), ?_⟩, fun z3 => h0 (fun _ _ _ _ => by omega)⟩⟩⟩
    · rw [nI_eq (by omega) (by omega)] at ev
      omega
    · rw [q_byte u (by omega), show nI n + nI 1 = nI (n + 1) from nI_add n 1]
      exact h1 u (by omega) (by omega) rfl (by omega)
  · have b : P 0 (nI n) 0 text := h0 (fun v v1 v2 ev => absurd ev (hno v (by omega)))
    refine ⟨fun _ => b, fun z => ⟨fun _ => b, fun z2 => ?_⟩⟩
    exfalso
    rw [Int32.lt_iff_toInt_lt] at z z2
    have q1 : (1 : Int32).toInt = 1 := by decide
    have q2 : (127 : Int32).toInt = 127 := by decide
    have q3 : (0 : Int32).toInt = 0 := by decide
    rcases hx with hx | hx
    · rw [Int32.lt_iff_toInt_lt] at hx
      omega
    · rw [Int32.le_iff_toInt_le, nI_toInt (by decide)] at hx
      omega
section More
variable {p m : Nat} {sz ct : Nat → Nat}
theorem cG3_pipe {pipeLitres : Nat → Int32} {w : Nat → Int64} (h : cG3 p sz ct pipeLitres w) : cG3 (p + 1) (va_up sz p m) ct (upd pipeLitres p (nI m)) w := by
  refine ⟨fun q hq => ?_, h.2⟩
  by_cases r : q = p
  · rw [r, pk_us, va_up_self]
  · rw [pk_un r, va_up_ne _ _ r]
    exact h.1 q (by omega)
theorem mG3_pipe {sizes contents c' : Nat → Int32} (h : mG3 p sz ct sizes contents) (hV : vG3 p sz ct) (h1 : ∀ i, i < 200 → c' (200 * p + i) = 0) (h2 : ∀ j, ¬ (200 * p ≤ j ∧ j < 200 * p + 200) → c' j = contents j) : mG3 (p + 1) (va_up sz p m) ct (upd sizes p (nI m)) c' := by
  refine ⟨fun q hq => ?_, fun q i hq hi => ?_⟩
  · by_cases r : q = p
    · rw [r, pk_us, va_up_self]
    · rw [pk_un r, va_up_ne _ _ r]
      exact h.1 q (by omega)
  · by_cases r : q = p
    · rw [r, h1 i hi, hV.2.2 _ (by omega)]
      rfl
    · rw [h2 _ (by omega)]
      exact h.2 q i (by omega) hi
theorem vG3_pipe (hV : vG3 p sz ct) (m1 : 1 ≤ m) (m2 : m ≤ 200) : vG3 (p + 1) (va_up sz p m) ct := by
  refine ⟨fun q hq => ?_, hV.2.1, fun j hj => hV.2.2 j (by omega)⟩
  by_cases r : q = p
  · rw [r, va_up_self]; exact ⟨m1, m2⟩
  · rw [va_up_ne _ _ r]; exact hV.1 q (by omega)
end More
