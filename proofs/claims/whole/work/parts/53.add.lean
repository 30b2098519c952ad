/-! LEVEL 2: a thing more -/
theorem s_addThing {T : Nat} (hT : T ≤ 40) {kind position told capacity amount liquid portsTaken : Nat → Int32} {k c : Int32} {P : Int32 → Int32 → (Nat → Int32) → (Nat → Int32) → (Nat → Int32) → (Nat → Int32) → (Nat → Int32) → (Nat → Int32) → (Nat → Int32) → Prop}
    (h1 : T < 40 → P (nI T) (nI (T + 1)) (upd kind T k) (upd position T 0) (upd told T (-1)) (upd capacity T c) (upd amount T 0) (upd liquid T 0) (upd portsTaken T 0)) (h0 : T = 40 → P (-2) (nI T) kind position told capacity amount liquid portsTaken) : wp_Pl_addThing (nI T) kind position told capacity amount liquid portsTaken k c P := by
  unfold wp_Pl_addThing
  rw [show (40 : Int32) = nI 40 from rfl, nI_ltI (by omega) (by decide)]
  refine ⟨fun q => ?_, fun q => h0 (by omega)⟩
  have hin : vp_in (nI T) 40 := vp_in_nI q (by decide)
  refine ⟨hin, hin, hin, hin, hin, hin, hin, ?_⟩
  rw [nI_clamp (by omega), nI_1]
  exact h1 q
theorem c_tank {T : Nat} (hT : T ≤ 40) {kind position told capacity amount liquid portsTaken : Nat → Int32} {x : Int64} {P : Int32 → Int32 → (Nat → Int32) → (Nat → Int32) → (Nat → Int32) → (Nat → Int32) → (Nat → Int32) → (Nat → Int32) → (Nat → Int32) → Prop}
    (h1 : ∀ j : Nat, 1 ≤ j → j ≤ 100000 → x = lN j → T < 40 → P (nI T) (nI (T + 1)) (upd kind T (nI 10)) (upd position T 0) (upd told T (-1)) (upd capacity T (nI j)) (upd amount T 0) (upd liquid T 0) (upd portsTaken T 0))
    (h2 : ∀ j : Nat, 1 ≤ j → j ≤ 100000 → x = lN j → T = 40 → P (-2) (nI T) kind position told capacity amount liquid portsTaken)
    (h0 : (∀ j : Nat, 1 ≤ j → j ≤ 100000 → ¬ x = lN j) → P (-1) (nI T) kind position told capacity amount liquid portsTaken) : wp_Pl_addTank (nI T) kind position told capacity amount liquid portsTaken x P := by
  unfold wp_Pl_addTank
  refine s_betweenL (a := 1) (b := 100000) (by decide) (by decide) (fun j a b e => b_1 ?_) (fun hn => b_0 (h0 hn))
  subst e
  rw [lN_i]
  exact s_addThing hT (h1 j a b rfl) (h2 j a b rfl)
theorem c_pump {T : Nat} (hT : T ≤ 40) {kind position told capacity amount liquid portsTaken : Nat → Int32} {P : Int32 → Int32 → (Nat → Int32) → (Nat → Int32) → (Nat → Int32) → (Nat → Int32) → (Nat → Int32) → (Nat → Int32) → (Nat → Int32) → Prop}
    (h1 : T < 40 → P (nI T) (nI (T + 1)) (upd kind T (nI 9)) (upd position T 0) (upd told T (-1)) (upd capacity T (nI 0)) (upd amount T 0) (upd liquid T 0) (upd portsTaken T 0)) (h2 : T = 40 → P (-2) (nI T) kind position told capacity amount liquid portsTaken) : wp_Pl_addPump (nI T) kind position told capacity amount liquid portsTaken P := by
  unfold wp_Pl_addPump
  exact s_addThing hT h1 h2
theorem c_valve {T : Nat} (hT : T ≤ 40) {kind position told capacity amount liquid portsTaken : Nat → Int32} {x : Int32} {P : Int32 → Int32 → (Nat → Int32) → (Nat → Int32) → (Nat → Int32) → (Nat → Int32) → (Nat → Int32) → (Nat → Int32) → (Nat → Int32) → Prop}
    (h1 : ∀ j : Nat, j ≤ 8 → x = nI j → T < 40 → P (nI T) (nI (T + 1)) (upd kind T (nI j)) (upd position T 0) (upd told T (-1)) (upd capacity T (nI 0)) (upd amount T 0) (upd liquid T 0) (upd portsTaken T 0))
    (h2 : ∀ j : Nat, j ≤ 8 → x = nI j → T = 40 → P (-2) (nI T) kind position told capacity amount liquid portsTaken)
    (h0 : (∀ j : Nat, j ≤ 8 → ¬ x = nI j) → P (-1) (nI T) kind position told capacity amount liquid portsTaken) : wp_Pl_addValve (nI T) kind position told capacity amount liquid portsTaken x P := by
  unfold wp_Pl_addValve
  refine s_betweenI (a := 0) (b := 8) (by decide) (by decide) (fun j _ b e => b_1 ?_) (fun hn => b_0 (h0 (fun j b => hn j (by omega) b)))
  subst e
  exact s_addThing hT (h1 j b rfl) (h2 j b rfl)
theorem m_make {T : Nat} (hT : T ≤ 40) {kinds taken : Nat → Int32} {rooms litres : Nat → Int64} {liquids positions sensors ends : Nat → Int32} {k : Int32} {c : Int64} {P : Int32 → Int32 → (Nat → Int32) → (Nat → Int32) → (Nat → Int64) → (Nat → Int64) → (Nat → Int32) → (Nat → Int32) → (Nat → Int32) → (Nat → Int32) → Prop}
    (h1 : T < 40 → ∀ ends' : Nat → Int32, (∀ i, i < 4 → ends' (4 * T + i) = -1) → (∀ j, j < 4 * T → ends' j = ends j) → P (nI T) (nI (T + 1)) (upd kinds T k) (upd taken T 0) (vp_updL rooms T c) (vp_updL litres T 0) (upd liquids T 0) (upd positions T 0) (upd sensors T (-1)) ends')
    (h0 : T = 40 → P (-2) (nI T) kinds taken rooms litres liquids positions sensors ends) : wp_Mo_make (nI T) kinds taken rooms litres liquids positions sensors ends k c P := by
  unfold wp_Mo_make
  rw [show (40 : Int32) = nI 40 from rfl, nI_eq (by omega) (by decide)]
  refine ⟨fun q => ?_, fun q => h0 q⟩
  have q' : T < 40 := by omega
  have hin : vp_in (nI T) 40 := vp_in_nI q' (by decide)
  refine ⟨hin, hin, hin, hin, hin, hin, hin, ?_⟩
  have key : ∀ (d i : Nat) (g : Nat → Int32), i ≤ 4 → 4 - i < d → (∀ j, j < i → g (4 * T + j) = -1) → (∀ j, j < 4 * T → g j = ends j) → wl_Mo_make_85 (nI T) (wk_Mo_make_112_85 (nI T) kinds k taken rooms c litres liquids positions sensors P) d (nI i) g := by
    intro d
    induction d with
    | zero => intro i g a b; omega
    | succ d ih =>
      intro i g a b c1 c2
      unfold wl_Mo_make_85
      rw [show (4 : Int32) = nI 4 from rfl, nI_leI (by decide) (by omega), pk_mul, nI_add]
      refine ⟨fun q => ?_, fun q => ⟨vp_in_nI (by omega) (by decide), ?_⟩⟩
      · unfold wk_Mo_make_112_85
        rw [nI_1, nI_clamp (by omega), nI_pred]
        exact h1 q' g (fun j hj => c1 j (by omega)) c2
      · rw [nI_1, nI_clamp (by omega)]
        refine ih (i + 1) _ (by omega) (by omega) (fun j hj => ?_) (fun j hj => ?_)
        · by_cases e : j = i
          · rw [e]; exact pk_us
          · rw [pk_un (by omega)]; exact c1 j (by omega)
        · rw [pk_un (by omega)]; exact c2 j hj
  exact ⟨5, key 5 0 ends (by omega) (by omega) (fun j hj => by omega) (fun j _ => rfl)⟩
theorem m_tank {T : Nat} (hT : T ≤ 40) {th : Int32} {kinds taken : Nat → Int32} {rooms litres : Nat → Int64} {liquids positions sensors ends : Nat → Int32} {x : Int64} {P : Int32 → Int32 → Int32 → (Nat → Int32) → (Nat → Int32) → (Nat → Int64) → (Nat → Int64) → (Nat → Int32) → (Nat → Int32) → (Nat → Int32) → (Nat → Int32) → Prop}
    (h1 : ∀ j : Nat, 1 ≤ j → j ≤ 100000 → x = lN j → T < 40 → ∀ ends' : Nat → Int32, (∀ i, i < 4 → ends' (4 * T + i) = -1) → (∀ j, j < 4 * T → ends' j = ends j) → P (nI T) (nI (T + 1)) 0 (upd kinds T 0) (upd taken T 0) (vp_updL rooms T (lN j)) (vp_updL litres T 0) (upd liquids T 0) (upd positions T 0) (upd sensors T (-1)) ends')
    (h2 : ∀ j : Nat, 1 ≤ j → j ≤ 100000 → x = lN j → T = 40 → P (-2) (nI T) 0 kinds taken rooms litres liquids positions sensors ends)
    (h0 : (∀ j : Nat, 1 ≤ j → j ≤ 100000 → ¬ x = lN j) → P (-1) (nI T) 0 kinds taken rooms litres liquids positions sensors ends) : wp_Mo_tank (nI T) th kinds taken rooms litres liquids positions sensors ends x P := by
  unfold wp_Mo_tank
  rw [q_lt, q_le]
  have hx : (∃ j : Nat, 1 ≤ j ∧ j ≤ 100000 ∧ x = lN j) ∨ ((x < 1 ∨ ¬ x ≤ 100000) ∧ ∀ j : Nat, 1 ≤ j → j ≤ 100000 → ¬ x = lN j) := by
    by_cases a : lN 1 ≤ x
    · by_cases b : x ≤ lN 100000
      · exact Or.inl (q_btw (by decide) a b (by decide))
      · refine Or.inr ⟨Or.inr b, fun j _ hj e => b ?_⟩
        rw [e, lN_le (by omega) (by decide)]; omega
    · refine Or.inr ⟨Or.inl ?_, fun j hj _ e => a ?_⟩
      · rw [show (1 : Int64) = lN 1 from rfl]
        rw [Int64.le_iff_toInt_le] at a
        rw [Int64.lt_iff_toInt_lt]; omega
      · rw [e, lN_le (by decide) (by omega)]; omega
  rcases hx with ⟨j, a, b, e⟩ | ⟨h, hn⟩
  · subst e
    refine ⟨fun q => ?_, fun _ => ⟨fun _ => m_make hT (h1 j a b rfl) (h2 j a b rfl), fun q => ?_⟩⟩
    · rw [show (1 : Int64) = lN 1 from rfl, lN_lt (by omega) (by decide)] at q; omega
    · exact absurd (by rw [show (100000 : Int64) = lN 100000 from rfl, lN_le (by omega) (by decide)]; exact b) q
  · refine ⟨fun _ => h0 hn, fun q1 => ⟨fun q2 => ?_, fun _ => h0 hn⟩⟩
    rcases h with h | h
    · exact absurd h q1
    · exact absurd q2 h
theorem m_pump {T : Nat} (hT : T ≤ 40) {th : Int32} {kinds taken : Nat → Int32} {rooms litres : Nat → Int64} {liquids positions sensors ends : Nat → Int32} {P : Int32 → Int32 → Int32 → (Nat → Int32) → (Nat → Int32) → (Nat → Int64) → (Nat → Int64) → (Nat → Int32) → (Nat → Int32) → (Nat → Int32) → (Nat → Int32) → Prop}
    (h1 : T < 40 → ∀ ends' : Nat → Int32, (∀ i, i < 4 → ends' (4 * T + i) = -1) → (∀ j, j < 4 * T → ends' j = ends j) → P (nI T) (nI (T + 1)) 0 (upd kinds T 1) (upd taken T 0) (vp_updL rooms T 0) (vp_updL litres T 0) (upd liquids T 0) (upd positions T 0) (upd sensors T (-1)) ends')
    (h2 : T = 40 → P (-2) (nI T) 0 kinds taken rooms litres liquids positions sensors ends) : wp_Mo_pump (nI T) th kinds taken rooms litres liquids positions sensors ends P := by
  unfold wp_Mo_pump
  exact m_make hT h1 h2
theorem m_valve {T : Nat} (hT : T ≤ 40) {th : Int32} {kinds taken : Nat → Int32} {rooms litres : Nat → Int64} {liquids positions sensors ends : Nat → Int32} {x : Int32} {P : Int32 → Int32 → Int32 → (Nat → Int32) → (Nat → Int32) → (Nat → Int64) → (Nat → Int64) → (Nat → Int32) → (Nat → Int32) → (Nat → Int32) → (Nat → Int32) → Prop}
    (h1 : ∀ j : Nat, j ≤ 8 → x = nI j → T < 40 → ∀ ends' : Nat → Int32, (∀ i, i < 4 → ends' (4 * T + i) = -1) → (∀ j, j < 4 * T → ends' j = ends j) → P (nI T) (nI (T + 1)) 0 (upd kinds T (nI (j + 2))) (upd taken T 0) (vp_updL rooms T 0) (vp_updL litres T 0) (upd liquids T 0) (upd positions T 0) (upd sensors T (-1)) ends')
    (h2 : ∀ j : Nat, j ≤ 8 → x = nI j → T = 40 → P (-2) (nI T) 0 kinds taken rooms litres liquids positions sensors ends)
    (h0 : (∀ j : Nat, j ≤ 8 → ¬ x = nI j) → P (-1) (nI T) 0 kinds taken rooms litres liquids positions sensors ends) : wp_Mo_valve (nI T) th kinds taken rooms litres liquids positions sensors ends x P := by
  unfold wp_Mo_valve
  rcases q_arg x (n := 9) (by decide) with ⟨j, hj, e⟩ | ⟨h, hn⟩
  · subst e
    refine ⟨fun q => absurd q (nI_pos (by omega)), fun _ => ⟨fun _ => ?_, fun q => ?_⟩⟩
    · rw [show (2 : Int32) = nI 2 from rfl, nI_add, Nat.add_comm]
      exact m_make hT (h1 j (by omega) rfl) (h2 j (by omega) rfl)
    · rw [show (8 : Int32) = nI 8 from rfl, nI_leI (by omega) (by decide)] at q; omega
  · have hb := h0 (fun j hj => hn j (by omega))
    refine ⟨fun _ => hb, fun q1 => ⟨fun q2 => ?_, fun _ => hb⟩⟩
    rcases h with h | h
    · exact absurd h q1
    · rw [show (8 : Int32) = nI 8 from rfl, Int32.le_iff_toInt_le, nI_toInt (by decide)] at q2
      rw [Int32.le_iff_toInt_le, nI_toInt (by decide)] at h
      omega
