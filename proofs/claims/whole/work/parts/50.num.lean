/-! LEVEL 2, numbers: the predicates' own arithmetic by natural numbers. -/
theorem q_lt (x y : Int64) : lg_cmp x y < 0 ↔ x < y := by
  unfold lg_cmp
  have e : x > y ↔ y.toInt < x.toInt := Int64.lt_iff_toInt_lt
  by_cases h : x > y
  · rw [if_pos h]
    constructor
    · intro q; exact absurd q (by decide)
    · intro q; rw [Int64.lt_iff_toInt_lt] at q; have := e.mp h; omega
  · rw [if_neg h]
    have h3 : ¬ y.toInt < x.toInt := fun q => h (e.mpr q)
    by_cases h2 : x = y
    · rw [if_pos h2]
      constructor
      · intro q; exact absurd q (by decide)
      · intro q; rw [Int64.lt_iff_toInt_lt] at q; rw [h2] at q; omega
    · rw [if_neg h2]
      constructor
      · intro _; rw [Int64.lt_iff_toInt_lt]
        have h4 : ¬ x.toInt = y.toInt := fun q => h2 (Int64.toInt_inj.mp q)
        omega
      · intro _; decide
theorem q_gt (x y : Int64) : 0 < lg_cmp x y ↔ y < x := by
  unfold lg_cmp
  by_cases h : x > y
  · rw [if_pos h]
    exact ⟨fun _ => h, fun _ => by decide⟩
  · rw [if_neg h]
    constructor
    · intro q
      by_cases h2 : x = y
      · rw [if_pos h2] at q; exact absurd q (by decide)
      · rw [if_neg h2] at q; exact absurd q (by decide)
    · intro q; exact absurd q h
theorem q_le (x y : Int64) : lg_cmp x y ≤ 0 ↔ x ≤ y := by
  have e : lg_cmp x y ≤ 0 ↔ ¬ 0 < lg_cmp x y := by
    rw [Int32.le_iff_toInt_le, Int32.lt_iff_toInt_lt]; omega
  rw [e, q_gt, Int64.lt_iff_toInt_lt, Int64.le_iff_toInt_le]; omega
theorem q_ge (x y : Int64) : 0 ≤ lg_cmp x y ↔ y ≤ x := by
  have e : 0 ≤ lg_cmp x y ↔ ¬ lg_cmp x y < 0 := by
    rw [Int32.le_iff_toInt_le, Int32.lt_iff_toInt_lt]; omega
  rw [e, q_lt, Int64.lt_iff_toInt_lt, Int64.le_iff_toInt_le]; omega
theorem q_eq (x y : Int64) : lg_cmp x y = 0 ↔ x = y := by
  unfold lg_cmp
  by_cases h : x > y
  · rw [if_pos h]
    constructor
    · intro q; exact absurd q (by decide)
    · intro q
      have := Int64.lt_iff_toInt_lt.mp h
      rw [q] at this; omega
  · rw [if_neg h]
    by_cases h2 : x = y
    · rw [if_pos h2]; exact ⟨fun _ => h2, fun _ => rfl⟩
    · rw [if_neg h2]
      constructor
      · intro q; exact absurd q (by decide)
      · intro q; exact absurd q h2
/-- a long between two small numbers is one of them -/
theorem q_btw {x : Int64} {a b : Nat} (hb : b < 2 ^ 31) (h1 : lN a ≤ x) (h2 : x ≤ lN b) (ha : a < 2 ^ 31) : ∃ j : Nat, a ≤ j ∧ j ≤ b ∧ x = lN j := by
  rw [Int64.le_iff_toInt_le] at h1 h2
  rw [lN_toInt ha] at h1
  rw [lN_toInt hb] at h2
  refine ⟨x.toInt.toNat, by omega, by omega, ?_⟩
  apply Int64.toInt_inj.mp
  rw [lN_toInt (by omega)]
  omega
theorem q_i2l {x : Int32} : x.toInt64.toInt = x.toInt := Int32.toInt_toInt64 x
/-- the class's isBetween -/
theorem s_between {x a b : Int64} {P : Int32 → Prop} (h1 : a ≤ x → x ≤ b → P 1) (h0 : ¬ (a ≤ x ∧ x ≤ b) → P 0) : wp_PG_isBetween x a b P := by
  unfold wp_PG_isBetween
  rw [q_lt, q_gt]
  refine ⟨fun q => h0 ?_, fun q => ⟨fun q2 => h0 ?_, fun q2 => h1 ?_ ?_⟩⟩
  · rw [Int64.lt_iff_toInt_lt] at q
    rw [Int64.le_iff_toInt_le]; omega
  · rw [Int64.lt_iff_toInt_lt] at q2
    rw [Int64.le_iff_toInt_le, Int64.le_iff_toInt_le]; omega
  · rw [Int64.lt_iff_toInt_lt] at q
    rw [Int64.le_iff_toInt_le]; omega
  · rw [Int64.lt_iff_toInt_lt] at q2
    rw [Int64.le_iff_toInt_le]; omega
/-- a long argument between two small bounds -/
theorem s_betweenL {x : Int64} {a b : Nat} (ha : a < 2 ^ 31) (hb : b < 2 ^ 31) {P : Int32 → Prop} (h1 : ∀ j : Nat, a ≤ j → j ≤ b → x = lN j → P 1) (h0 : (∀ j : Nat, a ≤ j → j ≤ b → ¬ x = lN j) → P 0) : wp_PG_isBetween x (lN a) (lN b) P := by
  refine s_between (fun q1 q2 => ?_) (fun q => h0 ?_)
  · obtain ⟨j, c1, c2, c3⟩ := q_btw hb q1 q2 ha
    exact h1 j c1 c2 c3
  · intro j c1 c2 c3
    apply q
    rw [c3, Int64.le_iff_toInt_le, Int64.le_iff_toInt_le, lN_toInt ha, lN_toInt hb, lN_toInt (by omega)]
    omega
/-- an int argument between two small bounds -/
theorem s_betweenI {x : Int32} {a b : Nat} (ha : a < 2 ^ 31) (hb : b < 2 ^ 31) {P : Int32 → Prop} (h1 : ∀ j : Nat, a ≤ j → j ≤ b → x = nI j → P 1) (h0 : (∀ j : Nat, a ≤ j → j ≤ b → ¬ x = nI j) → P 0) : wp_PG_isBetween x.toInt64 (lN a) (lN b) P := by
  refine s_between (fun q1 q2 => ?_) (fun q => h0 ?_)
  · rw [Int64.le_iff_toInt_le, q_i2l] at q1 q2
    rw [lN_toInt ha] at q1
    rw [lN_toInt hb] at q2
    refine h1 x.toInt.toNat (by omega) (by omega) ?_
    apply Int32.toInt_inj.mp
    rw [nI_toInt (by omega)]
    omega
  · intro j c1 c2 c3
    apply q
    rw [Int64.le_iff_toInt_le, Int64.le_iff_toInt_le, q_i2l, c3, lN_toInt ha, lN_toInt hb, nI_toInt (by omega)]
    omega
/-- an int argument against a small bound: one of its numbers, or none -/
theorem q_arg (x : Int32) {n : Nat} (hn : n < 2 ^ 31) : (∃ j : Nat, j < n ∧ x = nI j) ∨ ((x < 0 ∨ nI n ≤ x) ∧ ∀ j : Nat, j < n → ¬ x = nI j) := by
  rcases pk_ix x hn with h | h | h
  · refine Or.inr ⟨Or.inl h, fun j hj e => ?_⟩
    rw [e] at h
    exact nI_pos (by omega) h
  · refine Or.inr ⟨Or.inr h, fun j hj e => ?_⟩
    rw [e, nI_leI hn (by omega)] at h
    omega
  · exact Or.inl h
theorem q_m1 {j : Nat} (h : j < 2 ^ 31) : ¬ nI j = -1 := by
  intro e
  have h2 := nI_toInt h
  rw [e] at h2
  have : (-1 : Int32).toInt = -1 := by decide
  omega
/-- things: the class's and the reference's alike -/
theorem s_isThing {T : Nat} (hT : T < 2 ^ 31) {x : Int32} {P : Int32 → Prop} (h1 : ∀ j : Nat, j < T → x = nI j → P 1) (h0 : (∀ j : Nat, j < T → ¬ x = nI j) → P 0) : wp_Pl_isThing (nI T) x P := by
  unfold wp_Pl_isThing
  rcases q_arg x hT with ⟨j, hj, e⟩ | ⟨h, hn⟩
  · subst e
    refine ⟨fun q => absurd q (nI_pos (by omega)), fun _ => ⟨fun q => ?_, fun _ => h1 j hj rfl⟩⟩
    rw [nI_leI hT (by omega)] at q; omega
  · refine ⟨fun _ => h0 hn, fun q1 => ⟨fun _ => h0 hn, fun q2 => ?_⟩⟩
    rcases h with h | h
    · exact absurd h q1
    · exact absurd h q2
theorem m_isThing {T : Nat} (hT : T < 2 ^ 31) {x : Int32} {P : Int32 → Prop} (h1 : ∀ j : Nat, j < T → x = nI j → P 1) (h0 : (∀ j : Nat, j < T → ¬ x = nI j) → P 0) : wp_Mo_isThing (nI T) x P := s_isThing hT h1 h0
theorem s_isPipe {T : Nat} (hT : T < 2 ^ 31) {x : Int32} {P : Int32 → Prop} (h1 : ∀ j : Nat, j < T → x = nI j → P 1) (h0 : (∀ j : Nat, j < T → ¬ x = nI j) → P 0) : wp_Pl_isPipe (nI T) x P := s_isThing hT h1 h0
theorem m_isPipe {T : Nat} (hT : T < 2 ^ 31) {x : Int32} {P : Int32 → Prop} (h1 : ∀ j : Nat, j < T → x = nI j → P 1) (h0 : (∀ j : Nat, j < T → ¬ x = nI j) → P 0) : wp_Mo_isPipe (nI T) x P := s_isThing hT h1 h0
/-- a branch on an answer of 1 or 0 -/
theorem q_10 : ¬ (1 : Int32) = 0 := by decide
theorem b_1 {A B : Prop} (h : B) : ((1 : Int32) = 0 → A) ∧ (¬ (1 : Int32) = 0 → B) := ⟨fun q => absurd q q_10, fun _ => h⟩
theorem b_0 {A B : Prop} (h : A) : ((0 : Int32) = 0 → A) ∧ (¬ (0 : Int32) = 0 → B) := ⟨fun _ => h, fun q => absurd rfl q⟩
theorem b_1n {A B : Prop} (h : A) : (¬ (1 : Int32) = 0 → A) ∧ ((1 : Int32) = 0 → B) := ⟨fun _ => h, fun q => absurd q q_10⟩
theorem b_0n {A B : Prop} (h : B) : (¬ (0 : Int32) = 0 → A) ∧ ((0 : Int32) = 0 → B) := ⟨fun q => absurd rfl q, fun _ => h⟩
/-- Arrays.fill -/
theorem s_fillI {N : Nat} (hN : N < 2 ^ 31) {x : Int32} {f : Nat → Int32} {P : (Nat → Int32) → Prop} (h : ∀ f' : Nat → Int32, (∀ j, j < N → f' j = x) → (∀ j, N ≤ j → f' j = f j) → P f') : wp_Ar_fillI N f x P := by
  unfold wp_Ar_fillI
  have key : ∀ (d i : Nat) (g : Nat → Int32), i ≤ N → N - i < d → (∀ j, j < i → g j = x) → (∀ j, N ≤ j → g j = f j) → wl_Ar_fillI_5 N x (wk_Ar_fillI_20_5 P) d (nI i) g := by
    intro d
    induction d with
    | zero => intro i g h1 h2; omega
    | succ d ih =>
      intro i g h1 h2 h3 h4
      unfold wl_Ar_fillI_5
      refine ⟨fun q => ?_, fun q => ?_⟩
      · rw [nI_leI hN (by omega)] at q
        unfold wk_Ar_fillI_20_5
        exact h g (fun j hj => h3 j (by omega)) h4
      · rw [nI_leI hN (by omega)] at q
        refine ⟨vp_in_nI (by omega) hN, ?_⟩
        rw [nI_1, nI_clamp (by omega)]
        refine ih (i + 1) _ (by omega) (by omega) (fun j hj => ?_) (fun j hj => ?_)
        · by_cases e : j = i
          · rw [e]; exact pk_us
          · rw [pk_un e]; exact h3 j (by omega)
        · rw [pk_un (by omega)]; exact h4 j hj
  exact ⟨N + 1, key (N + 1) 0 f (by omega) (by omega) (fun j hj => by omega) (fun j hj => rfl)⟩
theorem s_fillJ {N : Nat} (hN : N < 2 ^ 31) {x : Int64} {f : Nat → Int64} {P : (Nat → Int64) → Prop} (h : ∀ f' : Nat → Int64, (∀ j, j < N → f' j = x) → (∀ j, N ≤ j → f' j = f j) → P f') : wp_Ar_fillJ N f x P := by
  unfold wp_Ar_fillJ
  have key : ∀ (d i : Nat) (g : Nat → Int64), i ≤ N → N - i < d → (∀ j, j < i → g j = x) → (∀ j, N ≤ j → g j = f j) → wl_Ar_fillJ_6 N x (wk_Ar_fillJ_22_6 P) d (nI i) g := by
    intro d
    induction d with
    | zero => intro i g h1 h2; omega
    | succ d ih =>
      intro i g h1 h2 h3 h4
      unfold wl_Ar_fillJ_6
      refine ⟨fun q => ?_, fun q => ?_⟩
      · rw [nI_leI hN (by omega)] at q
        unfold wk_Ar_fillJ_22_6
        exact h g (fun j hj => h3 j (by omega)) h4
      · rw [nI_leI hN (by omega)] at q
        refine ⟨vp_in_nI (by omega) hN, ?_⟩
        rw [nI_1, nI_clamp (by omega)]
        refine ih (i + 1) _ (by omega) (by omega) (fun j hj => ?_) (fun j hj => ?_)
        · by_cases e : j = i
          · rw [e]; exact pk_uLs
          · rw [pk_uLn e]; exact h3 j (by omega)
        · rw [pk_uLn (by omega)]; exact h4 j hj
  exact ⟨N + 1, key (N + 1) 0 f (by omega) (by omega) (fun j hj => by omega) (fun j hj => rfl)⟩
