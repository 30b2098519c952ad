/-! LEVEL 2: what comes into a tank; fill -/
def mix (a b q : Nat) : Nat := if a = 0 ∨ b = q then q else 15
theorem mix_le {a b q : Nat} (h : q ≤ 15) : mix a b q ≤ 15 := by unfold mix; split <;> omega
theorem mix_pos {a b q : Nat} (h : 0 < q) : 0 < mix a b q := by unfold mix; split <;> omega
theorem s_pourIn {amount liquid : Nat → Int32} {t n q a b : Nat} (ht : t < 40) (hq : 0 < q) (hq2 : q ≤ 15) (hn : 0 < n) (hA : amount t = nI a) (hB : liquid t = nI b) (ha : a + n < 2 ^ 31) (hb : b ≤ 15) {P : (Nat → Int32) → (Nat → Int32) → Prop} (h : P (upd amount t (nI (a + n))) (upd liquid t (nI (mix a b q)))) : wp_Pl_pourIn amount liquid (nI t) (nI q) (nI n) P := by
  unfold wp_Pl_pourIn
  have hin : vp_in (nI t) 40 := vp_in_nI ht (by decide)
  refine ⟨fun e => absurd e (nI_ne0 hq (by omega)), fun _ => ⟨fun _ => ⟨hin, ?_⟩, fun e => absurd e (nI_ne0 hn (by omega))⟩⟩
  rw [nI_clamp (by omega), hA, hB, nI_add]
  by_cases h0 : a = 0
  · have e1 : mix a b q = q := by unfold mix; rw [if_pos (Or.inl h0)]
    rw [e1] at h
    exact ⟨fun _ => b_1 ⟨hin, hin, hin, h⟩, fun e => absurd (by rw [h0]; rfl) e⟩
  · refine ⟨fun e => absurd e (nI_ne0 (by omega) (by omega)), fun _ => ⟨hin, fun e2 => b_0 ⟨hin, hin, hin, ?_⟩, fun e2 => b_1 ⟨hin, hin, hin, ?_⟩⟩⟩
    · have e3 : ¬ b = q := fun z => e2 (by rw [z])
      have e1 : mix a b q = 15 := by unfold mix; rw [if_neg (by omega)]
      rw [e1] at h
      exact h
    · have e3 : b = q := (nI_eq (by omega) (by omega)).mp e2
      have e1 : mix a b q = q := by unfold mix; rw [if_pos (Or.inr e3)]
      rw [e1] at h
      exact h
theorem m_come {litres : Nat → Int64} {liquids : Nat → Int32} {t n q a b : Nat} (ht : t < 40) (hq2 : q ≤ 15) (hA : litres t = lN a) (hB : liquids t = nI b) (ha : a < 2 ^ 31) (hb : b ≤ 15) {P : (Nat → Int64) → (Nat → Int32) → Prop} (h : P (vp_updL litres t (lN (a + n))) (upd liquids t (nI (mix a b q)))) : wp_Mo_come litres liquids (nI t) (nI q) (lN n) P := by
  unfold wp_Mo_come wj_Mo_come_26
  have hin : vp_in (nI t) 40 := vp_in_nI ht (by decide)
  rw [nI_clamp (by omega), hA, hB, lN_add, q_eq]
  refine ⟨hin, ?_⟩
  by_cases h0 : a = 0
  · have e1 : mix a b q = q := by unfold mix; rw [if_pos (Or.inl h0)]
    rw [e1] at h
    exact ⟨fun _ => ⟨hin, hin, hin, h⟩, fun e => absurd (by rw [h0]; rfl) e⟩
  · have h1 : ¬ lN a = 0 := by
      rw [show (0 : Int64) = lN 0 from rfl, lN_eq ha (by decide)]; exact h0
    refine ⟨fun e => absurd e h1, fun _ => ⟨hin, fun e2 => ⟨hin, hin, hin, ?_⟩, fun e2 => ⟨hin, hin, hin, ?_⟩⟩⟩
    · have e3 : ¬ b = q := fun z => e2 (by rw [z])
      have e1 : mix a b q = 15 := by unfold mix; rw [if_neg (by omega)]
      rw [e1] at h
      exact h
    · have e3 : b = q := (nI_eq (by omega) (by omega)).mp e2
      have e1 : mix a b q = q := by unfold mix; rw [if_pos (Or.inr e3)]
      rw [e1] at h
      exact h
/-- the class's fill: yes, or no -/
theorem c_fill {T : Nat} {K cap am lq : Nat → Nat} {kind capacity amount liquid : Nat → Int32} (hT : T ≤ 40) (hk : ∀ t, t < T → kind t = nI (K t)) (vK : ∀ t, t < T → K t ≤ 10)
    (hc : ∀ t, t < T → capacity t = nI (cap t)) (ha : ∀ t, t < T → amount t = nI (am t)) (hl : ∀ t, t < T → liquid t = nI (lq t)) (vC : ∀ t, t < T → cap t ≤ 100000) (vA : ∀ t, t < T → am t ≤ cap t) (vL : ∀ t, t < T → lq t ≤ 15)
    {x1 x2 : Int32} {x3 : Int64} {P : Int32 → (Nat → Int32) → (Nat → Int32) → Prop}
    (h1 : ∀ t q n : Nat, t < T → K t = 10 → 1 ≤ q → q ≤ 14 → 1 ≤ n → n ≤ 100000 → am t + n ≤ cap t → x1 = nI t → x2 = nI q → x3 = lN n → P 1 (upd amount t (nI (am t + n))) (upd liquid t (nI (mix (am t) (lq t) q))))
    (h0 : (∀ t q n : Nat, t < T → K t = 10 → 1 ≤ q → q ≤ 14 → 1 ≤ n → n ≤ 100000 → am t + n ≤ cap t → x1 = nI t → x2 = nI q → ¬ x3 = lN n) → P 0 amount liquid) : wp_PG_fill (nI T) kind capacity amount liquid x1 x2 x3 P := by
  unfold wp_PG_fill
  refine s_isTank hT hk vK (fun t ht k10 e1 => b_1 ?_) (fun hn => b_0 (h0 (fun t _ _ ht k10 _ _ _ _ _ e1 => absurd e1 (hn t ht k10))))
  refine s_betweenI (a := 1) (b := 14) (by decide) (by decide) (fun q q1 q2 e2 => b_1 ?_) (fun hn => b_0 (h0 (fun _ q _ _ _ q1 q2 _ _ _ _ e2 => absurd e2 (hn q q1 q2))))
  refine s_betweenL (a := 1) (b := 100000) (by decide) (by decide) (fun n n1 n2 e3 => b_1 ?_) (fun hn => b_0 (h0 (fun _ _ n _ _ _ _ n1 n2 _ _ _ e3 => absurd e3 (hn n n1 n2))))
  unfold wp_Pl_roomIn
  subst e1; subst e2; subst e3
  have hin : vp_in (nI t) 40 := vp_in_nI (by omega) (by decide)
  have v1 := vC t ht
  have v2 := vA t ht
  have v3 := vL t ht
  refine ⟨hin, hin, ?_⟩
  rw [nI_clamp (by omega), hc t ht, ha t ht, pk_sub v2]
  dsimp only
  rw [nI_l (by omega), q_le, lN_le (by omega) (by omega), lN_i]
  refine ⟨fun q5 => ?_, fun q5 => ?_⟩
  · refine s_pourIn (by omega) (by omega) (by omega) (by omega) (ha t ht) (hl t ht) (by omega) v3 ?_
    exact h1 t q n ht k10 q1 q2 n1 n2 (by omega) rfl rfl rfl
  · refine h0 (fun t' q' n' ht' _ _ q2' _ n2' r e1 e2 e3 => ?_)
    have z1 : t = t' := (nI_eq (by omega) (by omega)).mp e1
    have z3 : n = n' := (lN_eq (by omega) (by omega)).mp e3
    subst z1; subst z3
    omega
/-- the reference's fill -/
theorem m_fill {T : Nat} {K cap am lq : Nat → Nat} {kinds liquids : Nat → Int32} {rooms litres : Nat → Int64} {th : Int32} (hT : T ≤ 40) (hk : ∀ t, t < T → kinds t = nI (rk (K t))) (vK : ∀ t, t < T → K t ≤ 10)
    (hc : ∀ t, t < T → rooms t = lN (cap t)) (ha : ∀ t, t < T → litres t = lN (am t)) (hl : ∀ t, t < T → liquids t = nI (lq t)) (vC : ∀ t, t < T → cap t ≤ 100000) (vA : ∀ t, t < T → am t ≤ cap t) (vL : ∀ t, t < T → lq t ≤ 15)
    {x1 x2 : Int32} {x3 : Int64} {P : Int32 → Int32 → (Nat → Int64) → (Nat → Int32) → Prop}
    (h1 : ∀ t q n : Nat, t < T → K t = 10 → 1 ≤ q → q ≤ 14 → 1 ≤ n → n ≤ 100000 → am t + n ≤ cap t → x1 = nI t → x2 = nI q → x3 = lN n → P 1 0 (vp_updL litres t (lN (am t + n))) (upd liquids t (nI (mix (am t) (lq t) q))))
    (h0 : (∀ t q n : Nat, t < T → K t = 10 → 1 ≤ q → q ≤ 14 → 1 ≤ n → n ≤ 100000 → am t + n ≤ cap t → x1 = nI t → x2 = nI q → ¬ x3 = lN n) → P 0 0 litres liquids) : wp_Mo_fill (nI T) th kinds rooms litres liquids x1 x2 x3 P := by
  unfold wp_Mo_fill
  refine m_isTank hT hk vK (fun t ht k10 e1 => b_1 ?_) (fun hn => b_0 (h0 (fun t _ _ ht k10 _ _ _ _ _ e1 => absurd e1 (hn t ht k10))))
  refine ⟨fun q => h0 (fun _ q' _ _ _ q1 q2 _ _ _ _ e2 => ?_), fun q => ⟨fun q' => h0 (fun _ q2 _ _ _ q3 q4 _ _ _ _ e2 => ?_), fun q' => ?_⟩⟩
  · rw [e2, show (1 : Int32) = nI 1 from rfl, nI_ltI (by omega) (by decide)] at q
    omega
  · rw [e2, show (15 : Int32) = nI 15 from rfl, nI_leI (by decide) (by omega)] at q'
    omega
  · rw [q_lt, q_gt]
    refine ⟨fun r => h0 (fun _ _ n _ _ _ _ n1 n2 _ _ _ e3 => ?_), fun r => ⟨fun r' => h0 (fun _ _ n _ _ _ _ n1 n2 _ _ _ e3 => ?_), fun r' => ?_⟩⟩
    · rw [e3, show (1 : Int64) = lN 1 from rfl, lN_lt (by omega) (by decide)] at r
      omega
    · rw [e3, show (100000 : Int64) = lN 100000 from rfl, lN_lt (by decide) (by omega)] at r'
      omega
    · obtain ⟨j2, hj2, ej2⟩ : ∃ j : Nat, (1 ≤ j ∧ j ≤ 14) ∧ x2 = nI j := by
        rw [Int32.lt_iff_toInt_lt, show ((1 : Int32)).toInt = 1 from by decide] at q
        rw [Int32.le_iff_toInt_le, show ((15 : Int32)).toInt = 15 from by decide] at q'
        refine ⟨x2.toInt.toNat, by omega, ?_⟩
        apply Int32.toInt_inj.mp
        rw [nI_toInt (by omega)]
        omega
      obtain ⟨n, n1, n2, en⟩ : ∃ j : Nat, 1 ≤ j ∧ j ≤ 100000 ∧ x3 = lN j := by
        refine q_btw (by decide) ?_ ?_ (by decide)
        · rw [show lN 1 = (1 : Int64) from rfl]
          rw [Int64.lt_iff_toInt_lt] at r
          rw [Int64.le_iff_toInt_le]; omega
        · rw [show lN 100000 = (100000 : Int64) from rfl]
          rw [Int64.lt_iff_toInt_lt] at r'
          rw [Int64.le_iff_toInt_le]; omega
      subst e1; subst ej2; subst en
      have hin : vp_in (nI t) 40 := vp_in_nI (by omega) (by decide)
      have v1 := vC t ht
      have v2 := vA t ht
      have v3 := vL t ht
      refine ⟨hin, hin, ?_⟩
      rw [nI_clamp (by omega), hc t ht, ha t ht, lN_add, q_le, lN_le (by omega) (by omega)]
      refine ⟨fun q5 => ?_, fun q5 => ?_⟩
      · refine m_come (by omega) (by omega) (ha t ht) (hl t ht) (by omega) v3 ?_
        exact h1 t j2 n ht k10 hj2.1 hj2.2 n1 n2 q5 rfl rfl rfl
      · refine h0 (fun t' q' n' ht' _ _ _ _ n2' r e1 e2 e3 => ?_)
        have z1 : t = t' := (nI_eq (by omega) (by omega)).mp e1
        have z3 : n = n' := (lN_eq (by omega) (by omega)).mp e3
        subst z1; subst z3
        omega
