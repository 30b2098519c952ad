/-! LEVEL 2: things. K: kinds (valves 0..8, pump 9, tank 10) -/
def rk (k : Nat) : Nat := if k = 10 then 0 else if k = 9 then 1 else k + 2
theorem rk_le {k : Nat} (h : k ≤ 10) : rk k ≤ 10 := by unfold rk; split <;> (try split) <;> omega
theorem rk_tank {k : Nat} (h : k ≤ 10) : rk k = 0 ↔ k = 10 := by unfold rk; split <;> (try split) <;> omega
theorem rk_valve {k : Nat} (h : k ≤ 10) : rk k < 2 ↔ 9 ≤ k := by unfold rk; split <;> (try split) <;> omega
theorem rk_pump {k : Nat} (h : k ≤ 10) : rk k = 1 ↔ k = 9 := by unfold rk; split <;> (try split) <;> omega
theorem rk_of {k : Nat} (h : k ≤ 8) : rk k = k + 2 := by unfold rk; split <;> (try split) <;> omega
/-- what the class holds of its things -/
def cG1 (T : Nat) (K pos : Nat → Nat) (tl : Nat → Int32) (cap am lq : Nat → Nat) (kind position told capacity amount liquid : Nat → Int32) : Prop :=
  ∀ t, t < T → kind t = nI (K t) ∧ position t = nI (pos t) ∧ told t = tl t ∧ capacity t = nI (cap t) ∧ amount t = nI (am t) ∧ liquid t = nI (lq t)
/-- what the reference holds of them -/
def mG1 (T : Nat) (K pos : Nat → Nat) (tl : Nat → Int32) (cap am lq : Nat → Nat) (kinds positions sensors : Nat → Int32) (rooms litres : Nat → Int64) (liquids : Nat → Int32) : Prop :=
  ∀ t, t < T → kinds t = nI (rk (K t)) ∧ positions t = nI (pos t) ∧ sensors t = tl t ∧ rooms t = lN (cap t) ∧ litres t = lN (am t) ∧ liquids t = nI (lq t)
/-- the bounds -/
def vG1 (T : Nat) (K pos cap am lq : Nat → Nat) : Prop :=
  T ≤ 40 ∧ ∀ t, t < T → K t ≤ 10 ∧ pos t ≤ 9 ∧ cap t ≤ 100000 ∧ am t ≤ cap t ∧ lq t ≤ 15 ∧ (0 < am t → 0 < lq t) ∧ (am t = 0 → lq t = 0)
section Things
variable {T : Nat} {K : Nat → Nat} {kind kinds : Nat → Int32} {x : Int32} {P : Int32 → Prop}
theorem s_isValve (hT : T ≤ 40) (hk : ∀ t, t < T → kind t = nI (K t)) (vK : ∀ t, t < T → K t ≤ 10) (h1 : ∀ t, t < T → K t ≤ 8 → x = nI t → P 1) (h0 : (∀ t, t < T → K t ≤ 8 → ¬ x = nI t) → P 0) : wp_Pl_isValve (nI T) kind x P := by
  unfold wp_Pl_isValve
  refine s_isThing (by omega) (fun j hj e => ?_) (fun hn => b_0 (h0 (fun t ht _ => hn t ht)))
  subst e
  refine b_1 ⟨vp_in_nI (by omega) (by decide), ?_⟩
  have hv := vK j hj
  rw [nI_clamp (by omega), hk j hj, show (9 : Int32) = nI 9 from rfl, nI_leI (by decide) (by omega)]
  refine ⟨fun q => h0 (fun t ht hk2 e => ?_), fun q => h1 j hj (by omega) rfl⟩
  have e2 : j = t := (nI_eq (by omega) (by omega)).mp e
  subst e2
  omega
theorem s_isTank (hT : T ≤ 40) (hk : ∀ t, t < T → kind t = nI (K t)) (vK : ∀ t, t < T → K t ≤ 10) (h1 : ∀ t, t < T → K t = 10 → x = nI t → P 1) (h0 : (∀ t, t < T → K t = 10 → ¬ x = nI t) → P 0) : wp_Pl_isTank (nI T) kind x P := by
  unfold wp_Pl_isTank
  refine s_isThing (by omega) (fun j hj e => ?_) (fun hn => b_0 (h0 (fun t ht _ => hn t ht)))
  subst e
  refine b_1 ⟨vp_in_nI (by omega) (by decide), ?_⟩
  have hv := vK j hj
  rw [nI_clamp (by omega), hk j hj, show (10 : Int32) = nI 10 from rfl, nI_eq (by omega) (by decide)]
  refine ⟨fun q => h0 (fun t ht hk2 e => ?_), fun q => h1 j hj q rfl⟩
  have e2 : j = t := (nI_eq (by omega) (by omega)).mp e
  subst e2
  exact q hk2
theorem m_isValve (hT : T ≤ 40) (hk : ∀ t, t < T → kinds t = nI (rk (K t))) (vK : ∀ t, t < T → K t ≤ 10) (h1 : ∀ t, t < T → K t ≤ 8 → x = nI t → P 1) (h0 : (∀ t, t < T → K t ≤ 8 → ¬ x = nI t) → P 0) : wp_Mo_isValve (nI T) kinds x P := by
  unfold wp_Mo_isValve
  refine m_isThing (by omega) (fun j hj e => ?_) (fun hn => b_0 (h0 (fun t ht _ => hn t ht)))
  subst e
  refine b_1 ⟨vp_in_nI (by omega) (by decide), ?_⟩
  have hv := vK j hj
  have hr := rk_le hv
  rw [nI_clamp (by omega), hk j hj, show (2 : Int32) = nI 2 from rfl, nI_ltI (by omega) (by decide), rk_valve hv]
  refine ⟨fun q => h0 (fun t ht hk2 e => ?_), fun q => h1 j hj (by omega) rfl⟩
  have e2 : j = t := (nI_eq (by omega) (by omega)).mp e
  subst e2
  omega
theorem m_isTank (hT : T ≤ 40) (hk : ∀ t, t < T → kinds t = nI (rk (K t))) (vK : ∀ t, t < T → K t ≤ 10) (h1 : ∀ t, t < T → K t = 10 → x = nI t → P 1) (h0 : (∀ t, t < T → K t = 10 → ¬ x = nI t) → P 0) : wp_Mo_isTank (nI T) kinds x P := by
  unfold wp_Mo_isTank
  refine m_isThing (by omega) (fun j hj e => ?_) (fun hn => b_0 (h0 (fun t ht _ => hn t ht)))
  subst e
  refine b_1 ⟨vp_in_nI (by omega) (by decide), ?_⟩
  have hv := vK j hj
  have hr := rk_le hv
  rw [nI_clamp (by omega), hk j hj, show (0 : Int32) = nI 0 from rfl, nI_eq (by omega) (by decide), rk_tank hv]
  refine ⟨fun q => h0 (fun t ht hk2 e => ?_), fun q => h1 j hj q rfl⟩
  have e2 : j = t := (nI_eq (by omega) (by omega)).mp e
  subst e2
  exact q hk2
end Things
/-- isPosition -/
theorem s_isPosition {x : Int32} {P : Int32 → Prop} (h1 : ∀ j : Nat, j ≤ 9 → x = nI j → P 1) (h0 : (∀ j : Nat, j ≤ 9 → ¬ x = nI j) → P 0) : wp_PG_isPosition x P := by
  unfold wp_PG_isPosition
  refine s_betweenI (a := 0) (b := 9) (by decide) (by decide) (fun j _ h e => ⟨by decide, h1 j h e⟩) (fun hn => ⟨by decide, h0 (fun j h => hn j (by omega) h)⟩)
/-- a position in the reference's words -/
theorem m_pos (x : Int32) {A B : Prop} (h1 : ∀ j : Nat, j ≤ 9 → x = nI j → A) (h0 : (∀ j : Nat, j ≤ 9 → ¬ x = nI j) → B) : (x < 0 → B) ∧ (¬ x < 0 → ((x ≤ (9 : Int32) → A) ∧ (¬ x ≤ (9 : Int32) → B))) := by
  rcases q_arg x (n := 10) (by decide) with ⟨j, hj, e⟩ | ⟨h, hn⟩
  · subst e
    refine ⟨fun q => absurd q (nI_pos (by omega)), fun _ => ⟨fun _ => h1 j (by omega) rfl, fun q => ?_⟩⟩
    rw [show (9 : Int32) = nI 9 from rfl, nI_leI (by omega) (by decide)] at q
    omega
  · have hb : B := h0 (fun j hj => hn j (by omega))
    refine ⟨fun _ => hb, fun q1 => ⟨fun q2 => ?_, fun _ => hb⟩⟩
    rcases h with h | h
    · exact absurd h q1
    · rw [show (9 : Int32) = nI 9 from rfl] at q2
      rw [Int32.le_iff_toInt_le] at q2 h
      rw [nI_toInt (by decide)] at q2 h
      omega
/-- sensor: the class -/
theorem c_sensor {T : Nat} {K : Nat → Nat} {kind told : Nat → Int32} (hT : T ≤ 40) (hk : ∀ t, t < T → kind t = nI (K t)) (vK : ∀ t, t < T → K t ≤ 10) {x1 x2 : Int32} {P : Int32 → (Nat → Int32) → Prop} (h1 : ∀ t q : Nat, t < T → K t ≤ 8 → q ≤ 9 → x1 = nI t → x2 = nI q → P 1 (upd told t x2)) (h0 : (∀ t q : Nat, t < T → K t ≤ 8 → q ≤ 9 → x1 = nI t → ¬ x2 = nI q) → P 0 told) : wp_PG_sensor (nI T) kind told x1 x2 P := by
  unfold wp_PG_sensor
  refine s_isValve hT hk vK (fun t ht h8 e => b_1 ?_) (fun hn => b_0 (h0 (fun t q ht h8 _ e => absurd e (hn t ht h8))))
  refine s_isPosition (fun q hq e2 => b_1n ⟨?_, ?_⟩) (fun hn => b_0n (h0 (fun t q _ _ hq _ => hn q hq)))
  · rw [e]; exact vp_in_nI (by omega) (by decide)
  · have e3 : x1.toNatClampNeg = t := by rw [e]; exact nI_clamp (by omega)
    rw [e3]
    exact h1 t q ht h8 hq e e2
/-- sensor: the reference -/
theorem m_sensor {T : Nat} {K : Nat → Nat} {kinds sensors : Nat → Int32} {th : Int32} (hT : T ≤ 40) (hk : ∀ t, t < T → kinds t = nI (rk (K t))) (vK : ∀ t, t < T → K t ≤ 10) {x1 x2 : Int32} {P : Int32 → Int32 → (Nat → Int32) → Prop} (h1 : ∀ t q : Nat, t < T → K t ≤ 8 → q ≤ 9 → x1 = nI t → x2 = nI q → P 1 0 (upd sensors t x2)) (h0 : (∀ t q : Nat, t < T → K t ≤ 8 → q ≤ 9 → x1 = nI t → ¬ x2 = nI q) → P 0 0 sensors) : wp_Mo_sensor (nI T) th kinds sensors x1 x2 P := by
  unfold wp_Mo_sensor
  refine m_isValve hT hk vK (fun t ht h8 e => b_1 ?_) (fun hn => b_0 (h0 (fun t q ht h8 _ e => absurd e (hn t ht h8))))
  refine m_pos x2 (fun q hq e2 => ⟨?_, ?_⟩) (fun hn => h0 (fun t q _ _ hq _ => hn q hq))
  · rw [e]; exact vp_in_nI (by omega) (by decide)
  · have e3 : x1.toNatClampNeg = t := by rw [e]; exact nI_clamp (by omega)
    rw [e3]
    exact h1 t q ht h8 hq e e2
