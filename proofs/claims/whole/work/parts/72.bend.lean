/-! LEVEL 2: unsure, position, bend -/
theorem c_unsure {T : Nat} {K pos : Nat → Nat} {tl : Nat → Int32} {kind position told : Nat → Int32} (hT : T ≤ 40) (hk : ∀ t, t < T → kind t = nI (K t)) (vK : ∀ t, t < T → K t ≤ 10) (hq : ∀ t, t < T → position t = nI (pos t)) (ht : ∀ t, t < T → told t = tl t) {x1 : Int32} {P : Int32 → Prop}
    (h1 : ∀ t, t < T → K t ≤ 8 → x1 = nI t → ¬ tl t = -1 → ¬ tl t = nI (pos t) → P 1) (h0 : (∀ t, t < T → K t ≤ 8 → x1 = nI t → ¬ tl t = -1 → tl t = nI (pos t)) → P 0) : wp_PG_unsure (nI T) kind position told x1 P := by
  unfold wp_PG_unsure
  refine s_isValve hT hk vK (fun t h h8 e => b_1 ?_) (fun hn => b_0 (h0 (fun t h h8 e => absurd e (hn t h h8))))
  have e3 : x1.toNatClampNeg = t := by rw [e]; exact nI_clamp (by omega)
  have e4 : vp_in x1 40 := by rw [e]; exact vp_in_nI (by omega) (by decide)
  have e5 : ∀ t', t' < T → x1 = nI t' → t' = t := fun t' h' e' => ((nI_eq (by omega) (by omega)).mp (e.symm.trans e')).symm
  rw [e3, ht t h, hq t h]
  exact ⟨e4, fun z => h0 (fun t' h' _ e' y => by rw [e5 t' h' e'] at y; exact absurd z y), fun z => ⟨e4, e4, fun y => h0 (fun t' h' _ e' _ => by rw [e5 t' h' e']; exact y), fun y => h1 t h h8 e z y⟩⟩
theorem m_unsure {T : Nat} {K pos : Nat → Nat} {tl : Nat → Int32} {kinds positions sensors : Nat → Int32} {thr : Int32} (hT : T ≤ 40) (hk : ∀ t, t < T → kinds t = nI (rk (K t))) (vK : ∀ t, t < T → K t ≤ 10) (hq : ∀ t, t < T → positions t = nI (pos t)) (ht : ∀ t, t < T → sensors t = tl t) {x1 : Int32} {P : Int32 → Int32 → Prop}
    (h1 : ∀ t, t < T → K t ≤ 8 → x1 = nI t → ¬ tl t = -1 → ¬ tl t = nI (pos t) → P 1 0) (h0 : (∀ t, t < T → K t ≤ 8 → x1 = nI t → ¬ tl t = -1 → tl t = nI (pos t)) → P 0 0) : wp_Mo_unsure (nI T) thr kinds positions sensors x1 P := by
  unfold wp_Mo_unsure
  refine m_isValve hT hk vK (fun t h h8 e => b_1 ?_) (fun hn => b_0 (h0 (fun t h h8 e => absurd e (hn t h h8))))
  have e3 : x1.toNatClampNeg = t := by rw [e]; exact nI_clamp (by omega)
  have e4 : vp_in x1 40 := by rw [e]; exact vp_in_nI (by omega) (by decide)
  have e5 : ∀ t', t' < T → x1 = nI t' → t' = t := fun t' h' e' => ((nI_eq (by omega) (by omega)).mp (e.symm.trans e')).symm
  rw [e3, ht t h, hq t h]
  exact ⟨e4, fun z => h0 (fun t' h' _ e' y => by rw [e5 t' h' e'] at y; exact absurd z y), fun z => ⟨e4, e4, fun y => h0 (fun t' h' _ e' _ => by rw [e5 t' h' e']; exact y), fun y => h1 t h h8 e z y⟩⟩
/-- position: the reference. It says by its second word that the class throws -/
theorem m_position {T : Nat} {K : Nat → Nat} {kinds positions : Nat → Int32} {thr : Int32} (hT : T ≤ 40) (hk : ∀ t, t < T → kinds t = nI (rk (K t))) (vK : ∀ t, t < T → K t ≤ 10) {x1 x2 : Int32} {P : Int32 → Int32 → (Nat → Int32) → Prop} (h1 : ∀ t q : Nat, t < T → K t ≤ 8 → q ≤ 9 → x1 = nI t → x2 = nI q → P 1 0 (upd positions t x2))
    (h0 : ∀ t : Nat, t < T → x1 = nI t → (∀ q, K t ≤ 8 → q ≤ 9 → ¬ x2 = nI q) → P 0 0 positions) (hx : (∀ t : Nat, t < T → ¬ x1 = nI t) → P 0 1 positions) : wp_Mo_position (nI T) thr kinds positions x1 x2 P := by
  unfold wp_Mo_position
  refine m_isThing (by omega) (fun t ht e => b_1 ?_) (fun hn => b_0 ?_)
  · unfold wj_Mo_position_14
    have e5 : ∀ t', t' < T → x1 = nI t' → t' = t := fun t' h' e' => ((nI_eq (by omega) (by omega)).mp (e.symm.trans e')).symm
    refine m_isValve hT hk vK (fun t' ht' h8 e' => b_1 ?_) (fun hn => b_0 (h0 t ht e (fun q h8 _ _ => hn t ht h8 e)))
    have := e5 t' ht' e'
    subst this
    have e3 : x1.toNatClampNeg = t' := by rw [e]; exact nI_clamp (by omega)
    refine m_pos x2 (fun q hq e2 => ⟨by rw [e]; exact vp_in_nI (by omega) (by decide), ?_⟩) (fun hn => h0 t' ht e (fun q _ hq => hn q hq))
    rw [e3]
    exact h1 t' q ht h8 hq e e2
  · unfold wj_Mo_position_14
    exact m_isValve hT hk vK (fun t ht h8 e => absurd e (hn t ht)) (fun _ => b_0 (hx hn))
theorem oI_none {o : Option Nat} (ho : ∀ t, o = some t → t < 1000) : oI o = -1 ↔ o = none := by
  cases o with
  | none => exact ⟨fun _ => rfl, fun _ => rfl⟩
  | some t => exact ⟨fun z => absurd z (q_m1 (by have := ho t rfl; omega)), fun z => by cases z⟩
theorem q_half : ∀ v, v < 120 → nI v / 2 = nI (v / 2) := by decide +kernel
def iB (o : Option Nat) (b : Nat) : Prop := ∃ f, o = some f ∧ f / 2 = b
/-- the first end of pipe a that a bend joins to pipe b -/
noncomputable def bE (bd : Nat → Option Nat) (a b : Nat) : Option Nat := @ite _ (iB (bd (2 * a)) b) (Classical.propDecidable _) (some (2 * a)) (@ite _ (iB (bd (2 * a + 1)) b) (Classical.propDecidable _) (some (2 * a + 1)) none)
/-- its first end at which nothing is -/
noncomputable def fE (th bd : Nat → Option Nat) (a : Nat) : Option Nat := @ite _ (th (2 * a) = none ∧ bd (2 * a) = none) (Classical.propDecidable _) (some (2 * a)) (@ite _ (th (2 * a + 1) = none ∧ bd (2 * a + 1) = none) (Classical.propDecidable _) (some (2 * a + 1)) none)
section Bend
variable {p a b : Nat} {th bd : Nat → Option Nat} {x1 x2 : Int32}
theorem s_endBentTo {bendAtEnd : Nat → Int32} (hp : p ≤ 60) (hb : ∀ e, e < 2 * p → bendAtEnd e = oI (bd e)) (vb : ∀ e f, e < 2 * p → bd e = some f → f < 2 * p) (ha : a < p) (hbp : b < p) {P : Int32 → Prop} (h : P (oI (bE bd a b))) : wp_Pl_endBentTo bendAtEnd (nI a) (nI b) P := by
  unfold wp_Pl_endBentTo
  unfold bE at h
  have st : ∀ (Ky Kn Kl : Prop) (e : Nat), e < 2 * p → (iB (bd e) b → Ky) → (¬ iB (bd e) b → Kl) → (vp_in (nI e) 120 ∧ ((bendAtEnd e = (-1 : Int32) → Kl) ∧ (¬ bendAtEnd e = (-1 : Int32) → (vp_in (nI e) 120 ∧ ((¬ (bendAtEnd e / 2) = nI b → Kl) ∧ ((bendAtEnd e / 2) = nI b → Ky)))))) := by
    intro Ky Kn Kl e he hy hl
    have hin : vp_in (nI e) 120 := vp_in_nI (by omega) (by decide)
    rw [hb e he]
    have bo : ∀ t, bd e = some t → t < 1000 := fun t z => by have := vb e t he z; omega
    refine ⟨hin, fun z => hl (fun y => ?_), fun z => ⟨hin, fun y => hl (fun w => ?_), fun y => hy ?_⟩⟩
    · obtain ⟨f, f1, -⟩ := y
      rw [oI_none bo, f1] at z
      cases z
    · obtain ⟨f, f1, f2⟩ := w
      rw [f1] at y
      have := vb e f he f1
      exact y (by show nI f / 2 = nI b; rw [q_half f (by omega), f2])
    · cases e5 : bd e with
      | none => rw [e5] at z; exact absurd rfl z
      | some f =>
        have := vb e f he e5
        rw [e5] at y
        have y : nI f / 2 = nI b := y
        rw [q_half f (by omega), nI_eq (by omega) (by omega)] at y
        exact ⟨f, rfl, y⟩
  refine ⟨3, ?_⟩
  rw [show (2 : Int32) * nI a = nI (2 * a) from by rw [show (2 : Int32) = nI 2 from rfl, pk_mul]]
  unfold wl_Pl_endBentTo_4
  rw [show (2 : Int32) * nI a = nI (2 * a) from by rw [show (2 : Int32) = nI 2 from rfl, pk_mul], nI_1, nI_ltI (by omega) (by omega), nI_clamp (n := 2 * a) (by omega)]
  refine ⟨fun z => by omega, fun _ => st _ True _ (2 * a) (by omega) (fun z => ?_) (fun z => ?_)⟩
  · rw [if_pos z] at h
    exact h
  · rw [if_neg z] at h
    unfold wl_Pl_endBentTo_4
    rw [show (2 : Int32) * nI a = nI (2 * a) from by rw [show (2 : Int32) = nI 2 from rfl, pk_mul], nI_1, nI_ltI (by omega) (by omega), nI_clamp (n := 2 * a + 1) (by omega)]
    refine ⟨fun z => by omega, fun _ => st _ True _ (2 * a + 1) (by omega) (fun z => ?_) (fun z => ?_)⟩
    · rw [if_pos z] at h
      exact h
    · rw [if_neg z] at h
      unfold wl_Pl_endBentTo_4
      rw [show (2 : Int32) * nI a = nI (2 * a) from by rw [show (2 : Int32) = nI 2 from rfl, pk_mul], nI_1, nI_1, nI_ltI (by omega) (by omega)]
      exact ⟨fun _ => h, fun z => absurd (by omega) z⟩
theorem s_endForBend {thingAtEnd bendAtEnd : Nat → Int32} (hp : p ≤ 60) (ht : ∀ e, e < 2 * p → thingAtEnd e = oI (th e)) (vt : ∀ e t, e < 2 * p → th e = some t → t < 1000) (hb : ∀ e, e < 2 * p → bendAtEnd e = oI (bd e)) (vb : ∀ e f, e < 2 * p → bd e = some f → f < 2 * p) (ha : a < p) {P : Int32 → Prop} (h : P (oI (fE th bd a))) : wp_Pl_endForBend thingAtEnd bendAtEnd (nI a) P := by
  unfold wp_Pl_endForBend
  unfold fE at h
  have st : ∀ (Ky Kl : Prop) (e : Nat), e < 2 * p → (th e = none ∧ bd e = none → Ky) → (¬ (th e = none ∧ bd e = none) → Kl) → (vp_in (nI e) 120 ∧ ((¬ thingAtEnd e = (-1 : Int32) → Kl) ∧ (thingAtEnd e = (-1 : Int32) → (vp_in (nI e) 120 ∧ ((¬ bendAtEnd e = (-1 : Int32) → Kl) ∧ (bendAtEnd e = (-1 : Int32) → Ky)))))) := by
    intro Ky Kl e he hy hl
    have hin : vp_in (nI e) 120 := vp_in_nI (by omega) (by decide)
    rw [hb e he, ht e he, oI_none (fun t z => vt e t he z), oI_none (fun t z => by have := vb e t he z; omega)]
    exact ⟨hin, fun z => hl (fun y => z y.1), fun z => ⟨hin, fun y => hl (fun w => y w.2), fun y => hy ⟨z, y⟩⟩⟩
  refine ⟨3, ?_⟩
  rw [show (2 : Int32) * nI a = nI (2 * a) from by rw [show (2 : Int32) = nI 2 from rfl, pk_mul]]
  unfold wl_Pl_endForBend_4
  rw [show (2 : Int32) * nI a = nI (2 * a) from by rw [show (2 : Int32) = nI 2 from rfl, pk_mul], nI_1, nI_ltI (by omega) (by omega), nI_clamp (n := 2 * a) (by omega)]
  refine ⟨fun z => by omega, fun _ => st _ _ (2 * a) (by omega) (fun z => ?_) (fun z => ?_)⟩
  · rw [if_pos z] at h
    exact h
  · rw [if_neg z] at h
    unfold wl_Pl_endForBend_4
    rw [show (2 : Int32) * nI a = nI (2 * a) from by rw [show (2 : Int32) = nI 2 from rfl, pk_mul], nI_1, nI_ltI (by omega) (by omega), nI_clamp (n := 2 * a + 1) (by omega)]
    refine ⟨fun z => by omega, fun _ => st _ _ (2 * a + 1) (by omega) (fun z => ?_) (fun z => ?_)⟩
    · rw [if_pos z] at h
      exact h
    · rw [if_neg z] at h
      unfold wl_Pl_endForBend_4
      rw [show (2 : Int32) * nI a = nI (2 * a) from by rw [show (2 : Int32) = nI 2 from rfl, pk_mul], nI_1, nI_1, nI_ltI (by omega) (by omega)]
      exact ⟨fun _ => h, fun z => absurd (by omega) z⟩
theorem m_free {ats bends : Nat → Int32} (hp : p ≤ 60) (ht : ∀ e, e < 2 * p → ats e = oI (th e)) (vt : ∀ e t, e < 2 * p → th e = some t → t < 1000) (hb : ∀ e, e < 2 * p → bends e = oI (bd e)) (vb : ∀ e f, e < 2 * p → bd e = some f → f < 2 * p) (ha : a < p) {P : Int32 → Prop} (h : P (oI (fE th bd a))) : wp_Mo_free ats bends (nI a) P := by
  unfold wp_Mo_free
  unfold fE at h
  have on : ∀ e, e < 2 * p → (ats e = -1 ↔ th e = none) ∧ (bends e = -1 ↔ bd e = none) := by
    intro e he
    rw [hb e he, ht e he, oI_none (fun t z => vt e t he z), oI_none (fun t z => by have := vb e t he z; omega)]
    exact ⟨Iff.rfl, Iff.rfl⟩
  have i0 : vp_in (nI (2 * a)) 120 := vp_in_nI (by omega) (by decide)
  have i1 : vp_in (nI (2 * a + 1)) 120 := vp_in_nI (by omega) (by decide)
  rw [show (2 : Int32) * nI a = nI (2 * a) from by rw [show (2 : Int32) = nI 2 from rfl, pk_mul], nI_clamp (n := 2 * a) (by omega), (on (2 * a) (by omega)).1, (on (2 * a) (by omega)).2]
  have rest : ¬ (th (2 * a) = none ∧ bd (2 * a) = none) → wj_Mo_free_30 (nI a) ats bends P := by
    intro z
    rw [if_neg z] at h
    unfold wj_Mo_free_30
    rw [show (2 : Int32) * nI a = nI (2 * a) from by rw [show (2 : Int32) = nI 2 from rfl, pk_mul], nI_1, nI_clamp (n := 2 * a + 1) (by omega), (on (2 * a + 1) (by omega)).1, (on (2 * a + 1) (by omega)).2]
    refine ⟨i1, fun y => ?_, fun y => ⟨i1, fun w => ?_, fun w => ?_⟩⟩
    · rw [if_neg (fun v => y v.1)] at h; exact h
    · rw [if_neg (fun v => w v.2)] at h; exact h
    · rw [if_pos ⟨y, w⟩] at h; exact h
  refine ⟨i0, fun y => rest (fun v => y v.1), fun y => ⟨i0, fun w => rest (fun v => w v.2), fun w => ?_⟩⟩
  rw [if_pos ⟨y, w⟩] at h
  exact h
end Bend
