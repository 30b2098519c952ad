/-! LEVEL 2: bend -/
/-- what bend answers for two pipes, and the bends then -/
noncomputable def bn (th bd : Nat → Option Nat) (a b : Nat) : Int32 × (Nat → Option Nat) :=
  match bE bd a b with
  | some e => (0, va_up (va_up bd e none) ((bd e).getD 0) none)
  | none => match fE th bd a, fE th bd b with
    | some e, some f => (1, va_up (va_up bd e (some f)) f (some e))
    | _, _ => (-1, bd)
section Bnd
variable {T p a b : Nat} {K tk E po : Nat → Nat} {th bd : Nat → Option Nat} {x1 x2 : Int32}
theorem bE_spec {e : Nat} (h : bE bd a b = some e) : (e = 2 * a ∨ e = 2 * a + 1) ∧ iB (bd e) b := by
  unfold bE at h
  by_cases q : iB (bd (2 * a)) b
  · rw [if_pos q] at h
    have := Option.some.inj h
    subst this
    exact ⟨Or.inl rfl, q⟩
  · rw [if_neg q] at h
    by_cases q2 : iB (bd (2 * a + 1)) b
    · rw [if_pos q2] at h
      have := Option.some.inj h
      subst this
      exact ⟨Or.inr rfl, q2⟩
    · rw [if_neg q2] at h; cases h
theorem fE_spec {e : Nat} (h : fE th bd a = some e) : (e = 2 * a ∨ e = 2 * a + 1) ∧ th e = none ∧ bd e = none := by
  unfold fE at h
  by_cases q : th (2 * a) = none ∧ bd (2 * a) = none
  · rw [if_pos q] at h
    have := Option.some.inj h
    subst this
    exact ⟨Or.inl rfl, q⟩
  · rw [if_neg q] at h
    by_cases q2 : th (2 * a + 1) = none ∧ bd (2 * a + 1) = none
    · rw [if_pos q2] at h
      have := Option.some.inj h
      subst this
      exact ⟨Or.inr rfl, q2⟩
    · rw [if_neg q2] at h; cases h
/-- the bounds stay -/
theorem bn_vG2 (hV : vG2 T p K tk E po th bd) (ha : a < p) (hb : b < p) (hne : ¬ a = b) : vG2 T p K tk E po th (bn th bd a b).2 := by
  obtain ⟨h1, h2, h3, h4⟩ := hV
  refine ⟨h1, h2, h3, ?_⟩
  unfold bn
  cases eb : bE bd a b with
  | some e =>
    obtain ⟨s1, f, s2, s3⟩ := bE_spec eb
    have he : e < 2 * p := by omega
    obtain ⟨v1, v2, v3, v4⟩ := h4 e f he s2
    show ∀ e' f', e' < 2 * p → va_up (va_up bd e none) ((bd e).getD 0) none e' = some f' → _
    intro e' f' he' hz
    rw [s2] at hz
    have hz : va_up (va_up bd e none) f none e' = some f' := hz
    by_cases q1 : e' = f
    · rw [q1, va_up_self] at hz; cases hz
    rw [va_up_ne _ _ q1] at hz
    by_cases q2 : e' = e
    · rw [q2, va_up_self] at hz; cases hz
    rw [va_up_ne _ _ q2] at hz
    obtain ⟨u1, u2, u3, u4⟩ := h4 e' f' he' hz
    refine ⟨u1, ?_, u3, u4⟩
    show va_up (va_up bd e none) ((bd e).getD 0) none f' = some e'
    rw [s2]
    show va_up (va_up bd e none) f none f' = some e'
    have q3 : ¬ f' = f := fun z => by rw [z, v2] at u2; exact q2 (Option.some.inj u2).symm
    have q4 : ¬ f' = e := fun z => by rw [z, s2] at u2; exact q1 (Option.some.inj u2).symm
    rw [va_up_ne _ _ q3, va_up_ne _ _ q4]
    exact u2
  | none =>
    cases ea : fE th bd a with
    | none => exact h4
    | some e =>
      cases eb2 : fE th bd b with
      | none => exact h4
      | some f =>
        obtain ⟨s1, s2, s3⟩ := fE_spec ea
        obtain ⟨r1, r2, r3⟩ := fE_spec eb2
        have he : e < 2 * p := by omega
        have hf : f < 2 * p := by omega
        have hef : ¬ e = f := by omega
        have hd : ¬ f / 2 = e / 2 := by omega
        show ∀ e' f', e' < 2 * p → va_up (va_up bd e (some f)) f (some e) e' = some f' → f' < 2 * p ∧ va_up (va_up bd e (some f)) f (some e) f' = some e' ∧ _
        intro e' f' he' hz
        by_cases q1 : e' = f
        · rw [q1, va_up_self] at hz
          have := Option.some.inj hz
          subst this
          subst q1
          exact ⟨he, by rw [va_up_ne _ _ hef, va_up_self], r2, fun z => hd z.symm⟩
        rw [va_up_ne _ _ q1] at hz
        by_cases q2 : e' = e
        · rw [q2, va_up_self] at hz
          have := Option.some.inj hz
          subst this
          subst q2
          exact ⟨hf, by rw [va_up_self], s2, hd⟩
        rw [va_up_ne _ _ q2] at hz
        obtain ⟨u1, u2, u3, u4⟩ := h4 e' f' he' hz
        have q3 : ¬ f' = f := fun z => by rw [z, r3] at u2; cases u2
        have q4 : ¬ f' = e := fun z => by rw [z, s3] at u2; cases u2
        exact ⟨u1, by rw [va_up_ne _ _ q3, va_up_ne _ _ q4]; exact u2, u3, u4⟩
theorem up_oI {arr : Nat → Int32} {bd : Nat → Option Nat} (h : ∀ e, e < 2 * p → arr e = oI (bd e)) (i : Nat) (o : Option Nat) : ∀ e, e < 2 * p → upd arr i (oI o) e = oI (va_up bd i o e) := by
  intro e he
  by_cases q : e = i
  · rw [q, pk_us, va_up_self]
  · rw [pk_un q, va_up_ne _ _ q]; exact h e he
theorem c_bend {thingAtEnd bendAtEnd : Nat → Int32} (hV : vG2 T p K tk E po th bd) (hT : T ≤ 40) (ht : ∀ e, e < 2 * p → thingAtEnd e = oI (th e)) (hb : ∀ e, e < 2 * p → bendAtEnd e = oI (bd e)) {P : Int32 → (Nat → Int32) → Prop}
    (h1 : ∀ a b, a < p → b < p → ¬ a = b → x1 = nI a → x2 = nI b → ∀ arr : Nat → Int32, (∀ e, e < 2 * p → arr e = oI ((bn th bd a b).2 e)) → P (bn th bd a b).1 arr) (h0 : (∀ a b, a < p → b < p → ¬ a = b → x1 = nI a → ¬ x2 = nI b) → P (-1) bendAtEnd) : wp_PG_bend (nI p) thingAtEnd bendAtEnd x1 x2 P := by
  have hp : p ≤ 60 := hV.1
  have vt : ∀ e t, e < 2 * p → th e = some t → t < 1000 := fun e t he z => by have := (hV.2.2.1 e t he z).1; omega
  have vb : ∀ e f, e < 2 * p → bd e = some f → f < 2 * p := fun e f he z => (hV.2.2.2 e f he z).1
  unfold wp_PG_bend
  refine s_isPipe (by omega) (fun a ha ea => b_1 ?_) (fun hn => b_0 (h0 (fun a b ha _ _ e => absurd e (hn a ha))))
  refine s_isPipe (by omega) (fun b hbp eb => b_1 ?_) (fun hn => b_0 (h0 (fun a b _ hb _ _ => hn b hb)))
  subst ea
  subst eb
  rw [nI_eq (by omega) (by omega)]
  refine ⟨fun hne => ?_, fun he => h0 (fun a' b' u1 u2 u3 u4 u5 => ?_)⟩
  · have h1 := h1 a b ha hbp hne rfl rfl
    unfold bn at h1
    refine s_endBentTo hp hb vb ha hbp ?_
    cases eb : bE bd a b with
    | none =>
      refine ⟨fun _ => ?_, fun z => absurd rfl z⟩
      simp only [eb] at h1
      refine s_endForBend hp ht vt hb vb ha (s_endForBend hp ht vt hb vb hbp ?_)
      cases e1 : fE th bd a with
      | none =>
        simp only [e1] at h1
        exact ⟨fun _ => h1 _ hb, fun z => absurd rfl z⟩
      | some e =>
        obtain ⟨s1, s2, s3⟩ := fE_spec e1
        have e1n : ¬ oI (some e) = -1 := q_m1 (j := e) (by omega)
        cases e2 : fE th bd b with
        | none =>
          simp only [e1, e2] at h1
          exact ⟨fun z => absurd z e1n, fun _ => ⟨fun z => absurd rfl z, fun _ => h1 _ hb⟩⟩
        | some f =>
          obtain ⟨r1, r2, r3⟩ := fE_spec e2
          have e2n : ¬ oI (some f) = -1 := q_m1 (j := f) (by omega)
          simp only [e1, e2] at h1
          refine ⟨fun z => absurd z e1n, fun _ => ⟨fun _ => ?_, fun z => absurd z e2n⟩⟩
          unfold wp_Pl_putBendIn
          refine ⟨vp_in_nI (n := e) (by omega) (by decide), vp_in_nI (n := f) (by omega) (by decide), ?_⟩
          show P 1 (upd (upd bendAtEnd (nI e).toNatClampNeg (oI (some f))) (nI f).toNatClampNeg (oI (some e)))
          rw [nI_clamp (n := e) (by omega), nI_clamp (n := f) (by omega)]
          exact h1 _ (up_oI (up_oI hb e (some f)) f (some e))
    | some e =>
      obtain ⟨s1, f, s2, s3⟩ := bE_spec eb
      have he : e < 2 * p := by omega
      have hf := vb e f he s2
      have e1n : ¬ oI (some e) = -1 := q_m1 (j := e) (by omega)
      refine ⟨fun z => absurd z e1n, fun _ => ?_⟩
      simp only [eb, s2] at h1
      show wp_Pl_takeBendOut bendAtEnd (nI e) _
      unfold wp_Pl_takeBendOut
      rw [nI_clamp (n := e) (by omega), hb e he, s2]
      have i0 : vp_in (nI e) 120 := vp_in_nI (by omega) (by decide)
      refine ⟨i0, i0, ?_⟩
      show wp_PG_isBetween (nI f).toInt64 0 119 _
      refine s_betweenI (a := 0) (b := 119) (by decide) (by decide) (fun j _ _ _ => b_1 ⟨vp_in_nI (n := f) (by omega) (by decide), ?_⟩) (fun hn => absurd rfl (hn f (by omega) (by omega)))
      show P 0 (upd (upd bendAtEnd e (oI none)) (nI f).toNatClampNeg (oI none))
      rw [nI_clamp (n := f) (by omega)]
      exact h1 _ (up_oI (up_oI hb e none) f none)
  · have z1 := (nI_eq (by omega) (by omega)).mp u4
    have z2 := (nI_eq (by omega) (by omega)).mp u5
    omega
theorem m_bend {ats bends : Nat → Int32} {thr : Int32} (hV : vG2 T p K tk E po th bd) (hT : T ≤ 40) (ht : ∀ e, e < 2 * p → ats e = oI (th e)) (hb : ∀ e, e < 2 * p → bends e = oI (bd e)) {P : Int32 → Int32 → (Nat → Int32) → Prop}
    (h1 : ∀ a b, a < p → b < p → ¬ a = b → x1 = nI a → x2 = nI b → ∀ arr : Nat → Int32, (∀ e, e < 2 * p → arr e = oI ((bn th bd a b).2 e)) → P (bn th bd a b).1 0 arr) (h0 : (∀ a b, a < p → b < p → ¬ a = b → x1 = nI a → ¬ x2 = nI b) → P (-1) 0 bends) : wp_Mo_bend (nI p) thr ats bends x1 x2 P := by
  have hp : p ≤ 60 := hV.1
  have vt : ∀ e t, e < 2 * p → th e = some t → t < 1000 := fun e t he z => by have := (hV.2.2.1 e t he z).1; omega
  have vb : ∀ e f, e < 2 * p → bd e = some f → f < 2 * p := fun e f he z => (hV.2.2.2 e f he z).1
  unfold wp_Mo_bend
  refine m_isPipe (by omega) (fun a ha ea => b_1 ?_) (fun hn => b_0 (h0 (fun a b ha _ _ e => absurd e (hn a ha))))
  refine m_isPipe (by omega) (fun b hbp eb => b_1 ?_) (fun hn => b_0 (h0 (fun a b _ hb _ _ => hn b hb)))
  subst ea
  subst eb
  rw [nI_eq (by omega) (by omega)]
  refine ⟨fun hne => ?_, fun he => h0 (fun a' b' u1 u2 u3 u4 u5 => ?_)⟩
  · have h1 := h1 a b ha hbp hne rfl rfl
    unfold bn at h1
    have m2 : (2 : Int32) * nI a = nI (2 * a) := by rw [show (2 : Int32) = nI 2 from rfl, pk_mul]
    -- the loop is the class's endBentTo, but for how its end is written
    have yes : ∀ e, bE bd a b = some e → wk_Mo_bend_63_32 bends P (nI e) := by
      intro e eb
      obtain ⟨s1, f, s2, s3⟩ := bE_spec eb
      have he : e < 2 * p := by omega
      have hf := vb e f he s2
      simp only [eb, s2] at h1
      unfold wk_Mo_bend_63_32
      have i0 : vp_in (nI e) 120 := vp_in_nI (by omega) (by decide)
      rw [nI_clamp (n := e) (by omega), hb e he, s2]
      refine ⟨i0, vp_in_nI (n := f) (by omega) (by decide), i0, ?_⟩
      show P 0 0 (upd (upd bends (nI f).toNatClampNeg (oI none)) e (oI none))
      rw [nI_clamp (n := f) (by omega)]
      refine h1 _ (fun e' he' => ?_)
      rw [up_oI (up_oI hb f none) e none e' he']
      by_cases q1 : e' = e
      · rw [q1, va_up_self]
        by_cases q2 : e = f
        · rw [Option.getD_some, q2, va_up_self]
        · rw [Option.getD_some, va_up_ne _ _ q2, va_up_self]
      · rw [va_up_ne _ _ q1, Option.getD_some]
        by_cases q2 : e' = f
        · rw [q2, va_up_self, va_up_self]
        · rw [va_up_ne _ _ q2, va_up_ne _ _ q2, va_up_ne _ _ q1]
    have no : bE bd a b = none → ∀ z, wk_Mo_bend_90_32 ats bends (nI a) (nI b) P z := by
      intro eb z
      simp only [eb] at h1
      unfold wk_Mo_bend_90_32
      refine m_free hp ht vt hb vb ha (m_free hp ht vt hb vb hbp ?_)
      cases e1 : fE th bd a with
      | none =>
        simp only [e1] at h1
        exact ⟨fun _ => h1 _ hb, fun z => absurd rfl z⟩
      | some e =>
        obtain ⟨s1, s2, s3⟩ := fE_spec e1
        have e1n : ¬ oI (some e) = -1 := q_m1 (j := e) (by omega)
        cases e2 : fE th bd b with
        | none =>
          simp only [e1, e2] at h1
          exact ⟨fun z => absurd z e1n, fun _ => ⟨fun z => absurd rfl z, fun _ => h1 _ hb⟩⟩
        | some f =>
          obtain ⟨r1, r2, r3⟩ := fE_spec e2
          have e2n : ¬ oI (some f) = -1 := q_m1 (j := f) (by omega)
          simp only [e1, e2] at h1
          refine ⟨fun z => absurd z e1n, fun _ => ⟨fun _ => ?_, fun z => absurd z e2n⟩⟩
          refine ⟨vp_in_nI (n := e) (by omega) (by decide), vp_in_nI (n := f) (by omega) (by decide), ?_⟩
          show P 1 0 (upd (upd bends (nI e).toNatClampNeg (oI (some f))) (nI f).toNatClampNeg (oI (some e)))
          rw [nI_clamp (n := e) (by omega), nI_clamp (n := f) (by omega)]
          exact h1 _ (up_oI (up_oI hb e (some f)) f (some e))
    clear h1
    have st : ∀ (Ky Kl : Prop) (e : Nat), e < 2 * p → (iB (bd e) b → Ky) → (¬ iB (bd e) b → Kl) → (vp_in (nI e) 120 ∧ ((bends e = (-1 : Int32) → Kl) ∧ (¬ bends e = (-1 : Int32) → (vp_in (nI e) 120 ∧ ((¬ (bends e / 2) = nI b → Kl) ∧ ((bends e / 2) = nI b → Ky)))))) := by
      intro Ky Kl e he hy hl
      have hin : vp_in (nI e) 120 := vp_in_nI (by omega) (by decide)
      rw [hb e he]
      have bo : ∀ t, bd e = some t → t < 1000 := fun t z => by have := vb e t he z; omega
      refine ⟨hin, fun z => hl (fun y => ?_), fun z => ⟨hin, fun y => hl (fun w => ?_), fun y => hy ?_⟩⟩
      · obtain ⟨f, f1, -⟩ := y
        rw [oI_none bo, f1] at z
        cases z
      · obtain ⟨f, f1, f2⟩ := w
        rw [f1] at y
        have := vb e f he f1
        exact y (by show nI f / 2 = nI b; rw [q_half f (by omega), f2])
      · cases e5 : bd e with
        | none => rw [e5] at z; exact absurd rfl z
        | some f =>
          have := vb e f he e5
          rw [e5] at y
          have y : nI f / 2 = nI b := y
          rw [q_half f (by omega), nI_eq (by omega) (by omega)] at y
          exact ⟨f, rfl, y⟩
    have m4 : nI (2 * a) + (2 : Int32) = nI (2 * a + 2) := by rw [show (2 : Int32) = nI 2 from rfl, nI_add]
    refine ⟨3, ?_⟩
    rw [m2]
    unfold wl_Mo_bend_32
    rw [m2, m4, nI_leI (by omega) (by omega), nI_1, nI_clamp (n := 2 * a) (by omega)]
    refine ⟨fun z => by omega, fun _ => st _ _ (2 * a) (by omega) (fun z => yes _ (by unfold bE; rw [if_pos z])) (fun z => ?_)⟩
    unfold wl_Mo_bend_32
    rw [m2, m4, nI_leI (by omega) (by omega), nI_1, nI_clamp (n := 2 * a + 1) (by omega)]
    refine ⟨fun z => by omega, fun _ => st _ _ (2 * a + 1) (by omega) (fun z2 => yes _ (by unfold bE; rw [if_neg z, if_pos z2])) (fun z2 => ?_)⟩
    unfold wl_Mo_bend_32
    rw [m2, m4, nI_leI (by omega) (by omega)]
    exact ⟨fun _ => no (by unfold bE; rw [if_neg z, if_neg z2]) _, fun z => absurd (by omega) z⟩
  · have z1 := (nI_eq (by omega) (by omega)).mp u4
    have z2 := (nI_eq (by omega) (by omega)).mp u5
    omega
end Bnd
