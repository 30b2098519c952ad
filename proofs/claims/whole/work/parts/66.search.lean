/-! LEVEL 2: the class's search -/
def pI (F : Nat → Nat) (o : Option Nat) : Int32 := match o with
  | none => -1
  | some b => nI (pv (F b))
/-- the arrays of the search. F a: the end at which the pipe found at place a is entered -/
def SI (T p c : Nat) (K : Nat → Nat) (th : Nat → Option Nat) (F : Nat → Nat) (pp : Nat → Option Nat) (found previous lastE : Nat → Int32) : Prop :=
  (∀ a, a < c → F a < 2 * p ∧ found a = nI (pv (F a)) ∧ previous (pv (F a)) = pI F (pp a)) ∧
  (∀ a b, a < c → b < c → F a = F b → a = b) ∧
  (∀ v, v < 120 → (∀ a, a < c → ¬ pv (F a) = v) → previous v = -3) ∧
  (∀ a b, a < c → pp a = some b → b < a) ∧
  (∀ t, t < T → ¬ K t = 10 → lastE t = -1) ∧
  (∀ t, t < T → K t = 10 → (∃ a, a < c ∧ th (pv (F a)) = some t ∧ (∀ a', a' < a → ¬ th (pv (F a')) = some t) ∧ lastE t = nI (pv (F a))) ∨ ((∀ a, a < c → ¬ th (pv (F a)) = some t) ∧ lastE t = -1))
section Search
variable {T p c s : Nat} {K pos tk E po : Nat → Nat} {th bd : Nat → Option Nat} {F : Nat → Nat} {pp : Nat → Option Nat} {found previous lastE : Nat → Int32}
theorem SI.le (h : SI T p c K th F pp found previous lastE) : c ≤ 2 * p := pigeon (2 * p) c F (fun i hi => (h.1 i hi).1) (fun i j hi hj e => h.2.1 i j hi hj e)
theorem SI.lt (h : SI T p c K th F pp found previous lastE) {f : Nat} (hf : f < 2 * p) (hn : ∀ a, a < c → ¬ F a = f) : c < 2 * p := by
  have := pigeon (2 * p) (c + 1) (va_up F c f) (fun i hi => by
    by_cases q : i = c
    · rw [q, va_up_self]; exact hf
    · rw [va_up_ne _ _ q]; exact (h.1 i (by omega)).1) (fun i j hi hj e => by
    by_cases q : i = c
    · by_cases r : j = c
      · omega
      · rw [q, va_up_self, va_up_ne _ _ r] at e
        exact absurd e.symm (hn j (by omega))
    · by_cases r : j = c
      · rw [r, va_up_self, va_up_ne _ _ q] at e
        exact absurd e (hn i (by omega))
      · rw [va_up_ne _ _ q, va_up_ne _ _ r] at e
        exact h.2.1 i j (by omega) (by omega) e)
  omega
theorem m3_ne {o : Option Nat} (h : ∀ b, o = some b → pv (F b) < 1000) : ¬ pI F o = -3 := by
  cases o with
  | none => show ¬ (-1 : Int32) = -3; decide
  | some b =>
    intro e
    have h1 := h b rfl
    have h2 := nI_toInt (n := pv (F b)) (by omega)
    rw [show nI (pv (F b)) = -3 from e] at h2
    have : (-3 : Int32).toInt = -3 := by decide
    omega
/-- a pipe is passed: it was found before, or it is found now -/
theorem s_passPipe {kind thingAtEnd : Nat → Int32} (hT : T ≤ 40) (hp : p ≤ 60) (hk : ∀ t, t < T → kind t = nI (K t)) (vK : ∀ t, t < T → K t ≤ 10) (hth : ∀ e, e < 2 * p → thingAtEnd e = oI (th e)) (vth : ∀ e t, e < 2 * p → th e = some t → t < T)
    (h : SI T p c K th F pp found previous lastE) {f : Nat} (hf : f < 2 * p) {o : Option Nat} (ho : ∀ b, o = some b → b < c) {P : Int32 → (Nat → Int32) → (Nat → Int32) → (Nat → Int32) → Prop}
    (h1 : (∃ a, a < c ∧ F a = f) → P (nI c) found previous lastE)
    (h2 : (∀ a, a < c → ¬ F a = f) → ∀ found' previous' lastE' : Nat → Int32, SI T p (c + 1) K th (va_up F c f) (va_up pp c o) found' previous' lastE' → P (nI (c + 1)) found' previous' lastE') :
    wp_Wa_passPipe (nI c) found previous lastE (nI T) kind thingAtEnd (nI f) (pI F o) P := by
  have hpf := pv_lt hf
  unfold wp_Wa_passPipe
  rw [q_xor f (by omega)]
  refine s_betweenI (a := 0) (b := 119) (by decide) (by decide) (fun j _ _ _ => b_1 ?_) (fun hn => absurd rfl (hn (pv f) (by omega) (by omega)))
  have hin : vp_in (nI (pv f)) 120 := vp_in_nI (by omega) (by decide)
  rw [nI_clamp (n := pv f) (by omega)]
  refine ⟨hin, fun q => ?_, fun q => ?_⟩
  · refine h1 ?_
    apply Classical.byContradiction
    intro hno
    exact q (h.2.2.1 (pv f) (by omega) (fun a ha e => hno ⟨a, ha, pv_inj e⟩))
  · have hnew : ∀ a, a < c → ¬ F a = f := by
      intro a ha e
      obtain ⟨w1, w2, w3⟩ := h.1 a ha
      rw [e, q] at w3
      exact m3_ne (fun b hb => by have := (h.1 b (by have := h.2.2.2.1 a b ha hb; omega)).1; have := pv_lt this; omega) w3.symm
    have hc := h.lt hf hnew
    rw [show (120 : Int32) = nI 120 from rfl, nI_ltI (by omega) (by decide), hth (pv f) hpf, nI_1, nI_clamp (n := c) (by omega)]
    refine ⟨fun _ => ⟨hin, vp_in_nI (by omega) (by decide), hin, ?_⟩, fun z => absurd (by omega) z⟩
    -- what is there behind it
    have base : ∀ lastE' : Nat → Int32, (∀ t, t < T → ¬ K t = 10 → lastE' t = -1) → (∀ t, t < T → K t = 10 → (∃ a, a < c + 1 ∧ th (pv (va_up F c f a)) = some t ∧ (∀ a', a' < a → ¬ th (pv (va_up F c f a')) = some t) ∧ lastE' t = nI (pv (va_up F c f a))) ∨ ((∀ a, a < c + 1 → ¬ th (pv (va_up F c f a)) = some t) ∧ lastE' t = -1)) →
        SI T p (c + 1) K th (va_up F c f) (va_up pp c o) (upd found c (nI (pv f))) (upd previous (pv f) (pI F o)) lastE' := by
      intro lastE' hno hl
      refine ⟨fun a ha => ?_, fun a b ha hb e => ?_, fun v hv hn => ?_, fun a b ha hb => ?_, hno, hl⟩
      · by_cases q1 : a = c
        · subst q1
          rw [va_up_self, va_up_self, pk_us, pk_us]
          refine ⟨hf, rfl, ?_⟩
          cases o with
          | none => rfl
          | some b => have := ho b rfl; show nI (pv (F b)) = nI (pv (va_up F a f b)); rw [va_up_ne _ _ (by omega)]
        · obtain ⟨w1, w2, w3⟩ := h.1 a (by omega)
          rw [va_up_ne _ _ q1, va_up_ne _ _ q1, pk_un q1, pk_un (fun z => hnew a (by omega) (pv_inj z))]
          refine ⟨w1, w2, ?_⟩
          rw [w3]
          cases e4 : pp a with
          | none => rfl
          | some b => have := h.2.2.2.1 a b (by omega) e4; show nI (pv (F b)) = nI (pv (va_up F c f b)); rw [va_up_ne _ _ (by omega)]
      · by_cases q1 : a = c
        · by_cases r : b = c
          · omega
          · rw [q1, va_up_self, va_up_ne _ _ r] at e
            exact absurd e.symm (hnew b (by omega))
        · by_cases r : b = c
          · rw [r, va_up_self, va_up_ne _ _ q1] at e
            exact absurd e (hnew a (by omega))
          · rw [va_up_ne _ _ q1, va_up_ne _ _ r] at e
            exact h.2.1 a b (by omega) (by omega) e
      · have z1 : ¬ v = pv f := fun z => hn c (by omega) (by rw [va_up_self]; exact z.symm)
        rw [pk_un z1]
        refine h.2.2.1 v hv (fun a ha e => hn a (by omega) ?_)
        rw [va_up_ne _ _ (by omega)]
        exact e
      · by_cases q1 : a = c
        · subst q1
          rw [va_up_self] at hb
          have := ho b hb
          omega
        · rw [va_up_ne _ _ q1] at hb
          exact h.2.2.2.1 a b (by omega) hb
    have same : ∀ a, a < c → va_up F c f a = F a := fun a ha => va_up_ne _ _ (by omega)
    cases e5 : th (pv f) with
    | none =>
      refine s_isTank hT hk vK (fun t ht k10 et => absurd et.symm (q_m1 (by omega))) (fun _ => b_0 (h2 hnew _ _ _ (base lastE h.2.2.2.2.1 (fun t ht k10 => ?_))))
      rcases h.2.2.2.2.2 t ht k10 with ⟨a, a1, a2, a3, a4⟩ | ⟨a1, a2⟩
      · refine Or.inl ⟨a, by omega, by rw [same a a1]; exact a2, fun a' ha' => by rw [same a' (by omega)]; exact a3 a' ha', by rw [same a a1]; exact a4⟩
      · refine Or.inr ⟨fun a ha => ?_, a2⟩
        by_cases q1 : a = c
        · rw [q1, va_up_self, e5]; intro z; cases z
        · rw [same a (by omega)]; exact a1 a (by omega)
    | some t0 =>
      have ht0 := vth (pv f) t0 hpf e5
      have other : ∀ t, t < T → K t = 10 → ¬ t = t0 → (∃ a, a < c + 1 ∧ th (pv (va_up F c f a)) = some t ∧ (∀ a', a' < a → ¬ th (pv (va_up F c f a')) = some t) ∧ lastE t = nI (pv (va_up F c f a))) ∨ ((∀ a, a < c + 1 → ¬ th (pv (va_up F c f a)) = some t) ∧ lastE t = -1) := by
        intro t ht k10 hne
        rcases h.2.2.2.2.2 t ht k10 with ⟨a, a1, a2, a3, a4⟩ | ⟨a1, a2⟩
        · exact Or.inl ⟨a, by omega, by rw [same a a1]; exact a2, fun a' ha' => by rw [same a' (by omega)]; exact a3 a' ha', by rw [same a a1]; exact a4⟩
        · refine Or.inr ⟨fun a ha => ?_, a2⟩
          by_cases q1 : a = c
          · rw [q1, va_up_self, e5]; intro z; exact hne (Option.some.inj z).symm
          · rw [same a (by omega)]; exact a1 a (by omega)
      show wp_Pl_isTank (nI T) kind (nI t0) _
      refine s_isTank hT hk vK (fun t ht k10 et => b_1 ?_) (fun hn => b_0 (h2 hnew _ _ _ (base lastE h.2.2.2.2.1 (fun t ht k10 => other t ht k10 (fun z => hn t ht k10 (by rw [z]))))))
      have e6 : t0 = t := (nI_eq (by omega) (by omega)).mp et
      subst e6
      have hit : vp_in (nI t0) 40 := vp_in_nI (by omega) (by decide)
      show vp_in (nI t0) 40 ∧ _
      have ec : (oI (some t0)).toNatClampNeg = t0 := nI_clamp (by omega)
      rw [ec]
      refine ⟨hit, fun z => h2 hnew _ _ _ (base lastE h.2.2.2.2.1 (fun t ht' k10' => ?_)), fun z => ⟨hit, h2 hnew _ _ _ (base _ (fun t ht' nk => by rw [pk_un (fun y => nk (by rw [y]; exact k10))]; exact h.2.2.2.2.1 t ht' nk) (fun t ht' k10' => ?_))⟩⟩
      · by_cases q1 : t = t0
        · subst q1
          rcases h.2.2.2.2.2 t ht k10 with ⟨a, a1, a2, a3, a4⟩ | ⟨a1, a2⟩
          · exact Or.inl ⟨a, by omega, by rw [same a a1]; exact a2, fun a' ha' => by rw [same a' (by omega)]; exact a3 a' ha', by rw [same a a1]; exact a4⟩
          · exact absurd a2 z
        · exact other t ht' k10' q1
      · by_cases q1 : t = t0
        · subst q1
          rcases h.2.2.2.2.2 t ht k10 with ⟨a, a1, a2, a3, a4⟩ | ⟨a1, a2⟩
          · rw [a4] at z
            have := (h.1 a a1).1
            have := pv_lt this
            exact absurd z (q_m1 (by omega))
          · refine Or.inl ⟨c, by omega, by rw [va_up_self]; exact e5, fun a' ha' => by rw [same a' ha']; exact a1 a' ha', by rw [pk_us, va_up_self]⟩
        · rw [pk_un q1]
          exact other t ht' k10' q1
end Search
