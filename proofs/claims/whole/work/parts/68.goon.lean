/-! LEVEL 2: goOn and search -/
section GoOn
variable {T p s : Nat} {K pos tk E po : Nat → Nat} {th bd : Nat → Option Nat} {kind position portsTaken endAtPort thingAtEnd portAtEnd bendAtEnd : Nat → Int32}
theorem s_goOn (hT : T ≤ 40) (hk : ∀ t, t < T → kind t = nI (K t)) (vK : ∀ t, t < T → K t ≤ 10) (hq : ∀ t, t < T → position t = nI (pos t)) (vq : ∀ t, t < T → pos t ≤ 9) (hG : cG2 T p K tk E po th bd portsTaken endAtPort thingAtEnd portAtEnd bendAtEnd) (hV : vG2 T p K tk E po th bd)
    {st : Nat → Prop} {i c : Nat} {F : Nat → Nat} {pp : Nat → Option Nat} {found previous lastE : Nat → Int32} (hi : i < c) (hS : SI T p c K th F pp found previous lastE) (hB : PB st (nxk K pos tk E po th bd) (NX K pos tk E po th bd) c i 0 F pp)
    {P : Int32 → (Nat → Int32) → (Nat → Int32) → (Nat → Int32) → Prop}
    (h : ∀ (c : Nat) (F : Nat → Nat) (pp : Nat → Option Nat) (found previous lastE : Nat → Int32), i < c → SI T p c K th F pp found previous lastE → PB st (nxk K pos tk E po th bd) (NX K pos tk E po th bd) c i 4 F pp → P (nI c) found previous lastE) :
    wp_Wa_goOn (nI c) found previous lastE (nI T) kind position portsTaken endAtPort thingAtEnd portAtEnd bendAtEnd (nI (pv (F i))) P := by
  have hp : p ≤ 60 := hV.1
  have hFi := (hS.1 i hi).1
  have hv := pv_lt hFi
  have hV' := hV
  obtain ⟨-, v1, v2, v3⟩ := hV'
  obtain ⟨g1, g2⟩ := hG
  obtain ⟨g5, g6, g7⟩ := g2 (pv (F i)) hv
  have hin : vp_in (nI (pv (F i))) 120 := vp_in_nI (by omega) (by decide)
  unfold wp_Wa_goOn
  rw [nI_clamp (n := pv (F i)) (by omega), g5, g6]
  refine ⟨hin, fun q => ⟨hin, ?_⟩, fun q => ⟨hin, ?_⟩⟩
  · have hbd : bd (pv (F i)) = none := by
      cases e : bd (pv (F i)) with
      | none => rfl
      | some f =>
        rw [e] at q
        have := (v3 _ f hv e).1
        exact absurd q (q_m1 (by omega))
    cases e : th (pv (F i)) with
    | none =>
      have fin : P (nI c) found previous lastE := h c F pp found previous lastE hi hS (hB.keep (by omega) (fun k' f _ _ z => by
        rcases z with ⟨-, -, z⟩ | ⟨t, z, -⟩
        · rw [hbd] at z; cases z
        · rw [e] at z; cases z))
      refine s_isThing (by omega) (fun j hj ej => ?_) (fun _ => b_0 fin)
      exact absurd ej.symm (q_m1 (by omega))
    | some t =>
      have tT := (v2 _ t hv e).1
      refine s_isThing (by omega) (fun j hj ej => b_1 ?_) (fun hn => absurd rfl (hn t tT))
      refine s_isTank hT hk vK (fun t' ht' k10 et => b_1 ?_) (fun hn => b_0 ⟨tk t + 1, ?_⟩)
      · have e6 : t = t' := (nI_eq (by omega) (by omega)).mp et
        subst e6
        exact h c F pp found previous lastE hi hS (hB.keep (by omega) (fun k' f _ _ z => by
          rcases z with ⟨z, -⟩ | ⟨t2, z, z2, -⟩
          · rw [e] at z; cases z
          · rw [e] at z; cases z; exact absurd k10 z2))
      · have hn10 : ¬ K t = 10 := fun z => hn t tT z rfl
        obtain ⟨y1, y2, y3⟩ := v1 t tT hn10
        have := vK t tT
        have hp4 := pN_le (K t) (by omega)
        refine s_goLoop hT hk vK hq vq ⟨g1, g2⟩ hV hv e hn10 (st := st) (i := i) (fun c' F' pp' found' previous' lastE' a1 a2 a3 a4 => ?_) (tk t + 1) 0 c F pp found previous lastE (by omega) (by omega) hi rfl hS hB
        unfold wk_Wa_goOn_100_50
        refine h c' F' pp' found' previous' lastE' a1 a3 (a4.keep (by omega) (fun k' f b1 b2 z => ?_))
        rw [a2] at z
        rcases z with ⟨z, -⟩ | ⟨t2, z, z2, z3, -⟩
        · rw [e] at z; cases z
        · rw [e] at z; cases z; omega
  · cases e : bd (pv (F i)) with
    | none => rw [e] at q; exact absurd rfl q
    | some f =>
      obtain ⟨f1, f2, f3, f4⟩ := v3 _ f hv e
      have hnk : nxk K pos tk E po th bd (pv (F i)) 0 f := Or.inl ⟨f3, rfl, e⟩
      have rest : ∀ k' f', 1 ≤ k' → k' < 4 → nxk K pos tk E po th bd (pv (F i)) k' f' → False := by
        intro k' f' a1 a2 z
        rcases z with ⟨-, z, -⟩ | ⟨t, z, -⟩
        · omega
        · rw [f3] at z; cases z
      show wp_Wa_passPipe (nI c) found previous lastE (nI T) kind thingAtEnd (nI f) (pI F (some i)) _
      refine s_passPipe hT hp hk vK (fun e he => (g2 e he).1) (fun e t' he h' => (v2 e t' he h').1) hS f1 (o := some i) (fun b hb => by cases hb; exact hi) (fun hx => ?_) (fun hx found' previous' lastE' hs => ?_)
      · refine h c F pp found previous lastE hi hS (hB.keep (by omega) (fun k' f' b1 b2 z => ?_))
        rcases Nat.eq_zero_or_pos k' with y | y
        · subst y; rw [nxk_fun z hnk]; exact hx
        · exact (rest k' f' y b2 z).elim
      · have hadd := hB.add hi hnk ⟨0, by omega, hnk⟩ hx (fun f' h' => nxk_fun h' hnk) (fun k' f' hk' _ => by omega)
        refine h (c + 1) _ _ found' previous' lastE' (by omega) hs (hadd.keep (by omega) (fun k' f' b1 b2 z => ?_))
        rw [va_up_ne _ _ (by omega)] at z
        exact (rest k' f' (by omega) b2 z).elim
/-- all that is found -/
theorem s_59 (hT : T ≤ 40) (hk : ∀ t, t < T → kind t = nI (K t)) (vK : ∀ t, t < T → K t ≤ 10) (hq : ∀ t, t < T → position t = nI (pos t)) (vq : ∀ t, t < T → pos t ≤ 9) (hG : cG2 T p K tk E po th bd portsTaken endAtPort thingAtEnd portAtEnd bendAtEnd) (hV : vG2 T p K tk E po th bd)
    {st : Nat → Prop} {P : Int32 → (Nat → Int32) → (Nat → Int32) → (Nat → Int32) → Prop}
    (h : ∀ (c : Nat) (F : Nat → Nat) (pp : Nat → Option Nat) (found previous lastE : Nat → Int32), SI T p c K th F pp found previous lastE → PB st (nxk K pos tk E po th bd) (NX K pos tk E po th bd) c c 0 F pp → P (nI c) found previous lastE) :
    ∀ (d i c : Nat) (F : Nat → Nat) (pp : Nat → Option Nat) (found previous lastE : Nat → Int32), i ≤ c → 2 * p - i < d → SI T p c K th F pp found previous lastE → PB st (nxk K pos tk E po th bd) (NX K pos tk E po th bd) c i 0 F pp → wl_Wa_search_59 (nI T) kind position portsTaken endAtPort thingAtEnd portAtEnd bendAtEnd (wk_Wa_search_90_59 P) d (nI i) (nI c) found previous lastE := by
  have hp : p ≤ 60 := hV.1
  intro d
  induction d with
  | zero => intro i c F pp found previous lastE a1 a2; omega
  | succ d ih =>
    intro i c F pp found previous lastE a1 a2 a3 a4
    have hle := a3.le
    unfold wl_Wa_search_59
    rw [leS (a := c) (b := i) (by omega) (by omega), show (120 : Int32) = nI 120 from rfl, leS (a := 120) (b := i) (by decide) (by omega)]
    refine ⟨fun q => ?_, fun q => ⟨fun q2 => by omega, fun q2 => ⟨vp_in_nI (by omega) (by decide), ?_⟩⟩⟩
    · have : i = c := by omega
      subst this
      unfold wk_Wa_search_90_59
      exact h i F pp found previous lastE a3 a4
    · rw [nI_clamp (n := i) (by omega), (a3.1 i (by omega)).2.1, nI_1]
      refine s_goOn hT hk vK hq vq hG hV (by omega) a3 a4 (fun c' F' pp' found' previous' lastE' b1 b2 b3 => ?_)
      exact ih (i + 1) c' F' pp' found' previous' lastE' (by omega) (by omega) b2 (b3.step (fun e f => Iff.rfl))
/-- the class's search from tank s -/
theorem s_search (hT : T ≤ 40) (hk : ∀ t, t < T → kind t = nI (K t)) (vK : ∀ t, t < T → K t ≤ 10) (hq : ∀ t, t < T → position t = nI (pos t)) (vq : ∀ t, t < T → pos t ≤ 9) (hG : cG2 T p K tk E po th bd portsTaken endAtPort thingAtEnd portAtEnd bendAtEnd) (hV : vG2 T p K tk E po th bd) (hs : s < T)
    {fc : Int32} {found previous lastE : Nat → Int32} {P : Int32 → (Nat → Int32) → (Nat → Int32) → (Nat → Int32) → Prop}
    (h : ∀ (c : Nat) (F : Nat → Nat) (pp : Nat → Option Nat) (found previous lastE : Nat → Int32), SI T p c K th F pp found previous lastE → PB (fun e => e < 2 * p ∧ th e = some s) (nxk K pos tk E po th bd) (NX K pos tk E po th bd) c c 0 F pp → P (nI c) found previous lastE) :
    wp_Wa_search fc found previous lastE (nI T) (nI p) kind position portsTaken endAtPort thingAtEnd portAtEnd bendAtEnd (nI s) P := by
  have hp : p ≤ 60 := hV.1
  have v2 := hV.2.2.1
  unfold wp_Wa_search
  refine s_fillI (by decide) (fun pr hpr _ => s_fillI (by decide) (fun la hla _ => ⟨2 * p + 1, ?_⟩))
  have key : ∀ (d x c : Nat) (F : Nat → Nat) (pp : Nat → Option Nat) (found previous lastE : Nat → Int32), x ≤ 2 * p → 2 * p - x < d → SI T p c K th F pp found previous lastE → (∀ a, a < c → pp a = none ∧ th (F a) = some s ∧ F a < x) → (∀ a a', a < a' → a' < c → F a < F a') → (∀ e, e < x → th e = some s → ∃ a, a < c ∧ F a = e) →
      wl_Wa_search_24 (nI p) thingAtEnd (nI s) (nI T) kind (wk_Wa_search_57_24 (nI T) kind position portsTaken endAtPort thingAtEnd portAtEnd bendAtEnd P) d (nI x) (nI c) found previous lastE := by
    intro d
    induction d with
    | zero => intro x c F pp found previous lastE a1 a2; omega
    | succ d ih =>
      intro x c F pp found previous lastE a1 a2 a3 a4 a5 a6
      unfold wl_Wa_search_24
      rw [show (2 : Int32) = nI 2 from rfl, pk_mul, leS (a := 2 * p) (b := x) (by omega) (by omega)]
      refine ⟨fun q => ?_, fun q => ⟨vp_in_nI (by omega) (by decide), ?_⟩⟩
      · have : x = 2 * p := by omega
        subst this
        unfold wk_Wa_search_57_24
        refine ⟨2 * p + 1, s_59 hT hk vK hq vq hG hV h (2 * p + 1) 0 c F pp found previous lastE (by omega) (by omega) a3 ⟨a3.2.1, fun a ha => ?_, fun a a' h1 h2 => ?_, fun b hb => by omega, fun k' f hk' => by omega, fun a ha e => ?_, fun e he => a6 e he.1 he.2⟩⟩
        · obtain ⟨z1, z2, z3⟩ := a4 a ha
          rw [z1]
          exact ⟨z3, z2⟩
        · rw [(a4 a (by omega)).1, (a4 a' h2).1]
          exact a5 a a' h1 h2
        · rw [(a4 a ha).1] at e; cases e
      · have hx : x < 2 * p := by omega
        rw [nI_clamp (n := x) (by omega), (hG.2 x hx).1, oI_eq (by omega) (fun t ht => by have := (v2 x t hx ht).1; omega), nI_1]
        refine ⟨fun q2 => ?_, fun q2 => ?_⟩
        · refine ih (x + 1) c F pp found previous lastE (by omega) (by omega) a3 (fun a ha => ?_) a5 (fun e he ht => ?_)
          · obtain ⟨z1, z2, z3⟩ := a4 a ha
            exact ⟨z1, z2, by omega⟩
          · by_cases y : e = x
            · rw [y] at ht; exact absurd ht q2
            · exact a6 e (by omega) ht
        · show wp_Wa_passPipe (nI c) found previous lastE (nI T) kind thingAtEnd (nI x) (pI F none) _
          refine s_passPipe hT hp hk vK (fun e he => (hG.2 e he).1) (fun e t' he h' => (v2 e t' he h').1) a3 hx (o := none) (fun b hb => by cases hb) (fun hy => ?_) (fun hy found' previous' lastE' hs' => ?_)
          · obtain ⟨a, ha, ea⟩ := hy
            have := (a4 a ha).2.2
            omega
          · have sF : ∀ a, a < c → va_up F c x a = F a := fun a ha => va_up_ne _ _ (by omega)
            refine ih (x + 1) (c + 1) _ _ found' previous' lastE' (by omega) (by omega) hs' (fun a ha => ?_) (fun a a' h1 h2 => ?_) (fun e he ht => ?_)
            · by_cases y : a = c
              · rw [y, va_up_self, va_up_self]; exact ⟨rfl, q2, by omega⟩
              · obtain ⟨z1, z2, z3⟩ := a4 a (by omega)
                rw [va_up_ne _ _ y, va_up_ne _ _ y]; exact ⟨z1, z2, by omega⟩
            · by_cases y : a' = c
              · rw [y, va_up_self, sF a (by omega)]; exact (a4 a (by omega)).2.2
              · rw [sF a (by omega), sF a' (by omega)]; exact a5 a a' h1 (by omega)
            · by_cases y : e = x
              · exact ⟨c, by omega, by rw [va_up_self]; exact y.symm⟩
              · obtain ⟨a, ha, ea⟩ := a6 e (by omega) ht
                exact ⟨a, by omega, by rw [sF a ha]; exact ea⟩
  exact key (2 * p + 1) 0 0 (fun _ => 0) (fun _ => none) found pr la (by omega) (by omega) ⟨fun a ha => by omega, fun a b ha => by omega, fun v hv _ => hpr v hv, fun a b ha => by omega, fun t ht _ => hla t (by omega), fun t ht k10 => Or.inr ⟨fun a ha => by omega, hla t (by omega)⟩⟩ (fun a ha => by omega) (fun a a' _ h2 => by omega) (fun e he => by omega)
end GoOn
