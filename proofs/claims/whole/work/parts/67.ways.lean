/-! LEVEL 2: the class's search goes on from pipe to pipe, breadth first -/
def PB (st : Nat → Prop) (nk : Nat → Nat → Nat → Prop) (nx : Nat → Nat → Prop) (c i k : Nat) (F : Nat → Nat) (pp : Nat → Option Nat) : Prop :=
  (∀ a b, a < c → b < c → F a = F b → a = b) ∧ (∀ a, a < c → bq_P st nx (i + 1) a F (pp a)) ∧ (∀ a a', a < a' → a' < c → bq_R (pp a) (pp a') (F a) (F a')) ∧
  (∀ b, b < i → ∀ f, nx (F b) f → ∃ a, a < c ∧ F a = f) ∧ (∀ k' f, k' < k → nk (pv (F i)) k' f → ∃ a, a < c ∧ F a = f) ∧ (∀ a, a < c → pp a = some i → ∃ k', k' < k ∧ nk (pv (F i)) k' (F a)) ∧ (∀ e, st e → ∃ a, a < c ∧ F a = e)
section PBs
variable {st : Nat → Prop} {nk : Nat → Nat → Nat → Prop} {nx : Nat → Nat → Prop} {c i k : Nat} {F : Nat → Nat} {pp : Nat → Option Nat}
theorem PB.keep (h : PB st nk nx c i k F pp) {k2 : Nat} (hk : k ≤ k2) (hf : ∀ k' f, k ≤ k' → k' < k2 → nk (pv (F i)) k' f → ∃ a, a < c ∧ F a = f) : PB st nk nx c i k2 F pp := by
  obtain ⟨h1, h2, h3, h4, h5, h6, h7⟩ := h
  refine ⟨h1, h2, h3, h4, fun k' f a b => ?_, fun a ha e => ?_, h7⟩
  · rcases Nat.lt_or_ge k' k with q | q
    · exact h5 k' f q b
    · exact hf k' f q a b
  · obtain ⟨k', a1, a2⟩ := h6 a ha e
    exact ⟨k', by omega, a2⟩
theorem PB.add (h : PB st nk nx c i k F pp) (hi : i < c) {f : Nat} (hf : nk (pv (F i)) k f) (hx : nx (F i) f) (hn : ∀ a, a < c → ¬ F a = f) (hfun : ∀ f', nk (pv (F i)) k f' → f' = f) (hinc : ∀ k' f', k' < k → nk (pv (F i)) k' f' → f' < f) : PB st nk nx (c + 1) i (k + 1) (va_up F c f) (va_up pp c (some i)) := by
  obtain ⟨h1, h2, h3, h4, h5, h6, h7⟩ := h
  have sF : ∀ a, a < c → va_up F c f a = F a := fun a ha => va_up_ne _ _ (by omega)
  have sp : ∀ a, a < c → va_up pp c (some i) a = pp a := fun a ha => va_up_ne _ _ (by omega)
  have up : ∀ y, (∃ a, a < c ∧ F a = y) → ∃ a, a < c + 1 ∧ va_up F c f a = y := by
    rintro y ⟨a, ha, e⟩
    exact ⟨a, by omega, by rw [sF a ha]; exact e⟩
  refine ⟨fun a b ha hb e => ?_, fun a ha => ?_, fun a a' haa ha' => ?_, fun b hb y hy => ?_, fun k' y hk' hy => ?_, fun a ha e => ?_, fun e he => up e (h7 e he)⟩
  · by_cases q : a = c
    · by_cases r : b = c
      · omega
      · rw [q, va_up_self, sF b (by omega)] at e
        exact absurd e.symm (hn b (by omega))
    · by_cases r : b = c
      · rw [r, va_up_self, sF a (by omega)] at e
        exact absurd e (hn a (by omega))
      · rw [sF a (by omega), sF b (by omega)] at e
        exact h1 a b (by omega) (by omega) e
  · by_cases q : a = c
    · subst q
      rw [va_up_self]
      refine ⟨hi, by omega, ?_, ?_, fun b' hb' => ?_⟩
      · rw [va_up_self, sF i hi]; exact hx
      · rw [va_up_self]
        intro z
        obtain ⟨a', ha', e'⟩ := h7 f z
        exact hn a' ha' e'
      · rw [va_up_self, sF b' (by omega)]
        intro z
        obtain ⟨a', ha', e'⟩ := h4 b' hb' f z
        exact hn a' ha' e'
    · have z := h2 a (by omega)
      rw [sp a (by omega)]
      cases e2 : pp a with
      | none =>
        rw [e2] at z
        show st (va_up F c f a)
        rw [sF a (by omega)]
        exact z
      | some b =>
        rw [e2] at z
        obtain ⟨z1, z2, z3, z4, z5⟩ := (show b < a ∧ b < i + 1 ∧ nx (F b) (F a) ∧ ¬ st (F a) ∧ ∀ b', b' < b → ¬ nx (F b') (F a) from z)
        refine ⟨z1, z2, ?_, ?_, fun b' hb' => ?_⟩
        · rw [sF a (by omega), sF b (by omega)]; exact z3
        · rw [sF a (by omega)]; exact z4
        · rw [sF a (by omega), sF b' (by omega)]; exact z5 b' hb'
  · by_cases q : a' = c
    · subst q
      rw [va_up_self, va_up_self, sp a haa, sF a haa]
      cases e2 : pp a with
      | none => exact trivial
      | some b =>
        have z := h2 a haa
        rw [e2] at z
        have zb : b < i + 1 := z.2.1
        show b < i ∨ (b = i ∧ F a < f)
        rcases Nat.lt_or_ge b i with y | y
        · exact Or.inl y
        · have eb : b = i := by omega
          subst eb
          obtain ⟨k', k1, k2⟩ := h6 a haa e2
          exact Or.inr ⟨rfl, hinc k' _ k1 k2⟩
    · rw [sp a (by omega), sp a' (by omega), sF a (by omega), sF a' (by omega)]
      exact h3 a a' haa (by omega)
  · rw [sF b (by omega)] at hy
    exact up y (h4 b hb y hy)
  · rw [sF i hi] at hy
    rcases Nat.lt_or_ge k' k with q | q
    · exact up y (h5 k' y q hy)
    · have : k' = k := by omega
      subst this
      exact ⟨c, by omega, by rw [va_up_self]; exact (hfun y hy).symm⟩
  · rw [sF i hi]
    by_cases q : a = c
    · subst q
      exact ⟨k, by omega, by rw [va_up_self]; exact hf⟩
    · rw [sp a (by omega)] at e
      obtain ⟨k', k1, k2⟩ := h6 a (by omega) e
      exact ⟨k', by omega, by rw [sF a (by omega)]; exact k2⟩
theorem PB.step (h : PB st nk nx c i 4 F pp) (hx : ∀ e f, nx e f ↔ ∃ k, k < 4 ∧ nk (pv e) k f) : PB st nk nx c (i + 1) 0 F pp := by
  obtain ⟨h1, h2, h3, h4, h5, h6, h7⟩ := h
  refine ⟨h1, fun a ha => ?_, h3, fun b hb f hf => ?_, fun k' f hk' => by omega, fun a ha e => ?_, h7⟩
  · have z := h2 a ha
    cases e2 : pp a with
    | none => rw [e2] at z; exact z
    | some b =>
      rw [e2] at z
      obtain ⟨z1, z2, z3⟩ := z
      exact ⟨z1, by omega, z3⟩
  · rcases Nat.lt_or_ge b i with q | q
    · exact h4 b q f hf
    · have : b = i := by omega
      subst this
      obtain ⟨k, k1, k2⟩ := (hx _ _).mp hf
      exact h5 k f k1 k2
  · have z := h2 a ha
    rw [e] at z
    have : i + 1 < i + 1 := z.2.1
    omega
theorem PB.toBI (h : PB st nk nx c c 0 F pp) : BI st nx c c F pp := by
  obtain ⟨h1, h2, h3, h4, -⟩ := h
  refine ⟨h1, fun a ha => ?_, h3, h4⟩
  have z := h2 a ha
  cases e2 : pp a with
  | none => rw [e2] at z; exact z
  | some b =>
    rw [e2] at z
    obtain ⟨z1, z2, z3⟩ := z
    exact ⟨z1, by omega, z3⟩
end PBs
section Ways
variable {T p s : Nat} {K pos tk E po : Nat → Nat} {th bd : Nat → Option Nat} {kind position portsTaken endAtPort thingAtEnd portAtEnd bendAtEnd : Nat → Int32}
theorem nxk_inc (hV : vG2 T p K tk E po th bd) {v k k' f f' : Nat} (hv : v < 2 * p) (hk : k' < k) (h' : nxk K pos tk E po th bd v k' f') (h : nxk K pos tk E po th bd v k f) : f' < f := by
  obtain ⟨-, v1, v2, -⟩ := hV
  rcases h with ⟨a1, a2, a3⟩ | ⟨t, a1, a2, a3, a4, a5⟩
  · omega
  · rcases h' with ⟨b1, b2, b3⟩ | ⟨t', b1, b2, b3, b4, b5⟩
    · rw [a1] at b1; cases b1
    · rw [a1] at b1
      cases b1
      rw [a5, b5]
      exact (v1 t (v2 v t hv a1).1 a2).2.2 k' k hk a3
/-- the ports of a valve or pump -/
theorem s_goLoop (hT : T ≤ 40) (hk : ∀ t, t < T → kind t = nI (K t)) (vK : ∀ t, t < T → K t ≤ 10) (hq : ∀ t, t < T → position t = nI (pos t)) (vq : ∀ t, t < T → pos t ≤ 9) (hG : cG2 T p K tk E po th bd portsTaken endAtPort thingAtEnd portAtEnd bendAtEnd) (hV : vG2 T p K tk E po th bd)
    {st : Nat → Prop} {i v t : Nat} (hv : v < 2 * p) (ht : th v = some t) (hn10 : ¬ K t = 10) {Kc : Int32 → Int32 → (Nat → Int32) → (Nat → Int32) → (Nat → Int32) → Prop}
    (hc : ∀ (c : Nat) (F : Nat → Nat) (pp : Nat → Option Nat) (found previous lastE : Nat → Int32), i < c → pv (F i) = v → SI T p c K th F pp found previous lastE → PB st (nxk K pos tk E po th bd) (NX K pos tk E po th bd) c i (tk t) F pp → Kc (nI (tk t)) (nI c) found previous lastE) :
    ∀ (d k c : Nat) (F : Nat → Nat) (pp : Nat → Option Nat) (found previous lastE : Nat → Int32), k ≤ tk t → tk t - k < d → i < c → pv (F i) = v → SI T p c K th F pp found previous lastE → PB st (nxk K pos tk E po th bd) (NX K pos tk E po th bd) c i k F pp → wl_Wa_goOn_50 thingAtEnd (nI v) portsTaken kind position portAtEnd (nI T) endAtPort Kc d (nI k) (nI c) found previous lastE := by
  have hV' := hV
  obtain ⟨hp, v1, v2, v3⟩ := hV'
  obtain ⟨tT, w1⟩ := v2 v t hv ht
  obtain ⟨y1, y2, y3⟩ := v1 t tT hn10
  obtain ⟨x1, x2⟩ := w1 hn10
  have hKt := vK t tT
  have hp4 := pN_le (K t) (by omega)
  obtain ⟨g1, g2⟩ := hG
  obtain ⟨g3, g4⟩ := g1 t tT hn10
  obtain ⟨g5, g6, g7⟩ := g2 v hv
  have g8 := g7 t ht hn10
  rw [ht] at g5
  have g5' : thingAtEnd v = nI t := g5
  intro d
  induction d with
  | zero => intro k c F pp found previous lastE a1 a2; omega
  | succ d ih =>
    intro k c F pp found previous lastE a1 a2 a3 a4 a5 a6
    unfold wl_Wa_goOn_50
    rw [nI_clamp (n := v) (by omega), g5', nI_clamp (n := t) (by omega), g3, leS (a := tk t) (b := k) (by omega) (by omega), g8]
    refine ⟨vp_in_nI (by omega) (by decide), fun q => ?_, fun q => ⟨vp_in_nI (by omega) (by decide), ?_⟩⟩
    · have : k = tk t := by omega
      subst this
      exact hc c F pp found previous lastE a3 a4 a5 a6
    · have hkt : k < tk t := by omega
      have hnk : PS (K t) (pos t) (po v) k → nxk K pos tk E po th bd (pv (F i)) k (E (4 * t + k)) := by
        intro z; rw [a4]; exact Or.inr ⟨t, ht, hn10, hkt, z, rfl⟩
      refine s_passes (by omega) (hk t tT) (hq t tT) (by omega) (vq t tT) (by omega) (by omega) (fun z => b_1 ?_) (fun z => b_0 ?_)
      · rw [show (4 : Int32) = nI 4 from rfl, pk_mul, nI_add, show t * 4 + k = 4 * t + k by omega, nI_clamp (n := 4 * t + k) (by omega), g4 k hkt, nI_1]
        refine ⟨vp_in_nI (by omega) (by decide), ?_⟩
        have ep : nI v = pI F (some i) := by show nI v = nI (pv (F i)); rw [a4]
        rw [ep]
        refine s_passPipe hT hp hk vK (fun e he => (g2 e he).1) (fun e t' he h' => (v2 e t' he h').1) a5 (y2 k hkt).1 (o := some i) (fun b hb => by cases hb; exact a3) (fun hx => ?_) (fun hx found' previous' lastE' hs => ?_)
        · rw [← ep]
          refine ih (k + 1) c F pp found previous lastE (by omega) (by omega) a3 a4 a5 (a6.keep (by omega) (fun k' f b1 b2 b3 => ?_))
          have : k' = k := by omega
          subst this
          rw [nxk_fun b3 (hnk z)]
          exact hx
        · rw [← ep]
          refine ih (k + 1) (c + 1) _ _ found' previous' lastE' (by omega) (by omega) (by omega) (by rw [va_up_ne _ _ (by omega)]; exact a4) hs ?_
          refine a6.add a3 (hnk z) ⟨k, by omega, hnk z⟩ hx (fun f' h' => nxk_fun h' (hnk z)) (fun k' f' hk' h' => ?_)
          exact nxk_inc hV (by rw [a4]; exact hv) hk' h' (hnk z)
      · rw [nI_1]
        refine ih (k + 1) c F pp found previous lastE (by omega) (by omega) a3 a4 a5 (a6.keep (by omega) (fun k' f b1 b2 b3 => ?_))
        have : k' = k := by omega
        subst this
        rw [a4] at b3
        rcases b3 with ⟨z1, -⟩ | ⟨t', z1, z2, z3, z4, z5⟩
        · rw [ht] at z1; cases z1
        · rw [ht] at z1; cases z1; exact absurd z4 z
end Ways
