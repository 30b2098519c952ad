/-! LEVEL 2: addEnd, join -/
section Join
variable {T n : Nat} {K tk E po : Nat → Nat} {th bd : Nat → Option Nat} {o : Option Nat}
theorem cH_plain {portsTaken endAtPort thingAtEnd portAtEnd bendAtEnd : Nat → Int32} (hC : cH T n K tk E po th bd portsTaken endAtPort thingAtEnd portAtEnd bendAtEnd) (ho : ∀ t, o = some t → K t = 10) (v : Int32) : cH T (n + 1) K tk E po (va_up th n o) (va_up bd n none) portsTaken endAtPort (upd thingAtEnd n (oI o)) (upd portAtEnd n v) (upd bendAtEnd n (-1)) := by
  obtain ⟨h1, h2⟩ := hC
  refine ⟨h1, fun e he => ?_⟩
  by_cases q : e = n
  · subst q
    rw [pk_us, pk_us, va_up_self, va_up_self]
    exact ⟨rfl, rfl, fun t z k => absurd (ho t z) k⟩
  · rw [pk_un q, pk_un q, pk_un q, va_up_ne _ _ q, va_up_ne _ _ q]
    exact h2 e (by omega)
theorem cH_port {portsTaken endAtPort thingAtEnd portAtEnd bendAtEnd : Nat → Int32} (hC : cH T n K tk E po th bd portsTaken endAtPort thingAtEnd portAtEnd bendAtEnd) (hV : vH T n K tk E po th bd) (vK : ∀ t, t < T → K t ≤ 10) {t0 : Nat} (f1 : t0 < T) (k10 : ¬ K t0 = 10) (f2 : tk t0 < pN (K t0)) (v : Int32) : cH T (n + 1) K (va_up tk t0 (tk t0 + 1)) (va_up E (4 * t0 + tk t0) n) (va_up po n (tk t0)) (va_up th n (some t0)) (va_up bd n none) (upd portsTaken t0 (nI (tk t0 + 1))) (upd endAtPort (4 * t0 + tk t0) (nI n)) (upd thingAtEnd n (nI t0)) (upd (upd portAtEnd n v) n (nI (tk t0))) (upd bendAtEnd n (-1)) := by
  obtain ⟨h1, h2⟩ := hC
  have p4 : pN (K t0) ≤ 4 := pN_le _ (by have := vK t0 f1; omega)
  refine ⟨fun t ht hk => ?_, fun e he => ?_⟩
  · obtain ⟨a1, a2⟩ := h1 t ht hk
    have q4 : pN (K t) ≤ 4 := pN_le _ (by have := vK t ht; omega)
    have := (hV.2.1 t ht hk).1
    by_cases q : t = t0
    · subst q
      rw [pk_us, va_up_self]
      refine ⟨rfl, fun k hk' => ?_⟩
      by_cases r : k = tk t
      · rw [r, pk_us, va_up_self]
      · rw [pk_un (show ¬ 4 * t + k = 4 * t + tk t by omega), va_up_ne _ _ (show ¬ 4 * t + k = 4 * t + tk t by omega)]
        exact a2 k (by omega)
    · rw [pk_un q, va_up_ne _ _ q]
      refine ⟨a1, fun k hk' => ?_⟩
      rw [pk_un (show ¬ 4 * t + k = 4 * t0 + tk t0 by omega), va_up_ne _ _ (show ¬ 4 * t + k = 4 * t0 + tk t0 by omega)]
      exact a2 k hk'
  · by_cases q : e = n
    · subst q
      rw [pk_us, pk_us, pk_us, va_up_self, va_up_self, va_up_self]
      exact ⟨rfl, rfl, fun _ _ _ => rfl⟩
    · rw [pk_un q, pk_un q, pk_un q, pk_un q, va_up_ne _ _ q, va_up_ne _ _ q, va_up_ne _ _ q]
      exact h2 e (by omega)
theorem c_addEnd {kind portsTaken endAtPort thingAtEnd portAtEnd bendAtEnd : Nat → Int32} (hT : T ≤ 40) (hk : ∀ t, t < T → kind t = nI (K t)) (hC : cH T n K tk E po th bd portsTaken endAtPort thingAtEnd portAtEnd bendAtEnd) (hV : vH T n K tk E po th bd) (vK : ∀ t, t < T → K t ≤ 10) (hn : n < 120) (hf : fit T K tk o) {P : (Nat → Int32) → (Nat → Int32) → (Nat → Int32) → (Nat → Int32) → (Nat → Int32) → Prop}
    (h : ∀ a1 a2 a3 a4 a5, cH T (n + 1) K (nT K tk o) (nE K tk E n o) (nP K tk po n o) (va_up th n o) (va_up bd n none) a1 a2 a3 a4 a5 → P a1 a2 a3 a4 a5) : wp_Pl_addEnd (nI T) kind portsTaken endAtPort thingAtEnd portAtEnd bendAtEnd (nI n) (oI o) P := by
  have i0 : vp_in (nI n) 120 := vp_in_nI (by omega) (by decide)
  unfold wp_Pl_addEnd
  rw [nI_clamp (n := n) (by omega)]
  refine ⟨i0, i0, i0, ?_⟩
  cases o with
  | none =>
    refine s_isThing (by omega) (fun t ht e => absurd e.symm (q_m1 (by omega))) (fun _ => b_0 (h _ _ _ _ _ (cH_plain hC (fun t z => by cases z) (-1))))
  | some t0 =>
    obtain ⟨f1, f2⟩ := hf t0 rfl
    refine s_isThing (by omega) (fun t ht e => b_1 ?_) (fun hz => absurd rfl (hz t0 f1))
    have it : vp_in (oI (some t0)) 40 := vp_in_nI (n := t0) (by omega) (by decide)
    have ec : (oI (some t0)).toNatClampNeg = t0 := nI_clamp (by omega)
    rw [ec, hk t0 f1, show (10 : Int32) = nI 10 from rfl, nI_eq (by have := vK t0 f1; omega) (by decide)]
    refine ⟨it, fun k10 => ?_, fun k10 => ⟨it, ?_⟩⟩
    · refine h _ _ _ _ _ ?_
      unfold nT nE nP
      simp only [if_pos k10]
      exact cH_plain hC (fun t z => by cases z; exact k10) (-1)
    · have f2 := f2 k10
      have p4 : pN (K t0) ≤ 4 := pN_le _ (by have := vK t0 f1; omega)
      rw [(hC.1 t0 f1 k10).1, show (4 : Int32) = nI 4 from rfl, nI_ltI (by omega) (by decide)]
      refine ⟨fun _ => ?_, fun z => absurd (by omega) z⟩
      have em : oI (some t0) * nI 4 + nI (tk t0) = nI (4 * t0 + tk t0) := by
        show nI t0 * nI 4 + nI (tk t0) = _
        rw [pk_mul, nI_add, show t0 * 4 + tk t0 = 4 * t0 + tk t0 by omega]
      rw [em, nI_clamp (n := 4 * t0 + tk t0) (by omega), nI_1]
      refine ⟨it, i0, it, vp_in_nI (by omega) (by decide), it, it, h _ _ _ _ _ ?_⟩
      unfold nT nE nP
      simp only [if_neg k10]
      exact cH_port hC hV vK f1 k10 f2 (-1)
theorem mH_plain {taken ends ats ports bends : Nat → Int32} (hC : mH T n K tk E po th bd taken ends ats ports bends) (v : Int32) : mH T (n + 1) K tk E po (va_up th n none) (va_up bd n none) taken ends (upd ats n (-1)) (upd ports n v) (upd bends n (-1)) := by
  obtain ⟨h1, h3, h2⟩ := hC
  refine ⟨h1, fun t ht k => ?_, fun e he => ?_⟩
  · obtain ⟨c, c1, c2⟩ := h3 t ht k
    exact ⟨c, by omega, c2⟩
  by_cases q : e = n
  · subst q
    rw [pk_us, pk_us, va_up_self, va_up_self]
    exact ⟨rfl, rfl, fun t z k => by cases z⟩
  · rw [pk_un q, pk_un q, pk_un q, va_up_ne _ _ q, va_up_ne _ _ q]
    exact h2 e (by omega)
theorem mH_tank {taken ends ats ports bends : Nat → Int32} (hC : mH T n K tk E po th bd taken ends ats ports bends) {t0 : Nat} (k10 : K t0 = 10) (f1 : t0 < T) (v w : Int32) : mH T (n + 1) K tk E po (va_up th n (some t0)) (va_up bd n none) (upd taken t0 (taken t0 + 1)) ends (upd ats n (nI t0)) (upd (upd ports n v) n w) (upd bends n (-1)) := by
  obtain ⟨h1, h3, h2⟩ := hC
  refine ⟨fun t ht hk => ?_, fun t ht k => ?_, fun e he => ?_⟩
  · rw [pk_un (fun z => hk (by rw [z]; exact k10))]
    exact h1 t ht hk
  · by_cases q : t = t0
    · subst q
      obtain ⟨c, c1, c2⟩ := h3 t ht k
      rw [pk_us, c2, nI_1]
      exact ⟨c + 1, by omega, rfl⟩
    · rw [pk_un q]
      obtain ⟨c, c1, c2⟩ := h3 t ht k
      exact ⟨c, by omega, c2⟩
  · by_cases q : e = n
    · subst q
      rw [pk_us, pk_us, va_up_self, va_up_self]
      exact ⟨rfl, rfl, fun t z k => by cases z; exact absurd k10 k⟩
    · rw [pk_un q, pk_un q, pk_un q, pk_un q, va_up_ne _ _ q, va_up_ne _ _ q]
      exact h2 e (by omega)
theorem mH_port {taken ends ats ports bends : Nat → Int32} (hC : mH T n K tk E po th bd taken ends ats ports bends) (hV : vH T n K tk E po th bd) (vK : ∀ t, t < T → K t ≤ 10) {t0 : Nat} (f1 : t0 < T) (k10 : ¬ K t0 = 10) (f2 : tk t0 < pN (K t0)) (v : Int32) : mH T (n + 1) K (va_up tk t0 (tk t0 + 1)) (va_up E (4 * t0 + tk t0) n) (va_up po n (tk t0)) (va_up th n (some t0)) (va_up bd n none) (upd taken t0 (nI (tk t0 + 1))) (upd ends (4 * t0 + tk t0) (nI n)) (upd ats n (nI t0)) (upd (upd ports n v) n (nI (tk t0))) (upd bends n (-1)) := by
  obtain ⟨h1, h3, h2⟩ := hC
  have p4 : pN (K t0) ≤ 4 := pN_le _ (by have := vK t0 f1; omega)
  refine ⟨fun t ht hk => ?_, fun t ht k => ?_, fun e he => ?_⟩
  · obtain ⟨a1, a2, a3⟩ := h1 t ht hk
    have q4 : pN (K t) ≤ 4 := pN_le _ (by have := vK t ht; omega)
    have := (hV.2.1 t ht hk).1
    by_cases q : t = t0
    · subst q
      rw [pk_us, va_up_self]
      refine ⟨rfl, fun k hk' => ?_, fun k hk' h4 => ?_⟩
      · by_cases r : k = tk t
        · rw [r, pk_us, va_up_self]
        · rw [pk_un (show ¬ 4 * t + k = 4 * t + tk t by omega), va_up_ne _ _ (show ¬ 4 * t + k = 4 * t + tk t by omega)]
          exact a2 k (by omega)
      · rw [pk_un (show ¬ 4 * t + k = 4 * t + tk t by omega)]
        exact a3 k (by omega) h4
    · rw [pk_un q, va_up_ne _ _ q]
      refine ⟨a1, fun k hk' => ?_, fun k hk' h4 => ?_⟩
      · rw [pk_un (show ¬ 4 * t + k = 4 * t0 + tk t0 by omega), va_up_ne _ _ (show ¬ 4 * t + k = 4 * t0 + tk t0 by omega)]
        exact a2 k hk'
      · rw [pk_un (show ¬ 4 * t + k = 4 * t0 + tk t0 by omega)]
        exact a3 k hk' h4
  · rw [pk_un (fun z => k10 (by rw [← z]; exact k))]
    obtain ⟨c, c1, c2⟩ := h3 t ht k
    exact ⟨c, by omega, c2⟩
  · by_cases q : e = n
    · subst q
      rw [pk_us, pk_us, pk_us, va_up_self, va_up_self, va_up_self]
      exact ⟨rfl, rfl, fun _ _ _ => rfl⟩
    · rw [pk_un q, pk_un q, pk_un q, pk_un q, va_up_ne _ _ q, va_up_ne _ _ q, va_up_ne _ _ q]
      exact h2 e (by omega)
theorem m_join {kinds taken ends ats ports bends : Nat → Int32} (hT : T ≤ 40) (hk : ∀ t, t < T → kinds t = nI (rk (K t))) (hC : mH T n K tk E po th bd taken ends ats ports bends) (hV : vH T n K tk E po th bd) (vK : ∀ t, t < T → K t ≤ 10) (hn : n < 120) (hf : fit T K tk o) {P : (Nat → Int32) → (Nat → Int32) → (Nat → Int32) → (Nat → Int32) → (Nat → Int32) → Prop}
    (h : ∀ a1 a2 a3 a4 a5, mH T (n + 1) K (nT K tk o) (nE K tk E n o) (nP K tk po n o) (va_up th n o) (va_up bd n none) a1 a2 a3 a4 a5 → P a1 a2 a3 a4 a5) : wp_Mo_join kinds taken ends ats ports bends (nI n) (oI o) P := by
  have i0 : vp_in (nI n) 120 := vp_in_nI (by omega) (by decide)
  unfold wp_Mo_join
  rw [nI_clamp (n := n) (by omega)]
  refine ⟨i0, i0, i0, ?_⟩
  cases o with
  | none => exact ⟨fun _ => h _ _ _ _ _ (mH_plain hC (-1)), fun z => absurd rfl z⟩
  | some t0 =>
    obtain ⟨f1, f2⟩ := hf t0 rfl
    refine ⟨fun z => absurd z (q_m1 (j := t0) (by omega)), fun _ => ?_⟩
    have it : vp_in (oI (some t0)) 40 := vp_in_nI (n := t0) (by omega) (by decide)
    have ec : (oI (some t0)).toNatClampNeg = t0 := nI_clamp (by omega)
    have hr := rk_le (vK t0 f1)
    have ek : kinds t0 = 0 ↔ K t0 = 10 := by
      rw [hk t0 f1, show (0 : Int32) = nI 0 from rfl, nI_eq (by omega) (by decide), rk_tank (vK t0 f1)]
    rw [ec, ek]
    refine ⟨it, i0, it, fun k10 => ⟨it, it, ?_⟩, fun k10 => ⟨it, ?_⟩⟩
    · refine h _ _ _ _ _ ?_
      unfold nT nE nP
      simp only [if_pos k10]
      exact mH_tank hC k10 f1 (-1) _
    · have f2 := f2 k10
      have p4 : pN (K t0) ≤ 4 := pN_le _ (by have := vK t0 f1; omega)
      have em : (4 : Int32) * oI (some t0) + nI (tk t0) = nI (4 * t0 + tk t0) := by
        show (4 : Int32) * nI t0 + nI (tk t0) = _
        rw [show (4 : Int32) = nI 4 from rfl, pk_mul, nI_add]
      rw [(hC.1 t0 f1 k10).1, em, nI_clamp (n := 4 * t0 + tk t0) (by omega), nI_1]
      refine ⟨vp_in_nI (by omega) (by decide), it, it, h _ _ _ _ _ ?_⟩
      unfold nT nE nP
      simp only [if_neg k10]
      exact mH_port hC hV vK f1 k10 f2 (-1)
end Join
