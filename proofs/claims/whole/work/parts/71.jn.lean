/-! LEVEL 2: the answers of joined -/
/-- the k-th of those from t on -/
noncomputable def jn (Q : Nat → Prop) : Nat → Nat → Nat → Int32
  | 0, _, _ => -1
  | d + 1, t, k => @ite _ (Q t) (Classical.propDecidable _) (if k = 0 then nI t else jn Q d (t + 1) (k - 1)) (jn Q d (t + 1) k)
section Jn
variable {T p s : Nat} {K pos tk E po : Nat → Nat} {th bd : Nat → Option Nat}
def jQ (p s : Nat) (K pos tk E po : Nat → Nat) (th bd : Nat → Option Nat) (g : Nat) : Prop := ¬ g = s ∧ K g = 10 ∧ RW p s g K pos tk E po th bd
theorem s_j34 (hT : T ≤ 40) (hV : vG2 T p K tk E po th bd) (hs : s < T) {c : Nat} {F : Nat → Nat} {pp : Nat → Option Nat} {found previous lastE : Nat → Int32} (hS : SI T p c K th F pp found previous lastE) (hB : PB (fun e => e < 2 * p ∧ th e = some s) (nxk K pos tk E po th bd) (NX K pos tk E po th bd) c c 0 F pp) {k : Nat} (hk : k < 2 ^ 31) {P : Int32 → Int32 → (Nat → Int32) → (Nat → Int32) → (Nat → Int32) → Prop} {fc : Int32} :
    ∀ (d t b : Nat), t ≤ T → T - t < d → b ≤ k → b ≤ t → P (jn (jQ p s K pos tk E po th bd) (T - t) t (k - b)) fc found previous lastE →
      wl_PG_joined_34 (nI T) (nI s) lastE (nI k) (wk_PG_joined_70_34 fc found previous lastE P) (wk_PG_joined_82_34 fc found previous lastE P) d (nI b) (nI t) := by
  intro d
  induction d with
  | zero => intro t b a1 a2; omega
  | succ d ih =>
    intro t b a1 a2 a3 a4 h
    unfold wl_PG_joined_34
    rw [nI_leI (by omega) (by omega)]
    refine ⟨fun q => ?_, fun q => ?_⟩
    · rw [show T - t = 0 by omega] at h
      exact h
    · have ht : t < T := by omega
      rw [show T - t = (T - (t + 1)) + 1 by omega] at h
      unfold jn at h
      rw [nI_eq (by omega) (by omega), nI_1, nI_1]
      refine ⟨fun q1 => ?_, fun q1 => ?_⟩
      · rw [if_neg (fun z => z.1 q1)] at h
        exact ih (t + 1) b (by omega) (by omega) a3 (by omega) h
      · unfold wp_Wa_lastEnd
        refine s_betweenI (a := 0) (b := 39) (by decide) (by decide) (fun j _ _ _ => b_1 ⟨vp_in_nI (by omega) (by decide), ?_⟩) (fun hn => absurd rfl (hn t (by omega) (by omega)))
        rw [nI_clamp (n := t) (by omega), nI_eq (a := b) (b := k) (by omega) (by omega)]
        have e : lastE t = -1 ↔ ¬ jQ p s K pos tk E po th bd t := by
          by_cases k10 : K t = 10
          · rw [link_iff hT hV hS hB ht k10]
            exact ⟨fun z y => z y.2.2, fun z y => z ⟨q1, k10, y⟩⟩
          · exact ⟨fun _ y => k10 y.2.1, fun _ => hS.2.2.2.2.1 t ht k10⟩
        refine ⟨fun z => ?_, fun z => ?_⟩
        · rw [if_neg (e.mp z)] at h
          exact ih (t + 1) b (by omega) (by omega) a3 (by omega) h
        · rw [if_pos (Classical.not_not.mp (fun y => z (e.mpr y)))] at h
          refine ⟨fun y => ?_, fun y => ?_⟩
          · rw [if_neg (by omega)] at h
            exact ih (t + 1) (b + 1) (by omega) (by omega) (by omega) (by omega) (by rw [show k - (b + 1) = k - b - 1 by omega]; exact h)
          · rw [if_pos (by omega)] at h
            exact h
/-- the answer of joined -/
noncomputable def jA (T p : Nat) (K pos tk E po : Nat → Nat) (th bd : Nat → Option Nat) (x1 x2 : Int32) : Int32 :=
  @ite _ ((∃ s, s < T ∧ K s = 10 ∧ x1 = nI s) ∧ 0 ≤ x2) (Classical.propDecidable _) (jn (jQ p x1.toNatClampNeg K pos tk E po th bd) T 0 x2.toNatClampNeg) (-1)
theorem q_nn {x : Int32} (h : 0 ≤ x) : ∃ k : Nat, k < 2 ^ 31 ∧ x = nI k := by
  rcases q_arg x (n := 2 ^ 31 - 1) (by decide) with ⟨j, hj, e⟩ | ⟨hx, hn⟩
  · exact ⟨j, by omega, e⟩
  · rcases hx with hx | hx
    · rw [Int32.lt_iff_toInt_lt] at hx
      rw [Int32.le_iff_toInt_le] at h
      omega
    · refine ⟨2 ^ 31 - 1, by decide, ?_⟩
      apply Int32.toInt_inj.mp
      rw [Int32.le_iff_toInt_le] at hx
      have := Int32.toInt_lt x
      rw [nI_toInt (by decide)] at hx ⊢
      omega
theorem s_joined (hT : T ≤ 40) {kind position portsTaken endAtPort thingAtEnd portAtEnd bendAtEnd : Nat → Int32} (hk : ∀ t, t < T → kind t = nI (K t)) (vK : ∀ t, t < T → K t ≤ 10) (hq : ∀ t, t < T → position t = nI (pos t)) (vq : ∀ t, t < T → pos t ≤ 9) (hG : cG2 T p K tk E po th bd portsTaken endAtPort thingAtEnd portAtEnd bendAtEnd) (hV : vG2 T p K tk E po th bd)
    {fc : Int32} {found previous lastE : Nat → Int32} {x1 x2 : Int32} {P : Int32 → Int32 → (Nat → Int32) → (Nat → Int32) → (Nat → Int32) → Prop}
    (h : ∀ fc found previous lastE, P (jA T p K pos tk E po th bd x1 x2) fc found previous lastE) :
    wp_PG_joined (nI T) (nI p) kind position portsTaken endAtPort thingAtEnd portAtEnd bendAtEnd fc found previous lastE x1 x2 P := by
  unfold wp_PG_joined
  refine s_isTank hT hk vK (fun s hs ks es => b_1 ?_) (fun hn => b_0 ?_)
  · subst es
    refine ⟨fun q => ?_, fun q => ?_⟩
    · obtain ⟨k, hk2, ek⟩ := q_nn q
      subst ek
      refine s_search hT hk vK hq vq hG hV hs (fun c F pp found previous lastE hS hB => ⟨T + 1, ?_⟩)
      refine s_j34 (pos := pos) hT hV hs hS hB hk2 (T + 1) 0 0 (by omega) (by omega) (by omega) (by omega) ?_
      have := h (nI c) found previous lastE
      unfold jA at this
      rw [if_pos ⟨⟨s, hs, ks, rfl⟩, q⟩, nI_clamp (by omega), nI_clamp hk2] at this
      exact this
    · have := h fc found previous lastE
      unfold jA at this
      rw [if_neg (fun z => q z.2)] at this
      exact this
  · have := h fc found previous lastE
    unfold jA at this
    rw [if_neg (fun z => by obtain ⟨⟨s, z1, z2, z3⟩, -⟩ := z; exact hn s z1 z2 z3)] at this
    exact this
theorem m_j20 {kinds positions taken ends ats ports bends : Nat → Int32} (hT : T ≤ 40) (hk : ∀ t, t < T → kinds t = nI (rk (K t))) (vK : ∀ t, t < T → K t ≤ 10) (hq : ∀ t, t < T → positions t = nI (pos t)) (vq : ∀ t, t < T → pos t ≤ 9)
    (hm : mG2 T p K tk E po th bd taken ends ats ports bends) (hV : vG2 T p K tk E po th bd) (hs : s < T) (ks : K s = 10) {P : Int32 → Int32 → Int32 → (Nat → Int32) → (Nat → Int32) → Prop} {R : Int32} (h : ∀ wide left way, P R wide 0 left way) :
    ∀ (d t k : Nat) (wide : Int32) (left way : Nat → Int32), t ≤ T → T - t < d → k < 2 ^ 31 → R = jn (jQ p s K pos tk E po th bd) (T - t) t k →
      wl_Mo_joined_20 (nI T) (nI s) kinds (nI p) positions ends ats ports bends (wk_Mo_joined_63_20 P) (wk_Mo_joined_75_20 P) d (nI k) (nI t) wide left way := by
  intro d
  induction d with
  | zero => intro t k wide left way a1 a2; omega
  | succ d ih =>
    intro t k wide left way a1 a2 a3 hR
    unfold wl_Mo_joined_20
    rw [nI_leI (by omega) (by omega)]
    refine ⟨fun q => ?_, fun q => ⟨fun y => absurd y (nI_pos a3), fun _ => ?_⟩⟩
    · rw [show T - t = 0 by omega] at hR
      have := h wide left way
      rw [hR] at this
      exact this
    · have ht : t < T := by omega
      rw [show T - t = (T - (t + 1)) + 1 by omega] at hR
      unfold jn at hR
      rw [nI_eq (by omega) (by omega), nI_1]
      refine ⟨fun q1 => ?_, fun q1 => ⟨vp_in_nI (by omega) (by decide), ?_⟩⟩
      · rw [if_neg (fun z => z.1 q1)] at hR
        exact ih (t + 1) k wide left way (by omega) (by omega) a3 hR
      · have hr := rk_le (vK t ht)
        have ek : kinds t = 0 ↔ K t = 10 := by
          rw [hk t ht, show (0 : Int32) = nI 0 from rfl, nI_eq (by omega) (by decide), rk_tank (vK t ht)]
        rw [nI_clamp (n := t) (by omega), ek]
        refine ⟨fun q2 => ?_, fun q2 => ?_⟩
        · rw [if_neg (fun z => q2 z.2.1)] at hR
          exact ih (t + 1) k wide left way (by omega) (by omega) a3 hR
        · refine m_find hT hk vK hq vq hm hV hs ht ks q2 (fun z => q1 z.symm) (fun left way L x hJ hc hx _ _ => b_1 ?_) (fun left L hJ hc h0 => b_0 ?_)
          · rw [if_pos ⟨q1, q2, L, x, hJ, hc, hx⟩] at hR
            refine ⟨fun y => ?_, fun y => ?_⟩
            · have y : ¬ k = 0 := fun z => y (by rw [z]; rfl)
              rw [if_neg y] at hR
              have e : nI k + (-1) = nI (k - 1) := by
                rw [show k = (k - 1) + 1 by omega, ← nI_1, Int32.add_assoc, show (1 : Int32) + -1 = 0 from rfl, Int32.add_zero, Nat.add_sub_cancel]
              rw [e]
              exact ih (t + 1) (k - 1) _ left way (by omega) (by omega) (by omega) hR
            · have y : k = 0 := (nI_eq (b := 0) a3 (by decide)).mp y
              rw [if_pos y] at hR
              have := h (nI (L x)) left way
              rw [hR] at this
              exact this
          · rw [if_neg (fun z => RW_no hJ hc h0 z.2.2)] at hR
            exact ih (t + 1) k _ left way (by omega) (by omega) a3 hR
theorem m_joined (hT : T ≤ 40) {kinds positions taken ends ats ports bends left way : Nat → Int32} {wide thrown : Int32} (hk : ∀ t, t < T → kinds t = nI (rk (K t))) (vK : ∀ t, t < T → K t ≤ 10) (hq : ∀ t, t < T → positions t = nI (pos t)) (vq : ∀ t, t < T → pos t ≤ 9)
    (hm : mG2 T p K tk E po th bd taken ends ats ports bends) (hV : vG2 T p K tk E po th bd) {x1 x2 : Int32} {P : Int32 → Int32 → Int32 → (Nat → Int32) → (Nat → Int32) → Prop}
    (h : ∀ wide left way, P (jA T p K pos tk E po th bd x1 x2) wide 0 left way) :
    wp_Mo_joined (nI T) (nI p) wide thrown kinds positions ends ats ports bends left way x1 x2 P := by
  unfold wp_Mo_joined
  refine m_isTank hT hk vK (fun s hs ks es => ⟨fun _ => ?_, fun q => absurd q q_10⟩) (fun hn => ⟨fun q => absurd rfl q, fun _ => ?_⟩)
  · subst es
    by_cases q : (0 : Int32) ≤ x2
    · obtain ⟨k, hk2, ek⟩ := q_nn q
      subst ek
      refine ⟨T + 1, m_j20 hT hk vK hq vq hm hV hs ks h (T + 1) 0 k wide left way (by omega) (by omega) hk2 ?_⟩
      unfold jA
      rw [if_pos ⟨⟨s, hs, ks, rfl⟩, q⟩, nI_clamp (by omega), nI_clamp hk2]
      rfl
    · have h2 := h wide left way
      unfold jA at h2
      rw [if_neg (fun z => q z.2)] at h2
      refine ⟨1, ?_⟩
      unfold wl_Mo_joined_20
      refine ⟨fun _ => h2, fun _ => ⟨fun _ => h2, fun z => ?_⟩⟩
      exact absurd (Int32.not_lt.mp z) q
  · have h2 := h wide left way
    unfold jA at h2
    rw [if_neg (fun z => by obtain ⟨⟨s, z1, z2, z3⟩, -⟩ := z; exact hn s z1 z2 z3)] at h2
    exact h2
end Jn
