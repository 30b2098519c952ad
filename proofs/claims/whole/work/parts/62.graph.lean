/-! LEVEL 2: pipes, ports, bends. th e: the thing at end e; po e: its port; E (4 t + k): the end at port k of thing t; bd e: the end that a bend joins to e -/
def pv (v : Nat) : Nat := if v % 2 = 0 then v + 1 else v - 1
theorem pv_pv (v : Nat) : pv (pv v) = v := by
  unfold pv
  by_cases h : v % 2 = 0
  · rw [if_pos h, if_neg (by omega)]; omega
  · rw [if_neg h, if_pos (by omega)]; omega
theorem pv_lt {v p : Nat} (h : v < 2 * p) : pv v < 2 * p := by unfold pv; split <;> omega
theorem pv_half (v : Nat) : pv v / 2 = v / 2 := by unfold pv; split <;> omega
theorem pv_inj {a b : Nat} (h : pv a = pv b) : a = b := by rw [← pv_pv a, h, pv_pv]
theorem q_xor : ∀ v, v < 120 → nI v ^^^ 1 = nI (pv v) := by decide +kernel
def oI (o : Option Nat) : Int32 := match o with
  | none => -1
  | some t => nI t
def pN (k : Nat) : Nat := ([2, 3, 3, 2, 4, 1, 4, 2, 2, 2] : List Nat).getD k 0
theorem pN_le : ∀ k, k < 10 → pN k ≤ 4 := by decide
theorem pN_F : ∀ k, k < 10 → portsF k = nI (pN k) := by decide +kernel
theorem pN_R : ∀ k, k < 10 → roomF (rk k) = nI (pN k) := by decide +kernel
def cG2 (T p : Nat) (K tk E po : Nat → Nat) (th bd : Nat → Option Nat) (portsTaken endAtPort thingAtEnd portAtEnd bendAtEnd : Nat → Int32) : Prop :=
  (∀ t, t < T → ¬ K t = 10 → portsTaken t = nI (tk t) ∧ ∀ k, k < tk t → endAtPort (4 * t + k) = nI (E (4 * t + k))) ∧
  (∀ e, e < 2 * p → thingAtEnd e = oI (th e) ∧ bendAtEnd e = oI (bd e) ∧ ∀ t, th e = some t → ¬ K t = 10 → portAtEnd e = nI (po e))
def mG2 (T p : Nat) (K tk E po : Nat → Nat) (th bd : Nat → Option Nat) (taken ends ats ports bends : Nat → Int32) : Prop :=
  (∀ t, t < T → ¬ K t = 10 → taken t = nI (tk t) ∧ (∀ k, k < tk t → ends (4 * t + k) = nI (E (4 * t + k))) ∧ ∀ k, tk t ≤ k → k < 4 → ends (4 * t + k) = -1) ∧
  (∀ t, t < T → K t = 10 → ∃ c, c ≤ 2 * p ∧ taken t = nI c) ∧
  (∀ e, e < 2 * p → ats e = oI (th e) ∧ bends e = oI (bd e) ∧ ∀ t, th e = some t → ¬ K t = 10 → ports e = nI (po e))
def vG2 (T p : Nat) (K tk E po : Nat → Nat) (th bd : Nat → Option Nat) : Prop :=
  p ≤ 60 ∧ (∀ t, t < T → ¬ K t = 10 → tk t ≤ pN (K t) ∧ (∀ k, k < tk t → E (4 * t + k) < 2 * p ∧ th (E (4 * t + k)) = some t ∧ po (E (4 * t + k)) = k) ∧ ∀ k k', k < k' → k' < tk t → E (4 * t + k) < E (4 * t + k')) ∧
  (∀ e t, e < 2 * p → th e = some t → t < T ∧ (¬ K t = 10 → po e < tk t ∧ E (4 * t + po e) = e)) ∧
  (∀ e f, e < 2 * p → bd e = some f → f < 2 * p ∧ bd f = some e ∧ th e = none ∧ ¬ f / 2 = e / 2)
/-- the end f that comes next behind end v, at port k -/
def nxk (K pos tk E po : Nat → Nat) (th bd : Nat → Option Nat) (v k f : Nat) : Prop :=
  (th v = none ∧ k = 0 ∧ bd v = some f) ∨ ∃ t, th v = some t ∧ ¬ K t = 10 ∧ k < tk t ∧ PS (K t) (pos t) (po v) k ∧ f = E (4 * t + k)
/-- the pipe that a way takes at end f may follow that which it took at end e -/
def NX (K pos tk E po : Nat → Nat) (th bd : Nat → Option Nat) (e f : Nat) : Prop := ∃ k, k < 4 ∧ nxk K pos tk E po th bd (pv e) k f
section Graph
variable {T p : Nat} {K pos tk E po : Nat → Nat} {th bd : Nat → Option Nat}
/-- the reference's next -/
theorem m_next {kinds positions taken ends ats ports bends : Nat → Int32} (hT : T ≤ 40) (hk : ∀ t, t < T → kinds t = nI (rk (K t))) (vK : ∀ t, t < T → K t ≤ 10) (hq : ∀ t, t < T → positions t = nI (pos t)) (vq : ∀ t, t < T → pos t ≤ 9)
    (hm : mG2 T p K tk E po th bd taken ends ats ports bends) (hV : vG2 T p K tk E po th bd) {v k : Nat} (hv : v < 2 * p) (vk : k < 4) {P : Int32 → Prop}
    (hS : ∀ f, nxk K pos tk E po th bd v k f → P (nI f)) (hN : (∀ f, ¬ nxk K pos tk E po th bd v k f) → P (-1)) : wp_Mo_next kinds positions ends ats ports bends (nI v) (nI k) P := by
  obtain ⟨hp, v1, v2, v3⟩ := hV
  obtain ⟨m1, -, m3⟩ := hm
  obtain ⟨a1, a2, a3⟩ := m3 v hv
  have hin : vp_in (nI v) 120 := vp_in_nI (by omega) (by decide)
  unfold wp_Mo_next wj_Mo_next_113
  rw [nI_clamp (n := v) (by omega), a1, a2]
  refine ⟨hin, ?_⟩
  cases e : th v with
  | none =>
    refine ⟨fun c => absurd rfl c, fun _ => ⟨fun c => hN ?_, fun c => ⟨hin, ?_⟩⟩⟩
    · rintro f (⟨-, z, -⟩ | ⟨t, z, -⟩)
      · exact c (by rw [z]; rfl)
      · rw [e] at z; cases z
    · have c0 : k = 0 := (qe_0 (n := k) (by omega)).mp c
      cases e2 : bd v with
      | none =>
        refine hN ?_
        rintro f (⟨-, -, z⟩ | ⟨t, z, -⟩)
        · rw [e2] at z; cases z
        · rw [e] at z; cases z
      | some f => exact hS f (Or.inl ⟨e, c0, e2⟩)
  | some t =>
    obtain ⟨ht, w1⟩ := v2 v t hv e
    have hK := vK t ht
    have hQ := vq t ht
    have hr := rk_le hK
    have no1 : ∀ f, nxk K pos tk E po th bd v k f → ¬ K t = 10 ∧ k < tk t ∧ PS (K t) (pos t) (po v) k ∧ f = E (4 * t + k) := by
      rintro f (⟨z, -⟩ | ⟨t', z, z2⟩)
      · rw [e] at z; cases z
      · rw [e] at z; cases z; exact z2
    have hit : vp_in (nI t) 40 := vp_in_nI (by omega) (by decide)
    have hi4 : vp_in (4 * nI t + nI k) 160 ∧ (4 * nI t + nI k).toNatClampNeg = 4 * t + k := by
      rw [show (4 : Int32) = nI 4 from rfl, pk_mul, nI_add]
      exact ⟨vp_in_nI (by omega) (by decide), nI_clamp (by omega)⟩
    have eo : oI (some t) = nI t := rfl
    rw [eo, nI_clamp (n := t) (by omega), hi4.2, hk t ht, hq t ht]
    refine ⟨fun _ => ⟨hit, fun c => hN ?_, fun c => ⟨hi4.1, fun c2 => hN ?_, fun c2 => ⟨hin, fun c3 => ⟨hit, fun c4 => ⟨hit, hit, hin, ?_⟩, fun c4 => ⟨hin, fun c5 => ?_, fun c5 => ?_⟩⟩, fun c3 => hN ?_⟩⟩⟩, fun c => absurd c (q_m1 (by omega))⟩
    · intro f hf
      exact (no1 f hf).1 ((rk_tank hK).mp ((qe_0 (n := rk (K t)) (by omega)).mp c))
    · intro f hf
      obtain ⟨z1, z2, -, -⟩ := no1 f hf
      obtain ⟨-, z4, -⟩ := m1 t ht z1
      rw [z4 k z2] at c2
      obtain ⟨-, z5, -⟩ := v1 t ht z1
      have := (z5 k z2).1
      exact q_m1 (by omega) c2
    · have hn10 : ¬ K t = 10 := fun z => c ((qe_0 (n := rk (K t)) (by omega)).mpr ((rk_tank hK).mpr z))
      have hn9 : ¬ K t = 9 := fun z => c4 ((qe_1 (n := rk (K t)) (by omega)).mpr ((rk_pump hK).mpr z))
      obtain ⟨z3, z4, z5⟩ := m1 t ht hn10
      obtain ⟨y1, y2, y3⟩ := v1 t ht hn10
      obtain ⟨x1, x2⟩ := w1 hn10
      have hp4 := pN_le (K t) (by omega)
      have hkt : k < tk t := by
        rcases Nat.lt_or_ge k (tk t) with z | z
        · exact z
        · exact absurd (z5 k z vk) c2
      rw [a3 t e hn10] at c3 ⊢
      have hne : ¬ po v = k := fun z => c3 (by rw [z])
      rw [rk_of (by omega), show (2 : Int32) = nI 2 from rfl, pk_sub (by omega), Nat.add_sub_cancel]
      have h2 : K t = 2 → po v < 3 ∧ k < 3 := by
        intro z
        rw [z] at y1
        have : pN 2 = 3 := rfl
        omega
      refine m_passes (by omega) hQ h2 (by omega) vk hne (fun z => ⟨fun q => absurd q q_10, fun _ => ⟨hi4.1, ?_⟩⟩) (fun z => ⟨fun _ => hN ?_, fun q => absurd rfl q⟩)
      · rw [z4 k hkt]
        exact hS _ (Or.inr ⟨t, e, hn10, hkt, z, rfl⟩)
      · intro f hf
        exact z (no1 f hf).2.2.1
    · have h9 : K t = 9 := (rk_pump hK).mp ((qe_1 (n := rk (K t)) (by omega)).mp c4)
      rw [a3 t e (by omega)] at c5
      refine ⟨fun _ => hN ?_, fun q => absurd rfl q⟩
      intro f hf
      obtain ⟨-, -, z, -⟩ := no1 f hf
      rw [h9, ps_9] at z
      obtain ⟨z1, z2, -⟩ := v1 t ht (by omega)
      obtain ⟨x1, -⟩ := w1 (by omega)
      have : pN (K t) = 2 := by rw [h9]; rfl
      exact c5 ((qe_0 (n := po v) (by omega)).mpr (by omega))
    · have h9 : K t = 9 := (rk_pump hK).mp ((qe_1 (n := rk (K t)) (by omega)).mp c4)
      obtain ⟨z3, z4, z5⟩ := m1 t ht (by omega)
      obtain ⟨y1, y2, -⟩ := v1 t ht (by omega)
      obtain ⟨x1, -⟩ := w1 (by omega)
      have hp2 : pN (K t) = 2 := by rw [h9]; rfl
      rw [a3 t e (by omega)] at c5 c3
      have hpo : po v = 0 := (qe_0 (n := po v) (by omega)).mp c5
      have hkt : k < tk t := by
        rcases Nat.lt_or_ge k (tk t) with z | z
        · exact z
        · exact absurd (z5 k z vk) c2
      have hne : ¬ k = po v := fun z => c3 (by rw [z])
      refine ⟨fun q => absurd q q_10, fun _ => ⟨hi4.1, ?_⟩⟩
      rw [z4 k hkt]
      refine hS _ (Or.inr ⟨t, e, by omega, hkt, ?_, rfl⟩)
      rw [h9, ps_9]
      omega
    · intro f hf
      obtain ⟨z1, z2, z3, -⟩ := no1 f hf
      rw [a3 t e z1] at c3
      have z4 := pN_le (K t) (by omega)
      obtain ⟨y1, -, -⟩ := v1 t ht z1
      obtain ⟨x1, -⟩ := w1 z1
      have : k = po v := (eqS (by omega) (by omega)).mp c3
      exact ps_ne z3 this.symm
end Graph
