/-! LEVEL 2: pipe -/
section Pipe
variable {T p : Nat} {K tk E po : Nat → Nat} {th bd : Nat → Option Nat}
theorem fm_fit {m : Nat} (h1 : 1 ≤ m) {o : Option Nat} (h : fm T K tk m o) : fit T K tk o := fun t z => ⟨(h t z).1, fun k => by have := (h t z).2 k; omega⟩
theorem okP_fit {o1 o2 : Option Nat} (ok : okP T K tk o1 o2) : fit T K (nT K tk o1) o2 := by
  intro t z
  obtain ⟨a1, a2⟩ := ok.2.2 t z
  refine ⟨a1, fun k => ?_⟩
  have := a2 k
  cases o1 with
  | none => show tk t < _; omega
  | some s =>
    unfold nT
    by_cases k10 : K s = 10
    · simp only [if_pos k10]; omega
    · simp only [if_neg k10]
      by_cases q : t = s
      · subst q
        have := (ok.1 z.symm t rfl).2 k
        rw [va_up_self]
        omega
      · rw [va_up_ne _ _ q]; omega
/-- the bounds with one more pipe -/
theorem vG2_pipe (hV : vG2 T p K tk E po th bd) (vK : ∀ t, t < T → K t ≤ 10) (hp : p < 60) {o1 o2 : Option Nat} (ok : okP T K tk o1 o2) : vG2 T (p + 1) K (nT K (nT K tk o1) o2) (nE K (nT K tk o1) (nE K tk E (2 * p) o1) (2 * p + 1) o2) (nP K (nT K tk o1) (nP K tk po (2 * p) o1) (2 * p + 1) o2) (va_up (va_up th (2 * p) o1) (2 * p + 1) o2) (va_up (va_up bd (2 * p) none) (2 * p + 1) none) := by
  have h1 : 2 * p < 120 := by omega
  have h2 : 2 * p + 1 < 120 := by omega
  have a := vH_add (vG2_vH hV) vK h1 (fm_fit (by decide) ok.2.1)
  have b := vH_add a vK h2 (okP_fit ok)
  exact vH_vG2 (p := p + 1) b
theorem c_pipe {kind portsTaken endAtPort pipeLitres thingAtEnd portAtEnd bendAtEnd : Nat → Int32} (hT : T ≤ 40) (hk : ∀ t, t < T → kind t = nI (K t)) (vK : ∀ t, t < T → K t ≤ 10) (hC : cG2 T p K tk E po th bd portsTaken endAtPort thingAtEnd portAtEnd bendAtEnd) (hV : vG2 T p K tk E po th bd) {x1 x2 : Int32} {x3 : Int64} {P : Int32 → Int32 → (Nat → Int32) → (Nat → Int32) → (Nat → Int32) → (Nat → Int32) → (Nat → Int32) → (Nat → Int32) → Prop}
    (h1 : ∀ o1 o2 m, x1 = oI o1 → x2 = oI o2 → x3 = lN m → 1 ≤ m → m ≤ 200 → okP T K tk o1 o2 → p < 60 → ∀ a1 a2 a3 a4 a5, cG2 T (p + 1) K (nT K (nT K tk o1) o2) (nE K (nT K tk o1) (nE K tk E (2 * p) o1) (2 * p + 1) o2) (nP K (nT K tk o1) (nP K tk po (2 * p) o1) (2 * p + 1) o2) (va_up (va_up th (2 * p) o1) (2 * p + 1) o2) (va_up (va_up bd (2 * p) none) (2 * p + 1) none) a1 a2 a3 a4 a5 → P (nI p) (nI (p + 1)) a1 a2 (upd pipeLitres p (nI m)) a3 a4 a5)
    (h2 : ∀ o1 o2 m, x1 = oI o1 → x2 = oI o2 → x3 = lN m → 1 ≤ m → m ≤ 200 → okP T K tk o1 o2 → p = 60 → P (-2) (nI p) portsTaken endAtPort pipeLitres thingAtEnd portAtEnd bendAtEnd)
    (h0 : (∀ o1 o2 m, x1 = oI o1 → x2 = oI o2 → x3 = lN m → 1 ≤ m → m ≤ 200 → ¬ okP T K tk o1 o2) → P (-1) (nI p) portsTaken endAtPort pipeLitres thingAtEnd portAtEnd bendAtEnd) : wp_PG_pipe (nI T) (nI p) kind portsTaken endAtPort pipeLitres thingAtEnd portAtEnd bendAtEnd x1 x2 x3 P := by
  have hp := hV.1
  unfold wp_PG_pipe wp_Pl_addPipe
  refine s_betweenL (a := 1) (b := 200) (by decide) (by decide) (fun m u1 u2 e3 => b_1n ?_) (fun hn => b_0n (h0 (fun _ _ m _ _ e3 u1 u2 _ => hn m u1 u2 e3)))
  have hpt : ∀ t, t < T → ¬ K t = 10 → portsTaken t = nI (tk t) := fun t ht k => (hC.1 t ht k).1
  have vpt : ∀ t, t < T → ¬ K t = 10 → tk t ≤ pN (K t) := fun t ht k => (hV.2.1 t ht k).1
  have lt : ∀ (m : Nat) (o : Option Nat), fm T K tk m o → ∀ t, o = some t → t < 1000 := fun m o h t z => by have := (h t z).1; omega
  have go : ∀ o1 o2, x1 = oI o1 → x2 = oI o2 → okP T K tk o1 o2 → _ := fun o1 o2 e1 e2 ok => (show ((nI p < (60 : Int32) → (vp_in (nI p) 60 ∧ wp_Pl_addEnd (nI T) kind portsTaken endAtPort thingAtEnd portAtEnd bendAtEnd (2 * nI p) x1 (fun a1 a2 a3 a4 a5 => wp_Pl_addEnd (nI T) kind a1 a2 a3 a4 a5 ((2 * nI p) + 1) x2 (fun c1 c2 c3 c4 c5 => P (nI p) (nI p + 1) c1 c2 (upd pipeLitres (nI p).toNatClampNeg x3.toInt32) c3 c4 c5)))) ∧ (¬ nI p < (60 : Int32) → P (-2) (nI p) portsTaken endAtPort pipeLitres thingAtEnd portAtEnd bendAtEnd)) by
    rw [show (60 : Int32) = nI 60 from rfl, nI_ltI (by omega) (by decide)]
    refine ⟨fun hlt => ⟨vp_in_nI (by omega) (by decide), ?_⟩, fun hlt => h2 o1 o2 m e1 e2 e3 u1 u2 ok (by omega)⟩
    have m2 : (2 : Int32) * nI p = nI (2 * p) := by rw [show (2 : Int32) = nI 2 from rfl, pk_mul]
    rw [m2, nI_1, nI_1, nI_clamp (n := p) (by omega), e3, lN_i, e1, e2]
    have f1 := fm_fit (by decide) ok.2.1
    refine c_addEnd hT hk hC (vG2_vH hV) vK (by omega) f1 (fun a1 a2 a3 a4 a5 hA => ?_)
    refine c_addEnd hT hk hA (vH_add (vG2_vH hV) vK (by omega) f1) vK (by omega) (okP_fit ok) (fun c1 c2 c3 c4 c5 hB => ?_)
    exact h1 o1 o2 m e1 e2 e3 u1 u2 ok hlt c1 c2 c3 c4 c5 hB)
  refine ⟨fun hne => ?_, fun heq => ?_⟩
  · refine s_takesEnds (m := 1) hT hk vK hpt vpt (by decide) (fun o1 e1 f1 => b_1 ?_) (fun hn => b_0 (h0 (fun o1 o2 _ e1 _ _ _ _ ok => hn o1 e1 ok.2.1)))
    refine s_takesEnds (m := 1) hT hk vK hpt vpt (by decide) (fun o2 e2 f2 => b_1n ?_) (fun hn => b_0n (h0 (fun o1 o2 _ _ e2 _ _ _ ok => hn o2 e2 ok.2.2)))
    exact go o1 o2 e1 e2 ⟨fun z => absurd (by rw [e1, e2, z]) hne, f1, f2⟩
  · have same : ∀ o1 o2, x1 = oI o1 → x2 = oI o2 → okP T K tk o1 o2 → fm T K tk 2 o1 := fun o1 o2 e1 e2 ok => ok.1 (oI_inj (lt 1 o1 ok.2.1) (lt 1 o2 ok.2.2) (by rw [← e1, ← e2]; exact heq))
    refine s_takesEnds (m := 2) hT hk vK hpt vpt (by decide) (fun o1 e1 f1 => b_1 ?_) (fun hn => b_0 (h0 (fun o1 o2 _ e1 e2 _ _ _ ok => hn o1 e1 (same o1 o2 e1 e2 ok))))
    refine s_takesEnds (m := 1) hT hk vK hpt vpt (by decide) (fun o2 e2 f2 => b_1n ?_) (fun hn => b_0n (h0 (fun o1 o2 _ _ e2 _ _ _ ok => hn o2 e2 ok.2.2)))
    exact go o1 o2 e1 e2 ⟨fun _ => f1, fm_le f1 (by decide), f2⟩
/-- the reference empties the new pipe -/
theorem m_p54 (hp : p < 60) {Kc : Int32 → (Nat → Int32) → Prop} (contents : Nat → Int32) (h : ∀ z c', (∀ i, i < 200 → c' (200 * p + i) = 0) → (∀ j, ¬ (200 * p ≤ j ∧ j < 200 * p + 200) → c' j = contents j) → Kc z c') :
    ∀ (d i : Nat) (c : Nat → Int32), i ≤ 200 → 200 - i < d → (∀ i', i' < i → c (200 * p + i') = 0) → (∀ j, ¬ (200 * p ≤ j ∧ j < 200 * p + i) → c j = contents j) → wl_Mo_pipe_54 (nI p) Kc d (nI i) c := by
  intro d
  induction d with
  | zero => intro i c a1 a2; omega
  | succ d ih =>
    intro i c a1 a2 a3 a4
    unfold wl_Mo_pipe_54
    have em : (200 : Int32) * nI p + nI i = nI (200 * p + i) := by rw [show (200 : Int32) = nI 200 from rfl, pk_mul, nI_add]
    rw [em, nI_clamp (n := 200 * p + i) (by omega), show (200 : Int32) = nI 200 from rfl, nI_leI (by decide) (by omega), nI_1]
    refine ⟨fun q => h _ c (fun i' hi => a3 i' (by omega)) (fun j hj => a4 j (by omega)), fun q => ⟨vp_in_nI (by omega) (by decide), ih (i + 1) _ (by omega) (by omega) (fun i' hi => ?_) (fun j hj => ?_)⟩⟩
    · by_cases r : i' = i
      · rw [r, pk_us]; rfl
      · rw [pk_un (show ¬ 200 * p + i' = 200 * p + i by omega)]; exact a3 i' (by omega)
    · rw [pk_un (show ¬ j = 200 * p + i by omega)]; exact a4 j (by omega)
theorem m_pipe {kinds taken ends sizes contents ats ports bends : Nat → Int32} {thr : Int32} (hT : T ≤ 40) (hk : ∀ t, t < T → kinds t = nI (rk (K t))) (vK : ∀ t, t < T → K t ≤ 10) (hC : mG2 T p K tk E po th bd taken ends ats ports bends) (hV : vG2 T p K tk E po th bd) {x1 x2 : Int32} {x3 : Int64} {P : Int32 → Int32 → Int32 → (Nat → Int32) → (Nat → Int32) → (Nat → Int32) → (Nat → Int32) → (Nat → Int32) → (Nat → Int32) → (Nat → Int32) → Prop}
    (h1 : ∀ o1 o2 m, x1 = oI o1 → x2 = oI o2 → x3 = lN m → 1 ≤ m → m ≤ 200 → okP T K tk o1 o2 → p < 60 → ∀ a1 a2 a3 a4 a5 c', (∀ i, i < 200 → c' (200 * p + i) = 0) → (∀ j, ¬ (200 * p ≤ j ∧ j < 200 * p + 200) → c' j = contents j) → mG2 T (p + 1) K (nT K (nT K tk o1) o2) (nE K (nT K tk o1) (nE K tk E (2 * p) o1) (2 * p + 1) o2) (nP K (nT K tk o1) (nP K tk po (2 * p) o1) (2 * p + 1) o2) (va_up (va_up th (2 * p) o1) (2 * p + 1) o2) (va_up (va_up bd (2 * p) none) (2 * p + 1) none) a1 a2 a3 a4 a5 → P (nI p) (nI (p + 1)) 0 a1 a2 (upd sizes p (nI m)) c' a3 a4 a5)
    (h2 : ∀ o1 o2 m, x1 = oI o1 → x2 = oI o2 → x3 = lN m → 1 ≤ m → m ≤ 200 → okP T K tk o1 o2 → p = 60 → P (-2) (nI p) 0 taken ends sizes contents ats ports bends)
    (h0 : (∀ o1 o2 m, x1 = oI o1 → x2 = oI o2 → x3 = lN m → 1 ≤ m → m ≤ 200 → ¬ okP T K tk o1 o2) → P (-1) (nI p) 0 taken ends sizes contents ats ports bends) : wp_Mo_pipe (nI T) (nI p) thr kinds taken ends sizes contents ats ports bends x1 x2 x3 P := by
  have hp := hV.1
  unfold wp_Mo_pipe
  refine m_fits hT hk vK hC hV (fun o1 o2 m e1 e2 e3 u1 u2 ok => b_1n ?_) (fun hn => b_0n (h0 hn))
  rw [show (60 : Int32) = nI 60 from rfl, nI_eq (by omega) (by decide)]
  refine ⟨fun hlt => ⟨vp_in_nI (by omega) (by decide), 201, ?_⟩, fun hlt => h2 o1 o2 m e1 e2 e3 u1 u2 ok hlt⟩
  refine m_p54 (by omega) contents (fun z c' hc1 hc2 => ?_) 201 0 contents (by omega) (by omega) (fun i hi => by omega) (fun j _ => rfl)
  unfold wk_Mo_pipe_85_54
  have m2 : (2 : Int32) * nI p = nI (2 * p) := by rw [show (2 : Int32) = nI 2 from rfl, pk_mul]
  rw [m2, nI_1, nI_1, nI_clamp (n := p) (by omega), e3, lN_i, e1, e2]
  have f1 := fm_fit (by decide) ok.2.1
  refine m_join hT hk hC (vG2_vH hV) vK (by omega) f1 (fun a1 a2 a3 a4 a5 hA => ?_)
  refine m_join hT hk hA (vH_add (vG2_vH hV) vK (by omega) f1) vK (by omega) (okP_fit ok) (fun c1 c2 c3 c4 c5 hB => ?_)
  have em : nI (p + 1) - 1 = nI p := by rw [← nI_1, Int32.add_sub_cancel]
  rw [em]
  exact h1 o1 o2 m e1 e2 e3 u1 u2 ok (by omega) c1 c2 c3 c4 c5 c' hc1 hc2 hB
end Pipe
