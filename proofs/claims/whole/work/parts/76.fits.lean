/-! LEVEL 2: takesEnds, fits -/
/-- m more ends have their places -/
def fm (T : Nat) (K tk : Nat → Nat) (m : Nat) (o : Option Nat) : Prop := ∀ t, o = some t → t < T ∧ (¬ K t = 10 → tk t + m ≤ pN (K t))
section Fits
variable {T p : Nat} {K tk E po : Nat → Nat} {th bd : Nat → Option Nat}
theorem oI_inj {o o' : Option Nat} (h : ∀ t, o = some t → t < 1000) (h' : ∀ t, o' = some t → t < 1000) (e : oI o = oI o') : o = o' := by
  cases o with
  | none =>
    cases o' with
    | none => rfl
    | some t => exact absurd e.symm (q_m1 (j := t) (by have := h' t rfl; omega))
  | some s =>
    have hs := h s rfl
    cases o' with
    | none => exact absurd e (q_m1 (j := s) (by omega))
    | some t =>
      have ht := h' t rfl
      have e : nI s = nI t := e
      rw [nI_eq (by omega) (by omega)] at e
      rw [e]
theorem s_takesEnds {kind portsTaken : Nat → Int32} (hT : T ≤ 40) (hk : ∀ t, t < T → kind t = nI (K t)) (vK : ∀ t, t < T → K t ≤ 10) (hp : ∀ t, t < T → ¬ K t = 10 → portsTaken t = nI (tk t)) (vp : ∀ t, t < T → ¬ K t = 10 → tk t ≤ pN (K t)) {m : Nat} (hm : m ≤ 2) {x : Int32} {P : Int32 → Prop}
    (h1 : ∀ o, x = oI o → fm T K tk m o → P 1) (h0 : (∀ o, x = oI o → ¬ fm T K tk m o) → P 0) : wp_Pl_takesEnds (nI T) kind portsTaken x (nI m) P := by
  unfold wp_Pl_takesEnds
  refine s_isThing (by omega) (fun t ht e => b_1n ?_) (fun hn => b_0n ?_)
  · have ec : x.toNatClampNeg = t := by rw [e]; exact nI_clamp (by omega)
    have it : vp_in x 40 := by rw [e]; exact vp_in_nI (by omega) (by decide)
    have hv := vK t ht
    rw [ec, hk t ht, show (10 : Int32) = nI 10 from rfl, nI_eq (by omega) (by decide), nI_clamp (n := K t) (by omega)]
    refine ⟨it, fun k10 => h1 (some t) e (fun t' z => by cases z; exact ⟨ht, fun q => absurd k10 q⟩), fun k10 => ⟨it, it, vp_in_nI (by omega) (by decide), ?_⟩⟩
    have p4 := pN_le (K t) (by omega)
    have vpt := vp t ht k10
    rw [pN_F (K t) (by omega), hp t ht k10, nI_add, nI_ltI (by omega) (by omega)]
    refine ⟨fun z => h0 (fun o eo ho => ?_), fun z => h1 (some t) e (fun t' y => by cases y; exact ⟨ht, fun _ => by omega⟩)⟩
    have : o = some t := oI_inj (fun t' y => by have := (ho t' y).1; omega) (fun t' y => by cases y; omega) (eo.symm.trans e)
    have := (ho t this).2 k10
    omega
  · refine ⟨fun z => h0 (fun o eo ho => ?_), fun z => h1 none z (fun t y => by cases y)⟩
    cases o with
    | none => exact z eo
    | some t => exact hn t (ho t rfl).1 eo
/-- a number of a thing, or none, in the reference's words -/
theorem m_th (x : Int32) (hT : T ≤ 40) {A B : Prop} (h1 : ∀ o, x = oI o → (∀ t, o = some t → t < T) → A) (h0 : (∀ o, x = oI o → ¬ ∀ t, o = some t → t < T) → B) : (x = (-1 : Int32) → A) ∧ (¬ x = (-1 : Int32) → ((x < 0 → B) ∧ (¬ x < 0 → ((nI T ≤ x → B) ∧ (¬ nI T ≤ x → A))))) := by
  refine ⟨fun z => h1 none z (fun t y => by cases y), fun z => ?_⟩
  rcases q_arg x (n := T) (by omega) with ⟨j, hj, e⟩ | ⟨hx, hn⟩
  · have a : A := h1 (some j) e (fun t y => by cases y; exact hj)
    subst e
    refine ⟨fun q => absurd q (nI_pos (by omega)), fun _ => ⟨fun q => ?_, fun _ => a⟩⟩
    rw [nI_leI (by omega) (by omega)] at q
    omega
  · have b : B := h0 (fun o eo ho => by
      cases o with
      | none => exact z eo
      | some t => exact hn t (ho t rfl) eo)
    refine ⟨fun _ => b, fun q => ⟨fun _ => b, fun q2 => ?_⟩⟩
    rcases hx with hx | hx
    · exact absurd hx q
    · exact absurd hx q2
theorem m_one {kinds taken ends ats ports bends : Nat → Int32} (hT : T ≤ 40) (hk : ∀ t, t < T → kinds t = nI (rk (K t))) (vK : ∀ t, t < T → K t ≤ 10) (hm : mG2 T p K tk E po th bd taken ends ats ports bends) (hV : vG2 T p K tk E po th bd) {d : Nat} (hd : d ≤ 1) {o : Option Nat} (ho : ∀ t, o = some t → t < T) {A B : Prop} (h1 : fm T K tk (d + 1) o → A) (h0 : ¬ fm T K tk (d + 1) o → B) :
    (oI o = (-1 : Int32) → A) ∧ (¬ oI o = (-1 : Int32) → (vp_in (oI o) 40 ∧ (vp_in (oI o) 40 ∧ (vp_in (kinds (oI o).toNatClampNeg) 11 ∧ (((roomF (kinds (oI o).toNatClampNeg).toNatClampNeg) ≤ (taken (oI o).toNatClampNeg + nI d) → B) ∧ (¬ (roomF (kinds (oI o).toNatClampNeg).toNatClampNeg) ≤ (taken (oI o).toNatClampNeg + nI d) → A)))))) := by
  have hp := hV.1
  cases o with
  | none => exact ⟨fun _ => h1 (fun t z => by cases z), fun z => absurd rfl z⟩
  | some t =>
    have ht := ho t rfl
    have hv := vK t ht
    have hr := rk_le hv
    have it : vp_in (oI (some t)) 40 := vp_in_nI (n := t) (by omega) (by decide)
    have ec : (oI (some t)).toNatClampNeg = t := nI_clamp (by omega)
    refine ⟨fun z => absurd z (q_m1 (j := t) (by omega)), fun _ => ⟨it, it, ?_⟩⟩
    rw [ec, hk t ht, nI_clamp (n := rk (K t)) (by omega)]
    refine ⟨vp_in_nI (by omega) (by decide), ?_⟩
    by_cases k10 : K t = 10
    · have a : A := h1 (fun t' z => by cases z; exact ⟨ht, fun q => absurd k10 q⟩)
      obtain ⟨c, c1, c2⟩ := hm.2.1 t ht k10
      rw [(rk_tank hv).mpr k10, show roomF 0 = nI 1000 from rfl, c2, nI_add, nI_leI (by omega) (by omega)]
      exact ⟨fun z => by omega, fun _ => a⟩
    · have p4 := pN_le (K t) (by omega)
      have vpt := (hV.2.1 t ht k10).1
      rw [pN_R (K t) (by omega), (hm.1 t ht k10).1, nI_add, nI_leI (by omega) (by omega)]
      refine ⟨fun z => h0 (fun y => ?_), fun z => h1 (fun t' y => by cases y; exact ⟨ht, fun _ => by omega⟩)⟩
      have := (y t rfl).2 k10
      omega
/-- both ends have their places -/
def okP (T : Nat) (K tk : Nat → Nat) (o1 o2 : Option Nat) : Prop := (o1 = o2 → fm T K tk 2 o1) ∧ fm T K tk 1 o1 ∧ fm T K tk 1 o2
theorem fm_le {m m' : Nat} {o : Option Nat} (h : fm T K tk m o) (hm : m' ≤ m) : fm T K tk m' o := fun t z => ⟨(h t z).1, fun k => by have := (h t z).2 k; omega⟩
theorem m_fits {kinds taken ends ats ports bends : Nat → Int32} (hT : T ≤ 40) (hk : ∀ t, t < T → kinds t = nI (rk (K t))) (vK : ∀ t, t < T → K t ≤ 10) (hm : mG2 T p K tk E po th bd taken ends ats ports bends) (hV : vG2 T p K tk E po th bd) {x1 x2 : Int32} {x3 : Int64} {P : Int32 → Prop}
    (h1 : ∀ o1 o2 m, x1 = oI o1 → x2 = oI o2 → x3 = lN m → 1 ≤ m → m ≤ 200 → okP T K tk o1 o2 → P 1) (h0 : (∀ o1 o2 m, x1 = oI o1 → x2 = oI o2 → x3 = lN m → 1 ≤ m → m ≤ 200 → ¬ okP T K tk o1 o2) → P 0) : wp_Mo_fits 40 40 kinds taken (nI T) x1 x2 x3 P := by
  unfold wp_Mo_fits
  have lt : ∀ (o : Option Nat), (∀ t, o = some t → t < T) → ∀ t, o = some t → t < 1000 := fun o h t z => by have := h t z; omega
  have lf : ∀ (o : Option Nat) (m : Nat), fm T K tk m o → ∀ t, o = some t → t < T := fun o m h t z => (h t z).1
  refine m_th x1 hT (fun o1 e1 b1 => ?_) (fun hn => h0 (fun o1 o2 m e1 _ _ _ _ ok => hn o1 e1 (lf _ _ ok.2.1)))
  unfold wj_Mo_fits_14
  refine m_th x2 hT (fun o2 e2 b2 => ?_) (fun hn => h0 (fun o1 o2 m _ e2 _ _ _ ok => hn o2 e2 (lf _ _ ok.2.2)))
  unfold wj_Mo_fits_31
  rw [q_lt, q_le]
  refine ⟨fun z => h0 (fun _ _ m _ _ e3 u1 u2 _ => ?_), fun z => ⟨fun z2 => ?_, fun z2 => h0 (fun _ _ m _ _ e3 u1 u2 _ => ?_)⟩⟩
  · rw [e3, Int64.lt_iff_toInt_lt, lN_toInt (by omega)] at z
    have : (1 : Int64).toInt = 1 := by decide
    omega
  · obtain ⟨m, u1, u2, e3⟩ := q_btw (a := 1) (b := 200) (x := x3) (by decide) (Int64.not_lt.mp z) z2 (by decide)
    subst e1
    subst e2
    have un : ∀ o1' o2', oI o1 = oI o1' → oI o2 = oI o2' → okP T K tk o1' o2' → o1' = o1 ∧ o2' = o2 := fun o1' o2' y1 y2 ok => ⟨oI_inj (lt _ (lf _ _ ok.2.1)) (lt _ b1) y1.symm, oI_inj (lt _ (lf _ _ ok.2.2)) (lt _ b2) y2.symm⟩
    have both : ∀ d : Nat, d ≤ 1 → (okP T K tk o1 o2 ↔ fm T K tk (d + 1) o1 ∧ fm T K tk (d + 1) o2) → wj_Mo_fits_60 (oI o1) (oI o2) 40 40 kinds taken P (nI d) := by
      intro d hd iff
      unfold wj_Mo_fits_60
      refine m_one hT hk vK hm hV hd b1 (fun f1 => ?_) (fun f1 => h0 (fun o1' o2' _ y1 y2 _ _ _ ok => ?_))
      · unfold wj_Mo_fits_83
        refine m_one hT hk vK hm hV hd b2 (fun f2 => h1 o1 o2 m rfl rfl e3 u1 u2 (iff.mpr ⟨f1, f2⟩)) (fun f2 => h0 (fun o1' o2' _ y1 y2 _ _ _ ok => ?_))
        obtain ⟨w1, w2⟩ := un o1' o2' y1 y2 ok
        rw [w1, w2] at ok
        exact f2 (iff.mp ok).2
      · obtain ⟨w1, w2⟩ := un o1' o2' y1 y2 ok
        rw [w1, w2] at ok
        exact f1 (iff.mp ok).1
    refine ⟨fun y => both 0 (by decide) ⟨fun ok => ok.2, fun ok => ⟨fun w => absurd (by rw [w]) y, ok⟩⟩, fun y => both 1 (by decide) ?_⟩
    have w := oI_inj (lt _ b1) (lt _ b2) y
    exact ⟨fun ok => ⟨ok.1 w, by rw [← w]; exact ok.1 w⟩, fun ok => ⟨fun _ => ok.1, fm_le ok.1 (by decide), fm_le ok.2 (by decide)⟩⟩
  · rw [e3, Int64.le_iff_toInt_le, lN_toInt (by omega)] at z2
    have : (200 : Int64).toInt = 200 := by decide
    omega
end Fits
