/-! LEVEL 2: the way of a move; the class's move -/
section Mv
variable {T p s g : Nat} {K pos tk E po : Nat → Nat} {th bd : Nat → Option Nat}
theorem lens_un {L L' : Nat → Nat} (hJ : mJ p g (NX K pos tk E po th bd) th L) (hc : mClosed p (nxk K pos tk E po th bd) L) (hJ' : mJ p g (NX K pos tk E po th bd) th L') (hc' : mClosed p (nxk K pos tk E po th bd) L') : ∀ e, e < 2 * p → L e = L' e := fun e he => by
  have a := lens_le hJ hc hJ' e he
  have b := lens_le hJ' hc' hJ e he
  omega
theorem gS_un {L L' : Nat → Nat} (hL : ∀ e, e < 2 * p → L e = L' e) {x x' : Nat} (h : gS p s th L x) (h' : gS p s th L' x') : x = x' := by
  obtain ⟨a1, a2, a3, a4⟩ := h
  obtain ⟨b1, b2, b3, b4⟩ := h'
  obtain ⟨c1, c2⟩ := a4 x' b1 b2
  obtain ⟨d1, d2⟩ := b4 x a1 a2
  have e1 := hL x a1
  have e2 := hL x' b1
  have := c2 (by omega)
  have := d2 (by omega)
  omega
theorem gW_un (hV : vG2 T p K tk E po th bd) {L L' : Nat → Nat} (hJ : mJ p g (NX K pos tk E po th bd) th L) (hc : mClosed p (nxk K pos tk E po th bd) L) (hJ' : mJ p g (NX K pos tk E po th bd) th L') (hc' : mClosed p (nxk K pos tk E po th bd) L') {x : Nat} (hx : x < 2 * p) (h1 : L x < 1000) :
    ∀ j, j < L x → gW (NX K pos tk E po th bd) L x j = gW (NX K pos tk E po th bd) L' x j := by
  have hL := lens_un hJ hc hJ' hc'
  have sp := gW_spec hV hJ hc hx h1
  have sp' := gW_spec hV hJ' hc' hx (by rw [← hL x hx]; exact h1)
  rw [← hL x hx] at sp'
  intro j
  induction j with
  | zero => intro _; rfl
  | succ j ih =>
    intro hj
    have e := ih (by omega)
    obtain ⟨a1, a2, a3⟩ := sp (j + 1) hj
    obtain ⟨b1, b2, b3⟩ := sp' (j + 1) hj
    have c1 := (sp j (by omega)).1
    have g1 := a3 j rfl
    have g2 := b3 j rfl
    rw [← e] at g2
    refine gB_un g1 ⟨g2.1, ?_, fun f' f1 f2 => ?_⟩
    · rw [hL _ b1, hL _ c1]; exact g2.2.1
    · have hf : f' < 2 * p := by
        obtain ⟨k, -, hk⟩ := f1
        exact nxk_lt hV (pv_lt c1) hk
      refine g2.2.2 f' f1 ?_
      rw [← hL _ hf, ← hL _ c1]
      exact f2
/-- the way's length and its ends -/
noncomputable def wD (p s g : Nat) (K pos tk E po : Nat → Nat) (th bd : Nat → Option Nat) : Nat := @dite Nat (RW p s g K pos tk E po th bd) (Classical.propDecidable _) (fun h => Classical.choose h (Classical.choose (Classical.choose_spec h))) (fun _ => 0)
noncomputable def wW (p s g : Nat) (K pos tk E po : Nat → Nat) (th bd : Nat → Option Nat) : Nat → Nat := @dite (Nat → Nat) (RW p s g K pos tk E po th bd) (Classical.propDecidable _) (fun h => gW (NX K pos tk E po th bd) (Classical.choose h) (Classical.choose (Classical.choose_spec h))) (fun _ _ => 0)
theorem way_is (hV : vG2 T p K tk E po th bd) {L : Nat → Nat} {x : Nat} (hJ : mJ p g (NX K pos tk E po th bd) th L) (hc : mClosed p (nxk K pos tk E po th bd) L) (hx : gS p s th L x) : wD p s g K pos tk E po th bd = L x ∧ ∀ j, j < L x → wW p s g K pos tk E po th bd j = gW (NX K pos tk E po th bd) L x j := by
  have h : RW p s g K pos tk E po th bd := ⟨L, x, hJ, hc, hx⟩
  unfold wD wW
  rw [dif_pos h, dif_pos h]
  obtain ⟨hJ', hc', hx'⟩ := Classical.choose_spec (Classical.choose_spec h)
  generalize Classical.choose (Classical.choose_spec h) = x' at hx' ⊢
  generalize Classical.choose h = L' at hJ' hc' hx' ⊢
  have hL := lens_un hJ hc hJ' hc'
  have ex := gS_un hL hx hx'
  subst ex
  exact ⟨(hL x hx.1).symm, fun j hj => (gW_un hV hJ hc hJ' hc' hx.1 hx.2.2.1 j hj).symm⟩
theorem way_ok (hT : T ≤ 40) (vK : ∀ t, t < T → K t ≤ 10) (vq : ∀ t, t < T → pos t ≤ 9) (hV : vG2 T p K tk E po th bd) (ks : K s = 10) (kg : K g = 10) (hne : ¬ s = g) (h : RW p s g K pos tk E po th bd) (sz : Nat → Nat) :
    WY p (wD p s g K pos tk E po th bd) sz (wW p s g K pos tk E po th bd) (qC (wD p s g K pos tk E po th bd) sz (wW p s g K pos tk E po th bd)) ∧ 0 < wD p s g K pos tk E po th bd := by
  obtain ⟨L, x, hJ, hc, hx⟩ := h
  obtain ⟨e1, e2⟩ := way_is hV hJ hc hx
  have len := gW_len hT vK vq hV hJ hc hx.1 hx.2.2.1 hx.2.1 ks hne kg
  have sp := gW_spec hV hJ hc hx.1 hx.2.2.1
  have nr := gW_norev hT vK vq hV hJ hc hx.1 hx.2.2.1 hx.2.1 ks hne kg
  have hp : p ≤ 60 := hV.1
  have pos1 := (hJ x hx.1).1
  refine ⟨⟨by omega, fun j hj => ?_, fun i j hi hj e => ?_, fun j i hj hi => qC_at hj hi⟩, by omega⟩
  · rw [e2 j (by omega)]
    exact (sp j (by omega)).1
  · rw [e1] at hi hj
    rw [e2 i hi, e2 j hj] at e
    obtain ⟨-, a, -⟩ := sp i hi
    obtain ⟨-, b, -⟩ := sp j hj
    by_cases q : gW (NX K pos tk E po th bd) L x i = gW (NX K pos tk E po th bd) L x j
    · rw [q] at a; omega
    · rcases Nat.lt_trichotomy i j with z | z | z
      · exact absurd (half_pv e q) (nr i j z hj)
      · exact z
      · exact absurd (half_pv e.symm (fun y => q y.symm)) (nr j i z hi)
theorem way_link (hT : T ≤ 40) (hV : vG2 T p K tk E po th bd) {c : Nat} {F : Nat → Nat} {pp : Nat → Option Nat} {found previous lastE : Nat → Int32} (hS : SI T p c K th F pp found previous lastE) (hB : PB (fun e => e < 2 * p ∧ th e = some s) (nxk K pos tk E po th bd) (NX K pos tk E po th bd) c c 0 F pp) (hg : g < T) (kg : K g = 10) (h : RW p s g K pos tk E po th bd) :
    lastE g = eB (wW p s g K pos tk E po th bd) (wD p s g K pos tk E po th bd) ∧ ∀ j, j < wD p s g K pos tk E po th bd → previous (pv (wW p s g K pos tk E po th bd j)) = eB (wW p s g K pos tk E po th bd) j := by
  obtain ⟨L, x, hJ, hc, hx⟩ := h
  obtain ⟨e1, e2⟩ := way_is hV hJ hc hx
  obtain ⟨l1, l2⟩ := link_yes hT hV hJ hc hS hB hg kg hx
  have pos1 := (hJ x hx.1).1
  rw [e1]
  refine ⟨?_, fun j hj => ?_⟩
  · unfold eB
    rw [if_neg (by omega), e2 _ (by omega)]
    exact l1
  · rw [e2 j hj, l2 j hj]
    unfold eB
    by_cases q : j = 0
    · rw [if_pos q, if_pos q]
    · rw [if_neg q, if_neg q, e2 _ (by omega)]
/-- a move's reckoning, by the way -/
noncomputable def mvN (p : Nat) (K pos tk E po : Nat → Nat) (th bd : Nat → Option Nat) (sz ct cap am lq : Nat → Nat) (s t n : Nat) : Nat × Nat × Nat := mvX (wD p s t K pos tk E po th bd) sz ct (wW p s t K pos tk E po th bd) (qC (wD p s t K pos tk E po th bd) sz (wW p s t K pos tk E po th bd)) am lq cap s t n
/-- what the pipes hold after it -/
noncomputable def mvCt (p : Nat) (K pos tk E po : Nat → Nat) (th bd : Nat → Option Nat) (sz ct cap am lq : Nat → Nat) (s t n : Nat) : Nat → Nat := mvC (sS (zW sz (wW p s t K pos tk E po th bd)) (wD p s t K pos tk E po th bd)) (qC (wD p s t K pos tk E po th bd) sz (wW p s t K pos tk E po th bd)) (mvN p K pos tk E po th bd sz ct cap am lq s t n).1 (lq s) ct
/-- a call of move that moves -/
def mvG (T p : Nat) (K pos tk E po : Nat → Nat) (th bd : Nat → Option Nat) (x1 x2 : Int32) (x3 : Int64) (s t n : Nat) : Prop := s < T ∧ t < T ∧ K s = 10 ∧ K t = 10 ∧ ¬ s = t ∧ 1 ≤ n ∧ n ≤ 100000 ∧ x1 = nI s ∧ x2 = nI t ∧ x3 = lN n ∧ RW p s t K pos tk E po th bd
variable {sz ct cap am lq : Nat → Nat} {tl : Nat → Int32} {kind position told capacity amount liquid portsTaken endAtPort pipeLitres thingAtEnd portAtEnd bendAtEnd found previous lastE : Nat → Int32} {w row : Nat → Int64} {size fc : Int32}
theorem c_move (hV : vG1 T K pos cap am lq) (hC : cG1 T K pos tl cap am lq kind position told capacity amount liquid) (hV2 : vG2 T p K tk E po th bd) (hC2 : cG2 T p K tk E po th bd portsTaken endAtPort thingAtEnd portAtEnd bendAtEnd) (hV3 : vG3 p sz ct) (hC3 : cG3 p sz ct pipeLitres w) {x1 x2 : Int32} {x3 : Int64}
    {P : Int64 → (Nat → Int32) → (Nat → Int32) → (Nat → Int64) → Int32 → (Nat → Int32) → (Nat → Int32) → (Nat → Int32) → Int32 → (Nat → Int64) → Prop}
    (h1 : ∀ s t n, mvG T p K pos tk E po th bd x1 x2 x3 s t n → ∀ amount liquid w fc found previous lastE size row, vG3 p sz (mvCt p K pos tk E po th bd sz ct cap am lq s t n) → cG3 p sz (mvCt p K pos tk E po th bd sz ct cap am lq s t n) pipeLitres w → cG1 T K pos tl cap (mvAm am s t (mvN p K pos tk E po th bd sz ct cap am lq s t n)) (mvLq am lq s t (mvN p K pos tk E po th bd sz ct cap am lq s t n)) kind position told capacity amount liquid → P (lN (mvN p K pos tk E po th bd sz ct cap am lq s t n).1) amount liquid w fc found previous lastE size row)
    (h0 : (∀ s t n, ¬ mvG T p K pos tk E po th bd x1 x2 x3 s t n) → ∀ fc found previous lastE, P (-1) amount liquid w fc found previous lastE size row) :
    wp_PG_move (nI T) (nI p) kind position capacity amount liquid portsTaken endAtPort pipeLitres thingAtEnd portAtEnd bendAtEnd w fc found previous lastE size row x1 x2 x3 P := by
  have hT := hV.1
  have hk : ∀ t, t < T → kind t = nI (K t) := fun t ht => (hC t ht).1
  have hq : ∀ t, t < T → position t = nI (pos t) := fun t ht => (hC t ht).2.1
  have vK : ∀ t, t < T → K t ≤ 10 := fun t ht => (hV.2 t ht).1
  have vq : ∀ t, t < T → pos t ≤ 9 := fun t ht => (hV.2 t ht).2.1
  unfold wp_PG_move
  refine s_isTank hT hk vK (fun s hs ks es => b_1 ?_) (fun hn => b_0 (h0 (fun s t n z => hn s z.1 z.2.2.1 z.2.2.2.2.2.2.2.1) _ _ _ _))
  refine s_isTank hT hk vK (fun t ht kt et => b_1 ?_) (fun hn => b_0 (h0 (fun s t n z => hn t z.2.1 z.2.2.2.1 z.2.2.2.2.2.2.2.2.1) _ _ _ _))
  subst es; subst et
  rw [nI_eq (by omega) (by omega)]
  refine ⟨fun q => h0 (fun s' t' n z => ?_) _ _ _ _, fun hne => ?_⟩
  · obtain ⟨z1, z2, -, -, z5, -, -, z8, z9, -⟩ := z
    have a := (nI_eq (by omega) (by omega)).mp z8
    have b := (nI_eq (by omega) (by omega)).mp z9
    omega
  · refine s_betweenL (a := 1) (b := 100000) (by decide) (by decide) (fun n n1 n2 en => b_1n ?_) (fun hn => b_0n (h0 (fun _ _ n z => hn n z.2.2.2.2.2.1 z.2.2.2.2.2.2.1 z.2.2.2.2.2.2.2.2.2.1) _ _ _ _))
    refine s_search hT hk vK hq vq hC2 hV2 hs (fun c F pp found previous lastE hS hB => ?_)
    unfold wp_Wa_lastEnd
    refine s_betweenI (a := 0) (b := 39) (by decide) (by decide) (fun _ _ _ _ => b_1 ⟨vp_in_nI (by omega) (by decide), ?_⟩) (fun hn => absurd rfl (hn t (by omega) (by omega)))
    rw [nI_clamp (n := t) (by omega)]
    dsimp only
    rw [link_iff hT hV2 hS hB ht kt]
    refine ⟨fun q => ?_, fun q => h0 (fun s' t' n z => ?_) _ _ _ _⟩
    · have hr : RW p s t K pos tk E po th bd := Classical.not_not.mp q
      obtain ⟨hY, hD⟩ := way_ok hT vK vq hV2 ks kt hne hr sz
      obtain ⟨l1, l2⟩ := way_link hT hV2 hS hB ht kt hr
      have hG : mvG T p K pos tk E po th bd (nI s) (nI t) x3 s t n := ⟨hs, ht, ks, kt, hne, n1, n2, rfl, rfl, en, hr⟩
      rw [en, lN_i]
      refine s_run (kind := kind) (position := position) (told := told) (tl := tl) (K := K) (pos := pos) hY hD hV2.1 hV3 hC3 l2 hV hC hs ht hne n2 l1 (fun size row amount liquid w v3 c3 c1 => ?_)
      have := h1 s t n hG amount liquid w (nI c) found previous lastE size row v3 c3 c1
      have hM : (mvN p K pos tk E po th bd sz ct cap am lq s t n).1 ≤ n := (mvR_ok (n := n) (af := am s) (cp := cap t) (l := lq s) (fun m _ => hV3.2.1 _) (hV.2 s hs).2.2.2.2.1 (n + 1) 0 (am t) (lq t) (hV.2 t ht).2.2.2.1 (hV.2 t ht).2.2.2.2.1 ⟨(hV.2 t ht).2.2.2.2.2.1, fun z => by rcases Nat.eq_zero_or_pos (am t) with y | y; rw [(hV.2 t ht).2.2.2.2.2.2 y] at z; omega; exact y⟩ (Nat.zero_le _) (Nat.zero_le _)).1
      rw [show mvX (wD p s t K pos tk E po th bd) sz ct (wW p s t K pos tk E po th bd) (qC (wD p s t K pos tk E po th bd) sz (wW p s t K pos tk E po th bd)) am lq cap s t n = mvN p K pos tk E po th bd sz ct cap am lq s t n from rfl, nI_l (by omega)]
      exact this
    · obtain ⟨z1, z2, -, -, z5, -, -, z8, z9, -, zr⟩ := z
      have a := (nI_eq (by omega) (by omega)).mp z8
      have b := (nI_eq (by omega) (by omega)).mp z9
      subst a; subst b
      exact q zr
/-- the bounds hold after a move -/
theorem vG1_move (hV : vG1 T K pos cap am lq) (hV3 : vG3 p sz ct) {s t n : Nat} (hs : s < T) (ht : t < T) (hne : ¬ s = t) : vG1 T K pos cap (mvAm am s t (mvN p K pos tk E po th bd sz ct cap am lq s t n)) (mvLq am lq s t (mvN p K pos tk E po th bd sz ct cap am lq s t n)) := by
  obtain ⟨-, -, sc, sa, sl, sp, s0⟩ := hV.2 s hs
  obtain ⟨-, -, tc, ta, tql, tp, t0⟩ := hV.2 t ht
  have hok := mvR_ok (n := n) (af := am s) (cp := cap t) (l := lq s) (A := sS (zW sz (wW p s t K pos tk E po th bd)) (wD p s t K pos tk E po th bd)) (ln := fun i => ct (qC (wD p s t K pos tk E po th bd) sz (wW p s t K pos tk E po th bd) i)) (fun m _ => hV3.2.1 _) sl (n + 1) 0 (am t) (lq t) ta tql ⟨tp, fun z => by rcases Nat.eq_zero_or_pos (am t) with y | y; rw [t0 y] at z; omega; exact y⟩ (Nat.zero_le _) (Nat.zero_le _)
  have hok : (mvN p K pos tk E po th bd sz ct cap am lq s t n).1 ≤ n ∧ (mvN p K pos tk E po th bd sz ct cap am lq s t n).1 ≤ am s ∧ (mvN p K pos tk E po th bd sz ct cap am lq s t n).2.1 ≤ cap t ∧ (mvN p K pos tk E po th bd sz ct cap am lq s t n).2.2 ≤ 15 ∧ (0 < (mvN p K pos tk E po th bd sz ct cap am lq s t n).2.1 ↔ 0 < (mvN p K pos tk E po th bd sz ct cap am lq s t n).2.2) := hok
  generalize mvN p K pos tk E po th bd sz ct cap am lq s t n = X at hok ⊢
  unfold mvAm mvLq
  refine vG1_pour (vG1_pour hV hok.2.2.1 hok.2.2.2.1 hok.2.2.2.2) (by omega) (by split <;> omega) ?_
  by_cases q : am s - X.1 = 0
  · rw [if_pos q]; omega
  · rw [if_neg q]
    have := sp (by omega)
    omega
end Mv
