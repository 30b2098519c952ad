/-! LEVEL 2: the reference's find: the greedy chain from the first of the starts with the fewest pipes -/
/-- end e begins the way from s to the goal -/
def gS (p s : Nat) (th : Nat → Option Nat) (L : Nat → Nat) (e : Nat) : Prop := e < 2 * p ∧ th e = some s ∧ L e < 1000 ∧ ∀ e', e' < 2 * p → th e' = some s → L e ≤ L e' ∧ (L e' = L e → e ≤ e')
def gS0 (p s : Nat) (th : Nat → Option Nat) (L : Nat → Nat) : Prop := ∀ e, e < 2 * p → th e = some s → 1000 ≤ L e
section Find
variable {T p : Nat} {K pos tk E po : Nat → Nat} {th bd : Nat → Option Nat} {L : Nat → Nat} {g s : Nat}
theorem m_f15 {ats left : Nat → Int32} (hp : p ≤ 60) (hs : s < 1000) (hat : ∀ e, e < 2 * p → ats e = oI (th e)) (hth : ∀ e t, e < 2 * p → th e = some t → t < 1000) (hL : mHL p left L) (hB : ∀ e, e < 2 * p → L e ≤ 1000) {Kc : Int32 → Int32 → Prop}
    (h1 : ∀ e, gS p s th L e → Kc (nI e) (nI (2 * p))) (h0 : gS0 p s th L → Kc (-1) (nI (2 * p))) :
    ∀ (d i : Nat) (b : Option Nat), i ≤ 2 * p → 2 * p - i < d → (match b with | none => ∀ e, e < i → th e = some s → 1000 ≤ L e | some e => e < i ∧ th e = some s ∧ L e < 1000 ∧ ∀ e', e' < i → th e' = some s → L e ≤ L e' ∧ (L e' = L e → e ≤ e')) → wl_Mo_find_15 (nI p) ats (nI s) left Kc d (oI b) (nI i) := by
  intro d
  induction d with
  | zero => intro i b a1 a2; omega
  | succ d ih =>
    intro i b a1 a2 a3
    unfold wl_Mo_find_15
    rw [show (2 : Int32) = nI 2 from rfl, pk_mul, leS (a := 2 * p) (b := i) (by omega) (by omega)]
    refine ⟨fun c => ?_, fun c => ?_⟩
    · have : i = 2 * p := by omega
      subst this
      cases b with
      | none => exact h0 a3
      | some e => exact h1 e a3
    · have hi : i < 2 * p := by omega
      have hin : vp_in (nI i) 120 := vp_in_nI (by omega) (by decide)
      have hLi := hB i hi
      rw [nI_clamp (n := i) (by omega), hat i hi, oI_eq hs (hth i · hi), hL i hi, nI_1]
      refine ⟨hin, fun c2 => ?_, fun c2 => ⟨hin, ?_⟩⟩
      · refine ih (i + 1) b (by omega) (by omega) ?_
        cases b with
        | none =>
          intro e he ht
          by_cases q : e = i
          · rw [q] at ht; exact absurd ht c2
          · exact a3 e (by omega) ht
        | some e =>
          obtain ⟨z1, z2, z3, z4⟩ := a3
          refine ⟨by omega, z2, z3, fun e' he ht => ?_⟩
          by_cases q : e' = i
          · rw [q] at ht; exact absurd ht c2
          · exact z4 e' (by omega) ht
      · rw [show (1000 : Int32) = nI 1000 from rfl, nI_leI (by decide) (by omega)]
        refine ⟨fun c3 => ?_, fun c3 => ?_⟩
        · refine ih (i + 1) b (by omega) (by omega) ?_
          cases b with
          | none =>
            intro e he ht
            by_cases q : e = i
            · rw [q]; exact c3
            · exact a3 e (by omega) ht
          | some e =>
            obtain ⟨z1, z2, z3, z4⟩ := a3
            refine ⟨by omega, z2, z3, fun e' he ht => ?_⟩
            by_cases q : e' = i
            · rw [q]; exact ⟨by omega, fun z => by omega⟩
            · exact z4 e' (by omega) ht
        · cases b with
          | none =>
            refine ⟨fun _ => ?_, fun c4 => absurd rfl c4⟩
            refine ih (i + 1) (some i) (by omega) (by omega) ⟨by omega, c2, by omega, fun e' he ht => ?_⟩
            by_cases q : e' = i
            · rw [q]; exact ⟨Nat.le_refl _, fun _ => Nat.le_refl _⟩
            · have := a3 e' (by omega) ht
              exact ⟨by omega, fun z => by omega⟩
          | some e =>
            obtain ⟨z1, z2, z3, z4⟩ := a3
            have hie : vp_in (nI e) 120 := vp_in_nI (by omega) (by decide)
            have hLe := hB e (by omega)
            show (nI e = -1 → _) ∧ (¬ nI e = -1 → _)
            refine ⟨fun c4 => absurd c4 (q_m1 (by omega)), fun _ => ⟨hin, hie, ?_⟩⟩
            have ee : (oI (some e)).toNatClampNeg = e := nI_clamp (by omega)
            rw [ee, hL e (by omega), nI_leI (by omega) (by omega)]
            refine ⟨fun c5 => ?_, fun c5 => ?_⟩
            · refine ih (i + 1) (some e) (by omega) (by omega) ⟨by omega, z2, z3, fun e' he ht => ?_⟩
              by_cases q : e' = i
              · rw [q]; exact ⟨c5, fun _ => by omega⟩
              · exact z4 e' (by omega) ht
            · refine ih (i + 1) (some i) (by omega) (by omega) ⟨by omega, c2, by omega, fun e' he ht => ?_⟩
              by_cases q : e' = i
              · rw [q]; exact ⟨Nat.le_refl _, fun _ => Nat.le_refl _⟩
              · have := (z4 e' (by omega) ht).1
                exact ⟨by omega, fun z => by omega⟩
/-- the next pipe of the way -/
theorem m_f121 {kinds positions taken ends ats ports bends left : Nat → Int32} (hT : T ≤ 40) (hk : ∀ t, t < T → kinds t = nI (rk (K t))) (vK : ∀ t, t < T → K t ≤ 10) (hq : ∀ t, t < T → positions t = nI (pos t)) (vq : ∀ t, t < T → pos t ≤ 9)
    (hm : mG2 T p K tk E po th bd taken ends ats ports bends) (hV : vG2 T p K tk E po th bd) (hL : mHL p left L) (hB : ∀ e, e < 2 * p → 1 ≤ L e ∧ L e ≤ 1000) {x : Nat} (hx : x < 2 * p) {Kc : Int32 → Int32 → Prop}
    (h1 : ∀ f i, gB (NX K pos tk E po th bd) L x f → Kc (nI f) (nI i)) (h0 : ∀ i, L x = 1 → Kc (-1) (nI i)) (hex : ¬ L x = 1 → ∃ f, NX K pos tk E po th bd x f ∧ L f + 1 = L x) :
    ∀ (d i : Nat) (b : Option Nat), i ≤ 4 → 4 - i < d → (match b with | none => ∀ k f, k < i → nxk K pos tk E po th bd (pv x) k f → ¬ L f + 1 = L x | some e => NX K pos tk E po th bd x e ∧ L e + 1 = L x ∧ ∀ k f, k < i → nxk K pos tk E po th bd (pv x) k f → L f + 1 = L x → e ≤ f) → wl_Mo_find_121 left (nI x) kinds positions ends ats ports bends Kc d (oI b) (nI i) := by
  have hp : p ≤ 60 := hV.1
  obtain ⟨b1, b2⟩ := hB x hx
  intro d
  induction d with
  | zero => intro i b a1 a2; omega
  | succ d ih =>
    intro i b a1 a2 a3
    have done : (i = 4 ∨ L x = 1) → Kc (oI b) (nI i) := by
      intro hd
      cases b with
      | none =>
        rcases Nat.lt_or_ge 1 (L x) with z | z
        · obtain ⟨f, ⟨k, k4, hk⟩, hf⟩ := hex (by omega)
          rcases hd with hd | hd
          · exact absurd hf (a3 k f (by omega) hk)
          · omega
        · exact h0 i (by omega)
      | some e =>
        obtain ⟨z1, z2, z3⟩ := a3
        refine h1 e i ⟨z1, z2, ?_⟩
        rintro f ⟨k, k4, hk⟩ hf
        rcases hd with hd | hd
        · exact z3 k f (by omega) hk hf
        · have : e < 2 * p := by obtain ⟨k', -, hk'⟩ := z1; exact nxk_lt hV (pv_lt hx) hk'
          have := (hB e this).1
          omega
    unfold wl_Mo_find_121
    rw [show (4 : Int32) = nI 4 from rfl, leS (a := 4) (b := i) (by decide) (by omega), nI_clamp (n := x) (by omega), hL x hx, q_xor x (by omega), nI_1]
    have e1 : nI (L x) - 1 = nI (L x - 1) := by rw [show (1 : Int32) = nI 1 from rfl, pk_sub b1]
    rw [e1]
    refine ⟨fun c => done (Or.inl (by omega)), fun c => ⟨fun c2 => done (Or.inr ?_), fun c2 => ?_⟩⟩
    · rw [show (0 : Int32) = nI 0 from rfl, nI_leI (by omega) (by decide)] at c2
      omega
    · refine m_next hT hk vK hq vq hm hV (pv_lt hx) (by omega) (fun f hf => ?_) (fun hn => ?_)
      · have hfl := nxk_lt hV (pv_lt hx) hf
        have hif : vp_in (nI f) 120 := vp_in_nI (by omega) (by decide)
        obtain ⟨f1, f2⟩ := hB f hfl
        have keepn : ¬ L f + 1 = L x → wl_Mo_find_121 left (nI x) kinds positions ends ats ports bends Kc d (oI b) (nI (i + 1)) := by
          intro hne
          refine ih (i + 1) b (by omega) (by omega) ?_
          cases b with
          | none =>
            intro k f' hk' hn'
            by_cases q : k = i
            · subst q; rw [nxk_fun hn' hf]; exact hne
            · exact a3 k f' (by omega) hn'
          | some e =>
            obtain ⟨z1, z2, z3⟩ := a3
            refine ⟨z1, z2, fun k f' hk' hn' hl => ?_⟩
            by_cases q : k = i
            · subst q; rw [nxk_fun hn' hf] at hl; exact absurd hl hne
            · exact z3 k f' (by omega) hn' hl
        refine ⟨fun c3 => absurd c3 (q_m1 (by omega)), fun _ => ⟨hif, ?_⟩⟩
        rw [nI_clamp (n := f) (by omega), hL f hfl, nI_eq (by omega) (by omega)]
        refine ⟨fun c3 => keepn (by omega), fun c3 => ?_⟩
        have hlf : L f + 1 = L x := by omega
        cases b with
        | none =>
          refine ⟨fun _ => ?_, fun c4 => absurd rfl c4⟩
          refine ih (i + 1) (some f) (by omega) (by omega) ⟨⟨i, by omega, hf⟩, hlf, fun k f' hk' hn' hl => ?_⟩
          by_cases q : k = i
          · subst q; rw [nxk_fun hn' hf]; exact Nat.le_refl _
          · exact absurd hl (a3 k f' (by omega) hn')
        | some e =>
          obtain ⟨z1, z2, z3⟩ := a3
          have hel : e < 2 * p := by obtain ⟨k', -, hk'⟩ := z1; exact nxk_lt hV (pv_lt hx) hk'
          show (nI e = -1 → _) ∧ (¬ nI e = -1 → _)
          refine ⟨fun c4 => absurd c4 (q_m1 (by omega)), fun _ => ?_⟩
          show (nI e ≤ nI f → _) ∧ (¬ nI e ≤ nI f → _)
          rw [leS (a := e) (b := f) (by omega) (by omega)]
          refine ⟨fun c5 => ?_, fun c5 => ?_⟩
          · refine ih (i + 1) (some e) (by omega) (by omega) ⟨z1, z2, fun k f' hk' hn' hl => ?_⟩
            by_cases q : k = i
            · subst q; rw [nxk_fun hn' hf]; exact c5
            · exact z3 k f' (by omega) hn' hl
          · refine ih (i + 1) (some f) (by omega) (by omega) ⟨⟨i, by omega, hf⟩, hlf, fun k f' hk' hn' hl => ?_⟩
            by_cases q : k = i
            · subst q; rw [nxk_fun hn' hf]; exact Nat.le_refl _
            · have := z3 k f' (by omega) hn' hl
              omega
      · refine ⟨fun _ => ?_, fun c3 => absurd rfl c3⟩
        refine ih (i + 1) b (by omega) (by omega) ?_
        cases b with
        | none =>
          intro k f' hk' hn'
          by_cases q : k = i
          · subst q; exact absurd hn' (hn f')
          · exact a3 k f' (by omega) hn'
        | some e =>
          obtain ⟨z1, z2, z3⟩ := a3
          refine ⟨z1, z2, fun k f' hk' hn' hl => ?_⟩
          by_cases q : k = i
          · subst q; exact absurd hn' (hn f')
          · exact z3 k f' (by omega) hn' hl
theorem m_f80 {kinds positions taken ends ats ports bends left : Nat → Int32} (hT : T ≤ 40) (hk : ∀ t, t < T → kinds t = nI (rk (K t))) (vK : ∀ t, t < T → K t ≤ 10) (hq : ∀ t, t < T → positions t = nI (pos t)) (vq : ∀ t, t < T → pos t ≤ 9)
    (hm : mG2 T p K tk E po th bd taken ends ats ports bends) (hV : vG2 T p K tk E po th bd) (hL : mHL p left L) (hJ : mJ p g (NX K pos tk E po th bd) th L) (hc : mClosed p (nxk K pos tk E po th bd) L) {x : Nat} (hx : x < 2 * p) (hx1 : L x < 1000) (hx2 : L x ≤ 60) {Kc : Int32 → Int32 → (Nat → Int32) → Prop}
    (h : ∀ way : Nat → Int32, (∀ i, i < L x → way i = nI (gW (NX K pos tk E po th bd) L x i)) → Kc (-1) (nI (L x)) way) :
    ∀ (d j : Nat) (way : Nat → Int32), j ≤ L x → L x - j < d → (∀ i, i < j → way i = nI (gW (NX K pos tk E po th bd) L x i)) → wl_Mo_find_80 left kinds positions ends ats ports bends Kc d (oI (if j < L x then some (gW (NX K pos tk E po th bd) L x j) else none)) (nI j) way := by
  have hp : p ≤ 60 := hV.1
  have sp := gW_spec hV hJ hc hx hx1
  intro d
  induction d with
  | zero => intro j way a1 a2; omega
  | succ d ih =>
    intro j way a1 a2 a3
    unfold wl_Mo_find_80
    by_cases q : j < L x
    · obtain ⟨w1, w2, w3⟩ := sp j q
      rw [if_pos q]
      show (nI _ = -1 → _) ∧ (¬ nI _ = -1 → _)
      refine ⟨fun c => absurd c (q_m1 (by omega)), fun _ => ⟨vp_in_nI (by omega) (by decide), vp_in_nI (show gW (NX K pos tk E po th bd) L x j < 120 by omega) (by decide), 5, ?_⟩⟩
      have hin : ∀ i', i' < j + 1 → (upd way (nI j).toNatClampNeg (nI (gW (NX K pos tk E po th bd) L x j))) i' = nI (gW (NX K pos tk E po th bd) L x i') := by
        intro i' hi'
        rw [nI_clamp (by omega)]
        by_cases z : i' = j
        · rw [z, pk_us]
        · rw [pk_un z]; exact a3 i' (by omega)
      refine m_f121 hT hk vK hq vq hm hV hL (fun e he => ⟨(hJ e he).1, (hJ e he).2.1⟩) w1 (fun f i hf => ?_) (fun i h1 => ?_) (fun h1 => goOn hJ hc w1 (by omega) h1) 5 0 none (by omega) (by omega) (fun k f z => by omega)
      · unfold wk_Mo_find_189_121
        have hfl : f < 2 * p := by obtain ⟨k', -, hk'⟩ := hf.1; exact nxk_lt hV (pv_lt w1) hk'
        have := (hJ f hfl).1
        have hf1 := hf.2.1
        have hj : j + 1 < L x := by omega
        have e : f = gW (NX K pos tk E po th bd) L x (j + 1) := gB_un hf ((sp (j + 1) hj).2.2 j rfl)
        have r := ih (j + 1) _ (by omega) (by omega) hin
        rw [if_pos hj, ← e] at r
        rw [nI_1]
        exact r
      · unfold wk_Mo_find_189_121
        have r := ih (j + 1) _ (by omega) (by omega) hin
        rw [if_neg (by omega)] at r
        rw [nI_1]
        exact r
    · rw [if_neg q]
      have : j = L x := by omega
      subst this
      exact ⟨fun _ => h way a3, fun c => absurd rfl c⟩
/-- the reference's find -/
theorem m_find {kinds positions taken ends ats ports bends left way : Nat → Int32} {wide : Int32} (hT : T ≤ 40) (hk : ∀ t, t < T → kinds t = nI (rk (K t))) (vK : ∀ t, t < T → K t ≤ 10) (hq : ∀ t, t < T → positions t = nI (pos t)) (vq : ∀ t, t < T → pos t ≤ 9)
    (hm : mG2 T p K tk E po th bd taken ends ats ports bends) (hV : vG2 T p K tk E po th bd) (hs : s < T) (hg : g < T) (ks : K s = 10) (kg : K g = 10) (hne : ¬ s = g) {P : Int32 → Int32 → (Nat → Int32) → (Nat → Int32) → Prop}
    (h1 : ∀ (left way : Nat → Int32) (L : Nat → Nat) (x : Nat), mJ p g (NX K pos tk E po th bd) th L → mClosed p (nxk K pos tk E po th bd) L → gS p s th L x → L x ≤ p → (∀ i, i < L x → way i = nI (gW (NX K pos tk E po th bd) L x i)) → P 1 (nI (L x)) left way)
    (h0 : ∀ (left : Nat → Int32) (L : Nat → Nat), mJ p g (NX K pos tk E po th bd) th L → mClosed p (nxk K pos tk E po th bd) L → gS0 p s th L → P 0 0 left way) : wp_Mo_find (nI p) wide kinds positions ends ats ports bends left way (nI s) (nI g) P := by
  have hp : p ≤ 60 := hV.1
  unfold wp_Mo_find
  refine m_measure hT (by omega) hk vK hq vq hm hV (fun lf L hJ hc hL => ⟨2 * p + 1, ?_⟩)
  refine m_f15 hp (by omega) (fun e he => (hm.2.2 e he).1) (fun e t he ht => by have := (hV.2.2.1 e t he ht).1; omega) hL (fun e he => (hJ e he).2.1) (fun x hx => ?_) (fun hx => ?_) (2 * p + 1) 0 none (by omega) (by omega) (fun e he => by omega)
  · unfold wk_Mo_find_80_15
    obtain ⟨x1, x2, x3, x4⟩ := hx
    have hlen := gW_len hT vK vq hV hJ hc x1 x3 x2 ks hne kg
    have hpos := (hJ x x1).1
    refine ⟨L x + 1, ?_⟩
    have r := m_f80 hT hk vK hq vq hm hV hL hJ hc x1 x3 (by omega) (Kc := wk_Mo_find_195_80 lf P) (fun w hw => by
      unfold wk_Mo_find_195_80
      refine ⟨fun c => ?_, fun _ => h1 lf w L x hJ hc ⟨x1, x2, x3, x4⟩ hlen hw⟩
      rw [show (0 : Int32) = nI 0 from rfl, nI_leI (by omega) (by decide)] at c
      omega) (L x + 1) 0 way (by omega) (by omega) (fun i hi => by omega)
    rw [if_pos (by omega)] at r
    exact r
  · unfold wk_Mo_find_80_15
    refine ⟨1, ?_⟩
    unfold wl_Mo_find_80
    refine ⟨fun _ => ?_, fun c => absurd rfl c⟩
    unfold wk_Mo_find_195_80
    exact ⟨fun _ => h0 lf L hJ hc hx, fun c => absurd (by decide) c⟩
end Find
