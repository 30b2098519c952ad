/-! LEVEL 2: the reference's measure: pipes left to the goal -/
def sm (f : Nat → Nat) : Nat → Nat
  | 0 => 0
  | n + 1 => sm f n + f n
theorem sm_same {f g : Nat → Nat} : ∀ n, (∀ i, i < n → f i = g i) → sm f n = sm g n := by
  intro n
  induction n with
  | zero => intro _; rfl
  | succ n ih => intro h; unfold sm; rw [ih (fun i hi => h i (by omega)), h n (by omega)]
theorem sm_up {f : Nat → Nat} {k v : Nat} : ∀ n, k < n → v < f k → sm (va_up f k v) n < sm f n := by
  intro n
  induction n with
  | zero => intro h; omega
  | succ n ih =>
    intro h hv
    unfold sm
    by_cases e : k = n
    · subst e
      have h1 : sm (va_up f k v) k = sm f k := sm_same k (fun i hi => va_up_ne _ _ (by omega))
      rw [h1, va_up_self]
      omega
    · have h1 := ih (by omega) hv
      rw [va_up_ne _ _ (show n ≠ k by omega)]
      omega
section Meas
variable {T p : Nat} {K pos tk E po : Nat → Nat} {th bd : Nat → Option Nat}
theorem nxk_fun {v k f f' : Nat} (h : nxk K pos tk E po th bd v k f) (h' : nxk K pos tk E po th bd v k f') : f = f' := by
  rcases h with ⟨a1, a2, a3⟩ | ⟨t, a1, a2, a3, a4, a5⟩
  · rcases h' with ⟨b1, b2, b3⟩ | ⟨t', b1, b2⟩
    · rw [a3] at b3; exact Option.some.inj b3
    · rw [a1] at b1; cases b1
  · rcases h' with ⟨b1, b2, b3⟩ | ⟨t', b1, b2, b3, b4, b5⟩
    · rw [a1] at b1; cases b1
    · rw [a1] at b1
      cases b1
      rw [a5, b5]
theorem nxk_lt (hV : vG2 T p K tk E po th bd) {v k f : Nat} (hv : v < 2 * p) (h : nxk K pos tk E po th bd v k f) : f < 2 * p := by
  obtain ⟨-, v1, v2, v3⟩ := hV
  rcases h with ⟨-, -, a3⟩ | ⟨t, a1, a2, a3, -, a5⟩
  · exact (v3 v f hv a3).1
  · rw [a5]
    exact ((v1 t (v2 v t hv a1).1 a2).2.1 k a3).1
/-- distances that can come about -/
def mJ (p g : Nat) (nx : Nat → Nat → Prop) (th : Nat → Option Nat) (L : Nat → Nat) : Prop :=
  ∀ e, e < 2 * p → 1 ≤ L e ∧ L e ≤ 1000 ∧ (L e = 1 ↔ th (pv e) = some g) ∧ (L e < 1000 → ¬ L e = 1 → ∃ f, nx e f ∧ f < 2 * p ∧ L f + 1 ≤ L e)
def mHL (p : Nat) (left : Nat → Int32) (L : Nat → Nat) : Prop := ∀ e, e < 2 * p → left e = nI (L e)
theorem mJ_up {p g : Nat} {nx : Nat → Nat → Prop} {th : Nat → Option Nat} {L : Nat → Nat} (h : mJ p g nx th L) {e f : Nat} (he : e < 2 * p) (hf : f < 2 * p) (hn : nx e f) (hlt : L f + 1 < L e) : mJ p g nx th (va_up L e (L f + 1)) := by
  intro x hx
  obtain ⟨a1, a2, a3, a4⟩ := h x hx
  obtain ⟨b1, b2, b3, -⟩ := h e he
  obtain ⟨c1, -, -, -⟩ := h f hf
  have hfe : f ≠ e := by intro q; rw [q] at hlt; omega
  by_cases q : x = e
  · subst q
    rw [va_up_self]
    refine ⟨by omega, by omega, ⟨fun z => by omega, fun z => ?_⟩, fun _ _ => ⟨f, hn, hf, ?_⟩⟩
    · have := b3.mpr z; omega
    · rw [va_up_ne _ _ hfe]; omega
  · rw [va_up_ne _ _ q]
    refine ⟨a1, a2, a3, fun z1 z2 => ?_⟩
    obtain ⟨y, y1, y2, y3⟩ := a4 z1 z2
    refine ⟨y, y1, y2, ?_⟩
    by_cases r : y = e
    · rw [r, va_up_self]; rw [r] at y3; omega
    · rw [va_up_ne _ _ r]; exact y3
/-- within one round over all pipes -/
def mQ (p g : Nat) (nk : Nat → Nat → Nat → Prop) (nx : Nat → Nat → Prop) (th : Nat → Option Nat) (L0 : Nat → Nat) (fl : Nat) (L : Nat → Nat) (e i : Nat) : Prop :=
  mJ p g nx th L ∧ ((fl = 0 ∧ L = L0 ∧ ∀ x k f, (x < e ∨ (x = e ∧ k < i)) → x < 2 * p → k < 4 → nk (pv x) k f → L0 x ≤ L0 f + 1) ∨ (fl = 1 ∧ sm L (2 * p) < sm L0 (2 * p)))
theorem m_66 {kinds positions taken ends ats ports bends : Nat → Int32} {g : Nat} {L0 : Nat → Nat} (hT : T ≤ 40) (hk : ∀ t, t < T → kinds t = nI (rk (K t))) (vK : ∀ t, t < T → K t ≤ 10) (hq : ∀ t, t < T → positions t = nI (pos t)) (vq : ∀ t, t < T → pos t ≤ 9)
    (hm : mG2 T p K tk E po th bd taken ends ats ports bends) (hV : vG2 T p K tk E po th bd) {e : Nat} (he : e < 2 * p) {Kc : Int32 → Int32 → (Nat → Int32) → Prop}
    (hc : ∀ (fl : Nat) (left : Nat → Int32) (L : Nat → Nat), fl ≤ 1 → mQ p g (nxk K pos tk E po th bd) (NX K pos tk E po th bd) th L0 fl L e 4 → mHL p left L → Kc (nI fl) (nI 4) left) :
    ∀ (d i fl : Nat) (left : Nat → Int32) (L : Nat → Nat), i ≤ 4 → 4 - i < d → fl ≤ 1 → mQ p g (nxk K pos tk E po th bd) (NX K pos tk E po th bd) th L0 fl L e i → mHL p left L → wl_Mo_measure_66 kinds positions ends ats ports bends (nI e) Kc d (nI fl) (nI i) left := by
  have hp : p ≤ 60 := hV.1
  intro d
  induction d with
  | zero => intro i fl left L h1 h2; omega
  | succ d ih =>
    intro i fl left L h1 h2 h3 h4 h5
    unfold wl_Mo_measure_66
    rw [show (4 : Int32) = nI 4 from rfl, leS (a := 4) (b := i) (by decide) (by omega), q_xor e (by omega), nI_1]
    refine ⟨fun c => ?_, fun c => ?_⟩
    · have : i = 4 := by omega
      subst this
      exact hc fl left L h3 h4 h5
    · have hpe := pv_lt he
      have hie : vp_in (nI e) 120 := vp_in_nI (by omega) (by decide)
      -- what a turn leaves when nothing is written
      have keep : ∀ f', (∀ f, nxk K pos tk E po th bd (pv e) i f → f = f') → (L e ≤ L f' + 1 ∨ ∀ f, ¬ nxk K pos tk E po th bd (pv e) i f) → mQ p g (nxk K pos tk E po th bd) (NX K pos tk E po th bd) th L0 fl L e (i + 1) := by
        intro f' hu hle
        refine ⟨h4.1, ?_⟩
        rcases h4.2 with ⟨z1, z2, z3⟩ | z
        · refine Or.inl ⟨z1, z2, fun x k f hxk hx hk4 hn => ?_⟩
          by_cases q : x = e ∧ k = i
          · obtain ⟨q1, q2⟩ := q
            subst q1; subst q2
            rcases hle with y | y
            · rw [← z2, hu f hn]; exact y
            · exact absurd hn (y f)
          · exact z3 x k f (by omega) hx hk4 hn
        · exact Or.inr z
      refine m_next hT hk vK hq vq hm hV hpe (by omega) (fun f hf => ?_) (fun hn => ?_)
      · have hfl := nxk_lt hV hpe hf
        have hif : vp_in (nI f) 120 := vp_in_nI (by omega) (by decide)
        obtain ⟨j1, j2, j3, j4⟩ := h4.1 e he
        obtain ⟨f1, f2, -, -⟩ := h4.1 f hfl
        refine ⟨fun c2 => absurd c2 (q_m1 (by omega)), fun _ => ⟨hif, hie, ?_⟩⟩
        rw [nI_clamp (n := e) (by omega), nI_clamp (n := f) (by omega), h5 e he, h5 f hfl, nI_1, nI_leI (by omega) (by omega)]
        refine ⟨fun c2 => ?_, fun c2 => ⟨hif, hie, ?_⟩⟩
        · exact ih (i + 1) fl left L (by omega) (by omega) h3 (keep f (fun f' hf' => nxk_fun hf' hf) (Or.inl c2)) h5
        · have hJ := mJ_up h4.1 he hfl (⟨i, by omega, hf⟩ : NX K pos tk E po th bd e f) (by omega)
          refine ih (i + 1) 1 _ (va_up L e (L f + 1)) (by omega) (by omega) (by omega) ⟨hJ, Or.inr ⟨rfl, ?_⟩⟩ (fun x hx => ?_)
          · have s1 : sm (va_up L e (L f + 1)) (2 * p) < sm L (2 * p) := sm_up (2 * p) he (by omega)
            rcases h4.2 with ⟨-, z2, -⟩ | ⟨-, z⟩
            · rw [← z2]; exact s1
            · omega
          · by_cases q : x = e
            · subst q; rw [pk_us, va_up_self]
            · rw [pk_un q, va_up_ne _ _ q]; exact h5 x hx
      · refine ⟨fun _ => ?_, fun c2 => absurd rfl c2⟩
        exact ih (i + 1) fl left L (by omega) (by omega) h3 (keep 0 (fun f hf => absurd hf (hn f)) (Or.inr hn)) h5
theorem mQ_next {p g : Nat} {nk : Nat → Nat → Nat → Prop} {nx : Nat → Nat → Prop} {th : Nat → Option Nat} {L0 L : Nat → Nat} {fl e : Nat} (h : mQ p g nk nx th L0 fl L e 4) : mQ p g nk nx th L0 fl L (e + 1) 0 := by
  refine ⟨h.1, ?_⟩
  rcases h.2 with ⟨z1, z2, z3⟩ | z
  · exact Or.inl ⟨z1, z2, fun x k f h1 h2 h3 h4 => z3 x k f (by omega) h2 h3 h4⟩
  · exact Or.inr z
theorem m_53 {kinds positions taken ends ats ports bends : Nat → Int32} {g : Nat} {L0 : Nat → Nat} (hT : T ≤ 40) (hk : ∀ t, t < T → kinds t = nI (rk (K t))) (vK : ∀ t, t < T → K t ≤ 10) (hq : ∀ t, t < T → positions t = nI (pos t)) (vq : ∀ t, t < T → pos t ≤ 9)
    (hm : mG2 T p K tk E po th bd taken ends ats ports bends) (hV : vG2 T p K tk E po th bd) {Kc : Int32 → Int32 → (Nat → Int32) → Prop}
    (hc : ∀ (fl : Nat) (left : Nat → Int32) (L : Nat → Nat), fl ≤ 1 → mQ p g (nxk K pos tk E po th bd) (NX K pos tk E po th bd) th L0 fl L (2 * p) 0 → mHL p left L → Kc (nI fl) (nI (2 * p)) left) :
    ∀ (d x fl : Nat) (left : Nat → Int32) (L : Nat → Nat), x ≤ 2 * p → 2 * p - x < d → fl ≤ 1 → mQ p g (nxk K pos tk E po th bd) (NX K pos tk E po th bd) th L0 fl L x 0 → mHL p left L → wl_Mo_measure_53 (nI p) kinds positions ends ats ports bends Kc d (nI fl) (nI x) left := by
  have hp : p ≤ 60 := hV.1
  intro d
  induction d with
  | zero => intro x fl left L h1 h2; omega
  | succ d ih =>
    intro x fl left L h1 h2 h3 h4 h5
    unfold wl_Mo_measure_53
    rw [show (2 : Int32) = nI 2 from rfl, pk_mul, leS (a := 2 * p) (b := x) (by omega) (by omega)]
    refine ⟨fun c => ?_, fun c => ⟨5, ?_⟩⟩
    · have : x = 2 * p := by omega
      subst this
      exact hc fl left L h3 h4 h5
    · refine m_66 hT hk vK hq vq hm hV (L0 := L0) (g := g) (by omega) (fun fl' left' L' a1 a2 a3 => ?_) 5 0 fl left L (by omega) (by omega) h3 h4 h5
      unfold wk_Mo_measure_130_66
      rw [nI_1]
      exact ih (x + 1) fl' left' L' (by omega) (by omega) a1 (mQ_next a2) a3
/-- no pipe is nearer than one more than the next -/
def mClosed (p : Nat) (nk : Nat → Nat → Nat → Prop) (L : Nat → Nat) : Prop := ∀ x k f, x < 2 * p → k < 4 → nk (pv x) k f → L x ≤ L f + 1
theorem m_45 {kinds positions taken ends ats ports bends : Nat → Int32} {g : Nat} (hT : T ≤ 40) (hk : ∀ t, t < T → kinds t = nI (rk (K t))) (vK : ∀ t, t < T → K t ≤ 10) (hq : ∀ t, t < T → positions t = nI (pos t)) (vq : ∀ t, t < T → pos t ≤ 9)
    (hm : mG2 T p K tk E po th bd taken ends ats ports bends) (hV : vG2 T p K tk E po th bd) {P : (Nat → Int32) → Prop}
    (h : ∀ (left : Nat → Int32) (L : Nat → Nat), mJ p g (NX K pos tk E po th bd) th L → mClosed p (nxk K pos tk E po th bd) L → mHL p left L → P left) :
    ∀ (S fl : Nat) (left : Nat → Int32) (L : Nat → Nat), fl ≤ 1 → sm L (2 * p) < S → mJ p g (NX K pos tk E po th bd) th L → mHL p left L → (fl = 0 → mClosed p (nxk K pos tk E po th bd) L) → wl_Mo_measure_45 (nI p) kinds positions ends ats ports bends (wk_Mo_measure_139_45 P) (S + 1) (nI fl) left := by
  have hp : p ≤ 60 := hV.1
  have out : ∀ (d : Nat) (left : Nat → Int32) (L : Nat → Nat), mJ p g (NX K pos tk E po th bd) th L → mHL p left L → mClosed p (nxk K pos tk E po th bd) L → wl_Mo_measure_45 (nI p) kinds positions ends ats ports bends (wk_Mo_measure_139_45 P) (d + 1) (nI 0) left := by
    intro d left L a1 a2 a3
    unfold wl_Mo_measure_45
    refine ⟨fun _ => ?_, fun c => absurd rfl c⟩
    unfold wk_Mo_measure_139_45
    exact h left L a1 a3 a2
  intro S
  induction S with
  | zero => intro fl left L h1 h2; omega
  | succ S ih =>
    intro fl left L h1 h2 h3 h4 h5
    by_cases c0 : fl = 0
    · subst c0
      exact out (S + 1) left L h3 h4 (h5 rfl)
    · unfold wl_Mo_measure_45
      refine ⟨fun c => absurd ((qe_0 (n := fl) (by omega)).mp c) c0, fun _ => ⟨2 * p + 1, ?_⟩⟩
      refine m_53 hT hk vK hq vq hm hV (L0 := L) (g := g) (fun fl' left' L' a1 a2 a3 => ?_) (2 * p + 1) 0 0 left L (by omega) (by omega) (by omega) ⟨h3, Or.inl ⟨rfl, rfl, fun x k f z => by omega⟩⟩ h4
      unfold wk_Mo_measure_136_53
      rcases a2.2 with ⟨z1, z2, z3⟩ | ⟨z1, z2⟩
      · subst z1
        refine out S left' L' a2.1 a3 (fun x k f y1 y2 y3 => ?_)
        rw [z2]
        exact z3 x k f (by omega) y1 y2 y3
      · subst z1
        exact ih 1 left' L' (by omega) (by omega) a2.1 a3 (fun z => by omega)
theorem oI_eq {o : Option Nat} {g : Nat} (hg : g < 1000) (ho : ∀ t, o = some t → t < 1000) : oI o = nI g ↔ o = some g := by
  cases o with
  | none => exact ⟨fun z => absurd z.symm (q_m1 (by omega)), fun z => by cases z⟩
  | some t =>
    have ht := ho t rfl
    show nI t = nI g ↔ _
    rw [eqS ht hg]
    exact ⟨fun z => by rw [z], fun z => Option.some.inj z⟩
/-- the reference's measure -/
theorem m_measure {kinds positions taken ends ats ports bends left : Nat → Int32} {g : Nat} (hT : T ≤ 40) (hg : g < 1000) (hk : ∀ t, t < T → kinds t = nI (rk (K t))) (vK : ∀ t, t < T → K t ≤ 10) (hq : ∀ t, t < T → positions t = nI (pos t)) (vq : ∀ t, t < T → pos t ≤ 9)
    (hm : mG2 T p K tk E po th bd taken ends ats ports bends) (hV : vG2 T p K tk E po th bd) {P : (Nat → Int32) → Prop}
    (h : ∀ (left : Nat → Int32) (L : Nat → Nat), mJ p g (NX K pos tk E po th bd) th L → mClosed p (nxk K pos tk E po th bd) L → mHL p left L → P left) : wp_Mo_measure (nI p) kinds positions ends ats ports bends left (nI g) P := by
  have hp : p ≤ 60 := hV.1
  unfold wp_Mo_measure
  refine ⟨2 * p + 1, ?_⟩
  have key : ∀ (d i : Nat) (lf : Nat → Int32) (L : Nat → Nat), i ≤ 2 * p → 2 * p - i < d → (∀ e, e < i → lf e = nI (L e) ∧ (L e = 1 ∧ th (pv e) = some g ∨ L e = 1000 ∧ ¬ th (pv e) = some g)) → wl_Mo_measure_2 (nI p) ats (nI g) (wk_Mo_measure_43_2 (nI p) kinds positions ends ats ports bends P) d (nI i) lf := by
    intro d
    induction d with
    | zero => intro i lf L h1 h2; omega
    | succ d ih =>
      intro i lf L h1 h2 h3
      unfold wl_Mo_measure_2
      rw [show (2 : Int32) = nI 2 from rfl, pk_mul, leS (a := 2 * p) (b := i) (by omega) (by omega)]
      refine ⟨fun c => ?_, fun c => ?_⟩
      · have : i = 2 * p := by omega
        subst this
        unfold wk_Mo_measure_43_2
        refine ⟨sm L (2 * p) + 1 + 1, ?_⟩
        refine m_45 hT hk vK hq vq hm hV h (sm L (2 * p) + 1) 1 lf L (by omega) (by omega) (fun e he => ?_) (fun e he => (h3 e he).1) (fun z => by omega)
        rcases (h3 e he).2 with ⟨z1, z2⟩ | ⟨z1, z2⟩
        · exact ⟨by omega, by omega, ⟨fun _ => z2, fun _ => z1⟩, fun _ y => absurd z1 y⟩
        · exact ⟨by omega, by omega, ⟨fun y => by omega, fun y => absurd y z2⟩, fun y => by omega⟩
      · have hi : i < 2 * p := by omega
        have hpi := pv_lt hi
        rw [q_xor i (by omega), nI_clamp (n := pv i) (by omega), nI_clamp (n := i) (by omega), (hm.2.2 (pv i) hpi).1, oI_eq hg (fun t ht => by have := (hV.2.2.1 (pv i) t hpi ht).1; omega), nI_1]
        have hin : vp_in (nI i) 120 := vp_in_nI (by omega) (by decide)
        refine ⟨vp_in_nI (by omega) (by decide), fun c2 => ⟨hin, ?_⟩, fun c2 => ⟨hin, ?_⟩⟩
        · refine ih (i + 1) _ (va_up L i 1000) (by omega) (by omega) (fun e he => ?_)
          by_cases q : e = i
          · subst q; rw [pk_us, va_up_self]; exact ⟨rfl, Or.inr ⟨rfl, c2⟩⟩
          · rw [pk_un q, va_up_ne _ _ q]; exact h3 e (by omega)
        · refine ih (i + 1) _ (va_up L i 1) (by omega) (by omega) (fun e he => ?_)
          by_cases q : e = i
          · subst q; rw [pk_us, va_up_self]; exact ⟨rfl, Or.inl ⟨rfl, c2⟩⟩
          · rw [pk_un q, va_up_ne _ _ q]; exact h3 e (by omega)
  exact key (2 * p + 1) 0 left (fun _ => 0) (by omega) (by omega) (fun e he => by omega)
end Meas
