/-! LEVEL 2: the class's move: what comes to the tank; the whole move -/
theorem va_up_id {f : Nat → Nat} {t : Nat} : va_up f t (f t) = f := by
  funext u
  by_cases q : u = t
  · rw [q, va_up_self]
  · rw [va_up_ne _ _ q]
theorem va_up_up {f : Nat → Nat} {t a b : Nat} : va_up (va_up f t a) t b = va_up f t b := by
  funext u
  by_cases q : u = t
  · rw [q, va_up_self, va_up_self]
  · rw [va_up_ne _ _ q, va_up_ne _ _ q, va_up_ne _ _ q]
section Run
variable {T : Nat} {K pos cap am lq : Nat → Nat} {tl : Nat → Int32} {kind position told capacity amount liquid : Nat → Int32}
theorem s_pour0 {x q n : Int32} (h : q = 0 ∨ n = 0) {P : (Nat → Int32) → (Nat → Int32) → Prop} (hP : P amount liquid) : wp_Pl_pourIn amount liquid x q n P := by
  unfold wp_Pl_pourIn
  exact ⟨fun _ => hP, fun a => ⟨fun b => by rcases h with c | c; exact absurd c a; exact absurd c b, fun _ => hP⟩⟩
theorem s_draw (hT : T ≤ 40) (hc : cG1 T K pos tl cap am lq kind position told capacity amount liquid) {s M : Nat} (hs : s < T) (hM : M ≤ am s) (hb : am s ≤ 100000) {P : (Nat → Int32) → (Nat → Int32) → Prop}
    (h : ∀ amount' liquid', cG1 T K pos tl cap (va_up am s (am s - M)) (va_up lq s (if am s - M = 0 then 0 else lq s)) kind position told capacity amount' liquid' → P amount' liquid') : wp_Pl_drawOff amount liquid (nI s) (nI M) P := by
  unfold wp_Pl_drawOff
  have hin : vp_in (nI s) 40 := vp_in_nI (by omega) (by decide)
  obtain ⟨-, -, -, -, a5, a6⟩ := hc s hs
  rw [nI_clamp (n := s) (by omega), a5, q_sub hM, pk_us, show (0 : Int32) = nI 0 from rfl, nI_eq (by omega) (by decide)]
  refine ⟨hin, hin, hin, fun q => h _ _ ?_, fun q => ⟨hin, h _ _ ?_⟩⟩
  · rw [if_neg q]
    have := cG1_pour (t0 := s) (n := am s - M) (m := lq s) hc
    rw [← a6] at this
    have e : upd liquid s (liquid s) = liquid := by
      funext u
      by_cases z : u = s
      · rw [z, pk_us]
      · rw [pk_un z]
    rw [e] at this
    exact this
  · rw [if_pos q]
    exact cG1_pour hc
theorem s_push {A : Nat} {row : Nat → Int64} {ln : Nat → Nat} (hr : ∀ m, m < A → nib row m = ln (A - 1 - m)) (h16 : ∀ m, ln m < 16) (hA : A ≤ 12000) (hT : T ≤ 40) {t n af l : Nat} (ht : t < T) (hn : n ≤ 100000) (hcp : cap t ≤ 100000) {R : Nat × Nat × Nat} {K1 K2 : Int32 → (Nat → Int32) → (Nat → Int32) → Prop}
    (hK : ∀ m a b amount liquid, m ≤ A → m ≤ min n af → a ≤ cap t → b ≤ 15 → R = mvR n af (cap t) l A ln (n + 1 - m) m a b → (¬ m = A → R = (m, a, b)) → cG1 T K pos tl cap (va_up am t a) (va_up lq t b) kind position told capacity amount liquid → K1 (nI m) amount liquid ∧ K2 (nI m) amount liquid) :
    ∀ (d m a b : Nat) (amount liquid : Nat → Int32), m ≤ A → m ≤ min n af → a ≤ cap t → b ≤ 15 → A - m < d → R = mvR n af (cap t) l A ln (n + 1 - m) m a b → cG1 T K pos tl cap (va_up am t a) (va_up lq t b) kind position told capacity amount liquid →
      wl_Fl_pushOut_3 (nI (min n af)) (nI A) row (nI t) capacity K1 K2 d (nI m) amount liquid := by
  intro d
  induction d with
  | zero => intro m a b amount liquid a1 a2 a3 a4 a5; omega
  | succ d ih =>
    intro m a b amount liquid a1 a2 a3 a4 a5 a6 a7
    unfold wl_Fl_pushOut_3
    rw [nI_leI (by omega) (by omega), nI_leI (by omega) (by omega)]
    refine ⟨fun q => (hK m a b amount liquid a1 a2 a3 a4 a6 (fun _ => by rw [a6, mvR_stop (by omega)]) a7).2, fun q => ⟨fun q1 => (hK m a b amount liquid a1 a2 a3 a4 a6 (fun z => by omega) a7).2, fun q1 => ?_⟩⟩
    refine s_at (by omega) ?_
    have hc : cN A l ln m = ln (A - 1 - m) := by unfold cN; rw [if_pos (by omega)]
    have h16' := h16 (A - 1 - m)
    rw [hr m (by omega), ← hc] at *
    rw [show n + 1 - m = (n - m) + 1 by omega] at a6
    rw [nI_1]
    obtain ⟨-, -, -, c4, c5, c6⟩ := a7 t ht
    rw [va_up_self] at c5 c6
    refine ⟨fun q2 => s_pour0 (Or.inl q2) ?_, fun q2 => ?_⟩
    · have q2 : cN A l ln m = 0 := (nI_eq (b := 0) (by omega) (by decide)).mp q2
      refine ih (m + 1) a b amount liquid (by omega) (by omega) a3 a4 (by omega) ?_ a7
      unfold mvR at a6
      rw [if_pos ⟨by omega, by omega, Or.inl q2⟩, if_pos q2, if_pos q2] at a6
      rw [show n + 1 - (m + 1) = n - m by omega]
      exact a6
    · have q2 : ¬ cN A l ln m = 0 := fun z => q2 (by rw [z]; rfl)
      unfold wp_Pl_roomIn
      have hin : vp_in (nI t) 40 := vp_in_nI (by omega) (by decide)
      refine ⟨hin, hin, ?_⟩
      rw [nI_clamp (n := t) (by omega), c4, c5, q_sub a3]
      dsimp only
      rw [show (1 : Int32) = nI 1 from rfl, nI_leI (by decide) (by omega)]
      refine ⟨fun q3 => ?_, fun q3 => ?_⟩
      · refine s_pourIn (by omega) (by omega) (by omega) (by omega) c5 c6 (by omega) a4 ?_
        refine ih (m + 1) (a + 1) (mix a b (cN A l ln m)) _ _ (by omega) (by omega) (by omega) (mix_le (by omega)) (by omega) ?_ ?_
        · unfold mvR at a6
          rw [if_pos ⟨by omega, by omega, Or.inr (by omega)⟩, if_neg q2, if_neg q2] at a6
          rw [show n + 1 - (m + 1) = n - m by omega]
          exact a6
        · have := cG1_pour (t0 := t) (n := a + 1) (m := mix a b (cN A l ln m)) a7
          rw [va_up_up, va_up_up] at this
          exact this
      · refine (hK m a b amount liquid a1 a2 a3 a4 (by rw [show n + 1 - m = (n - m) + 1 by omega]; exact a6) (fun _ => ?_) a7).1
        rw [a6, mvR_stop (by omega)]
/-- the tanks after a move -/
def mvAm (am : Nat → Nat) (s t : Nat) (R : Nat × Nat × Nat) : Nat → Nat := va_up (va_up am t R.2.1) s (am s - R.1)
def mvLq (am lq : Nat → Nat) (s t : Nat) (R : Nat × Nat × Nat) : Nat → Nat := va_up (va_up lq t R.2.2) s (if am s - R.1 = 0 then 0 else lq s)
variable {p D : Nat} {sz ct W Q : Nat → Nat} {pipeLitres previous lastE : Nat → Int32} {w row : Nat → Int64} {size : Int32}
/-- the move's own reckoning -/
def mvX (D : Nat) (sz ct W Q am lq cap : Nat → Nat) (s t n : Nat) : Nat × Nat × Nat := mvR n (am s) (cap t) (lq s) (sS (zW sz W) D) (fun i => ct (Q i)) (n + 1) 0 (am t) (lq t)
theorem q_min {a b : Nat} (ha : a < 2 ^ 31) (hb : b < 2 ^ 31) : (if nI a < nI b then nI a else nI b) = nI (min b a) := by
  by_cases h : a < b
  · rw [if_pos ((nI_ltI ha hb).mpr h), show min b a = a by omega]
  · rw [if_neg (fun z => h ((nI_ltI ha hb).mp z)), show min b a = b by omega]
theorem s_run (hY : WY p D sz W Q) (hD : 0 < D) (hp : p ≤ 60) (hV3 : vG3 p sz ct) (hC3 : cG3 p sz ct pipeLitres w) (hB : ∀ j, j < D → previous (pv (W j)) = eB W j)
    (hV : vG1 T K pos cap am lq) (hC : cG1 T K pos tl cap am lq kind position told capacity amount liquid) {s t n : Nat} (hs : s < T) (ht : t < T) (hne : ¬ s = t) (hn : n ≤ 100000) (hL : lastE t = eB W D)
    {P : Int32 → Int32 → (Nat → Int64) → (Nat → Int32) → (Nat → Int32) → (Nat → Int64) → Prop}
    (h : ∀ size row amount liquid w, vG3 p sz (mvC (sS (zW sz W) D) Q (mvX D sz ct W Q am lq cap s t n).1 (lq s) ct) → cG3 p sz (mvC (sS (zW sz W) D) Q (mvX D sz ct W Q am lq cap s t n).1 (lq s) ct) pipeLitres w → cG1 T K pos tl cap (mvAm am s t (mvX D sz ct W Q am lq cap s t n)) (mvLq am lq s t (mvX D sz ct W Q am lq cap s t n)) kind position told capacity amount liquid → P (nI (mvX D sz ct W Q am lq cap s t n).1) size row amount liquid w) :
    wp_Fl_run size row capacity amount liquid pipeLitres w previous lastE (nI s) (nI t) (nI n) P := by
  have hT := hV.1
  obtain ⟨-, -, sc, sa, sl, sp, s0⟩ := hV.2 s hs
  obtain ⟨-, -, tc, ta, tql, tp, t0⟩ := hV.2 t ht
  obtain ⟨-, -, -, c4, c5, c6⟩ := hC s hs
  have hA := hY.A hV3
  have hA1 : 0 < sS (zW sz W) D := by
    have h1 := sS_lt (z := zW sz W) hD
    have h2 := (hY.z hV3 hD).1
    omega
  have hin : vp_in (nI s) 40 := vp_in_nI (by omega) (by decide)
  have hint : vp_in (nI t) 40 := vp_in_nI (by omega) (by decide)
  have hok := mvR_ok (n := n) (af := am s) (cp := cap t) (l := lq s) (A := sS (zW sz W) D) (ln := fun i => ct (Q i)) (fun m _ => hV3.2.1 _) sl (n + 1) 0 (am t) (lq t) ta tql ⟨fun z => tp z, fun z => by rcases Nat.eq_zero_or_pos (am t) with y | y; rw [t0 y] at z; omega; exact y⟩ (Nat.zero_le _) (Nat.zero_le _)
  unfold wp_Fl_run
  rw [nI_clamp (n := s) (by omega), c5, c6, q_min (by omega) (by omega)]
  refine ⟨hin, hin, s_gather hp hY hV3 hC3 hB (by omega) hL (fun row hr => ?_)⟩
  unfold wp_Fl_pushOut
  refine ⟨sS (zW sz W) D + 1, ?_⟩
  have fin : ∀ (a b : Nat) (amount liquid : Nat → Int32), mvX D sz ct W Q am lq cap s t n = ((mvX D sz ct W Q am lq cap s t n).1, a, b) → cG1 T K pos tl cap (va_up am t a) (va_up lq t b) kind position told capacity amount liquid →
      wp_Pl_drawOff amount liquid (nI s) (nI (mvX D sz ct W Q am lq cap s t n).1) (fun am2 lq2 => wp_Fl_spread (nI (sS (zW sz W) D)) row pipeLitres w previous lastE (nI t) (nI (mvX D sz ct W Q am lq cap s t n).1) (nI (lq s)) (fun w2 => P (nI (mvX D sz ct W Q am lq cap s t n).1) (nI (sS (zW sz W) D)) row am2 lq2 w2)) := by
    intro a b amount liquid e hc
    have hM : (mvX D sz ct W Q am lq cap s t n).1 ≤ am s := hok.2.1
    have hM2 : (mvX D sz ct W Q am lq cap s t n).1 ≤ n := hok.1
    have h2 := h (nI (sS (zW sz W) D)) row
    generalize mvX D sz ct W Q am lq cap s t n = X at e hM hM2 h2 ⊢
    have es : va_up am t a s = am s := va_up_ne _ _ hne
    have el : va_up lq t b s = lq s := va_up_ne _ _ hne
    refine s_draw hT hc hs (by rw [es]; exact hM) (by rw [es]; omega) (fun am2 lq2 hc2 => ?_)
    refine s_spread hp hY hV3 hC3 (by omega) (by omega) hr hB (by omega) hL (fun w2 v3 c3 => ?_)
    refine h2 am2 lq2 w2 v3 c3 ?_
    unfold mvAm mvLq
    rw [es, el] at hc2
    rw [e]
    exact hc2
  refine s_push (am := am) (lq := lq) (pos := pos) (tl := tl) (K := K) (kind := kind) (position := position) (told := told) (l := lq s) (R := mvX D sz ct W Q am lq cap s t n) hr (fun m => hV3.2.1 _) hA hT ht hn tc (fun m a b amount2 liquid2 b1 b2 b3 b4 b5 b6 b7 => ?_) (sS (zW sz W) D + 1) 0 (am t) (lq t) amount liquid (Nat.zero_le _) (Nat.zero_le _) ta tql (by omega) rfl (by rw [va_up_id, va_up_id]; exact hC)
  have go : (fun (r35 : Int32) (am3 lq3 : Nat → Int32) => ((¬ r35 = nI (sS (zW sz W) D) → wp_Pl_drawOff am3 lq3 (nI s) r35 (fun am2 lq2 => wp_Fl_spread (nI (sS (zW sz W) D)) row pipeLitres w previous lastE (nI t) r35 (nI (lq s)) (fun w2 => P r35 (nI (sS (zW sz W) D)) row am2 lq2 w2))) ∧ (r35 = nI (sS (zW sz W) D) → wp_Pl_roomIn capacity am3 (nI t) (fun r57 => wp_Pl_pourIn am3 lq3 (nI t) (nI (lq s)) (if r57 < (nI (min n (am s)) - r35) then r57 else (nI (min n (am s)) - r35)) (fun am4 lq4 => wp_Pl_drawOff am4 lq4 (nI s) (r35 + (if r57 < (nI (min n (am s)) - r35) then r57 else (nI (min n (am s)) - r35))) (fun am2 lq2 => wp_Fl_spread (nI (sS (zW sz W) D)) row pipeLitres w previous lastE (nI t) (r35 + (if r57 < (nI (min n (am s)) - r35) then r57 else (nI (min n (am s)) - r35))) (nI (lq s)) (fun w2 => P (r35 + (if r57 < (nI (min n (am s)) - r35) then r57 else (nI (min n (am s)) - r35))) (nI (sS (zW sz W) D)) row am2 lq2 w2))))))) (nI m) amount2 liquid2 := by
    dsimp only
    rw [nI_eq (by omega) (by omega)]
    refine ⟨fun q => ?_, fun q => ?_⟩
    · have e := b6 q
      have := fin a b amount2 liquid2 (by rw [e]) b7
      rw [e] at this
      exact this
    · unfold wp_Pl_roomIn
      obtain ⟨-, -, -, d4, d5, d6⟩ := b7 t ht
      rw [va_up_self] at d5 d6
      have hl0 : 0 < lq s := sp (by omega)
      rw [mvR_rest hl0 _ _ _ _ (by omega) b3 (by omega) (by omega) (by omega)] at b5
      refine ⟨hint, hint, ?_⟩
      dsimp only
      rw [nI_clamp (n := t) (by omega), d4, d5, q_sub b3, q_sub b2, q_min (by omega) (by omega), nI_add]
      generalize hX : min (min n (am s) - m) (cap t - a) = X at b5 ⊢
      by_cases x0 : X = 0
      · refine s_pour0 (Or.inr (by rw [x0]; rfl)) ?_
        rw [x0, Nat.add_zero] at b5 ⊢
        rw [if_pos rfl] at b5
        have := fin a b amount2 liquid2 (by rw [b5]; rfl) b7
        rw [b5] at this
        exact this
      · refine s_pourIn (by omega) hl0 (by omega) (by omega) d5 d6 (by omega) b4 ?_
        rw [if_neg x0] at b5
        have c7 := cG1_pour (t0 := t) (n := a + X) (m := mix a b (lq s)) b7
        rw [va_up_up, va_up_up] at c7
        have := fin (a + X) (mix a b (lq s)) _ _ (by rw [b5]) c7
        rw [b5] at this
        exact this
  exact ⟨go, go⟩
end Run
