/-! LEVEL 2: the whole plant, and what a line of the text does to it -/
def AbS : Type := Nat × Nat × (Nat → Nat) × (Nat → Nat) × (Nat → Nat) × (Nat → Nat) × (Nat → Nat) × (Nat → Nat) × (Nat → Nat) × (Nat → Nat) × (Nat → Nat) × (Nat → Nat) × (Nat → Int32) × (Nat → Option Nat) × (Nat → Option Nat)
def mkS (T p : Nat) (K pos cap am lq tk E po sz ct : Nat → Nat) (tl : Nat → Int32) (th bd : Nat → Option Nat) : AbS := (T, p, K, pos, cap, am, lq, tk, E, po, sz, ct, tl, th, bd)
def AbS.T (S : AbS) : Nat := S.1
def AbS.p (S : AbS) : Nat := S.2.1
def AbS.K (S : AbS) : Nat → Nat := S.2.2.1
def AbS.pos (S : AbS) : Nat → Nat := S.2.2.2.1
def AbS.cap (S : AbS) : Nat → Nat := S.2.2.2.2.1
def AbS.am (S : AbS) : Nat → Nat := S.2.2.2.2.2.1
def AbS.lq (S : AbS) : Nat → Nat := S.2.2.2.2.2.2.1
def AbS.tk (S : AbS) : Nat → Nat := S.2.2.2.2.2.2.2.1
def AbS.E (S : AbS) : Nat → Nat := S.2.2.2.2.2.2.2.2.1
def AbS.po (S : AbS) : Nat → Nat := S.2.2.2.2.2.2.2.2.2.1
def AbS.sz (S : AbS) : Nat → Nat := S.2.2.2.2.2.2.2.2.2.2.1
def AbS.ct (S : AbS) : Nat → Nat := S.2.2.2.2.2.2.2.2.2.2.2.1
def AbS.tl (S : AbS) : Nat → Int32 := S.2.2.2.2.2.2.2.2.2.2.2.2.1
def AbS.th (S : AbS) : Nat → Option Nat := S.2.2.2.2.2.2.2.2.2.2.2.2.2.1
def AbS.bd (S : AbS) : Nat → Option Nat := S.2.2.2.2.2.2.2.2.2.2.2.2.2.2
def S0 : AbS := mkS 0 0 (fun _ => 0) (fun _ => 0) (fun _ => 0) (fun _ => 0) (fun _ => 0) (fun _ => 0) (fun _ => 0) (fun _ => 0) (fun _ => 0) (fun _ => 0) (fun _ => 0) (fun _ => none) (fun _ => none)
def VS (S : AbS) : Prop := vG1 S.T S.K S.pos S.cap S.am S.lq ∧ vG2 S.T S.p S.K S.tk S.E S.po S.th S.bd ∧ vG3 S.p S.sz S.ct
/-- the class's cells -/
def CS (S : AbS) (kind position told capacity amount liquid portsTaken endAtPort pipeLitres thingAtEnd portAtEnd bendAtEnd : Nat → Int32) (w : Nat → Int64) : Prop :=
  cG1 S.T S.K S.pos S.tl S.cap S.am S.lq kind position told capacity amount liquid ∧ cG2 S.T S.p S.K S.tk S.E S.po S.th S.bd portsTaken endAtPort thingAtEnd portAtEnd bendAtEnd ∧ cG3 S.p S.sz S.ct pipeLitres w
/-- the reference's cells -/
def MS (S : AbS) (kinds taken : Nat → Int32) (rooms litres : Nat → Int64) (liquids positions sensors ends sizes contents ats ports bends : Nat → Int32) : Prop :=
  mG1 S.T S.K S.pos S.tl S.cap S.am S.lq kinds positions sensors rooms litres liquids ∧ mG2 S.T S.p S.K S.tk S.E S.po S.th S.bd taken ends ats ports bends ∧ mG3 S.p S.sz S.ct sizes contents
def AbS.thing (S : AbS) (k j : Nat) : AbS := mkS (S.T + 1) S.p (va_up S.K S.T k) (va_up S.pos S.T 0) (va_up S.cap S.T j) (va_up S.am S.T 0) (va_up S.lq S.T 0) (va_up S.tk S.T 0) S.E S.po S.sz S.ct (va_up S.tl S.T (-1)) S.th S.bd
def AbS.pipe (S : AbS) (o1 o2 : Option Nat) (m : Nat) : AbS := mkS S.T (S.p + 1) S.K S.pos S.cap S.am S.lq (nT S.K (nT S.K S.tk o1) o2) (nE S.K (nT S.K S.tk o1) (nE S.K S.tk S.E (2 * S.p) o1) (2 * S.p + 1) o2) (nP S.K (nT S.K S.tk o1) (nP S.K S.tk S.po (2 * S.p) o1) (2 * S.p + 1) o2) (va_up S.sz S.p m) S.ct S.tl (va_up (va_up S.th (2 * S.p) o1) (2 * S.p + 1) o2) (va_up (va_up S.bd (2 * S.p) none) (2 * S.p + 1) none)
theorem VS_0 : VS S0 := by
  refine ⟨⟨by decide, fun t ht => absurd ht (Nat.not_lt_zero _)⟩, ⟨by decide, fun t ht => absurd ht (Nat.not_lt_zero _), fun e t he => absurd he (Nat.not_lt_zero _), fun e f he => absurd he (Nat.not_lt_zero _)⟩, fun q hq => absurd hq (Nat.not_lt_zero _), fun j => by show 0 < 16; decide, fun j _ => rfl⟩
theorem VS_thing {S : AbS} (h : VS S) (hT : S.T < 40) {k j : Nat} (hk : k ≤ 10) (hj : j ≤ 100000) : VS (S.thing k j) := ⟨vG1_thing h.1 hT hk hj, vG2_thing h.2.1, h.2.2⟩
theorem VS_K {S : AbS} (h : VS S) : ∀ t, t < S.T → S.K t ≤ 10 := fun t ht => (h.1.2 t ht).1
theorem VS_q {S : AbS} (h : VS S) : ∀ t, t < S.T → S.pos t ≤ 9 := fun t ht => (h.1.2 t ht).2.1
theorem VS_pipe {S : AbS} (h : VS S) (hp : S.p < 60) {o1 o2 : Option Nat} {m : Nat} (ok : okP S.T S.K S.tk o1 o2) (m1 : 1 ≤ m) (m2 : m ≤ 200) : VS (S.pipe o1 o2 m) := ⟨h.1, vG2_pipe h.2.1 (VS_K h) hp ok, vG3_pipe h.2.2 m1 m2⟩
/-- what a line does -/
noncomputable def ap (r : LR) (S : AbS) : Option AbS := if r.1 = 1 then (if S.T < 40 ∧ 1 ≤ r.2.2.2 ∧ r.2.2.2 ≤ 100000 then some (S.thing 10 r.2.2.2) else none)
  else if r.1 = 2 then (if S.T < 40 ∧ r.2.2.2 ≤ 8 then some (S.thing r.2.2.2 0) else none)
  else if r.1 = 3 then (if S.T < 40 then some (S.thing 9 0) else none)
  else if r.1 = 4 then @ite _ (S.p < 60 ∧ 1 ≤ r.2.2.2 ∧ r.2.2.2 ≤ 200 ∧ okP S.T S.K S.tk r.2.1 r.2.2.1) (Classical.propDecidable _) (some (S.pipe r.2.1 r.2.2.1 r.2.2.2)) none
  else none
theorem ap_bad (S : AbS) : ap LR.bad S = none := rfl
theorem ap_tank (v : Nat) (S : AbS) : ap (LR.tank v) S = if S.T < 40 ∧ 1 ≤ v ∧ v ≤ 100000 then some (S.thing 10 v) else none := rfl
theorem ap_valve (v : Nat) (S : AbS) : ap (LR.valve v) S = if S.T < 40 ∧ v ≤ 8 then some (S.thing v 0) else none := rfl
theorem ap_pump (S : AbS) : ap LR.pump S = if S.T < 40 then some (S.thing 9 0) else none := rfl
theorem ap_pipe (a b : Option Nat) (v : Nat) (S : AbS) : ap (LR.pipe a b v) S = @ite _ (S.p < 60 ∧ 1 ≤ v ∧ v ≤ 200 ∧ okP S.T S.K S.tk a b) (Classical.propDecidable _) (some (S.pipe a b v)) none := rfl
theorem VS_ap {S S' : AbS} {r : LR} (h : VS S) (e : ap r S = some S') : VS S' := by
  unfold ap at e
  split at e
  · split at e
    · rename_i z; cases e; exact VS_thing h z.1 (by decide) z.2.2
    · cases e
  · split at e
    · split at e
      · rename_i z; cases e; exact VS_thing h z.1 (by omega) (by decide)
      · cases e
    · split at e
      · split at e
        · rename_i z; cases e; exact VS_thing h z (by decide) (by decide)
        · cases e
      · split at e
        · split at e
          · rename_i z; cases e; exact VS_pipe h z.1 z.2.2.2 z.2.1 z.2.2.1
          · cases e
        · cases e
/-- the whole text, line by line -/
noncomputable def rdF (h : Nat → Nat) (n : Nat) : Nat → Nat → AbS → AbS × Option Nat
  | 0, _, S => (S, none)
  | d + 1, q, S => if n ≤ q then (S, none) else match ap (pL h q).1 S with
    | none => (S, some (pL h q).2)
    | some S' => rdF h n d ((pL h q).2 + 1) S'
theorem rdF_end {h : Nat → Nat} {n d q : Nat} {S : AbS} (z : n ≤ q) : rdF h n d q S = (S, none) := by
  cases d with
  | zero => rfl
  | succ d => rw [rdF, if_pos z]
theorem rdF_no {h : Nat → Nat} {n d q q' : Nat} {S : AbS} {r : LR} (z : q < n) (e : pL h q = (r, q')) (a : ap r S = none) : rdF h n (d + 1) q S = (S, some q') := by
  rw [rdF, if_neg (by omega), e]
  dsimp only
  rw [a]
theorem rdF_yes {h : Nat → Nat} {n d q q' : Nat} {S S' : AbS} {r : LR} (z : q < n) (e : pL h q = (r, q')) (a : ap r S = some S') : rdF h n (d + 1) q S = rdF h n d (q' + 1) S' := by
  rw [rdF, if_neg (by omega), e]
  dsimp only
  rw [a]
section St
variable {n : Nat} {tx : Nat → Nat} {bytes : Nat → Int32} {S : AbS} {w : Nat → Int64}
theorem q_neg1 : ((-1 : Int32) < 0) ∧ ((-2 : Int32) < 0) := by decide
/-- the class's line -/
theorem c_takeLine (h : tG n tx bytes) {q : Nat} (hq : q ≤ n) (hV : VS S) {number : Int32} {kind position told capacity amount liquid portsTaken endAtPort pipeLitres thingAtEnd portAtEnd bendAtEnd : Nat → Int32} (hC : CS S kind position told capacity amount liquid portsTaken endAtPort pipeLitres thingAtEnd portAtEnd bendAtEnd w)
    {P : Int32 → Int32 → Int32 → Int32 → Int32 → (Nat → Int32) → (Nat → Int32) → (Nat → Int32) → (Nat → Int32) → (Nat → Int32) → (Nat → Int32) → (Nat → Int32) → (Nat → Int32) → (Nat → Int32) → (Nat → Int32) → (Nat → Int32) → (Nat → Int32) → Prop}
    (h0 : ∀ r q' v, q' ≤ n → pL (hh n tx) q = (r, q') → ap r S = none → P 0 (nI q') v (nI S.T) (nI S.p) kind position told capacity amount liquid portsTaken endAtPort pipeLitres thingAtEnd portAtEnd bendAtEnd)
    (h1 : ∀ r q' v S', q' < n → pL (hh n tx) q = (r, q') → hh n tx q' = 10 → ap r S = some S' → ∀ kind position told capacity amount liquid portsTaken endAtPort pipeLitres thingAtEnd portAtEnd bendAtEnd, CS S' kind position told capacity amount liquid portsTaken endAtPort pipeLitres thingAtEnd portAtEnd bendAtEnd w → P 1 (nI q') v (nI S'.T) (nI S'.p) kind position told capacity amount liquid portsTaken endAtPort pipeLitres thingAtEnd portAtEnd bendAtEnd)
    (h10 : ∀ r q', pL (hh n tx) q = (r, q') → q' < n → ap r S ≠ none → hh n tx q' = 10) :
    wp_Te_takeLine (nI n) (nI q) number bytes (nI S.T) (nI S.p) kind position told capacity amount liquid portsTaken endAtPort pipeLitres thingAtEnd portAtEnd bendAtEnd P := by
  have hT := hV.1.1
  have hp := hV.2.1.1
  obtain ⟨c1, c2, c3⟩ := hC
  have ng : ∀ {j : Nat} {A B : Prop}, j < 2 ^ 31 → B → ((nI j < 0 → A) ∧ (¬ nI j < 0 → B)) := fun hj b => ⟨fun z => absurd z (nI_pos hj), fun _ => b⟩
  have n1 : ∀ {A B : Prop}, A → (((-1 : Int32) < 0 → A) ∧ (¬ (-1 : Int32) < 0 → B)) := fun a => ⟨fun _ => a, fun z => absurd q_neg1.1 z⟩
  have n2 : ∀ {A B : Prop}, A → (((-2 : Int32) < 0 → A) ∧ (¬ (-2 : Int32) < 0 → B)) := fun a => ⟨fun _ => a, fun z => absurd q_neg1.2 z⟩
  refine c_pL h hq (fun q' v l e => h0 _ q' v l e rfl) (fun v q' lv l e => ?_) (fun v q' lv l e => ?_) (fun q' l e => ?_) (fun a b v q' la lb lv l e => ?_)
  · refine c_tank hT (fun j j1 j2 ej t40 => ng (by omega) ?_) (fun j j1 j2 ej t40 => n2 ?_) (fun hn => n1 ?_)
    · have ej := (lN_eq (by omega) (by omega)).mp ej
      subst ej
      have ea : ap (LR.tank v) S = some (S.thing 10 v) := by (first | rw [ap_tank, if_pos ⟨t40, j1, j2⟩] | rw [ap_valve, if_pos ⟨t40, j1, j2⟩] | rw [ap_pump, if_pos ⟨t40, j1, j2⟩] | rw [ap_pipe, if_pos ⟨t40, j1, j2⟩])
      exact h1 _ q' _ _ l e (h10 _ _ e l (by rw [ea]; exact fun z => by cases z)) ea _ _ _ _ _ _ _ _ _ _ _ _ ⟨cG1_thing c1, cG2_thing c2 hV.2.1, c3⟩
    · exact h0 _ q' _ (by omega) e (by (first | rw [ap_tank, if_neg (by omega)] | rw [ap_valve, if_neg (by omega)] | rw [ap_pump, if_neg (by omega)] | rw [ap_pipe, if_neg (by omega)]))
    · exact h0 _ q' _ (by omega) e (by (first | rw [ap_tank, if_neg (fun z => hn v z.2.1 z.2.2 rfl)] | rw [ap_valve, if_neg (fun z => hn v z.2.1 z.2.2 rfl)] | rw [ap_pump, if_neg (fun z => hn v z.2.1 z.2.2 rfl)] | rw [ap_pipe, if_neg (fun z => hn v z.2.1 z.2.2 rfl)]))
  · refine c_valve hT (fun j j1 ej t40 => ng (by omega) ?_) (fun j j1 ej t40 => n2 ?_) (fun hn => n1 ?_)
    · have ej := (nI_eq (by omega) (by omega)).mp ej
      subst ej
      have ea : ap (LR.valve v) S = some (S.thing v 0) := by (first | rw [ap_tank, if_pos ⟨t40, j1⟩] | rw [ap_valve, if_pos ⟨t40, j1⟩] | rw [ap_pump, if_pos ⟨t40, j1⟩] | rw [ap_pipe, if_pos ⟨t40, j1⟩])
      exact h1 _ q' _ _ l e (h10 _ _ e l (by rw [ea]; exact fun z => by cases z)) ea _ _ _ _ _ _ _ _ _ _ _ _ ⟨cG1_thing c1, cG2_thing c2 hV.2.1, c3⟩
    · exact h0 _ q' _ (by omega) e (by (first | rw [ap_tank, if_neg (by omega)] | rw [ap_valve, if_neg (by omega)] | rw [ap_pump, if_neg (by omega)] | rw [ap_pipe, if_neg (by omega)]))
    · exact h0 _ q' _ (by omega) e (by (first | rw [ap_tank, if_neg (fun z => hn v z.2 rfl)] | rw [ap_valve, if_neg (fun z => hn v z.2 rfl)] | rw [ap_pump, if_neg (fun z => hn v z.2 rfl)] | rw [ap_pipe, if_neg (fun z => hn v z.2 rfl)]))
  · refine c_pump hT (fun t40 => ng (by omega) ?_) (fun t40 => n2 ?_)
    · have ea : ap LR.pump S = some (S.thing 9 0) := by (first | rw [ap_tank, if_pos t40] | rw [ap_valve, if_pos t40] | rw [ap_pump, if_pos t40] | rw [ap_pipe, if_pos t40])
      exact h1 _ q' _ _ l e (h10 _ _ e l (by rw [ea]; exact fun z => by cases z)) ea _ _ _ _ _ _ _ _ _ _ _ _ ⟨cG1_thing c1, cG2_thing c2 hV.2.1, c3⟩
    · exact h0 _ q' _ (by omega) e (by (first | rw [ap_tank, if_neg (by omega)] | rw [ap_valve, if_neg (by omega)] | rw [ap_pump, if_neg (by omega)] | rw [ap_pipe, if_neg (by omega)]))
  · have lt : ∀ (o : Option Nat), (∀ t, o = some t → t < 10000000) → ∀ (o' : Option Nat), (∀ t, o' = some t → t < 10000000) → oI o = oI o' → o = o' := by
      intro o h1 o' h2 e
      cases o with
      | none =>
        cases o' with
        | none => rfl
        | some t => exact absurd e.symm (q_m1 (j := t) (by have := h2 t rfl; omega))
      | some t =>
        cases o' with
        | none => exact absurd e (q_m1 (j := t) (by have := h1 t rfl; omega))
        | some t' =>
          have a1 := h1 t rfl
          have a2 := h2 t' rfl
          rw [(nI_eq (a := t) (b := t') (by omega) (by omega)).mp e]
    have lf : ∀ (m : Nat) (o : Option Nat), fm S.T S.K S.tk m o → ∀ t, o = some t → t < 10000000 := fun m o h t z => by have := (h t z).1; omega
    refine c_pipe (T := S.T) (p := S.p) hT (fun t ht => (c1 t ht).1) (VS_K hV) c2 hV.2.1 (fun o1 o2 m e1 e2 e3 m1 m2 ok p60 a1 a2 a3 a4 a5 g2 => ng (by omega) ⟨rfl, ?_⟩) (fun o1 o2 m e1 e2 e3 m1 m2 ok p60 => n2 ⟨rfl, ?_⟩) (fun hn => n1 ⟨rfl, ?_⟩)
    · have em := (lN_eq (by omega) (by omega)).mp e3
      have ea1 := lt a la o1 (lf _ _ ok.2.1) e1
      have ea2 := lt b lb o2 (lf _ _ ok.2.2) e2
      subst em; subst ea1; subst ea2
      have ea : ap (LR.pipe a b v) S = some (S.pipe a b v) := by (first | rw [ap_tank, if_pos ⟨p60, m1, m2, ok⟩] | rw [ap_valve, if_pos ⟨p60, m1, m2, ok⟩] | rw [ap_pump, if_pos ⟨p60, m1, m2, ok⟩] | rw [ap_pipe, if_pos ⟨p60, m1, m2, ok⟩])
      exact h1 _ q' _ _ l e (h10 _ _ e l (by rw [ea]; exact fun z => by cases z)) ea _ _ _ _ _ _ _ _ _ _ _ _ ⟨c1, g2, cG3_pipe c3⟩
    · exact h0 _ q' _ (by omega) e (by (first | rw [ap_tank, if_neg (fun z => by omega)] | rw [ap_valve, if_neg (fun z => by omega)] | rw [ap_pump, if_neg (fun z => by omega)] | rw [ap_pipe, if_neg (fun z => by omega)]))
    · exact h0 _ q' _ (by omega) e (by (first | rw [ap_tank, if_neg (fun z => hn a b v rfl rfl rfl z.2.1 z.2.2.1 z.2.2.2)] | rw [ap_valve, if_neg (fun z => hn a b v rfl rfl rfl z.2.1 z.2.2.1 z.2.2.2)] | rw [ap_pump, if_neg (fun z => hn a b v rfl rfl rfl z.2.1 z.2.2.1 z.2.2.2)] | rw [ap_pipe, if_neg (fun z => hn a b v rfl rfl rfl z.2.1 z.2.2.1 z.2.2.2)]))
end St
/-- a good line stops at a line's end -/
theorem pF_10 {h : Nat → Nat} {q q' : Nat} {r r' : LR} (e : pF h q r' = (r, q')) (hr : r ≠ LR.bad) : h q' = 10 := by
  unfold pF at e
  split at e
  · cases e; assumption
  · cases e; exact absurd rfl hr
theorem pD_10 {h : Nat → Nat} {q q' : Nat} {r : LR} {k : Nat → Nat → LR × Nat} (e : pD h q k = (r, q')) (hr : r ≠ LR.bad) (hk : ∀ v q, k v q = (r, q') → h q' = 10) : h q' = 10 := by
  unfold pD at e
  split at e
  · cases e; exact absurd rfl hr
  · exact hk _ _ e
theorem pO_10 {h : Nat → Nat} {q q' : Nat} {cs : List Nat} {r : LR} {k : Nat → LR × Nat} (e : pO h cs q k = (r, q')) (hr : r ≠ LR.bad) (hk : ∀ q, k q = (r, q') → h q' = 10) : h q' = 10 := by
  unfold pO at e
  split at e
  · exact hk _ e
  · cases e; exact absurd rfl hr
theorem pX_10 {h : Nat → Nat} {q q' : Nat} {r : LR} {k : Option Nat → Nat → LR × Nat} (e : pX h q k = (r, q')) (hr : r ≠ LR.bad) (hk : ∀ v q, k v q = (r, q') → h q' = 10) : h q' = 10 := by
  unfold pX at e
  split at e
  · exact hk _ _ e
  · exact pD_10 e hr (fun v q z => hk _ _ z)
theorem pL_10 {h : Nat → Nat} {q q' : Nat} {r : LR} (e : pL h q = (r, q')) (hr : r ≠ LR.bad) : h q' = 10 := by
  unfold pL at e
  split at e
  · exact pO_10 e hr (fun q e => pO_10 e hr (fun q e => pD_10 e hr (fun v q e => pF_10 e hr)))
  · split at e
    · exact pO_10 e hr (fun q e => pO_10 e hr (fun q e => pD_10 e hr (fun v q e => pF_10 e hr)))
    · split at e
      · split at e
        · exact pO_10 e hr (fun q e => pF_10 e hr)
        · exact pO_10 e hr (fun q e => pO_10 e hr (fun q e => pX_10 e hr (fun a q e => pO_10 e hr (fun q e => pX_10 e hr (fun b q e => pO_10 e hr (fun q e => pD_10 e hr (fun v q e => pF_10 e hr)))))))
      · cases e; exact absurd rfl hr
/-- a line never goes back -/
theorem ovr_ge (h : Nat → Nat) : ∀ (cs : List Nat) (q : Nat), q ≤ (ovr h cs q).2 := by
  intro cs
  induction cs with
  | nil => intro q; exact Nat.le_refl _
  | cons c cs ih =>
    intro q
    rw [ovr]
    split
    · have := ih (q + 1); omega
    · exact Nat.le_refl _
theorem nm_ge (h : Nat → Nat) : ∀ (d k v q : Nat), q ≤ (nm h d k v q).2.2 := by
  intro d
  induction d with
  | zero => intro k v q; exact Nat.le_refl _
  | succ d ih =>
    intro k v q
    rw [nm]
    split
    · have := ih (k + 1) (v * 10 + h q - 48) (q + 1); omega
    · exact Nat.le_refl _
theorem pF_ge {h : Nat → Nat} {q q' : Nat} {r r' : LR} (e : pF h q r' = (r, q')) : q ≤ q' := by
  unfold pF at e
  split at e <;> (cases e; exact Nat.le_refl _)
theorem pD_ge {h : Nat → Nat} {q q' : Nat} {r : LR} {k : Nat → Nat → LR × Nat} (e : pD h q k = (r, q')) (hk : ∀ v q, k v q = (r, q') → q ≤ q') : q ≤ q' := by
  have g := nm_ge h 7 0 0 q
  unfold pD at e
  split at e
  · cases e; exact g
  · have := hk _ _ e; omega
theorem pO_ge {h : Nat → Nat} {q q' : Nat} {cs : List Nat} {r : LR} {k : Nat → LR × Nat} (e : pO h cs q k = (r, q')) (hk : ∀ q, k q = (r, q') → q ≤ q') : q ≤ q' := by
  have g := ovr_ge h cs q
  unfold pO at e
  split at e
  · have := hk _ e; omega
  · cases e; exact g
theorem pX_ge {h : Nat → Nat} {q q' : Nat} {r : LR} {k : Option Nat → Nat → LR × Nat} (e : pX h q k = (r, q')) (hk : ∀ v q, k v q = (r, q') → q ≤ q') : q ≤ q' := by
  unfold pX at e
  split at e
  · have := hk _ _ e; omega
  · exact pD_ge e (fun v q z => hk _ _ z)
theorem pL_ge {h : Nat → Nat} {q q' : Nat} {r : LR} (e : pL h q = (r, q')) : q ≤ q' := by
  unfold pL at e
  split at e
  · exact pO_ge e (fun q e => pO_ge e (fun q e => pD_ge e (fun v q e => pF_ge e)))
  · split at e
    · exact pO_ge e (fun q e => pO_ge e (fun q e => pD_ge e (fun v q e => pF_ge e)))
    · split at e
      · split at e
        · exact pO_ge e (fun q e => pF_ge e)
        · exact pO_ge e (fun q e => pO_ge e (fun q e => pX_ge e (fun a q e => pO_ge e (fun q e => pX_ge e (fun b q e => pO_ge e (fun q e => pD_ge e (fun v q e => pF_ge e)))))))
      · cases e; exact Nat.le_refl _
