/-! LEVEL 2: a line of the text, on both sides -/
def LR : Type := Nat × Option Nat × Option Nat × Nat
def LR.bad : LR := (0, none, none, 0)
def LR.tank (v : Nat) : LR := (1, none, none, v)
def LR.valve (v : Nat) : LR := (2, none, none, v)
def LR.pump : LR := (3, none, none, 0)
def LR.pipe (a b : Option Nat) (v : Nat) : LR := (4, a, b, v)
def pF (h : Nat → Nat) (q : Nat) (r : LR) : LR × Nat := if h q = 10 then (r, q) else (LR.bad, q)
def pD (h : Nat → Nat) (q : Nat) (k : Nat → Nat → LR × Nat) : LR × Nat := if (nm h 7 0 0 q).1 = 0 then (LR.bad, (nm h 7 0 0 q).2.2) else k (nm h 7 0 0 q).2.1 (nm h 7 0 0 q).2.2
def pO (h : Nat → Nat) (cs : List Nat) (q : Nat) (k : Nat → LR × Nat) : LR × Nat := if (ovr h cs q).1 then k (ovr h cs q).2 else (LR.bad, (ovr h cs q).2)
def pV (h : Nat → Nat) (q : Nat) (k : Nat → Nat → LR × Nat) : LR × Nat := pO h [32] q (fun q => pD h q k)
def pX (h : Nat → Nat) (q : Nat) (k : Option Nat → Nat → LR × Nat) : LR × Nat := if h q = 45 then k none (q + 1) else pD h q (fun v q => k (some v) q)
def pE (h : Nat → Nat) (q : Nat) (k : Option Nat → Nat → LR × Nat) : LR × Nat := pO h [32] q (fun q => pX h q k)
def pL (h : Nat → Nat) (q : Nat) : LR × Nat :=
  if h q = 116 then pO h [116, 97, 110, 107] q (fun q => pV h q (fun v q => pF h q (LR.tank v)))
  else if h q = 118 then pO h [118, 97, 108, 118, 101] q (fun q => pV h q (fun v q => pF h q (LR.valve v)))
  else if h q = 112 then
    (if h (q + 1) = 117 then pO h [112, 117, 109, 112] q (fun q => pF h q LR.pump)
    else pO h [112, 105, 112, 101] q (fun q => pE h q (fun a q => pE h q (fun b q => pV h q (fun v q => pF h q (LR.pipe a b v))))))
  else (LR.bad, q)
theorem pO_app (h : Nat → Nat) (cs ds : List Nat) (q : Nat) (k : Nat → LR × Nat) : pO h (cs ++ ds) q k = pO h cs q (fun q => pO h ds q k) := by
  unfold pO
  rw [ovr_app]
  by_cases z : (ovr h cs q).1 = true
  · rw [if_pos z, if_pos z]
  · rw [if_neg z, if_neg z]
    rfl
section Line
variable {n : Nat} {tx : Nat → Nat} {bytes : Nat → Int32} {Y : LR × Nat}
theorem c_pO (h : tG n tx bytes) {i q : Nat} (hi : i < 7) (hq : q ≤ n) {P : Int32 → Int32 → Prop} {k : Nat → LR × Nat} (e : Y = pO (hh n tx) (wB i) q k) (hb : ∀ q', q' ≤ n → Y = (LR.bad, q') → P 0 (nI q')) (hg : ∀ q', q' ≤ n → Y = k q' → P 1 (nI q')) : wp_Te_passWord (nI n) (nI q) bytes i P := by
  have hn := h.1
  have hl := ovr_n (n := n) (tx := tx) (wB i) q (fun c hc => (wB_ok i hi c hc).1) hq
  refine s_passWord h hi (by omega) ?_
  unfold pO at e
  unfold bB
  by_cases z : (ovr (hh n tx) (wB i) q).1 = true
  · rw [if_pos z] at e ⊢
    exact hg _ hl e
  · rw [if_neg z] at e ⊢
    exact hb _ hl e
theorem c_pD (h : tG n tx bytes) {q : Nat} (hq : q ≤ n) {num : Int32} {P : Int32 → Int32 → Int32 → Prop} {k : Nat → Nat → LR × Nat} (e : Y = pD (hh n tx) q k) (hb : ∀ q' v, q' ≤ n → Y = (LR.bad, q') → P 0 (nI q') v) (hg : ∀ v q', v < 10000000 → q' ≤ n → Y = k v q' → P 1 (nI q') (nI v)) : wp_Te_passNumber (nI n) (nI q) num bytes P := by
  obtain ⟨a1, a2, a3, a4⟩ := nm_ok (n := n) (tx := tx) 7 0 0 q hq (by decide)
  refine s_passNumber h hq ?_
  unfold pD at e
  by_cases z : (nm (hh n tx) 7 0 0 q).1 = 0
  · rw [if_pos z] at e ⊢
    exact hb _ _ a1 e
  · rw [if_neg z] at e ⊢
    exact hg _ _ a3 a1 e
theorem c_pX (h : tG n tx bytes) {q : Nat} (hq : q ≤ n) {num : Int32} {P : Int32 → Int32 → Int32 → Prop} {k : Option Nat → Nat → LR × Nat} (e : Y = pX (hh n tx) q k) (hb : ∀ q' v, q' ≤ n → Y = (LR.bad, q') → P 0 (nI q') v) (hg : ∀ a q', (∀ t, a = some t → t < 10000000) → q' ≤ n → Y = k a q' → P 1 (nI q') (oI a)) : wp_Te_passEnd (nI n) (nI q) num bytes P := by
  have hn := h.1
  unfold wp_Te_passEnd
  refine s_byteAt h (by omega) ?_
  rw [show (45 : Int32) = nI 45 from rfl, bI_eq (hh_lt h q) (by decide) (by decide)]
  unfold pX at e
  refine ⟨fun z => ?_, fun z => ?_⟩
  · rw [if_neg z] at e
    refine c_pD h hq e (fun q' v h1 h2 => ⟨rfl, hb q' v h1 h2⟩) (fun v q' h1 h2 h3 => ⟨rfl, hg (some v) q' (fun t y => by cases y; exact h1) h2 h3⟩)
  · rw [if_pos z] at e
    have := hh_in (n := n) (tx := tx) (q := q) (by omega)
    rw [nI_1]
    exact hg none (q + 1) (fun t y => by cases y) (by omega) e
theorem c_pF (h : tG n tx bytes) {q : Nat} (hq : q ≤ n) {r : LR} {P : Int32 → Prop} (e : Y = pF (hh n tx) q r) (hb : Y = (LR.bad, q) → P 0) (hg : q < n → Y = (r, q) → P 1) : wp_Te_isLineEnd (nI n) (nI q) bytes P := by
  have hn := h.1
  unfold wp_Te_isLineEnd
  refine s_byteAt h (by omega) ?_
  rw [show (10 : Int32) = nI 10 from rfl, bI_eq (hh_lt h q) (by decide) (by decide)]
  unfold pF at e
  refine ⟨fun z => ?_, fun z => ?_⟩
  · rw [if_neg z] at e
    exact hb e
  · rw [if_pos z] at e
    exact hg (hh_in (n := n) (tx := tx) (q := q) (by omega)) e
/-- the class's line: what is left to do behind the text's part -/
theorem c_pL (h : tG n tx bytes) {q : Nat} (hq : q ≤ n) {number things pipes : Int32} {kind position told capacity amount liquid portsTaken endAtPort pipeLitres thingAtEnd portAtEnd bendAtEnd : Nat → Int32}
    {P : Int32 → Int32 → Int32 → Int32 → Int32 → (Nat → Int32) → (Nat → Int32) → (Nat → Int32) → (Nat → Int32) → (Nat → Int32) → (Nat → Int32) → (Nat → Int32) → (Nat → Int32) → (Nat → Int32) → (Nat → Int32) → (Nat → Int32) → (Nat → Int32) → Prop}
    (hb : ∀ q' v, q' ≤ n → pL (hh n tx) q = (LR.bad, q') → P 0 (nI q') v things pipes kind position told capacity amount liquid portsTaken endAtPort pipeLitres thingAtEnd portAtEnd bendAtEnd)
    (h1 : ∀ v q', v < 10000000 → q' < n → pL (hh n tx) q = (LR.tank v, q') → wp_Pl_addTank things kind position told capacity amount liquid portsTaken (lN v) (fun r a0 a1 a2 a3 a4 a5 a6 a7 => ((r < 0 → P 0 (nI q') (nI v) a0 pipes a1 a2 a3 a4 a5 a6 a7 endAtPort pipeLitres thingAtEnd portAtEnd bendAtEnd) ∧ (¬ r < 0 → P 1 (nI q') (nI v) a0 pipes a1 a2 a3 a4 a5 a6 a7 endAtPort pipeLitres thingAtEnd portAtEnd bendAtEnd))))
    (h2 : ∀ v q', v < 10000000 → q' < n → pL (hh n tx) q = (LR.valve v, q') → wp_Pl_addValve things kind position told capacity amount liquid portsTaken (nI v) (fun r a0 a1 a2 a3 a4 a5 a6 a7 => ((r < 0 → P 0 (nI q') (nI v) a0 pipes a1 a2 a3 a4 a5 a6 a7 endAtPort pipeLitres thingAtEnd portAtEnd bendAtEnd) ∧ (¬ r < 0 → P 1 (nI q') (nI v) a0 pipes a1 a2 a3 a4 a5 a6 a7 endAtPort pipeLitres thingAtEnd portAtEnd bendAtEnd))))
    (h3 : ∀ q', q' < n → pL (hh n tx) q = (LR.pump, q') → wp_Pl_addPump things kind position told capacity amount liquid portsTaken (fun r a0 a1 a2 a3 a4 a5 a6 a7 => ((r < 0 → P 0 (nI q') number a0 pipes a1 a2 a3 a4 a5 a6 a7 endAtPort pipeLitres thingAtEnd portAtEnd bendAtEnd) ∧ (¬ r < 0 → P 1 (nI q') number a0 pipes a1 a2 a3 a4 a5 a6 a7 endAtPort pipeLitres thingAtEnd portAtEnd bendAtEnd))))
    (h4 : ∀ a b v q', (∀ t, a = some t → t < 10000000) → (∀ t, b = some t → t < 10000000) → v < 10000000 → q' < n → pL (hh n tx) q = (LR.pipe a b v, q') → wp_Pl_addPipe things pipes kind portsTaken endAtPort pipeLitres thingAtEnd portAtEnd bendAtEnd (oI a) (oI b) (lN v) (fun r a0 a1 a2 a3 a4 a5 a6 => ((r < 0 → (narrow .boolean (.int 0) = .int 0 ∧ P 0 (nI q') (nI v) things a0 kind position told capacity amount liquid a1 a2 a3 a4 a5 a6)) ∧ (¬ r < 0 → (narrow .boolean (.int 1) = .int 1 ∧ P 1 (nI q') (nI v) things a0 kind position told capacity amount liquid a1 a2 a3 a4 a5 a6))))) :
    wp_Te_takeLine (nI n) (nI q) number bytes things pipes kind position told capacity amount liquid portsTaken endAtPort pipeLitres thingAtEnd portAtEnd bendAtEnd P := by
  have hn := h.1
  have hlt := hh_lt h q
  unfold wp_Te_takeLine
  refine s_byteAt h (by omega) ?_
  rw [show (112 : Int32) = nI 112 from rfl, show (116 : Int32) = nI 116 from rfl, show (118 : Int32) = nI 118 from rfl, bI_eq hlt (by decide) (by decide), bI_eq hlt (by decide) (by decide), bI_eq hlt (by decide) (by decide)]
  generalize e : pL (hh n tx) q = Y at *
  unfold pL at e
  refine ⟨fun z => ?_, fun z => ⟨fun z2 => ?_, fun z2 => ⟨fun z3 => ?_, fun z3 => ?_⟩⟩⟩
  · rw [if_neg (by omega), if_neg (by omega), if_pos z] at e
    rw [nI_1]
    refine s_byteAt h (by omega) ?_
    rw [show (117 : Int32) = nI 117 from rfl, bI_eq (hh_lt h (q + 1)) (by decide) (by decide)]
    refine ⟨fun y => ?_, fun y => ?_⟩
    · rw [if_neg y] at e
      have e2 := e.symm
      unfold pE at e2
      rw [← pO_app] at e2
      unfold wp_Te_takePipe
      refine c_pO h (i := 3) (by decide) hq e2 (fun q1 l1 y1 => b_0 ⟨rfl, hb q1 _ l1 y1⟩) (fun q1 l1 y1 => b_1 ?_)
      refine c_pX h l1 y1 (fun q2 v l2 y2 => b_0n ⟨rfl, hb q2 v l2 y2⟩) (fun a q2 la l2 y2 => b_1n ?_)
      refine c_pO h (i := 4) (by decide) l2 y2 (fun q3 l3 y3 => b_0 ⟨rfl, hb q3 _ l3 y3⟩) (fun q3 l3 y3 => b_1 ?_)
      refine c_pX h l3 y3 (fun q4 v l4 y4 => b_0n ⟨rfl, hb q4 v l4 y4⟩) (fun b q4 lb l4 y4 => b_1n ?_)
      unfold pV at y4
      refine c_pO h (i := 4) (by decide) l4 y4 (fun q5 l5 y5 => b_0 ⟨rfl, hb q5 _ l5 y5⟩) (fun q5 l5 y5 => b_1 ?_)
      refine c_pD h l5 y5 (fun q6 v l6 y6 => b_0 ⟨rfl, hb q6 v l6 y6⟩) (fun v q6 lv l6 y6 => b_1 ?_)
      refine c_pF h l6 y6 (fun y7 => b_0 ⟨rfl, hb q6 _ l6 y7⟩) (fun l7 y7 => b_1 ?_)
      rw [nI_l (by omega)]
      exact h4 a b v q6 la lb lv l7 y7
    · rw [if_pos y] at e
      refine c_pO h (i := 2) (by decide) hq e.symm (fun q1 l1 y1 => b_0 (hb q1 _ l1 y1)) (fun q1 l1 y1 => b_1 ?_)
      refine c_pF h l1 y1 (fun y2 => b_0 (hb q1 _ l1 y2)) (fun l2 y2 => b_1 ?_)
      exact h3 q1 l2 y2
  · rw [if_pos z2] at e
    have e2 := e.symm
    unfold pV at e2
    rw [← pO_app] at e2
    refine c_pO h (i := 0) (by decide) hq e2 (fun q1 l1 y1 => b_0 (hb q1 _ l1 y1)) (fun q1 l1 y1 => b_1 ?_)
    refine c_pD h l1 y1 (fun q2 v l2 y2 => b_0 (hb q2 v l2 y2)) (fun v q2 lv l2 y2 => b_1 ?_)
    refine c_pF h l2 y2 (fun y3 => b_0 (hb q2 _ l2 y3)) (fun l3 y3 => b_1 ?_)
    rw [nI_l (by omega)]
    exact h1 v q2 lv l3 y3
  · rw [if_neg z2, if_pos z3] at e
    have e2 := e.symm
    unfold pV at e2
    rw [← pO_app] at e2
    refine c_pO h (i := 1) (by decide) hq e2 (fun q1 l1 y1 => b_0 (hb q1 _ l1 y1)) (fun q1 l1 y1 => b_1 ?_)
    refine c_pD h l1 y1 (fun q2 v l2 y2 => b_0 (hb q2 v l2 y2)) (fun v q2 lv l2 y2 => b_1 ?_)
    refine c_pF h l2 y2 (fun y3 => b_0 (hb q2 _ l2 y3)) (fun l3 y3 => b_1 ?_)
    exact h2 v q2 lv l3 y3
  · rw [if_neg z2, if_neg z3, if_neg z] at e
    exact hb q _ hq e.symm
end Line
