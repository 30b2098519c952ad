/-! LEVEL 2: the reference's line -/
section MLine
variable {n : Nat} {tx : Nat → Nat} {bytes : Nat → Int32} {Y : LR × Nat}
theorem m_pO (h : tG n tx bytes) {q : Nat} (hq : q ≤ n) {cs : List Nat} (h1 : cs.length ≤ 7) (h2 : ∀ c, c ∈ cs → 1 ≤ c ∧ c < 128) {x : Int64} (hx : x = lN (lw cs)) {P : Int32 → Int32 → Prop} {k : Nat → LR × Nat} (e : Y = pO (hh n tx) cs q k) (hb : ∀ q', q' ≤ n → Y = (LR.bad, q') → P 0 (nI q')) (hg : ∀ q', q' ≤ n → Y = k q' → P 1 (nI q')) : wp_Mo_over (nI n) (nI q) bytes x P := by
  have hn := h.1
  have hl := ovr_n (n := n) (tx := tx) cs q (fun c hc => (h2 c hc).1) hq
  refine m_over h h1 h2 (by omega) hx ?_
  unfold pO at e
  unfold bB
  by_cases z : (ovr (hh n tx) cs q).1 = true
  · rw [if_pos z] at e ⊢
    exact hg _ hl e
  · rw [if_neg z] at e ⊢
    exact hb _ hl e
theorem m_pD (h : tG n tx bytes) {q : Nat} (hq : q ≤ n) {num : Int64} {P : Int32 → Int32 → Int64 → Prop} {k : Nat → Nat → LR × Nat} (e : Y = pD (hh n tx) q k) (hb : ∀ q' v, q' ≤ n → Y = (LR.bad, q') → P 0 (nI q') v) (hg : ∀ v q', v < 10000000 → q' ≤ n → Y = k v q' → P 1 (nI q') (lN v)) : wj_Mo_value_44 (nI n) bytes P (nI q) num := by
  obtain ⟨a1, a2, a3, a4⟩ := nm_ok (n := n) (tx := tx) 7 0 0 q hq (by decide)
  refine m_num h hq ?_
  unfold pD at e
  by_cases z : (nm (hh n tx) 7 0 0 q).1 = 0
  · rw [if_pos z] at e ⊢
    exact hb _ _ a1 e
  · rw [if_neg z] at e ⊢
    exact hg _ _ a3 a1 e
theorem m_pV (h : tG n tx bytes) {q : Nat} (hq : q ≤ n) {num : Int64} {P : Int32 → Int32 → Int64 → Prop} {k : Nat → Nat → LR × Nat} (e : Y = pV (hh n tx) q k) (hb : ∀ q' v, q' ≤ n → Y = (LR.bad, q') → P 0 (nI q') v) (hg : ∀ v q', v < 10000000 → q' ≤ n → Y = k v q' → P 1 (nI q') (lN v)) : wp_Mo_value (nI n) (nI q) num bytes 0 P := by
  unfold wp_Mo_value
  unfold pV at e
  refine m_pO h hq (cs := [32]) (by decide) (by decide) rfl e (fun q1 l1 y1 => b_0n (hb q1 _ l1 y1)) (fun q1 l1 y1 => b_1n ⟨fun _ => ?_, fun z => absurd rfl z⟩)
  exact m_pD h l1 y1 hb hg
theorem m_pE (h : tG n tx bytes) {q : Nat} (hq : q ≤ n) {num : Int64} {P : Int32 → Int32 → Int64 → Prop} {k : Option Nat → Nat → LR × Nat} (e : Y = pE (hh n tx) q k) (hb : ∀ q' v, q' ≤ n → Y = (LR.bad, q') → P 0 (nI q') v) (hg : ∀ a q' (w : Int64), (∀ t, a = some t → t < 10000000) → w.toInt32 = oI a → q' ≤ n → Y = k a q' → P 1 (nI q') w) : wp_Mo_value (nI n) (nI q) num bytes 1 P := by
  have hn := h.1
  unfold wp_Mo_value
  unfold pE at e
  refine m_pO h hq (cs := [32]) (by decide) (by decide) rfl e (fun q1 l1 y1 => b_0n (hb q1 _ l1 y1)) (fun q1 l1 y1 => b_1n ⟨fun z => absurd z q_10, fun _ => ?_⟩)
  refine m_here h (by omega) ?_
  have hlt := hh_lt h q1
  rw [show (45 : Int32) = nI 45 from rfl, nI_eq (by omega) (by decide)]
  unfold pX at y1
  refine ⟨fun z => ?_, fun z => ?_⟩
  · rw [if_neg z] at y1
    exact m_pD h l1 y1 hb (fun v q' h1 h2 h3 => hg (some v) q' _ (fun t y => by cases y; exact h1) (lN_i v) h2 h3)
  · rw [if_pos z] at y1
    have := hh_in (n := n) (tx := tx) (q := q1) (by omega)
    rw [nI_1]
    exact hg none (q1 + 1) _ (fun t y => by cases y) rfl (by omega) y1
theorem pO_cons {h : Nat → Nat} {c q : Nat} (z : h q = c) (cs : List Nat) (k : Nat → LR × Nat) : pO h (c :: cs) q k = pO h cs (q + 1) k := by
  unfold pO
  rw [ovr, if_pos z]
theorem m_pF (h : tG n tx bytes) {q : Nat} (hq : q ≤ n) {r : LR} {A B : Prop} (e : Y = pF (hh n tx) q r) (hb : Y = (LR.bad, q) → A) (hg : q < n → Y = (r, q) → B) : wp_Mo_here (nI n) (nI q) bytes (fun r176 => ((¬ r176 = (10 : Int32) → A) ∧ (r176 = (10 : Int32) → B))) := by
  have hn := h.1
  have hlt := hh_lt h q
  refine m_here h (by omega) ?_
  rw [show (10 : Int32) = nI 10 from rfl, nI_eq (by omega) (by decide)]
  unfold pF at e
  refine ⟨fun z => ?_, fun z => ?_⟩
  · rw [if_neg z] at e
    exact hb e
  · rw [if_pos z] at e
    exact hg (hh_in (n := n) (tx := tx) (q := q) (by omega)) e
theorem in3_0 : vp_in 0 3 := vp_in_nI (n := 0) (by decide) (by decide)
theorem in3_1 : vp_in (0 + 1) 3 := vp_in_nI (n := 1) (by decide) (by decide)
theorem in3_2 : vp_in (0 + 1 + 1) 3 := vp_in_nI (n := 2) (by decide) (by decide)
theorem m_line (h : tG n tx bytes) {q : Nat} (hq : q ≤ n) {number : Int64} {words : Nat → Int32} {P : Int32 → Int32 → Int64 → (Nat → Int32) → Prop}
    (hb : ∀ q' v w, q' ≤ n → pL (hh n tx) q = (LR.bad, q') → P (-1) (nI q') v w)
    (h1 : ∀ v q' num w, v < 10000000 → q' < n → pL (hh n tx) q = (LR.tank v, q') → w 0 = nI v → P 0 (nI q') num w)
    (h2 : ∀ v q' num w, v < 10000000 → q' < n → pL (hh n tx) q = (LR.valve v, q') → w 0 = nI v → P 2 (nI q') num w)
    (h3 : ∀ q' num w, q' < n → pL (hh n tx) q = (LR.pump, q') → P 1 (nI q') num w)
    (h4 : ∀ a b v q' num w, (∀ t, a = some t → t < 10000000) → (∀ t, b = some t → t < 10000000) → v < 10000000 → q' < n → pL (hh n tx) q = (LR.pipe a b v, q') → w 0 = oI a → w 1 = oI b → w 2 = nI v → P 3 (nI q') num w) :
    wp_Mo_line (nI n) (nI q) number bytes words P := by
  have hn := h.1
  have hlt := hh_lt h q
  generalize e : pL (hh n tx) q = Y at *
  unfold pL at e
  unfold wp_Mo_line
  refine m_here h (by omega) ?_
  rw [show (116 : Int32) = nI 116 from rfl, nI_eq (by omega) (by decide)]
  have bad : ∀ q' v w m, q' ≤ n → Y = (LR.bad, q') → wj_Mo_line_120 (nI n) bytes P (-1) m (nI q') v w := by
    intro q' v w m l y
    unfold wj_Mo_line_120
    exact ⟨fun z => absurd rfl z, fun _ => hb q' v w l y⟩
  have one : ∀ (r : Nat → LR) (x : Int32) (q1 : Nat) (num : Int64) (w : Nat → Int32), ¬ x = -1 → ¬ x = 3 → q1 ≤ n → Y = pV (hh n tx) q1 (fun v q => pF (hh n tx) q (r v)) → (∀ v q' num w, v < 10000000 → q' < n → Y = (r v, q') → w 0 = nI v → P x (nI q') num w) → wj_Mo_line_120 (nI n) bytes P x 1 (nI q1) num w := by
    intro r x q1 num w x1 x3 l1 y1 hP
    unfold wj_Mo_line_120
    refine ⟨fun _ => ⟨2, ?_⟩, fun z => absurd z x1⟩
    unfold wl_Mo_line_129
    refine ⟨fun z => absurd z (by decide), fun _ => ⟨fun _ => ?_, fun z => absurd z x3⟩⟩
    unfold wj_Mo_line_149 wj_Mo_line_150
    refine m_pV h l1 y1 (fun q2 v l2 y2 => b_0n (hb q2 v _ l2 y2)) (fun v q2 lv l2 y2 => b_1n ⟨in3_0, ?_⟩)
    unfold wl_Mo_line_129
    refine ⟨fun _ => ?_, fun z => absurd (by decide) z⟩
    unfold wk_Mo_line_175_129
    refine m_pF h l2 y2 (fun y3 => hb q2 _ _ l2 y3) (fun l3 y3 => ?_)
    exact hP v q2 _ _ lv l3 y3 (by rw [lN_i]; exact pk_us)
  refine ⟨fun z => m_here h (by omega) ?_, fun z => ?_⟩
  · rw [if_neg z] at e
    rw [show (118 : Int32) = nI 118 from rfl, nI_eq (by omega) (by decide)]
    refine ⟨fun z2 => ?_, fun z2 => ?_⟩
    · rw [if_neg z2] at e
      by_cases z3 : hh n tx q = 112
      · rw [if_pos z3] at e
        have hin := hh_in (n := n) (tx := tx) (q := q) (by omega)
        refine m_over h (cs := [112]) (by decide) (by decide) (by omega) rfl ?_
        have eo : ovr (hh n tx) [112] q = (true, q + 1) := by rw [ovr, if_pos z3]; rfl
        rw [eo]
        show ((1 : Int32) = 0 → _) ∧ (¬ (1 : Int32) = 0 → _)
        refine b_1 (m_here (q := q + 1) h (by omega) ?_)
        have hlt2 := hh_lt h (q + 1)
        rw [show (117 : Int32) = nI 117 from rfl, nI_eq (by omega) (by decide)]
        refine ⟨fun z4 => ?_, fun z4 => ?_⟩
        · rw [if_neg z4, pO_cons z3] at e
          unfold wj_Mo_line_117
          refine m_pO h (by omega) (cs := [105, 112, 101]) (by decide) (by decide) rfl e.symm (fun q1 l1 y1 => b_0 (bad q1 _ _ _ l1 y1)) (fun q1 l1 y1 => b_1 ?_)
          unfold wj_Mo_line_120
          refine ⟨fun _ => ⟨4, ?_⟩, fun z => absurd z (by decide)⟩
          unfold wl_Mo_line_129
          refine ⟨fun z => absurd z (by decide), fun _ => ⟨fun z => absurd rfl z, fun _ => ⟨fun z => absurd z (by decide), fun _ => ?_⟩⟩⟩
          unfold wj_Mo_line_150
          refine m_pE h l1 y1 (fun q2 v l2 y2 => b_0n (hb q2 v _ l2 y2)) (fun a q2 wa la ea l2 y2 => b_1n ⟨in3_0, ?_⟩)
          unfold wl_Mo_line_129
          refine ⟨fun z => absurd z (by decide), fun _ => ⟨fun z => absurd rfl z, fun _ => ⟨fun z => absurd z (by decide), fun _ => ?_⟩⟩⟩
          unfold wj_Mo_line_150
          refine m_pE h l2 y2 (fun q3 v l3 y3 => b_0n (hb q3 v _ l3 y3)) (fun b q3 wb lb eb l3 y3 => b_1n ⟨in3_1, ?_⟩)
          unfold wl_Mo_line_129
          refine ⟨fun z => absurd z (by decide), fun _ => ⟨fun z => absurd rfl z, fun _ => ⟨fun _ => ?_, fun z => absurd (by decide) z⟩⟩⟩
          unfold wj_Mo_line_149 wj_Mo_line_150
          refine m_pV h l3 y3 (fun q4 v l4 y4 => b_0n (hb q4 v _ l4 y4)) (fun v q4 lv l4 y4 => b_1n ⟨in3_2, ?_⟩)
          unfold wl_Mo_line_129
          refine ⟨fun _ => ?_, fun z => absurd (by decide) z⟩
          unfold wk_Mo_line_175_129
          refine m_pF h l4 y4 (fun y5 => hb q4 _ _ l4 y5) (fun l5 y5 => ?_)
          rw [ea, eb, lN_i]
          refine h4 a b v q4 _ _ la lb lv l5 y5 ?_ ?_ ?_
          · show upd (upd (upd words 0 _) 1 _) 2 _ 0 = _
            rw [pk_un (by decide), pk_un (by decide), pk_us]
          · show upd (upd (upd words 0 _) 1 _) 2 _ 1 = _
            rw [pk_un (by decide), pk_us]
          · show upd (upd (upd words 0 _) 1 _) 2 _ 2 = _
            rw [pk_us]
        · rw [if_pos z4, pO_cons z3] at e
          unfold wj_Mo_line_98
          refine m_pO h (by omega) (cs := [117, 109, 112]) (by decide) (by decide) rfl e.symm (fun q1 l1 y1 => b_0 (bad q1 _ _ _ l1 y1)) (fun q1 l1 y1 => b_1 ?_)
          unfold wj_Mo_line_120
          refine ⟨fun _ => ⟨1, ?_⟩, fun z => absurd z (by decide)⟩
          unfold wl_Mo_line_129
          refine ⟨fun _ => ?_, fun z => absurd (by decide) z⟩
          unfold wk_Mo_line_175_129
          exact m_pF h l1 y1 (fun y2 => hb q1 _ _ l1 y2) (fun l2 y2 => h3 q1 _ _ l2 y2)
      · rw [if_neg z3] at e
        refine m_over h (cs := [112]) (by decide) (by decide) (by omega) rfl ?_
        have eo : ovr (hh n tx) [112] q = (false, q) := by rw [ovr, if_neg z3]
        rw [eo]
        exact b_0 (bad q _ _ _ hq e.symm)
    · rw [if_pos z2] at e
      unfold wj_Mo_line_58
      refine m_pO h hq (cs := [118, 97, 108, 118, 101]) (by decide) (by decide) rfl e.symm (fun q1 l1 y1 => b_0 (bad q1 _ _ _ l1 y1)) (fun q1 l1 y1 => b_1 ?_)
      exact one LR.valve 2 q1 _ _ (by decide) (by decide) l1 y1 h2
  · rw [if_pos z] at e
    unfold wj_Mo_line_28
    refine m_pO h hq (cs := [116, 97, 110, 107]) (by decide) (by decide) rfl e.symm (fun q1 l1 y1 => b_0 (bad q1 _ _ _ l1 y1)) (fun q1 l1 y1 => b_1 ?_)
    exact one LR.tank 0 q1 _ _ (by decide) (by decide) l1 y1 h1
end MLine
