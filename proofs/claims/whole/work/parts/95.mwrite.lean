/-! LEVEL 2: the reference's write -/
section MW
variable {i : Nat}
theorem wA_snoc {L : List Nat} {c : Nat} : wA (L ++ [c]) i = if i = L.length then nI c else wA L i := by
  by_cases q : i < L.length
  · rw [wA_lt q, if_neg (by omega)]
  · rw [wA_ge (by omega)]
    by_cases r : i = L.length
    · rw [if_pos r, r, Nat.sub_self]; rfl
    · rw [if_neg r, wA_out (by show 1 ≤ _; omega), wA_out (by omega)]
theorem q_wish {m : Nat} (hi : i < 2 ^ 31) (hm : m < 2 ^ 31) : nI i - nI m = 0 ↔ i = m := by
  refine ⟨fun z => ?_, fun z => by rw [z, Int32.sub_self]⟩
  have e : nI i = nI m := by
    have z2 : nI i - nI m + nI m = 0 + nI m := by rw [z]
    rw [Int32.sub_add_cancel, Int32.zero_add] at z2
    exact z2
  exact (nI_eq hi hm).mp e
theorem q_wish1 (m : Nat) : nI i - nI m - 1 = nI i - nI (m + 1) := by
  rw [← nI_1, Int32.sub_eq_add_neg, Int32.sub_eq_add_neg, Int32.sub_eq_add_neg, Int32.neg_add, Int32.sub_eq_add_neg, Int32.add_assoc]
theorem m_say (hi : i < 2 ^ 31) {cs L : List Nat} (h1 : cs.length ≤ 7) (h2 : ∀ c, c ∈ cs → 1 ≤ c ∧ c < 128) (hL : L.length ≤ 100000) {x : Int64} (hx : x = lN (lw cs)) {P : Int32 → Int32 → Prop} (hP : P (nI i - nI (L ++ cs).length) (wA (L ++ cs) i)) : wp_Mo_say (nI i - nI L.length) (wA L i) x P := by
  unfold wp_Mo_say
  have key : ∀ (d : Nat) (cs L : List Nat), cs.length ≤ 7 → (∀ c, c ∈ cs → 1 ≤ c ∧ c < 128) → L.length + cs.length ≤ 100007 → cs.length < d → P (nI i - nI (L ++ cs).length) (wA (L ++ cs) i) → wl_Mo_say_2 (wk_Mo_say_50_2 P) d (lN (lw cs)) (nI i - nI L.length) (wA L i) := by
    intro d
    induction d with
    | zero => intro cs L _ _ _ a; omega
    | succ d ih =>
      intro cs L a1 a2 a3 a4 a5
      have hl := lw_64 a1 (fun c hc => (a2 c hc).2)
      unfold wl_Mo_say_2
      rw [q_eq, lw_0 hl]
      cases cs with
      | nil =>
        rw [List.append_nil] at a5
        exact ⟨fun _ => a5, fun z => absurd rfl z⟩
      | cons c cs =>
        have hc := a2 c (by simp)
        refine ⟨fun z => ?_, fun _ => ?_⟩
        · have z : c + 256 * lw cs = 0 := z
          omega
        · unfold wj_Mo_say_29
          rw [lw_hd a1 (fun c hc => (a2 c hc).2), lw_tl a1 (fun c hc => (a2 c hc).2), q_wish1]
          simp only [List.length_cons] at a1 a3 a4
          have a6 := ih cs (L ++ [c]) (by omega) (fun c' h' => a2 c' (by simp [h'])) (by simp only [List.length_append, List.length_cons, List.length_nil]; omega) (by omega) (by rw [List.append_assoc]; exact a5)
          rw [wA_snoc, List.length_append] at a6
          have a6 : wl_Mo_say_2 (wk_Mo_say_50_2 P) d (lN (lw cs)) (nI i - nI (L.length + 1)) (if i = L.length then nI c else wA L i) := a6
          rw [q_wish hi (by omega)]
          refine ⟨fun z => ?_, fun z => ?_⟩
          · rw [if_neg z] at a6
            exact a6
          · rw [if_pos z] at a6
            exact a6
  rw [hx]
  exact ⟨8, key 8 cs L h1 h2 (by omega) (by omega) hP⟩
theorem m_sayNumber (hi : i < 2 ^ 31) {L : List Nat} (hL : L.length ≤ 50000) {v : Nat} (hv : v ≤ 100000) {P : Int32 → Int32 → Prop} (hP : P (nI i - nI (L ++ ([32] ++ dg v)).length) (wA (L ++ ([32] ++ dg v)) i)) : wp_Mo_sayNumber (nI i - nI L.length) (wA L i) (lN v) P := by
  unfold wp_Mo_sayNumber
  refine m_say hi (cs := [32]) (by decide) (by decide) (by omega) rfl ?_
  rw [q_ge]
  refine ⟨fun _ => ?_, fun z => absurd (by rw [show (0 : Int64) = lN 0 from rfl, lN_le (by decide) (by omega)]; omega) z⟩
  rw [← List.append_assoc] at hP
  have hL2 : (L ++ [32]).length ≤ 50001 := by rw [List.length_append]; show L.length + 1 ≤ _; omega
  generalize L ++ [32] = M at hP hL2 ⊢
  have p10 : ∀ k, k ≤ 5 → 0 < 10 ^ k ∧ 10 ^ k ≤ 100000 := fun k hk => ⟨Nat.pow_pos (by decide), p10_lt hk⟩
  -- the digits from 10 ^ k on
  have digits : ∀ (k d : Nat) (L : List Nat), k ≤ 5 → k + 1 < d → L.length ≤ 100000 - 10 * (k + 1) → P (nI i - nI (L ++ dl v k).length) (wA (L ++ dl v k) i) → wl_Mo_sayNumber_45 (lN v) (wk_Mo_sayNumber_79_45 P) d (lN (10 ^ k)) (nI i - nI L.length) (wA L i) := by
    intro k
    induction k with
    | zero =>
      intro d L a1 a2 a3 a4
      obtain ⟨d, rfl⟩ : ∃ e, d = e + 2 := ⟨d - 2, by omega⟩
      unfold wl_Mo_sayNumber_45
      rw [q_le, show lN v / lN (10 ^ 0) = lN v from by rw [pk_lDiv (by omega) (by decide) (by decide)]; simp, show (10 : Int64) = lN 10 from rfl, pk_lRem (by omega) (by decide) (by decide), show (48 : Int64) = lN 48 from rfl, lN_add]
      refine ⟨fun z => absurd z (by decide), fun _ => ⟨by decide, ?_⟩⟩
      refine m_say hi (cs := [48 + v % 10]) (by show 1 ≤ 7; decide) (fun c hc => by rw [List.mem_singleton] at hc; omega) (by omega) (by show _ = lN (48 + v % 10 + 256 * 0); rfl) ?_
      unfold wl_Mo_sayNumber_45
      refine ⟨fun _ => a4, fun z => absurd (by decide) z⟩
    | succ k ih =>
      intro d L a1 a2 a3 a4
      obtain ⟨d, rfl⟩ : ∃ e, d = e + 1 := ⟨d - 1, by omega⟩
      obtain ⟨b1, b2⟩ := p10 (k + 1) a1
      have hd := Nat.div_le_self v (10 ^ (k + 1))
      unfold wl_Mo_sayNumber_45
      rw [q_le, pk_lDiv (a := v) (b := 10 ^ (k + 1)) (by omega) b1 (by omega), show (10 : Int64) = lN 10 from rfl, pk_lRem (by omega) (by decide) (by decide), show (48 : Int64) = lN 48 from rfl, lN_add, pk_lDiv (a := 10 ^ (k + 1)) (b := 10) (by omega) (by decide) (by decide), p10_div]
      refine ⟨fun z => ?_, fun _ => ⟨fun z => ?_, ?_⟩⟩
      · rw [show (0 : Int64) = lN 0 from rfl, lN_le (by omega) (by decide)] at z
        omega
      · rw [show (0 : Int64) = lN 0 from rfl, lN_eq (by omega) (by decide)] at z
        omega
      · refine m_say hi (cs := [48 + v / 10 ^ (k + 1) % 10]) (by show 1 ≤ 7; decide) (fun c hc => by rw [List.mem_singleton] at hc; omega) (by omega) (by show _ = lN (48 + v / 10 ^ (k + 1) % 10 + 256 * 0); rfl) ?_
        refine ih d _ (by omega) (by omega) (by rw [List.length_append]; show L.length + 1 ≤ _; omega) ?_
        rw [List.append_assoc]
        exact a4
  -- the first digit's place
  have first : ∀ (d k : Nat), k ≤ 5 → 5 - k < d → (k = 0 ∨ 10 ^ k ≤ v) → wl_Mo_sayNumber_23 (lN v) (wk_Mo_sayNumber_42_23 (lN v) (nI i - nI M.length) (wA M i) P) d (lN (10 ^ k)) := by
    intro d
    induction d with
    | zero => intro k a1 a2; omega
    | succ d ih =>
      intro k a1 a2 a3
      obtain ⟨b1, b2⟩ := p10 k a1
      have hd := Nat.div_le_self v (10 ^ k)
      unfold wl_Mo_sayNumber_23
      rw [pk_lDiv (a := v) (b := 10 ^ k) (by omega) b1 (by omega), q_lt, show (10 : Int64) = lN 10 from rfl, lN_lt (by omega) (by decide)]
      refine ⟨fun z => ?_, fun z => ?_, fun z => ?_⟩
      · rw [show (0 : Int64) = lN 0 from rfl, lN_eq (by omega) (by decide)] at z
        omega
      · have hlt : v < 10 ^ (k + 1) := by
          rw [Nat.div_lt_iff_lt_mul b1, Nat.mul_comm, ← Nat.pow_succ] at z
          exact z
        have ek := dk_is a1 hlt a3
        unfold dg at hP
        rw [ek] at hP
        unfold wk_Mo_sayNumber_42_23
        exact ⟨k + 2, digits k (k + 2) M a1 (by omega) (by omega) hP⟩
      · have hge : 10 ^ (k + 1) ≤ v := by
          have := (Nat.le_div_iff_mul_le b1).mp (Nat.not_lt.mp z)
          rw [Nat.pow_succ, Nat.mul_comm]
          exact this
        have k5 : k < 5 := by
          rcases Nat.lt_or_ge k 5 with y | y
          · exact y
          · have : 10 ^ 6 ≤ 10 ^ (k + 1) := Nat.pow_le_pow_right (by decide) (by omega)
            have : (10 : Nat) ^ 6 = 1000000 := by decide
            omega
        rw [lN_mul, ← Nat.pow_succ]
        exact ih (k + 1) (by omega) (by omega) (Or.inr hge)
  exact ⟨6, first 6 0 (by decide) (by decide) (Or.inl rfl)⟩
theorem m_sayEnd (hi : i < 2 ^ 31) {L : List Nat} (hL : L.length ≤ 50000) {o : Option Nat} (ho : ∀ t, o = some t → t < 40) {P : Int32 → Int32 → Prop} (hP : P (nI i - nI (L ++ ([32] ++ dE o)).length) (wA (L ++ ([32] ++ dE o)) i)) : wp_Mo_sayNumber (nI i - nI L.length) (wA L i) (oI o).toInt64 P := by
  cases o with
  | some t =>
    have ht := ho t rfl
    rw [show (oI (some t)).toInt64 = lN t from nI_l (by omega)]
    exact m_sayNumber hi hL (by omega) hP
  | none =>
    unfold wp_Mo_sayNumber
    refine m_say hi (cs := [32]) (by decide) (by decide) (by omega) rfl ?_
    refine ⟨fun z => absurd z (by decide), fun _ => ?_⟩
    refine m_say hi (cs := [45]) (by decide) (by decide) (by rw [List.length_append]; show L.length + 1 ≤ _; omega) rfl ?_
    rw [List.append_assoc]
    exact hP
variable {S : AbS} {kinds taken : Nat → Int32} {rooms litres : Nat → Int64} {liquids positions sensors ends sizes contents ats ports bends : Nat → Int32}
theorem m_write (hV : VS S) (hM : MS S kinds taken rooms litres liquids positions sensors ends sizes contents ats ports bends) {thr wish found : Int32} {x1 : Int32} {P : Int32 → Int32 → Int32 → Int32 → Prop}
    (h1 : ∀ i : Nat, i < 2 ^ 31 → x1 = nI i → ∀ a b, P (wA (wT S) i) 0 a b) (h0 : (∀ i : Nat, i < 2 ^ 31 → ¬ x1 = nI i) → ∀ a b, P (-1) 0 a b) : wp_Mo_write (nI S.T) (nI S.p) thr wish found kinds rooms sizes ats x1 P := by
  have hT := hV.1.1
  have hp := hV.2.1.1
  obtain ⟨g1, g2, g3⟩ := hM
  unfold wp_Mo_write
  by_cases z : x1 < 0
  · have h2 := h0 (fun i hi e => by rw [e] at z; exact nI_pos hi z)
    refine ⟨1, ?_⟩
    have f : wk_Mo_write_121_17 (nI S.p) x1 ats sizes P 0 x1 (-1) := by
      unfold wk_Mo_write_121_17 wj_Mo_write_121
      refine ⟨1, ?_⟩
      unfold wl_Mo_write_123
      exact ⟨fun _ => h2 _ _, fun _ => ⟨fun _ => h2 _ _, fun y => absurd z y⟩⟩
    unfold wl_Mo_write_17
    exact ⟨fun _ => f, fun _ => ⟨fun _ => f, fun y => absurd z y⟩⟩
  · obtain ⟨i, hi, ei⟩ := q_nn (Int32.not_lt.mp z)
    have h2 := h1 i hi ei
    subst ei
    clear h0 h1
    have cT := cat_len (f := lnT S) (M := S.T) (fun t ht => Nat.le_succ_of_le (lnT_len hV ht).1)
    have pipes : ∀ (d q : Nat) (L : List Nat), q ≤ S.p → S.p - q < d → L.length ≤ 640 + 16 * q → L ++ cat (lnP S) (S.p - q) q = wT S → wl_Mo_write_123 (nI S.p) (nI i) ats sizes (wk_Mo_write_194_123 0 P) d (nI q) (nI i - nI L.length) (wA L i) := by
      intro d
      induction d with
      | zero => intro q L a1 a2; omega
      | succ d ih =>
        intro q L a1 a2 a3 a4
        unfold wl_Mo_write_123
        rw [nI_leI (by omega) (by omega)]
        refine ⟨fun y => ?_, fun y => ⟨fun x => absurd x z, fun _ => ?_⟩⟩
        · rw [show S.p - q = 0 by omega] at a4
          have a4 : L ++ [] = wT S := a4
          rw [List.append_nil] at a4
          unfold wk_Mo_write_194_123
          rw [a4]
          exact h2 _ _
        · have hq : q < S.p := by omega
          have t1 := VS_th hV (e := 2 * q) (by omega)
          have t2 := VS_th hV (e := 2 * q + 1) (by omega)
          have s := (hV.2.2.1 q hq).2
          have m2 : (2 : Int32) * nI q = nI (2 * q) := by rw [show (2 : Int32) = nI 2 from rfl, pk_mul]
          have d1 := dE_len t1
          have d2 := dE_len t2
          have d3 := dg_le3 (v := S.sz q) (by omega)
          have ll := (lnP_len hV hq).1
          rw [m2, nI_1, nI_clamp (n := 2 * q) (by omega), nI_clamp (n := 2 * q + 1) (by omega), nI_clamp (n := q) (by omega), (g2.2.2 (2 * q) (by omega)).1, (g2.2.2 (2 * q + 1) (by omega)).1, g3.1 q hq, nI_l (n := S.sz q) (by omega)]
          refine m_say hi (cs := [112, 105, 112, 101]) (by decide) (by decide) (by omega) rfl ⟨vp_in_nI (by omega) (by decide), ?_⟩
          refine m_sayEnd hi (by simp only [List.length_append, List.length_cons, List.length_nil]; omega) t1 ⟨vp_in_nI (by omega) (by decide), ?_⟩
          refine m_sayEnd hi (by simp only [List.length_append, List.length_cons, List.length_nil]; omega) t2 ⟨vp_in_nI (by omega) (by decide), ?_⟩
          refine m_sayNumber hi (by simp only [List.length_append, List.length_cons, List.length_nil]; omega) (by omega) ?_
          refine m_say hi (cs := [10]) (by decide) (by decide) (by simp only [List.length_append, List.length_cons, List.length_nil]; omega) rfl ?_
          rw [nI_1]
          have el : L ++ [112, 105, 112, 101] ++ ([32] ++ dE (S.th (2 * q))) ++ ([32] ++ dE (S.th (2 * q + 1))) ++ ([32] ++ dg (S.sz q)) ++ [10] = L ++ lnP S q := by
            unfold lnP
            simp only [List.append_assoc, List.cons_append, List.nil_append]
          rw [el]
          refine ih (q + 1) _ (by omega) (by omega) (by rw [List.length_append]; omega) ?_
          rw [List.append_assoc]
          rw [show S.p - q = (S.p - (q + 1)) + 1 by omega] at a4
          exact a4
    have things : ∀ (d t : Nat) (L : List Nat), t ≤ S.T → S.T - t < d → L.length ≤ 16 * t → L ++ (cat (lnT S) (S.T - t) t ++ cat (lnP S) S.p 0) = wT S → wl_Mo_write_17 (nI S.T) (nI i) kinds rooms (wk_Mo_write_121_17 (nI S.p) (nI i) ats sizes P) d (nI t) (nI i - nI L.length) (wA L i) := by
      intro d
      induction d with
      | zero => intro t L a1 a2; omega
      | succ d ih =>
        intro t L a1 a2 a3 a4
        unfold wl_Mo_write_17
        rw [nI_leI (by omega) (by omega)]
        refine ⟨fun y => ?_, fun y => ⟨fun x => absurd x z, fun _ => ?_⟩⟩
        · rw [show S.T - t = 0 by omega] at a4
          have a4 : L ++ cat (lnP S) S.p 0 = wT S := a4
          unfold wk_Mo_write_121_17 wj_Mo_write_121
          exact ⟨S.p + 1, pipes (S.p + 1) 0 L (by omega) (by omega) (by omega) a4⟩
        · have ht : t < S.T := by omega
          have hk := VS_K hV t ht
          have hr := rk_le hk
          have hin : vp_in (nI t) 40 := vp_in_nI (by omega) (by decide)
          have hcap := (hV.1.2 t ht).2.2.1
          obtain ⟨c1, -, -, c4, -, -⟩ := g1 t ht
          have ll := (lnT_len hV ht).1
          have fin : ∀ M, M = L ++ lnT S t → wl_Mo_write_17 (nI S.T) (nI i) kinds rooms (wk_Mo_write_121_17 (nI S.p) (nI i) ats sizes P) d (nI t + 1) (nI i - nI M.length) (wA M i) := by
            intro M hM
            rw [nI_1, hM]
            refine ih (t + 1) _ (by omega) (by omega) (by rw [List.length_append]; omega) ?_
            rw [show S.T - t = (S.T - (t + 1)) + 1 by omega] at a4
            rw [List.append_assoc]
            have a4 : L ++ (lnT S t ++ cat (lnT S) (S.T - (t + 1)) (t + 1) ++ cat (lnP S) S.p 0) = wT S := a4
            rw [List.append_assoc] at a4
            exact a4
          have d1 := dg_le (v := S.cap t)
          have d2 := dg_le2 (v := S.K t) (by omega)
          have k0 : kinds t = 0 ↔ S.K t = 10 := by rw [c1, show (0 : Int32) = nI 0 from rfl, nI_eq (by omega) (by decide), rk_tank hk]
          have k1 : kinds t = 1 ↔ S.K t = 9 := by rw [c1, show (1 : Int32) = nI 1 from rfl, nI_eq (by omega) (by decide), rk_pump hk]
          unfold wj_Mo_write_64
          rw [nI_clamp (n := t) (by omega), k0, k1]
          refine ⟨hin, fun u => ⟨hin, fun v => ?_, fun v => ?_⟩, fun u => ?_⟩
          · refine m_say hi (cs := [118, 97, 108, 118, 101]) (by decide) (by decide) (by omega) rfl ⟨hin, fun x => absurd x v, fun _ => ⟨hin, fun _ => ⟨hin, ?_⟩, fun x => absurd x u⟩⟩
            have e8 : kinds t - 2 = nI (S.K t) := by
              rw [c1, rk_of (by omega), show (2 : Int32) = nI 2 from rfl, q_sub (by omega), Nat.add_sub_cancel]
            rw [e8, nI_l (by omega)]
            refine m_sayNumber hi (by simp only [List.length_append, List.length_cons, List.length_nil]; omega) (by omega) ?_
            refine m_say hi (cs := [10]) (by decide) (by decide) (by simp only [List.length_append, List.length_cons, List.length_nil]; omega) rfl (fin _ ?_)
            unfold lnT
            rw [if_neg u, if_neg v]
            simp only [List.append_assoc, List.cons_append, List.nil_append]
          · refine m_say hi (cs := [112, 117, 109, 112]) (by decide) (by decide) (by omega) rfl ⟨hin, fun _ => ?_, fun x => absurd v x⟩
            refine m_say hi (cs := [10]) (by decide) (by decide) (by simp only [List.length_append, List.length_cons, List.length_nil]; omega) rfl (fin _ ?_)
            unfold lnT
            rw [if_neg u, if_pos v]
            simp only [List.append_assoc, List.cons_append, List.nil_append]
          · refine m_say hi (cs := [116, 97, 110, 107]) (by decide) (by decide) (by omega) rfl ⟨hin, fun x => by omega, fun _ => ⟨hin, fun x => absurd u x, fun _ => ⟨hin, ?_⟩⟩⟩
            rw [c4]
            refine m_sayNumber hi (by simp only [List.length_append, List.length_cons, List.length_nil]; omega) hcap ?_
            refine m_say hi (cs := [10]) (by decide) (by decide) (by simp only [List.length_append, List.length_cons, List.length_nil]; omega) rfl (fin _ ?_)
            unfold lnT
            rw [if_pos u]
            simp only [List.append_assoc, List.cons_append, List.nil_append]
    have := things (S.T + 1) 0 [] (by omega) (by omega) (by decide) rfl
    have e : nI i - nI ([] : List Nat).length = nI i := by
      show nI i - 0 = nI i
      rw [Int32.sub_zero]
    rw [e] at this
    exact ⟨S.T + 1, this⟩
end MW
