/-! LEVEL 2: the reference's move -/
theorem va_up_sw {f : Nat → Nat} {s t a b v : Nat} (h : ¬ s = t) : va_up (va_up (va_up f t a) s v) t b = va_up (va_up f t b) s v := by
  funext u
  by_cases q : u = t
  · subst q
    rw [va_up_self, va_up_ne _ _ (fun z => h z.symm), va_up_self]
  · rw [va_up_ne _ _ q]
    by_cases r : u = s
    · rw [r, va_up_self, va_up_self]
    · rw [va_up_ne _ _ r, va_up_ne _ _ r, va_up_ne _ _ q, va_up_ne _ _ q]
section Mm
variable {p D : Nat} {sz ct W Q : Nat → Nat} {sizes contents way : Nat → Int32}
theorem q_plm {sz : Nat → Nat} {p v i : Nat} (hp : p ≤ 60) (hv : v < 2 * p) (h2 : sz (v / 2) ≤ 200) (hi : i < sz (v / 2)) : (v % 2 = 0 → (200 : Int32) * nI (v / 2) + nI i = nI (pl sz v i)) ∧ (¬ v % 2 = 0 → (200 : Int32) * nI (v / 2) + (nI (sz (v / 2)) - 1 - nI i) = nI (pl sz v i)) ∧ pl sz v i < 12000 := by
  have e : (200 : Int32) * nI (v / 2) = nI (200 * (v / 2)) := by rw [show (200 : Int32) = nI 200 from rfl, pk_mul]
  rw [e, show (1 : Int32) = nI 1 from rfl, q_sub (a := sz (v / 2)) (b := 1) (by omega), q_sub (a := sz (v / 2) - 1) (b := i) (by omega), nI_add, nI_add]
  unfold pl
  refine ⟨fun z => by rw [if_pos z], fun z => by rw [if_neg z], ?_⟩
  split <;> omega
theorem m_mv102 (hp : p ≤ 60) (hY : WY p D sz W Q) (hV : vG3 p sz ct) (hC : mG3 p sz ct sizes contents) {j : Nat} (hj : j < D) {s0 : Int32} (hs0 : (W j % 2 = 0 ∧ s0 = 0) ∨ (¬ W j % 2 = 0 ∧ s0 = 1)) {Kc : Int32 → Int32 → (Nat → Int32) → Prop}
    (hK : ∀ x line, (∀ n, n < sS (zW sz W) (j + 1) → line n = nI (ct (Q n))) → Kc (nI (sS (zW sz W) (j + 1))) x line) :
    ∀ (d i : Nat) (line : Nat → Int32), i ≤ zW sz W j → zW sz W j - i < d → (∀ n, n < sS (zW sz W) j + i → line n = nI (ct (Q n))) →
      wl_Mo_move_102 (nI (W j / 2)) sizes s0 contents Kc d (nI (sS (zW sz W) j + i)) (nI i) line := by
  have hz := hY.z hV hj
  have hw := hY.2.1 j hj
  have hA := hY.A hV
  have hs := sS_mono (z := zW sz W) (i := j + 1) D (by omega)
  have e1 : sS (zW sz W) (j + 1) = sS (zW sz W) j + zW sz W j := rfl
  have hin : vp_in (nI (W j / 2)) 60 := vp_in_nI (by omega) (by decide)
  intro d
  induction d with
  | zero => intro i line a1 a2; omega
  | succ d ih =>
    intro i line a1 a2 a3
    unfold wl_Mo_move_102
    rw [nI_clamp (n := W j / 2) (by omega), hC.1 _ (by omega), show nI (sz (W j / 2)) = nI (zW sz W j) from rfl, nI_leI (by omega) (by omega)]
    refine ⟨hin, fun q => ?_, fun q => ?_⟩
    · have e : i = zW sz W j := by omega
      rw [e, ← e1] at a3 ⊢
      exact hK _ _ a3
    · have hi : i < zW sz W j := by omega
      obtain ⟨p1, p2, p3⟩ := q_plm (sz := sz) (i := i) hp hw hz.2 hi
      have ec : contents (pl sz (W j) i) = nI (ct (Q (sS (zW sz W) j + i))) := by
        rw [hY.2.2.2 j i hj hi]
        unfold pl zW at *
        exact hC.2 _ _ (by omega) (by split <;> omega)
      have c16 := hV.2.1 (Q (sS (zW sz W) j + i))
      have eb : vp_nar .byte (contents (pl sz (W j) i)) = nI (ct (Q (sS (zW sz W) j + i))) := by
        rw [ec]
        have : ∀ u, u < 16 → vp_nar .byte (nI u) = nI u := by decide +kernel
        exact this _ c16
      have go : wl_Mo_move_102 (nI (W j / 2)) sizes s0 contents Kc d (nI (sS (zW sz W) j + i) + 1) (nI i + 1) (upd line (sS (zW sz W) j + i) (nI (ct (Q (sS (zW sz W) j + i))))) := by
        rw [nI_1, nI_1, Nat.add_assoc]
        refine ih (i + 1) _ (by omega) (by omega) (fun n hn => ?_)
        by_cases z : n = sS (zW sz W) j + i
        · rw [z, pk_us]
        · rw [pk_un z]
          exact a3 n (by omega)
      have hin2 : vp_in (nI (sS (zW sz W) j + i)) 12000 := vp_in_nI (by omega) (by decide)
      have hin3 : vp_in (nI (pl sz (W j) i)) 12000 := vp_in_nI p3 (by decide)
      rw [nI_clamp (n := sS (zW sz W) j + i) (by omega)]
      rcases hs0 with ⟨z1, z2⟩ | ⟨z1, z2⟩
      · rw [z2] at go ⊢
        rw [p1 z1, nI_clamp (n := pl sz (W j) i) (by omega), eb]
        exact ⟨fun _ => ⟨hin3, hin2, go⟩, fun y => absurd rfl y⟩
      · rw [z2] at go ⊢
        have p2 := p2 z1
        rw [show sz (W j / 2) = zW sz W j from rfl] at p2
        rw [p2, nI_clamp (n := pl sz (W j) i) (by omega), eb]
        exact ⟨fun y => absurd y q_10, fun _ => ⟨hin, hin3, hin2, go⟩⟩
theorem q_odd {v : Nat} (h : v < 120) : (nI v - nI v / 2 * 2 = (1 : Int32)) ↔ ¬ v % 2 = 0 := by
  rw [q_rem v h, show (1 : Int32) = nI 1 from rfl, nI_eq (by omega) (by decide)]
  omega
theorem m_mv59 (hp : p ≤ 60) (hY : WY p D sz W Q) (hV : vG3 p sz ct) (hC : mG3 p sz ct sizes contents) (hW : ∀ j, j < D → way j = nI (W j)) {Kc : Int32 → Int32 → (Nat → Int32) → Prop}
    (hK : ∀ x line, (∀ n, n < sS (zW sz W) D → line n = nI (ct (Q n))) → Kc (nI (sS (zW sz W) D)) x line) :
    ∀ (d j : Nat) (line : Nat → Int32), j ≤ D → D - j < d → (∀ n, n < sS (zW sz W) j → line n = nI (ct (Q n))) →
      wl_Mo_move_59 (nI D) way sizes contents Kc d (nI (sS (zW sz W) j)) (nI j) line := by
  have hD := hY.1
  intro d
  induction d with
  | zero => intro j line a1 a2; omega
  | succ d ih =>
    intro j line a1 a2 a3
    unfold wl_Mo_move_59
    rw [nI_leI (by omega) (by omega)]
    refine ⟨fun q => ?_, fun q => ?_⟩
    · have e : j = D := by omega
      rw [e] at a3 ⊢
      exact hK _ _ a3
    · have hj : j < D := by omega
      have hw := hY.2.1 j hj
      have hin : vp_in (nI j) 60 := vp_in_nI (by omega) (by decide)
      have go : ∀ s0, ((W j % 2 = 0 ∧ s0 = 0) ∨ (¬ W j % 2 = 0 ∧ s0 = 1)) → wj_Mo_move_97 sizes contents (wl_Mo_move_59 (nI D) way sizes contents Kc d) (nI (sS (zW sz W) j)) (nI j) (nI (W j / 2)) line s0 := by
        intro s0 hs0
        unfold wj_Mo_move_97
        refine ⟨zW sz W j + 1, ?_⟩
        refine m_mv102 hp hY hV hC hj hs0 (fun x line' hl => ?_) (zW sz W j + 1) 0 line (by omega) (by omega) a3
        unfold wk_Mo_move_164_102
        rw [nI_1]
        exact ih (j + 1) line' (by omega) (by omega) hl
      rw [nI_clamp (n := j) (by omega), hW j hj, q_odd (by omega), q_half _ (by omega)]
      exact ⟨hin, hin, fun z => go 0 (Or.inl ⟨Classical.not_not.mp z, rfl⟩), fun z => go 1 (Or.inr ⟨z, rfl⟩)⟩
/-- the first m cells of the way are written -/
def spD (A : Nat) (Q : Nat → Nat) (M l m : Nat) (ct ct' : Nat → Nat) : Prop := ∀ c, ((∃ n, n < m ∧ Q n = c) → ct' c = mvC A Q M l ct c) ∧ ((¬ ∃ n, n < m ∧ Q n = c) → ct' c = ct c)
theorem spD_A {A : Nat} {Q : Nat → Nat} {M l : Nat} {ct ct' : Nat → Nat} (h : spD A Q M l A ct ct') : ct' = mvC A Q M l ct := by
  funext c
  obtain ⟨h1, h2⟩ := h c
  by_cases q : ∃ n, n < A ∧ Q n = c
  · exact h1 q
  · rw [h2 q, mvC_out (fun n a b => q ⟨n, a, b⟩)]
theorem spD_up {A : Nat} {Q : Nat → Nat} (hQ : ∀ i j, i < A → j < A → Q i = Q j → i = j) {M l m : Nat} {ct ct' : Nat → Nat} (h : spD A Q M l m ct ct') (hm : m < A) {v : Nat} (hv : v = if m < M then l else ct (Q (m - M))) : spD A Q M l (m + 1) ct (va_up ct' (Q m) v) := by
  intro c
  obtain ⟨h1, h2⟩ := h c
  by_cases q : c = Q m
  · subst q
    rw [va_up_self]
    refine ⟨fun _ => ?_, fun z => absurd ⟨m, by omega, rfl⟩ z⟩
    rw [mvC_in hQ (by omega), hv]
  · rw [va_up_ne _ _ q]
    refine ⟨fun z => ?_, fun z => h2 (fun y => z (by obtain ⟨n, a, e⟩ := y; exact ⟨n, by omega, e⟩))⟩
    obtain ⟨n, a, e⟩ := z
    by_cases r : n = m
    · rw [r] at e; exact absurd e.symm q
    · exact h1 ⟨n, by omega, e⟩
theorem mG3_set (hC : mG3 p sz ct sizes contents) {c v : Nat} : mG3 p sz (va_up ct c v) sizes (upd contents c (nI v)) := by
  refine ⟨hC.1, fun q i hq hi => ?_⟩
  by_cases z : 200 * q + i = c
  · rw [z, pk_us, va_up_self]
  · rw [pk_un z, va_up_ne _ _ z]
    exact hC.2 q i hq hi
theorem m_mv372 (hp : p ≤ 60) (hY : WY p D sz W Q) (hV : vG3 p sz ct) {M l : Nat} (hM : M < 2 ^ 30) (hl : l < 16) {line : Nat → Int32} (hr : ∀ n, n < sS (zW sz W) D → line n = nI (ct (Q n))) {j : Nat} (hj : j < D) {s0 : Int32} (hs0 : (W j % 2 = 0 ∧ s0 = 0) ∨ (¬ W j % 2 = 0 ∧ s0 = 1)) {Kc : Int32 → Int32 → (Nat → Int32) → Prop}
    (hK : ∀ x contents ct', spD (sS (zW sz W) D) Q M l (sS (zW sz W) (j + 1)) ct ct' → mG3 p sz ct' sizes contents → Kc (nI (sS (zW sz W) (j + 1))) x contents) :
    ∀ (d i : Nat) (contents : Nat → Int32) (ct' : Nat → Nat), i ≤ zW sz W j → zW sz W j - i < d → spD (sS (zW sz W) D) Q M l (sS (zW sz W) j + i) ct ct' → mG3 p sz ct' sizes contents →
      wl_Mo_move_372 (nI (W j / 2)) sizes (nI M) s0 line (nI l) Kc d (nI (sS (zW sz W) j + i)) (nI i) contents := by
  have hz := hY.z hV hj
  have hw := hY.2.1 j hj
  have hA := hY.A hV
  have hs := sS_mono (z := zW sz W) (i := j + 1) D (by omega)
  have e1 : sS (zW sz W) (j + 1) = sS (zW sz W) j + zW sz W j := rfl
  have hin : vp_in (nI (W j / 2)) 60 := vp_in_nI (by omega) (by decide)
  intro d
  induction d with
  | zero => intro i contents ct' a1 a2; omega
  | succ d ih =>
    intro i contents ct' a1 a2 a3 a4
    unfold wl_Mo_move_372
    rw [nI_clamp (n := W j / 2) (by omega), a4.1 _ (by omega), show nI (sz (W j / 2)) = nI (zW sz W j) from rfl, nI_leI (by omega) (by omega), nI_leI (by omega) (by omega)]
    refine ⟨hin, fun q => ?_, fun q => ?_⟩
    · have e : i = zW sz W j := by omega
      rw [e, ← e1] at a3 ⊢
      exact hK _ _ _ a3 a4
    · have hi : i < zW sz W j := by omega
      obtain ⟨p1, p2, p3⟩ := q_plm (sz := sz) (i := i) hp hw hz.2 hi
      have go : ∀ v, v < 16 → v = (if sS (zW sz W) j + i < M then l else ct (Q (sS (zW sz W) j + i - M))) → wj_Mo_move_406 s0 (nI (W j / 2)) sizes (wl_Mo_move_372 (nI (W j / 2)) sizes (nI M) s0 line (nI l) Kc d) (nI (sS (zW sz W) j + i)) (nI i) contents (nI v) := by
        intro v v16 hv
        have g : wl_Mo_move_372 (nI (W j / 2)) sizes (nI M) s0 line (nI l) Kc d (nI (sS (zW sz W) j + i) + 1) (nI i + 1) (upd contents (pl sz (W j) i) (nI v)) := by
          rw [nI_1, nI_1, Nat.add_assoc]
          have u := spD_up (hY.inj hV) a3 (by omega) hv
          rw [hY.2.2.2 j i hj hi] at u
          exact ih (i + 1) _ _ (by omega) (by omega) u (mG3_set a4)
        have hin3 : vp_in (nI (pl sz (W j) i)) 12000 := vp_in_nI p3 (by decide)
        unfold wj_Mo_move_406
        rw [nI_clamp (n := W j / 2) (by omega), a4.1 _ (by omega), q_byte v (by omega)]
        rcases hs0 with ⟨z1, z2⟩ | ⟨z1, z2⟩
        · rw [z2] at g ⊢
          rw [p1 z1, nI_clamp (n := pl sz (W j) i) (by omega)]
          exact ⟨fun _ => ⟨hin3, g⟩, fun y => absurd rfl y⟩
        · rw [z2] at g ⊢
          rw [p2 z1, nI_clamp (n := pl sz (W j) i) (by omega)]
          exact ⟨fun y => absurd y q_10, fun _ => ⟨hin, hin3, g⟩⟩
      refine ⟨fun z => ?_, fun z => go l hl (by rw [if_pos (by omega)])⟩
      rw [q_sub z, nI_clamp (n := sS (zW sz W) j + i - M) (by omega), hr _ (by omega)]
      exact ⟨vp_in_nI (by omega) (by decide), go _ (hV.2.1 _) (by rw [if_neg (by omega)])⟩
theorem m_mv329 (hp : p ≤ 60) (hY : WY p D sz W Q) (hV : vG3 p sz ct) {M l : Nat} (hM : M < 2 ^ 30) (hl : l < 16) {line : Nat → Int32} (hr : ∀ n, n < sS (zW sz W) D → line n = nI (ct (Q n))) (hW : ∀ j, j < D → way j = nI (W j)) {Kc : Int32 → Int32 → (Nat → Int32) → Prop}
    (hK : ∀ x y contents, mG3 p sz (mvC (sS (zW sz W) D) Q M l ct) sizes contents → Kc x y contents) :
    ∀ (d j : Nat) (contents : Nat → Int32) (ct' : Nat → Nat), j ≤ D → D - j < d → spD (sS (zW sz W) D) Q M l (sS (zW sz W) j) ct ct' → mG3 p sz ct' sizes contents →
      wl_Mo_move_329 (nI D) way sizes (nI M) line (nI l) Kc d (nI (sS (zW sz W) j)) (nI j) contents := by
  have hD := hY.1
  intro d
  induction d with
  | zero => intro j contents ct' a1 a2; omega
  | succ d ih =>
    intro j contents ct' a1 a2 a3 a4
    unfold wl_Mo_move_329
    rw [nI_leI (by omega) (by omega)]
    refine ⟨fun q => ?_, fun q => ?_⟩
    · have e : j = D := by omega
      rw [e] at a3
      have e2 := spD_A a3
      rw [e2] at a4
      exact hK _ _ _ a4
    · have hj : j < D := by omega
      have hw := hY.2.1 j hj
      have hin : vp_in (nI j) 60 := vp_in_nI (by omega) (by decide)
      have go : ∀ s0, ((W j % 2 = 0 ∧ s0 = 0) ∨ (¬ W j % 2 = 0 ∧ s0 = 1)) → wj_Mo_move_367 sizes (nI M) line (nI l) (wl_Mo_move_329 (nI D) way sizes (nI M) line (nI l) Kc d) (nI (sS (zW sz W) j)) (nI j) (nI (W j / 2)) contents s0 := by
        intro s0 hs0
        unfold wj_Mo_move_367
        refine ⟨zW sz W j + 1, ?_⟩
        refine m_mv372 hp hY hV hM hl hr hj hs0 (fun x contents' ct2 b3 b4 => ?_) (zW sz W j + 1) 0 contents ct' (by omega) (by omega) a3 a4
        unfold wk_Mo_move_454_372
        rw [nI_1]
        exact ih (j + 1) contents' ct2 (by omega) (by omega) b3 b4
      rw [nI_clamp (n := j) (by omega), hW j hj, q_odd (by omega), q_half _ (by omega)]
      exact ⟨hin, hin, fun z => go 0 (Or.inl ⟨Classical.not_not.mp z, rfl⟩), fun z => go 1 (Or.inr ⟨z, rfl⟩)⟩
end Mm
section Mm2
variable {T : Nat} {K pos cap am lq : Nat → Nat} {tl : Nat → Int32} {kinds positions sensors liquids : Nat → Int32} {rooms litres : Nat → Int64}
theorem mG1_lit {s v : Nat} (h : mG1 T K pos tl cap am lq kinds positions sensors rooms litres liquids) : mG1 T K pos tl cap (va_up am s v) lq kinds positions sensors rooms (vp_updL litres s (lN v)) liquids := by
  intro t ht
  obtain ⟨a1, a2, a3, a4, a5, a6⟩ := h t ht
  by_cases z : t = s
  · rw [z, va_up_self]
    rw [z] at a1 a2 a3 a4 a6
    exact ⟨a1, a2, a3, a4, by unfold vp_updL; rw [if_pos rfl], a6⟩
  · rw [va_up_ne _ _ z]
    exact ⟨a1, a2, a3, a4, by unfold vp_updL; rw [if_neg z]; exact a5, a6⟩
theorem mG1_liq {s v : Nat} (h : mG1 T K pos tl cap am lq kinds positions sensors rooms litres liquids) : mG1 T K pos tl cap am (va_up lq s v) kinds positions sensors rooms litres (upd liquids s (nI v)) := by
  intro t ht
  obtain ⟨a1, a2, a3, a4, a5, a6⟩ := h t ht
  by_cases z : t = s
  · rw [z, va_up_self, pk_us]
    rw [z] at a1 a2 a3 a4 a5
    exact ⟨a1, a2, a3, a4, a5, rfl⟩
  · rw [va_up_ne _ _ z, pk_un z]
    exact ⟨a1, a2, a3, a4, a5, a6⟩
theorem lN_sub1 {a : Nat} (h : 0 < a) : lN a - 1 = lN (a - 1) := by
  have e : lN a = lN (a - 1) + 1 := by rw [show (1 : Int64) = lN 1 from rfl, lN_add, show a - 1 + 1 = a by omega]
  rw [e, Int64.add_sub_cancel]
theorem m_mv184 {A : Nat} {line : Nat → Int32} {ln : Nat → Nat} (hr : ∀ m, m < A → line m = nI (ln m)) (h16 : ∀ m, ln m < 16) (hA : A ≤ 12000) (hT : T ≤ 40) {s t n l : Nat} (hs : s < T) (ht : t < T) (hne : ¬ s = t) (hn : n ≤ 100000) (hl : l ≤ 15) (has : am s ≤ 100000) (hcp : cap t ≤ 100000) {liq0 : Nat → Int32} (hl0 : liq0 s = nI l) {R : Nat × Nat × Nat} {Kc : Int32 → Int32 → (Nat → Int64) → (Nat → Int32) → Prop}
    (hK : ∀ x litres liquids, mG1 T K pos tl cap (va_up (va_up am t R.2.1) s (am s - R.1)) (va_up lq t R.2.2) kinds positions sensors rooms litres liquids → Kc (nI R.1) x litres liquids) :
    ∀ (d m a b : Nat) (litres : Nat → Int64) (liquids : Nat → Int32), m ≤ n → m ≤ am s → a ≤ cap t → b ≤ 15 → n - m < d → R = mvR n (am s) (cap t) l A ln (n + 1 - m) m a b → mG1 T K pos tl cap (va_up (va_up am t a) s (am s - m)) (va_up lq t b) kinds positions sensors rooms litres liquids →
      wl_Mo_move_184 (lN n) (nI A) (nI s) (nI t) rooms liq0 line Kc d (nI m) 1 litres liquids := by
  have hins : vp_in (nI s) 40 := vp_in_nI (by omega) (by decide)
  have hint : vp_in (nI t) 40 := vp_in_nI (by omega) (by decide)
  intro d
  induction d with
  | zero => intro m a b litres liquids a1 a2 a3 a4 a5; omega
  | succ d ih =>
    intro m a b litres liquids a1 a2 a3 a4 a5 a6 a7
    have stop : ¬ (m < n ∧ m < am s ∧ (cN A l ln m = 0 ∨ a < cap t)) → ∀ x, Kc (nI m) x litres liquids := by
      intro z x
      rw [mvR_stop z] at a6
      have := hK x litres liquids
      rw [a6] at this
      exact this a7
    unfold wl_Mo_move_184
    rw [nI_l (by omega), q_ge, lN_le (by omega) (by omega)]
    refine ⟨fun y => absurd y q_10, fun _ => ⟨fun q => stop (by omega) _, fun q => ?_⟩⟩
    obtain ⟨-, -, -, c4, c5, c6⟩ := a7 t ht
    obtain ⟨-, -, -, -, d5, -⟩ := a7 s hs
    rw [va_up_self] at d5 c6
    rw [va_up_ne _ _ (fun z => hne z.symm), va_up_self] at c5
    have c15 : cN A l ln m ≤ 15 := by
      unfold cN
      split
      · have := h16 (A - 1 - m); omega
      · exact hl
    have go : wj_Mo_move_221 (nI s) (nI t) rooms (wl_Mo_move_184 (lN n) (nI A) (nI s) (nI t) rooms liq0 line Kc d) (nI m) litres liquids (nI (cN A l ln m)) := by
      have no : ¬ (m < n ∧ m < am s ∧ (cN A l ln m = 0 ∨ a < cap t)) → wj_Mo_move_259 (nI s) (nI t) (wl_Mo_move_184 (lN n) (nI A) (nI s) (nI t) rooms liq0 line Kc d) (nI m) (nI (cN A l ln m)) litres liquids := by
        intro z
        obtain ⟨d, rfl⟩ : ∃ e, d = e + 1 := ⟨d - 1, by omega⟩
        unfold wj_Mo_move_259 wj_Mo_move_260
        refine ⟨fun _ => ?_, fun y => absurd rfl y⟩
        unfold wl_Mo_move_184
        exact ⟨fun _ => stop z _, fun y => absurd rfl y⟩
      have yes : (m < n ∧ m < am s ∧ (cN A l ln m = 0 ∨ a < cap t)) → wj_Mo_move_255 (nI s) (nI t) (wl_Mo_move_184 (lN n) (nI A) (nI s) (nI t) rooms liq0 line Kc d) (nI m) (nI (cN A l ln m)) litres liquids := by
        intro z
        rw [show n + 1 - m = (n - m) + 1 by omega] at a6
        unfold mvR at a6
        rw [if_pos z] at a6
        have g1 := mG1_lit (s := s) (v := am s - (m + 1)) a7
        rw [va_up_up] at g1
        have e2 : litres s - 1 = lN (am s - (m + 1)) := by rw [d5, lN_sub1 (by omega)]; congr 1
        unfold wj_Mo_move_255 wj_Mo_move_260
        rw [nI_clamp (n := s) (by omega), e2, show (0 : Int32) = nI 0 from rfl, nI_leI (by omega) (by decide), nI_1]
        refine ⟨fun y => absurd y q_10, fun _ => ⟨hins, hins, fun y => ?_, fun y => ?_⟩⟩
        · have y : cN A l ln m = 0 := by omega
          rw [if_pos y, if_pos y] at a6
          exact ih (m + 1) a b _ _ (by omega) (by omega) a3 a4 (by omega) (by rw [show n + 1 - (m + 1) = n - m by omega]; exact a6) g1
        · have y : ¬ cN A l ln m = 0 := by omega
          rw [if_neg y, if_neg y] at a6
          rw [show (1 : Int64) = lN 1 from rfl]
          refine m_come (a := a) (b := b) (n := 1) (by omega) c15 ?_ c6 (by omega) a4 ?_
          · unfold vp_updL
            rw [if_neg (fun z => hne z.symm)]
            exact c5
          · have g2 := mG1_pour (t0 := t) (n := a + 1) (m := mix a b (cN A l ln m)) g1
            rw [va_up_sw hne, va_up_up] at g2
            exact ih (m + 1) (a + 1) (mix a b (cN A l ln m)) _ _ (by omega) (by omega) (by omega) (mix_le c15) (by omega) (by rw [show n + 1 - (m + 1) = n - m by omega]; exact a6) g2
      unfold wj_Mo_move_221
      rw [nI_clamp (n := s) (by omega), nI_clamp (n := t) (by omega), d5, c4, c5, q_le, q_ge, show (0 : Int64) = lN 0 from rfl, lN_le (by omega) (by decide), lN_le (by omega) (by omega), show (0 : Int32) = nI 0 from rfl, nI_eq (by omega) (by decide)]
      exact ⟨hins, fun z => no (by omega), fun z => ⟨fun y => yes ⟨by omega, by omega, Or.inl y⟩, fun y => ⟨hint, hint, fun x => no (by omega), fun x => yes ⟨by omega, by omega, Or.inr (by omega)⟩⟩⟩⟩
    rw [nI_leI (by omega) (by omega), nI_clamp (n := s) (by omega)]
    unfold cN at go
    refine ⟨fun z => ?_, fun z => ?_⟩
    · rw [if_neg (by omega), ← hl0] at go
      exact go
    · rw [if_pos (by omega), ← hr _ (by omega)] at go
      have e : nI A - 1 - nI m = nI (A - 1 - m) := by rw [show (1 : Int32) = nI 1 from rfl, q_sub (by omega), q_sub (by omega)]
      rw [e, nI_clamp (n := A - 1 - m) (by omega)]
      exact ⟨vp_in_nI (by omega) (by decide), go⟩
variable {p : Nat} {tk E po sz ct : Nat → Nat} {th bd : Nat → Option Nat} {taken ends ats ports bends sizes contents left way line : Nat → Int32} {wide thr : Int32}
theorem m_move (hV : vG1 T K pos cap am lq) (hC : mG1 T K pos tl cap am lq kinds positions sensors rooms litres liquids) (hV2 : vG2 T p K tk E po th bd) (hC2 : mG2 T p K tk E po th bd taken ends ats ports bends) (hV3 : vG3 p sz ct) (hC3 : mG3 p sz ct sizes contents) {x1 x2 : Int32} {x3 : Int64}
    {P : Int64 → Int32 → Int32 → (Nat → Int64) → (Nat → Int32) → (Nat → Int32) → (Nat → Int32) → (Nat → Int32) → (Nat → Int32) → Prop}
    (h1 : ∀ s t n, mvG T p K pos tk E po th bd x1 x2 x3 s t n → ∀ wide litres liquids contents left way line, mG3 p sz (mvCt p K pos tk E po th bd sz ct cap am lq s t n) sizes contents → mG1 T K pos tl cap (mvAm am s t (mvN p K pos tk E po th bd sz ct cap am lq s t n)) (mvLq am lq s t (mvN p K pos tk E po th bd sz ct cap am lq s t n)) kinds positions sensors rooms litres liquids → P (lN (mvN p K pos tk E po th bd sz ct cap am lq s t n).1) wide 0 litres liquids contents left way line)
    (h0 : (∀ s t n, ¬ mvG T p K pos tk E po th bd x1 x2 x3 s t n) → ∀ wide left way, P (-1) wide 0 litres liquids contents left way line) :
    wp_Mo_move (nI T) (nI p) wide thr kinds rooms litres liquids positions ends sizes contents ats ports bends left way line x1 x2 x3 P := by
  have hT := hV.1
  have hk : ∀ t, t < T → kinds t = nI (rk (K t)) := fun t ht => (hC t ht).1
  have hq : ∀ t, t < T → positions t = nI (pos t) := fun t ht => (hC t ht).2.1
  have vK : ∀ t, t < T → K t ≤ 10 := fun t ht => (hV.2 t ht).1
  have vq : ∀ t, t < T → pos t ≤ 9 := fun t ht => (hV.2 t ht).2.1
  unfold wp_Mo_move
  refine m_isTank hT hk vK (fun s hs ks es => b_1 ?_) (fun hn => b_0 (h0 (fun s t n z => hn s z.1 z.2.2.1 z.2.2.2.2.2.2.2.1) _ _ _))
  refine m_isTank hT hk vK (fun t ht kt et => b_1 ?_) (fun hn => b_0 (h0 (fun s t n z => hn t z.2.1 z.2.2.2.1 z.2.2.2.2.2.2.2.2.1) _ _ _))
  subst es; subst et
  rw [nI_eq (by omega) (by omega), q_lt, q_gt]
  refine ⟨fun q => h0 (fun s' t' n z => ?_) _ _ _, fun hne => ⟨fun q => h0 (fun s' t' n z => ?_) _ _ _, fun q => ⟨fun q' => h0 (fun s' t' n z => ?_) _ _ _, fun q' => ?_⟩⟩⟩
  · obtain ⟨z1, z2, -, -, z5, -, -, z8, z9, -⟩ := z
    have a := (nI_eq (by omega) (by omega)).mp z8
    have b := (nI_eq (by omega) (by omega)).mp z9
    omega
  · obtain ⟨-, -, -, -, -, z6, z7, -, -, z10, -⟩ := z
    rw [z10, show (1 : Int64) = lN 1 from rfl, lN_lt (by omega) (by decide)] at q
    omega
  · obtain ⟨-, -, -, -, -, z6, z7, -, -, z10, -⟩ := z
    rw [z10, show (100000 : Int64) = lN 100000 from rfl, lN_lt (by decide) (by omega)] at q'
    omega
  · obtain ⟨n, n1, n2, en⟩ : ∃ j : Nat, 1 ≤ j ∧ j ≤ 100000 ∧ x3 = lN j := by
      refine q_btw (by decide) ?_ ?_ (by decide)
      · rw [show lN 1 = (1 : Int64) from rfl]
        rw [Int64.lt_iff_toInt_lt] at q
        rw [Int64.le_iff_toInt_le]; omega
      · rw [show lN 100000 = (100000 : Int64) from rfl]
        rw [Int64.lt_iff_toInt_lt] at q'
        rw [Int64.le_iff_toInt_le]; omega
    refine m_find hT hk vK hq vq hC2 hV2 hs ht ks kt hne (fun left way L x hJ hc hx hl hw => b_1n ⟨L x + 1, ?_⟩) (fun left L hJ hc hg0 => b_0n (h0 (fun s' t' n z => ?_) _ _ _))
    · have hr : RW p s t K pos tk E po th bd := ⟨L, x, hJ, hc, hx⟩
      obtain ⟨hY, hD⟩ := way_ok hT vK vq hV2 ks kt hne hr sz
      obtain ⟨e1, e2⟩ := way_is hV2 hJ hc hx
      have hG : mvG T p K pos tk E po th bd (nI s) (nI t) x3 s t n := ⟨hs, ht, ks, kt, hne, n1, n2, rfl, rfl, en, hr⟩
      have hW : ∀ j, j < wD p s t K pos tk E po th bd → way j = nI (wW p s t K pos tk E po th bd j) := fun j hj => by
        rw [e1] at hj
        rw [e2 j hj]; exact hw j hj
      have h2 := h1 s t n hG
      rw [en]
      clear h1 h0
      obtain ⟨-, -, sc, sa, sl, sp, s0⟩ := hV.2 s hs
      obtain ⟨-, -, tc, ta, tql, tp, t0⟩ := hV.2 t ht
      obtain ⟨-, -, -, -, -, c6⟩ := hC s hs
      have hok := mvR_ok (n := n) (af := am s) (cp := cap t) (l := lq s) (A := sS (zW sz (wW p s t K pos tk E po th bd)) (wD p s t K pos tk E po th bd)) (ln := fun i => ct (qC (wD p s t K pos tk E po th bd) sz (wW p s t K pos tk E po th bd) i)) (fun m _ => hV3.2.1 _) sl (n + 1) 0 (am t) (lq t) ta tql ⟨tp, fun z => by rcases Nat.eq_zero_or_pos (am t) with y | y; rw [t0 y] at z; omega; exact y⟩ (Nat.zero_le _) (Nat.zero_le _)
      have hM : (mvN p K pos tk E po th bd sz ct cap am lq s t n).1 ≤ n := hok.1
      have hins : vp_in (nI s) 40 := vp_in_nI (by omega) (by decide)
      rw [← e1]
      refine m_mv59 hV2.1 hY hV3 hC3 hW (fun x line hline => ?_) (wD p s t K pos tk E po th bd + 1) 0 line (by omega) (by omega) (fun n hn => absurd hn (Nat.not_lt_zero _))
      unfold wk_Mo_move_170_59
      refine ⟨hins, n + 1, ?_⟩
      refine m_mv184 (lq := lq) (am := am) (kinds := kinds) (positions := positions) (sensors := sensors) (pos := pos) (K := K) (tl := tl) (ln := fun i => ct (qC (wD p s t K pos tk E po th bd) sz (wW p s t K pos tk E po th bd) i)) (R := mvN p K pos tk E po th bd sz ct cap am lq s t n) hline (fun m => hV3.2.1 _) (hY.A hV3) hT hs ht hne n2 sl (by omega) tc c6 (fun x8 litres liquids g => ?_) (n + 1) 0 (am t) (lq t) litres liquids (by omega) (by omega) ta tql (by omega) rfl (by rw [va_up_id, Nat.sub_zero, va_up_id, va_up_id]; exact hC)
      unfold wk_Mo_move_296_184
      have fin : ∀ v, v = (if am s - (mvN p K pos tk E po th bd sz ct cap am lq s t n).1 = 0 then 0 else lq s) → wj_Mo_move_322 sizes P (nI (lq s)) (nI (mvN p K pos tk E po th bd sz ct cap am lq s t n).1) (nI (wD p s t K pos tk E po th bd)) 0 litres liquids contents left way line (nI v) (nI s) := by
        intro v hv
        unfold wj_Mo_move_322
        refine ⟨hins, wD p s t K pos tk E po th bd + 1, ?_⟩
        refine m_mv329 hV2.1 hY hV3 (by omega) (by omega) hline hW (fun x y contents g3 => ?_) (wD p s t K pos tk E po th bd + 1) 0 contents ct (by omega) (by omega) (fun c => ⟨fun z => by obtain ⟨n, a, -⟩ := z; exact absurd a (Nat.not_lt_zero _), fun _ => rfl⟩) hC3
        unfold wk_Mo_move_460_329
        rw [nI_l (by omega), nI_clamp (n := s) (by omega)]
        refine h2 _ _ _ _ _ _ _ g3 ?_
        have g1 := mG1_liq (s := s) (v := v) g
        unfold mvAm mvLq
        rw [hv] at g1 ⊢
        exact g1
      unfold wj_Mo_move_296
      obtain ⟨-, -, -, -, d5, d6⟩ := g s hs
      rw [va_up_self] at d5
      rw [va_up_ne _ _ hne] at d6
      rw [nI_clamp (n := s) (by omega), c6, d5, d6, q_eq, show (0 : Int64) = lN 0 from rfl, lN_eq (by omega) (by decide)]
      exact ⟨hins, fun z => ⟨hins, fin (lq s) (by rw [if_neg z])⟩, fun z => fin 0 (by rw [if_pos z])⟩
    · obtain ⟨z1, z2, -, -, z5, -, -, z8, z9, -, zr⟩ := z
      have a := (nI_eq (by omega) (by omega)).mp z8
      have b := (nI_eq (by omega) (by omega)).mp z9
      subst a; subst b
      exact RW_no hJ hc hg0 zr
end Mm2
