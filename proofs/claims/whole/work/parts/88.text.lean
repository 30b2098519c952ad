/-! LEVEL 2: texts: how bytes, words and numbers are passed, on both sides -/
/-- the text's bytes -/
def tG (n : Nat) (tx : Nat → Nat) (bytes : Nat → Int32) : Prop := n ≤ 2000 ∧ ∀ i, i < n → bytes i = nI (tx i) ∧ 1 ≤ tx i ∧ tx i ≤ 127
/-- the byte at q, 0 behind the end -/
def hh (n : Nat) (tx : Nat → Nat) (q : Nat) : Nat := if q < n then tx q else 0
def bI (v : Nat) : Int32 := if v = 0 then -1 else nI v
theorem bI_eq {v c : Nat} (hv : v < 128) (h1 : 1 ≤ c) (h2 : c < 128) : bI v = nI c ↔ v = c := by
  unfold bI
  by_cases q : v = 0
  · rw [if_pos q]
    exact ⟨fun z => absurd z.symm (q_m1 (j := c) (by omega)), fun z => by omega⟩
  · rw [if_neg q, nI_eq (by omega) (by omega)]
theorem hh_lt {n : Nat} {tx : Nat → Nat} {bytes : Nat → Int32} (h : tG n tx bytes) (q : Nat) : hh n tx q < 128 := by
  unfold hh
  split
  · have := (h.2 q (by assumption)).2.2; omega
  · decide
theorem hh_in {n : Nat} {tx : Nat → Nat} {q : Nat} (h : 1 ≤ hh n tx q) : q < n := by
  unfold hh at h
  split at h
  · assumption
  · omega
section Text
variable {n : Nat} {tx : Nat → Nat} {bytes : Nat → Int32}
theorem s_byteAt (h : tG n tx bytes) {q : Nat} (hq : q < 2 ^ 30) {P : Int32 → Prop} (hP : P (bI (hh n tx q))) : wp_Te_byteAt (nI n) bytes (nI q) P := by
  have hn := h.1
  unfold wp_Te_byteAt
  rw [nI_leI (by omega) (by omega), show (2000 : Int32) = nI 2000 from rfl, nI_leI (by decide) (by omega), nI_clamp (n := q) (by omega)]
  unfold hh at hP
  refine ⟨fun z => absurd z (nI_pos (by omega)), fun _ => ⟨fun z => ?_, fun z => ⟨fun y => by omega, fun y => ⟨vp_in_nI (by omega) (by decide), ?_⟩⟩⟩⟩
  · rw [if_neg (by omega)] at hP
    exact hP
  · obtain ⟨a1, a2, a3⟩ := h.2 q (by omega)
    rw [if_pos (by omega)] at hP
    unfold bI at hP
    rw [if_neg (by omega)] at hP
    rw [a1]
    exact hP
theorem m_here (h : tG n tx bytes) {q : Nat} (hq : q < 2 ^ 30) {P : Int32 → Prop} (hP : P (nI (hh n tx q))) : wp_Mo_here (nI n) (nI q) bytes P := by
  have hn := h.1
  unfold wp_Mo_here
  rw [nI_leI (by omega) (by omega), nI_clamp (n := q) (by omega)]
  unfold hh at hP
  refine ⟨fun z => ?_, fun z => ⟨vp_in_nI (by omega) (by decide), ?_⟩⟩
  · rw [if_neg (by omega)] at hP
    exact hP
  · rw [if_pos (by omega)] at hP
    rw [(h.2 q (by omega)).1]
    exact hP
/-- a word is passed: yes or no, and the place -/
def ovr (h : Nat → Nat) : List Nat → Nat → Bool × Nat
  | [], q => (true, q)
  | c :: cs, q => if h q = c then ovr h cs (q + 1) else (false, q)
theorem ovr_le (h : Nat → Nat) : ∀ (cs : List Nat) (q : Nat), (ovr h cs q).2 ≤ q + cs.length := by
  intro cs
  induction cs with
  | nil => intro q; exact Nat.le_refl _
  | cons c cs ih =>
    intro q
    unfold ovr
    split
    · have := ih (q + 1)
      simp only [List.length_cons]
      omega
    · simp only [List.length_cons]
      omega
theorem ovr_app (h : Nat → Nat) : ∀ (cs ds : List Nat) (q : Nat), ovr h (cs ++ ds) q = if (ovr h cs q).1 then ovr h ds (ovr h cs q).2 else (false, (ovr h cs q).2) := by
  intro cs
  induction cs with
  | nil => intro ds q; rfl
  | cons c cs ih =>
    intro ds q
    rw [List.cons_append]
    by_cases z : h q = c
    · have e1 : ∀ l, ovr h (c :: l) q = ovr h l (q + 1) := fun l => by rw [ovr, if_pos z]
      rw [e1, e1, ih]
    · have e1 : ∀ l, ovr h (c :: l) q = (false, q) := fun l => by rw [ovr, if_neg z]
      rw [e1, e1]
      rfl
theorem ovr_n : ∀ (cs : List Nat) (q : Nat), (∀ c, c ∈ cs → 1 ≤ c) → q ≤ n → (ovr (hh n tx) cs q).2 ≤ n := by
  intro cs
  induction cs with
  | nil => intro q _ hq; exact hq
  | cons c cs ih =>
    intro q hc hq
    unfold ovr
    split
    · rename_i z
      have := hc c (by simp)
      have := hh_in (n := n) (tx := tx) (q := q) (by omega)
      exact ih (q + 1) (fun c' hc' => hc c' (by simp [hc'])) (by omega)
    · exact hq
/-- the words -/
def wB : Nat → List Nat
  | 0 => [116, 97, 110, 107, 32]
  | 1 => [118, 97, 108, 118, 101, 32]
  | 2 => [112, 117, 109, 112]
  | 3 => [112, 105, 112, 101, 32]
  | 4 => [32]
  | 5 => [10]
  | 6 => [45]
  | _ => []
theorem gD {l : List Nat} {k : Nat} (h : k < l.length) : l.getD k 0 = l[k] := by simp [List.getD_eq_getElem?_getD, h]
theorem q_sh0 : ∀ l, l < 14 → nI l >>> ((0 : Int32) &&& 31) = nI l := by decide +kernel
theorem wB_len : ∀ i, i < 7 → lenS.getD i 0 = (wB i).length := by decide
theorem wB_le : ∀ i, i < 7 → (wB i).length < 7 := by decide
theorem wB_ok : ∀ i, i < 7 → ∀ c ∈ wB i, 1 ≤ c ∧ c < 128 := by decide
theorem wB_at : ∀ i, i < 7 → ∀ k, k < (wB i).length → ((((((bytS.getD i []).getD (nI k).toNatClampNeg 0) &&& 255) : Int32).toUInt32 % 65536).toInt32) = nI ((wB i).getD k 0) := by decide +kernel
theorem q_char {x : Int32} {c : Nat} (hc : c < 128) (e : x = nI c) : narrow .char (.int x) = .int x := by
  rw [e]
  have : ∀ c, c < 128 → narrow .char (.int (nI c)) = .int (nI c) := by decide +kernel
  exact this c hc
theorem s_len {i : Nat} (hi : i < 7) {P : Int32 → Prop} (h : P (nI (wB i).length)) : wp_Js_length i P := by
  have h8 : i < nS := by unfold nS; omega
  unfold wp_Js_length wp_Js_coder
  refine ⟨h8, h8, h8, fun q => absurd q q_10, fun _ => ⟨h8, ?_⟩⟩
  have := wB_le i hi
  rw [wB_len i hi]
  show P (nI (wB i).length >>> ((0 : Int32) &&& 31))
  rw [q_sh0 _ (by omega)]
  exact h
theorem s_charAt {i k : Nat} (hi : i < 7) (hk : k < (wB i).length) {P : Int32 → Prop} (h : P (nI ((wB i).getD k 0))) : wp_Js_charAt i (nI k) P := by
  have h8 : i < nS := by unfold nS; omega
  have hl := wB_le i hi
  have e := wB_at i hi k hk
  have hc : (wB i).getD k 0 < 128 := by
    refine (wB_ok i hi _ ?_).2
    rw [gD hk]
    exact List.getElem_mem hk
  unfold wp_Js_charAt wp_Js_isLatin1
  refine ⟨h8, fun q => absurd q q_10, fun _ => ⟨h8, fun q => absurd rfl q, fun _ => b_1 ⟨h8, ?_⟩⟩⟩
  unfold wp_Jl_charAt wp_Js_checkIndex wp_Jp_checkIndex
  rw [wB_len i hi, nI_ltI (by omega) (by omega), e]
  exact ⟨h8, fun z => absurd z (nI_pos (by omega)), fun _ => ⟨fun _ => ⟨h8, vp_in_nI hk (by omega), q_char hc rfl, q_char hc rfl, h⟩, fun z => absurd hk z⟩⟩
def bB (b : Bool) : Int32 := if b then 1 else 0
theorem s_passWord (h : tG n tx bytes) {i q : Nat} (hi : i < 7) (hq : q ≤ 4000) {P : Int32 → Int32 → Prop} (hP : P (bB (ovr (hh n tx) (wB i) q).1) (nI (ovr (hh n tx) (wB i) q).2)) : wp_Te_passWord (nI n) (nI q) bytes i P := by
  unfold wp_Te_passWord
  have hl := wB_le i hi
  have h8 : i < nS := by unfold nS; omega
  have key : ∀ (d k q : Nat), k ≤ (wB i).length → q ≤ 5000 + k → (wB i).length - k < d → P (bB (ovr (hh n tx) ((wB i).drop k) q).1) (nI (ovr (hh n tx) ((wB i).drop k) q).2) → wl_Te_passWord_2 i (nI n) bytes (wk_Te_passWord_26_2 P) (wk_Te_passWord_44_2 P) d (nI k) (nI q) := by
    intro d
    induction d with
    | zero => intro k q a1 a2 a3; omega
    | succ d ih =>
      intro k q a1 a2 a3 a4
      unfold wl_Te_passWord_2
      refine ⟨h8, s_len hi ?_⟩
      rw [nI_leI (by omega) (by omega)]
      refine ⟨fun z => ?_, fun z => s_byteAt h (by omega) ⟨h8, s_charAt hi (by omega) ?_⟩⟩
      · rw [List.drop_of_length_le (by omega)] at a4
        exact a4
      · have hk : k < (wB i).length := by omega
        have ed : (wB i).drop k = (wB i).getD k 0 :: (wB i).drop (k + 1) := by
          rw [gD hk]
          exact List.drop_eq_getElem_cons hk
        have hc := wB_ok i hi ((wB i).getD k 0) (by rw [gD hk]; exact List.getElem_mem hk)
        rw [ed] at a4
        unfold ovr at a4
        rw [bI_eq (hh_lt h q) hc.1 hc.2, nI_1, nI_1]
        refine ⟨fun y => ih (k + 1) (q + 1) (by omega) (by omega) (by omega) ?_, fun y => ?_⟩
        · rw [if_pos y] at a4
          exact a4
        · rw [if_neg y] at a4
          exact a4
  exact ⟨8, key 8 0 q (by omega) (by omega) (by omega) hP⟩
/-- letters in a long word, the first lowest -/
def lw : List Nat → Nat
  | [] => 0
  | c :: cs => c + 256 * lw cs
theorem lw_lt : ∀ cs : List Nat, cs.length ≤ 7 → (∀ c, c ∈ cs → c < 128) → lw cs < 2 ^ (8 * cs.length) := by
  intro cs
  induction cs with
  | nil => intro _ _; decide
  | cons c cs ih =>
    intro h1 h2
    have a := ih (by simp only [List.length_cons] at h1; omega) (fun c' h => h2 c' (by simp [h]))
    have b := h2 c (by simp)
    show c + 256 * lw cs < 2 ^ (8 * (cs.length + 1))
    rw [show 8 * (cs.length + 1) = 8 * cs.length + 8 by omega, Nat.pow_add]
    omega
theorem lw_64 {cs : List Nat} (h1 : cs.length ≤ 7) (h2 : ∀ c, c ∈ cs → c < 128) : lw cs < 2 ^ 56 :=
  Nat.lt_of_lt_of_le (lw_lt cs h1 h2) (Nat.pow_le_pow_right (by decide) (by omega))
theorem lw_0 {m : Nat} (h : m < 2 ^ 56) : lN m = 0 ↔ m = 0 := by
  refine ⟨fun z => ?_, fun z => by rw [z]; rfl⟩
  have e : (lN m).toBitVec.toNat = m := wb_tn (by omega)
  rw [z] at e
  exact e.symm
theorem lw_hd {c : Nat} {cs : List Nat} (h1 : (c :: cs).length ≤ 7) (h2 : ∀ c', c' ∈ c :: cs → c' < 128) : ((lN (lw (c :: cs)) &&& 255) : Int64).toInt32 = nI c := by
  have hl := lw_64 h1 h2
  have hc := h2 c (by simp)
  rw [show (255 : Int64) = lN (2 ^ 8 - 1) from rfl, wb_mask (by omega) (by decide), lN_i]
  congr 1
  show (c + 256 * lw cs) % 2 ^ 8 = c
  omega
theorem lw_tl {c : Nat} {cs : List Nat} (h1 : (c :: cs).length ≤ 7) (h2 : ∀ c', c' ∈ c :: cs → c' < 128) : ((lN (lw (c :: cs))).toUInt64 >>> ((8 : Int32).toInt64.toUInt64 &&& Int64.toUInt64 63)).toInt64 = lN (lw cs) := by
  have hl := lw_64 h1 h2
  have hc := h2 c (by simp)
  have := wb_shr (n := lw (c :: cs)) (k := 8) (by omega) (by decide)
  rw [show (8 : Int32) = nI 8 from rfl, this]
  congr 1
  show (c + 256 * lw cs) / 2 ^ 8 = lw cs
  omega
theorem m_over (h : tG n tx bytes) {cs : List Nat} {q : Nat} (h1 : cs.length ≤ 7) (h2 : ∀ c, c ∈ cs → 1 ≤ c ∧ c < 128) (hq : q ≤ 4000) {x : Int64} (hx : x = lN (lw cs)) {P : Int32 → Int32 → Prop} (hP : P (bB (ovr (hh n tx) cs q).1) (nI (ovr (hh n tx) cs q).2)) : wp_Mo_over (nI n) (nI q) bytes x P := by
  unfold wp_Mo_over
  have key : ∀ (d : Nat) (cs : List Nat) (q : Nat), cs.length ≤ 7 → (∀ c, c ∈ cs → 1 ≤ c ∧ c < 128) → q + cs.length ≤ 5000 → cs.length < d → P (bB (ovr (hh n tx) cs q).1) (nI (ovr (hh n tx) cs q).2) → wl_Mo_over_2 (nI n) bytes (wk_Mo_over_21_2 P) (wk_Mo_over_41_2 P) d (lN (lw cs)) (nI q) := by
    intro d
    induction d with
    | zero => intro cs q _ _ _ a; omega
    | succ d ih =>
      intro cs q a1 a2 a3 a4 a5
      have hl := lw_64 a1 (fun c hc => (a2 c hc).2)
      unfold wl_Mo_over_2
      rw [q_eq, lw_0 hl]
      cases cs with
      | nil => exact ⟨fun _ => a5, fun z => absurd rfl z⟩
      | cons c cs =>
        have hc := a2 c (by simp)
        refine ⟨fun z => ?_, fun _ => m_here h (by omega) ?_⟩
        · have z : c + 256 * lw cs = 0 := z
          omega
        · have hh' := hh_lt h q
          unfold ovr at a5
          rw [lw_hd a1 (fun c hc => (a2 c hc).2), lw_tl a1 (fun c hc => (a2 c hc).2), nI_eq (by omega) (by omega), nI_1]
          simp only [List.length_cons] at a1 a3 a4
          refine ⟨fun z => ih cs (q + 1) (by omega) (fun c' h' => a2 c' (by simp [h'])) (by omega) (by omega) ?_, fun z => ?_⟩
          · rw [if_pos z] at a5
            exact a5
          · rw [if_neg z] at a5
            exact a5
  rw [hx]
  exact ⟨8, key 8 cs q h1 h2 (by omega) (by omega) hP⟩
/-- digits are passed: how many, the number, the place -/
def nm (h : Nat → Nat) : Nat → Nat → Nat → Nat → Nat × Nat × Nat
  | 0, k, v, q => (k, v, q)
  | d + 1, k, v, q => if 48 ≤ h q ∧ h q ≤ 57 ∧ (k = 0 ∨ 0 < v) then nm h d (k + 1) (v * 10 + h q - 48) (q + 1) else (k, v, q)
theorem nm_go {h : Nat → Nat} {d k v q : Nat} (z : 48 ≤ h q ∧ h q ≤ 57 ∧ (k = 0 ∨ 0 < v)) : nm h (d + 1) k v q = nm h d (k + 1) (v * 10 + h q - 48) (q + 1) := by rw [nm, if_pos z]
theorem nm_ok : ∀ (d k v q : Nat), q ≤ n → v < 10 ^ k → (nm (hh n tx) d k v q).2.2 ≤ n ∧ (nm (hh n tx) d k v q).1 ≤ k + d ∧ (nm (hh n tx) d k v q).2.1 < 10 ^ (k + d) ∧ q ≤ (nm (hh n tx) d k v q).2.2 := by
  intro d
  induction d with
  | zero => intro k v q h1 h2; exact ⟨h1, Nat.le_refl _, h2, Nat.le_refl _⟩
  | succ d ih =>
    intro k v q h1 h2
    unfold nm
    split
    · rename_i z
      have := hh_in (n := n) (tx := tx) (q := q) (by omega)
      have e := ih (k + 1) (v * 10 + hh n tx q - 48) (q + 1) (by omega) (by rw [Nat.pow_succ]; omega)
      rw [show k + 1 + d = k + (d + 1) by omega] at e
      exact ⟨e.1, e.2.1, e.2.2.1, by omega⟩
    · exact ⟨h1, by omega, Nat.lt_of_lt_of_le h2 (Nat.pow_le_pow_right (by decide) (by omega)), Nat.le_refl _⟩
theorem p7 {k : Nat} (h : k ≤ 7) : 10 ^ k ≤ 10000000 := Nat.le_trans (Nat.pow_le_pow_right (by decide) h) (by decide)
theorem s_passNumber (h : tG n tx bytes) {q : Nat} (hq : q ≤ n) {num : Int32} {P : Int32 → Int32 → Int32 → Prop} (hP : P (if (nm (hh n tx) 7 0 0 q).1 = 0 then 0 else 1) (nI (nm (hh n tx) 7 0 0 q).2.2) (nI (nm (hh n tx) 7 0 0 q).2.1)) : wp_Te_passNumber (nI n) (nI q) num bytes P := by
  have hn := h.1
  unfold wp_Te_passNumber
  have key : ∀ (d k v q : Nat), k + d = 8 → q ≤ n → v < 10 ^ k → P (if (nm (hh n tx) (7 - k) k v q).1 = 0 then 0 else 1) (nI (nm (hh n tx) (7 - k) k v q).2.2) (nI (nm (hh n tx) (7 - k) k v q).2.1) → wl_Te_passNumber_7 (nI n) bytes (wk_Te_passNumber_84_7 P) d (nI k) (nI q) (nI v) ∨ d = 0 := by
    intro d
    induction d with
    | zero => intro k v q a1 a2 a3 a4; exact Or.inr rfl
    | succ d ih =>
      intro k v q a1 a2 a3 a4
      refine Or.inl ?_
      unfold wl_Te_passNumber_7
      have p := p7 (k := k) (by omega)
      have stop : (7 - k = 0 ∨ ¬ (48 ≤ hh n tx q ∧ hh n tx q ≤ 57 ∧ (k = 0 ∨ 0 < v))) → wk_Te_passNumber_84_7 P (nI k) (nI q) (nI v) := by
        intro z
        have e : nm (hh n tx) (7 - k) k v q = (k, v, q) := by
          rcases z with z | z
          · rw [z]; rfl
          · cases hk : 7 - k with
            | zero => rfl
            | succ m => unfold nm; rw [if_neg z]
        rw [e] at a4
        unfold wk_Te_passNumber_84_7
        rw [show (0 : Int32) = nI 0 from rfl, nI_leI (by omega) (by decide)]
        refine ⟨fun y => ?_, fun y => ?_⟩
        · rw [if_pos (show k = 0 by omega)] at a4
          exact a4
        · rw [if_neg (show ¬ k = 0 by omega)] at a4
          exact a4
      rw [show (7 : Int32) = nI 7 from rfl, nI_leI (by decide) (by omega)]
      refine ⟨fun z => stop (Or.inl (by omega)), fun z => s_byteAt h (by omega) ?_⟩
      have hlt := hh_lt h q
      by_cases dg : 48 ≤ hh n tx q ∧ hh n tx q ≤ 57
      · have eb : bI (hh n tx q) = nI (hh n tx q) := by unfold bI; rw [if_neg (by omega)]
        refine s_betweenI (a := 48) (b := 57) (by decide) (by decide) (fun j _ _ _ => b_1 ?_) (fun hz => absurd eb (hz _ dg.1 dg.2))
        have hin := hh_in (n := n) (tx := tx) (q := q) (by omega)
        have go : (k = 0 ∨ 0 < v) → wp_Te_byteAt (nI n) bytes (nI q) (fun r58 => wl_Te_passNumber_7 (nI n) bytes (wk_Te_passNumber_84_7 P) d (nI k + 1) (nI q + 1) (((nI v * 10) + r58) - 48)) := by
          intro c
          refine s_byteAt h (by omega) ?_
          rw [eb, nI_1, nI_1, show (10 : Int32) = nI 10 from rfl, pk_mul, nI_add, show (48 : Int32) = nI 48 from rfl, q_sub (by omega)]
          rw [show 7 - k = (7 - (k + 1)) + 1 by omega] at a4
          rw [nm_go ⟨dg.1, dg.2, c⟩] at a4
          rcases ih (k + 1) (v * 10 + hh n tx q - 48) (q + 1) (by omega) (by omega) (by rw [Nat.pow_succ]; omega) a4 with y | y
          · exact y
          · omega
        rw [show (0 : Int32) = nI 0 from rfl, nI_eq (by omega) (by decide), nI_leI (by omega) (by decide)]
        exact ⟨fun y => go (Or.inl y), fun y => ⟨fun x => stop (Or.inr (by omega)), fun x => go (Or.inr (by omega))⟩⟩
      · refine s_betweenI (a := 48) (b := 57) (by decide) (by decide) (fun j j1 j2 e => ?_) (fun hz => b_0 (stop (Or.inr (by omega))))
        have := (bI_eq hlt (by omega) (by omega)).mp e
        omega
  refine ⟨8, ?_⟩
  rcases key 8 0 0 q rfl hq (by decide) hP with y | y
  · exact y
  · omega
theorem m_num (h : tG n tx bytes) {q : Nat} (hq : q ≤ n) {num : Int64} {P : Int32 → Int32 → Int64 → Prop} (hP : P (if (nm (hh n tx) 7 0 0 q).1 = 0 then 0 else 1) (nI (nm (hh n tx) 7 0 0 q).2.2) (lN (nm (hh n tx) 7 0 0 q).2.1)) : wj_Mo_value_44 (nI n) bytes P (nI q) num := by
  have hn := h.1
  unfold wj_Mo_value_44
  have key : ∀ (d k v : Nat), k + d = 8 → q + k ≤ n → v < 10 ^ k → (2 ≤ k → 0 < v) → P (if (nm (hh n tx) (7 - k) k v (q + k)).1 = 0 then 0 else 1) (nI (nm (hh n tx) (7 - k) k v (q + k)).2.2) (lN (nm (hh n tx) (7 - k) k v (q + k)).2.1) → wl_Mo_value_54 (nI n) bytes (nI q) (wk_Mo_value_137_54 (nI q) P) d (nI (q + k)) (lN v) ∨ d = 0 := by
    intro d
    induction d with
    | zero => intro k v a1 a2 a3 a4 a5; exact Or.inr rfl
    | succ d ih =>
      intro k v a1 a2 a3 a4 a5
      refine Or.inl ?_
      unfold wl_Mo_value_54
      have p := p7 (k := k) (by omega)
      have hlt := hh_lt h (q + k)
      have stop : (7 - k = 0 ∨ ¬ (48 ≤ hh n tx (q + k) ∧ hh n tx (q + k) ≤ 57 ∧ (k = 0 ∨ 0 < v))) → wk_Mo_value_137_54 (nI q) P (nI (q + k)) (lN v) := by
        intro z
        have e : nm (hh n tx) (7 - k) k v (q + k) = (k, v, q + k) := by
          rcases z with z | z
          · rw [z]; rfl
          · cases hk : 7 - k with
            | zero => rfl
            | succ m => unfold nm; rw [if_neg z]
        rw [e] at a5
        unfold wk_Mo_value_137_54
        rw [nI_leI (by omega) (by omega)]
        refine ⟨fun y => ?_, fun y => ?_⟩
        · rw [if_pos (show k = 0 by omega)] at a5
          exact a5
        · rw [if_neg (show ¬ k = 0 by omega)] at a5
          exact a5
      refine m_here h (by omega) ?_
      rw [show (48 : Int32) = nI 48 from rfl, nI_ltI (by omega) (by decide)]
      refine ⟨fun z => stop (Or.inr (by omega)), fun z => m_here h (by omega) ?_⟩
      rw [show (57 : Int32) = nI 57 from rfl, nI_ltI (by decide) (by omega), show (7 : Int32) = nI 7 from rfl, show (1 : Int32) = nI 1 from rfl, nI_add, nI_add, nI_leI (by omega) (by omega), nI_eq (by omega) (by omega), q_eq, show (0 : Int64) = lN 0 from rfl, lN_eq (by omega) (by decide)]
      refine ⟨fun y => stop (Or.inr (by omega)), fun y => ⟨fun x => stop (Or.inl (by omega)), fun x => ?_⟩⟩
      have hin := hh_in (n := n) (tx := tx) (q := q + k) (by omega)
      have go : (k = 0 ∨ 0 < v) → wj_Mo_value_102 (nI n) bytes (wl_Mo_value_54 (nI n) bytes (nI q) (wk_Mo_value_137_54 (nI q) P) d) (nI (q + k)) (lN v) := by
        intro c
        unfold wj_Mo_value_102
        refine m_here h (by omega) ?_
        have e1 : (10 : Int64) * lN v + (nI (hh n tx (q + k))).toInt64 - 48 = lN (v * 10 + hh n tx (q + k) - 48) := by
          rw [nI_l (by omega), show (10 : Int64) = lN 10 from rfl]
          apply Int64.toInt_inj.mp
          have e2 : lN 10 * lN v + lN (hh n tx (q + k)) - 48 = lN (10 * v + hh n tx (q + k)) - lN 48 := by
            rw [← lN_add, ← lN_mul]
            rfl
          rw [e2]
          have e3 : lN (10 * v + hh n tx (q + k)) = lN (v * 10 + hh n tx (q + k) - 48) + lN 48 := by
            rw [lN_add]
            congr 1
            omega
          rw [e3, Int64.add_sub_cancel]
        rw [e1, nI_1, Nat.add_assoc]
        rw [show 7 - k = (7 - (k + 1)) + 1 by omega] at a5
        rw [nm_go ⟨by omega, by omega, c⟩] at a5
        rcases ih (k + 1) (v * 10 + hh n tx (q + k) - 48) (by omega) (by omega) (by rw [Nat.pow_succ]; omega) (by omega) a5 with y | y
        · exact y
        · omega
      exact ⟨fun w => go (by omega), fun w => ⟨fun u => stop (Or.inr (by omega)), fun u => go (by omega)⟩⟩
  refine ⟨8, ?_⟩
  rcases key 8 0 0 rfl hq (by decide) (by decide) hP with y | y
  · exact y
  · omega
end Text
