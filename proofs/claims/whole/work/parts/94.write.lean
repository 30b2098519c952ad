/-! LEVEL 2: write: a plant's text -/
theorem q_div {a b : Nat} (ha : a < 2 ^ 31) (h0 : 0 < b) (hb : b < 2 ^ 31) : nI a / nI b = nI (a / b) := by
  apply Int32.toInt_inj.mp
  have := Nat.div_le_self a b
  rw [lg_idiv_nonneg (by rw [nI_toInt ha]; omega) (by rw [nI_toInt hb]; omega), nI_toInt ha, nI_toInt hb, nI_toInt (by omega)]
  rfl
theorem q_mod {a b : Nat} (ha : a < 2 ^ 31) (h0 : 0 < b) (hb : b < 2 ^ 31) : nI a - nI a / nI b * nI b = nI (a % b) := by
  rw [q_div ha h0 hb, pk_mul, q_sub (Nat.div_mul_le_self a b)]
  congr 1
  have := Nat.div_add_mod a b
  rw [Nat.mul_comm] at this
  omega
/-- digits of v, from that of 10 ^ k on -/
def dl (v : Nat) : Nat → List Nat
  | 0 => [48 + v % 10]
  | k + 1 => (48 + v / 10 ^ (k + 1) % 10) :: dl v k
def dk (v : Nat) : Nat := if v < 10 then 0 else if v < 100 then 1 else if v < 1000 then 2 else if v < 10000 then 3 else if v < 100000 then 4 else 5
/-- a number's text -/
def dg (v : Nat) : List Nat := dl v (dk v)
theorem dk_is {v k : Nat} (hk : k ≤ 5) (h1 : v < 10 ^ (k + 1)) (h2 : k = 0 ∨ 10 ^ k ≤ v) : dk v = k := by
  unfold dk
  have : k = 0 ∨ k = 1 ∨ k = 2 ∨ k = 3 ∨ k = 4 ∨ k = 5 := by omega
  rcases this with e | e | e | e | e | e <;> subst e <;> simp only [Nat.reduceAdd, Nat.reducePow] at h1 h2 <;> (repeat' split) <;> omega
theorem dl_len (v : Nat) : ∀ k, (dl v k).length = k + 1 := by
  intro k
  induction k with
  | zero => rfl
  | succ k ih => show (dl v k).length + 1 = _; rw [ih]
theorem dl_ok (v : Nat) : ∀ k c, c ∈ dl v k → 1 ≤ c ∧ c < 128 := by
  intro k
  induction k with
  | zero =>
    intro c hc
    have e : c = 48 + v % 10 := by simpa [dl] using hc
    omega
  | succ k ih =>
    intro c hc
    have e : c = 48 + v / 10 ^ (k + 1) % 10 ∨ c ∈ dl v k := by simpa [dl] using hc
    rcases e with e | e
    · omega
    · exact ih c e
theorem dg_le {v : Nat} : (dg v).length ≤ 6 := by
  unfold dg
  rw [dl_len]
  unfold dk
  (repeat' split) <;> omega
theorem dg_le2 {v : Nat} (h : v < 100) : (dg v).length ≤ 2 := by
  unfold dg
  rw [dl_len]
  unfold dk
  (repeat' split) <;> omega
theorem dg_le3 {v : Nat} (h : v < 1000) : (dg v).length ≤ 3 := by
  unfold dg
  rw [dl_len]
  unfold dk
  (repeat' split) <;> omega
theorem dg_ok (v c : Nat) (h : c ∈ dg v) : 1 ≤ c ∧ c < 128 := dl_ok v _ c h
/-- an end's text -/
def dE (o : Option Nat) : List Nat := match o with
  | none => [45]
  | some t => dg t
/-- the lines -/
def lnT (S : AbS) (t : Nat) : List Nat := (if S.K t = 10 then [116, 97, 110, 107, 32] ++ dg (S.cap t) else if S.K t = 9 then [112, 117, 109, 112] else [118, 97, 108, 118, 101, 32] ++ dg (S.K t)) ++ [10]
def lnP (S : AbS) (q : Nat) : List Nat := [112, 105, 112, 101, 32] ++ dE (S.th (2 * q)) ++ [32] ++ dE (S.th (2 * q + 1)) ++ [32] ++ dg (S.sz q) ++ [10]
/-- d lines from the t-th on -/
def cat (f : Nat → List Nat) : Nat → Nat → List Nat
  | 0, _ => []
  | d + 1, t => f t ++ cat f d (t + 1)
/-- the answer of write -/
def wA (l : List Nat) (i : Nat) : Int32 := match l[i]? with
  | some c => nI c
  | none => -1
theorem wA_lt {l1 l2 : List Nat} {i : Nat} (h : i < l1.length) : wA (l1 ++ l2) i = wA l1 i := by
  unfold wA
  rw [List.getElem?_append_left h]
theorem wA_ge {l1 l2 : List Nat} {i : Nat} (h : l1.length ≤ i) : wA (l1 ++ l2) i = wA l2 (i - l1.length) := by
  unfold wA
  rw [List.getElem?_append_right h]
theorem wA_out {l : List Nat} {i : Nat} (h : l.length ≤ i) : wA l i = -1 := by
  unfold wA
  rw [List.getElem?_eq_none h]
def wT (S : AbS) : List Nat := cat (lnT S) S.T 0 ++ cat (lnP S) S.p 0
/-- a line of the class -/
def LnR (len : Int32) (bytes : Nat → Int32) (l : List Nat) : Prop := len = nI l.length ∧ l.length ≤ 15 ∧ ∀ k, k < l.length → bytes k = nI (l.getD k 0)
theorem s_addByte {len : Int32} {bytes : Nat → Int32} {l : List Nat} (h : LnR len bytes l) (hl : l.length < 15) {c : Nat} (hc : c < 128) {P : Int32 → (Nat → Int32) → Prop} (hP : ∀ len bytes, LnR len bytes (l ++ [c]) → P len bytes) : wp_Ln_addByte len bytes (nI c) P := by
  obtain ⟨h1, h2, h3⟩ := h
  unfold wp_Ln_addByte
  rw [h1, show (15 : Int32) = nI 15 from rfl, nI_leI (by decide) (by omega), q_byte c hc, nI_1, nI_clamp (by omega)]
  refine ⟨fun z => by omega, fun _ => ⟨vp_in_nI hl (by decide), hP _ _ ⟨by simp, by simp; omega, fun k hk => ?_⟩⟩⟩
  simp only [List.length_append, List.length_cons, List.length_nil] at hk
  by_cases q : k = l.length
  · rw [q, pk_us]
    congr 1
    simp [List.getD_eq_getElem?_getD]
  · rw [pk_un q, h3 k (by omega)]
    congr 1
    simp [List.getD_eq_getElem?_getD, List.getElem?_append_left (show k < l.length by omega)]
theorem s_addWord {len : Int32} {bytes : Nat → Int32} {l : List Nat} (h : LnR len bytes l) {i : Nat} (hi : i < 7) (hl : l.length + (wB i).length ≤ 15) {P : Int32 → (Nat → Int32) → Prop} (hP : ∀ len bytes, LnR len bytes (l ++ wB i) → P len bytes) : wp_Ln_addWord len bytes i P := by
  unfold wp_Ln_addWord
  have hw := wB_le i hi
  have h8 : i < nS := by unfold nS; omega
  have key : ∀ (d k : Nat) (len : Int32) (bytes : Nat → Int32), k ≤ (wB i).length → (wB i).length - k < d → LnR len bytes (l ++ (wB i).take k) → wl_Ln_addWord_2 i (wk_Ln_addWord_25_2 P) d (nI k) len bytes := by
    intro d
    induction d with
    | zero => intro k len bytes a1 a2; omega
    | succ d ih =>
      intro k len bytes a1 a2 a3
      unfold wl_Ln_addWord_2
      refine ⟨h8, s_len hi ?_⟩
      rw [nI_leI (by omega) (by omega)]
      refine ⟨fun z => ?_, fun z => ⟨h8, s_charAt hi (by omega) ?_⟩⟩
      · rw [List.take_of_length_le z] at a3
        exact hP _ _ a3
      · have hk : k < (wB i).length := by omega
        have hc := wB_ok i hi ((wB i).getD k 0) (by rw [gD hk]; exact List.getElem_mem hk)
        refine s_addByte a3 (by rw [List.length_append, List.length_take]; omega) hc.2 (fun len' bytes' hr => ?_)
        rw [nI_1]
        refine ih (k + 1) len' bytes' (by omega) (by omega) ?_
        rw [List.append_assoc, gD hk, List.take_append_getElem hk] at hr
        exact hr
  exact ⟨8, key 8 0 len bytes (by omega) (by omega) (by rw [List.take_zero, List.append_nil]; exact h)⟩
theorem p10_lt {k : Nat} (h : k ≤ 5) : 10 ^ k ≤ 100000 := Nat.le_trans (Nat.pow_le_pow_right (by decide) h) (by decide)
theorem p10_div (k : Nat) : 10 ^ (k + 1) / 10 = 10 ^ k := by rw [Nat.pow_succ, Nat.mul_div_cancel _ (by decide)]
theorem s_addNumber {len : Int32} {bytes : Nat → Int32} {l : List Nat} (h : LnR len bytes l) {v : Nat} (hv : v ≤ 100000) (hl : l.length + (dg v).length ≤ 15) {P : Int32 → (Nat → Int32) → Prop} (hP : ∀ len bytes, LnR len bytes (l ++ dg v) → P len bytes) : wp_Ln_addNumber len bytes (nI v) P := by
  unfold wp_Ln_addNumber
  have e0 : (0 : Int32) = nI 0 := rfl
  have e1 : (1 : Int32) = nI 1 := rfl
  -- what stands at unit 10 ^ k
  have val : ∀ k, k ≤ 5 → 0 < 10 ^ k ∧ 10 ^ k < 2 ^ 31 ∧ (nI v / nI (10 ^ k) - nI v / nI (10 ^ k) / 10 * 10 = nI (v / 10 ^ k % 10)) ∧ nI (10 ^ k) / 10 = nI (10 ^ k / 10) := by
    intro k hk
    have p := p10_lt hk
    have p0 : 0 < 10 ^ k := Nat.pow_pos (by decide)
    refine ⟨p0, by omega, ?_, ?_⟩
    · have hd := Nat.div_le_self v (10 ^ k)
      rw [q_div (by omega) p0 (by omega), show (10 : Int32) = nI 10 from rfl, q_mod (by omega) (by decide) (by decide)]
    · rw [show (10 : Int32) = nI 10 from rfl, q_div (by omega) (by decide) (by decide)]
  have add : ∀ k, k ≤ 5 → (48 : Int32) + nI (v / 10 ^ k % 10) = nI (48 + v / 10 ^ k % 10) := fun k _ => by rw [show (48 : Int32) = nI 48 from rfl, nI_add]
  have done : ∀ (d : Nat) (x : Int32) (len : Int32) (bytes : Nat → Int32), LnR len bytes (l ++ dg v) → wl_Ln_addNumber_5 (nI v) (wk_Ln_addNumber_59_5 P) (d + 1) x (nI 0) len bytes := by
    intro d x len bytes hr
    unfold wl_Ln_addNumber_5
    exact ⟨fun _ => hP _ _ hr, fun z => absurd (by decide) z⟩
  have nxt : ∀ k, k ≤ 5 → (k = 0 ∧ 10 ^ k / 10 = 0) ∨ (∃ j, k = j + 1 ∧ 10 ^ k / 10 = 10 ^ j) := by
    intro k hk
    cases k with
    | zero => exact Or.inl ⟨rfl, rfl⟩
    | succ j => exact Or.inr ⟨j, rfl, p10_div j⟩
  have begun : ∀ (k d : Nat) (len : Int32) (bytes : Nat → Int32) (l' : List Nat), k ≤ 5 → k + 1 < d → l' ++ dl v k = l ++ dg v → LnR len bytes l' → wl_Ln_addNumber_5 (nI v) (wk_Ln_addNumber_59_5 P) d 1 (nI (10 ^ k)) len bytes := by
    intro k
    induction k with
    | zero =>
      intro d len bytes l' a1 a2 a3 a4
      obtain ⟨d, rfl⟩ : ∃ e, d = e + 2 := ⟨d - 2, by omega⟩
      obtain ⟨v1, v2, v3, v4⟩ := val 0 (by decide)
      have hlen := congrArg List.length a3
      rw [List.length_append, List.length_append, dl_len] at hlen
      unfold wl_Ln_addNumber_5
      rw [v3, v4, add 0 (by decide)]
      refine ⟨fun z => absurd z (by decide), fun _ => ⟨by decide, fun _ => b_1 ?_, fun z => absurd z (by decide)⟩⟩
      refine s_addByte a4 (by omega) (by omega) (fun len' bytes' hr => done d _ _ _ ?_)
      rw [← a3]
      have e : 48 + v / 10 ^ 0 % 10 = 48 + v % 10 := by simp
      rw [e] at hr
      exact hr
    | succ k ih =>
      intro d len bytes l' a1 a2 a3 a4
      obtain ⟨d, rfl⟩ : ∃ e, d = e + 1 := ⟨d - 1, by omega⟩
      obtain ⟨v1, v2, v3, v4⟩ := val (k + 1) a1
      have hlen := congrArg List.length a3
      rw [List.length_append, List.length_append, dl_len] at hlen
      unfold wl_Ln_addNumber_5
      rw [v3, v4, add (k + 1) a1, p10_div]
      refine ⟨fun z => ?_, fun _ => ⟨nI_ne0 v1 v2, fun _ => b_1 ?_, fun z => absurd z (by decide)⟩⟩
      · rw [e1, nI_ltI v2 (by decide)] at z
        omega
      · refine s_addByte a4 (by omega) (by omega) (fun len' bytes' hr => ih d len' bytes' _ (by omega) (by omega) ?_ hr)
        rw [List.append_assoc]
        exact a3
  have fresh : ∀ (k d : Nat), k ≤ 5 → k + 1 < d → v < 10 ^ (k + 1) → wl_Ln_addNumber_5 (nI v) (wk_Ln_addNumber_59_5 P) d 0 (nI (10 ^ k)) len bytes := by
    intro k
    induction k with
    | zero =>
      intro d a1 a2 a3
      obtain ⟨d, rfl⟩ : ∃ e, d = e + 2 := ⟨d - 2, by omega⟩
      obtain ⟨v1, v2, v3, v4⟩ := val 0 (by decide)
      have ed : dg v = [48 + v % 10] := by unfold dg; rw [dk_is (by decide) a3 (Or.inl rfl)]; rfl
      have hlen : (dg v).length = 1 := by rw [ed]; rfl
      have last : wp_Ln_addByte len bytes (nI (48 + v / 10 ^ 0 % 10)) (fun len' bytes' => wl_Ln_addNumber_5 (nI v) (wk_Ln_addNumber_59_5 P) (d + 1) 1 (nI (10 ^ 0 / 10)) len' bytes') := by
        refine s_addByte h (by omega) (by omega) (fun len' bytes' hr => done d _ _ _ ?_)
        rw [ed]
        have e : 48 + v / 10 ^ 0 % 10 = 48 + v % 10 := by simp
        rw [e] at hr
        exact hr
      unfold wl_Ln_addNumber_5
      rw [v3, v4, add 0 (by decide)]
      refine ⟨fun z => absurd z (by decide), fun _ => ⟨by decide, fun z => absurd rfl z, fun _ => ⟨fun _ => b_1 last, fun _ => ⟨fun z => absurd rfl z, fun _ => b_1 last⟩⟩⟩⟩
    | succ k ih =>
      intro d a1 a2 a3
      obtain ⟨d, rfl⟩ : ∃ e, d = e + 1 := ⟨d - 1, by omega⟩
      obtain ⟨v1, v2, v3, v4⟩ := val (k + 1) a1
      have hq : v / 10 ^ (k + 1) < 10 := by
        rw [Nat.div_lt_iff_lt_mul v1, Nat.mul_comm, ← Nat.pow_succ]
        exact a3
      have h10 : ¬ 10 ^ (k + 1) = 1 := by
        have : 0 < 10 ^ k := Nat.pow_pos (by decide)
        rw [Nat.pow_succ]
        omega
      unfold wl_Ln_addNumber_5
      rw [v3, v4, add (k + 1) a1, p10_div]
      refine ⟨fun z => ?_, fun _ => ⟨nI_ne0 v1 v2, fun z => absurd rfl z, fun _ => ⟨fun z => b_1 ?_, fun z => ⟨fun _ => b_0 ?_, fun y => ?_⟩⟩⟩⟩
      · rw [e1, nI_ltI v2 (by decide)] at z
        omega
      · rw [e0, nI_ltI (by decide) (by omega)] at z
        have hge : 10 ^ (k + 1) ≤ v := by
          rcases Nat.lt_or_ge v (10 ^ (k + 1)) with y | y
          · rw [Nat.div_eq_of_lt y] at z; omega
          · exact y
        have ek : dk v = k + 1 := dk_is a1 a3 (Or.inr hge)
        have ed : dg v = (48 + v / 10 ^ (k + 1) % 10) :: dl v k := by unfold dg; rw [ek]; rfl
        have hlen : (dg v).length = k + 2 := by unfold dg; rw [ek, dl_len]
        refine s_addByte h (by omega) (by omega) (fun len' bytes' hr => begun k d len' bytes' _ (by omega) (by omega) ?_ hr)
        rw [ed, List.append_assoc]
        rfl
      · rw [e0, nI_ltI (by decide) (by omega)] at z
        refine ih d (by omega) (by omega) ?_
        rcases Nat.lt_or_ge v (10 ^ (k + 1)) with y | y
        · exact y
        · have := (Nat.le_div_iff_mul_le v1).mpr (by rw [Nat.one_mul]; exact y)
          omega
      · rw [e1, nI_eq v2 (by decide)] at y
        exact absurd y h10
  exact ⟨7, fresh 5 7 (by decide) (by decide) (Nat.lt_of_le_of_lt hv (by decide))⟩
theorem s_addEnd {len : Int32} {bytes : Nat → Int32} {l : List Nat} (h : LnR len bytes l) {o : Option Nat} (ho : ∀ t, o = some t → t < 40) (hl : l.length + (dE o).length ≤ 15) {P : Int32 → (Nat → Int32) → Prop} (hP : ∀ len bytes, LnR len bytes (l ++ dE o) → P len bytes) : wp_Ln_addEnd len bytes (oI o) P := by
  unfold wp_Ln_addEnd
  cases o with
  | none => exact ⟨fun z => absurd rfl z, fun _ => s_addWord h (i := 6) (by decide) hl hP⟩
  | some t =>
    have ht := ho t rfl
    exact ⟨fun _ => s_addNumber h (by omega) hl hP, fun z => absurd z (q_m1 (j := t) (by omega))⟩
theorem LnR_0 (bytes : Nat → Int32) : LnR 0 bytes [] := ⟨rfl, by decide, fun k hk => absurd hk (Nat.not_lt_zero _)⟩
theorem s_lnAt {len : Int32} {bytes : Nat → Int32} {l : List Nat} (h : LnR len bytes l) {i : Nat} (hi : i < l.length) {P : Int32 → Prop} (hP : P (wA l i)) : wp_Ln_byteAt len bytes (nI i) P := by
  obtain ⟨h1, h2, h3⟩ := h
  unfold wp_Ln_byteAt
  rw [h1, nI_leI (by omega) (by omega), show (15 : Int32) = nI 15 from rfl, nI_leI (by decide) (by omega), nI_clamp (n := i) (by omega)]
  refine ⟨fun z => absurd z (nI_pos (by omega)), fun _ => ⟨fun z => by omega, fun _ => ⟨fun z => by omega, fun _ => ⟨vp_in_nI (by omega) (by decide), ?_⟩⟩⟩⟩
  rw [h3 i hi]
  unfold wA at hP
  rw [List.getElem?_eq_getElem hi] at hP
  rw [gD hi]
  exact hP
section Wr
variable {S : AbS} {kind position told capacity amount liquid portsTaken endAtPort pipeLitres thingAtEnd portAtEnd bendAtEnd : Nat → Int32} {w : Nat → Int64}
theorem lnT_len (hV : VS S) {t : Nat} (ht : t < S.T) : (lnT S t).length ≤ 15 ∧ 1 ≤ (lnT S t).length := by
  have k := VS_K hV t ht
  have d1 := dg_le (v := S.cap t)
  have d2 := dg_le2 (v := S.K t) (by omega)
  unfold lnT
  split
  · simp only [List.length_append, List.length_cons, List.length_nil]; omega
  · split
    · simp only [List.length_append, List.length_cons, List.length_nil]; omega
    · simp only [List.length_append, List.length_cons, List.length_nil]; omega
theorem dE_len {o : Option Nat} (ho : ∀ t, o = some t → t < 40) : (dE o).length ≤ 2 := by
  cases o with
  | none => decide
  | some t => exact dg_le2 (by have := ho t rfl; omega)
theorem VS_th (hV : VS S) {e : Nat} (he : e < 2 * S.p) : ∀ t, S.th e = some t → t < 40 := fun t ht => by
  have := (hV.2.1.2.2.1 e t he ht).1
  have := hV.1.1
  omega
theorem lnP_len (hV : VS S) {q : Nat} (hq : q < S.p) : (lnP S q).length ≤ 15 ∧ 1 ≤ (lnP S q).length := by
  have d1 := dE_len (VS_th hV (e := 2 * q) (by omega))
  have d2 := dE_len (VS_th hV (e := 2 * q + 1) (by omega))
  have s := (hV.2.2.1 q hq).2
  have d3 := dg_le3 (v := S.sz q) (by omega)
  unfold lnP
  simp only [List.length_append, List.length_cons, List.length_nil]
  omega
theorem s_setToThing (hV : VS S) (hk : ∀ t, t < S.T → kind t = nI (S.K t)) (hc : ∀ t, t < S.T → capacity t = nI (S.cap t)) {len : Int32} {bytes : Nat → Int32} {t : Nat} (ht : t < S.T) {P : Int32 → (Nat → Int32) → Prop} (hP : ∀ len bytes, LnR len bytes (lnT S t) → P len bytes) : wp_Ln_setToThing len bytes kind capacity (nI t) P := by
  have hT := hV.1.1
  have k := VS_K hV t ht
  have hcap := (hV.1.2 t ht).2.2.1
  have hin : vp_in (nI t) 40 := vp_in_nI (by omega) (by decide)
  have ll := (lnT_len hV ht).1
  unfold wp_Ln_setToThing
  rw [nI_clamp (n := t) (by omega), hk t ht, hc t ht, show (9 : Int32) = nI 9 from rfl, show (10 : Int32) = nI 10 from rfl, nI_eq (by omega) (by decide), nI_eq (by omega) (by decide)]
  unfold lnT at hP ll
  refine ⟨hin, fun z => ?_, fun z => ⟨fun z2 => ?_, fun z2 => ?_⟩⟩
  · rw [if_neg (by omega), if_pos z] at hP ll
    refine s_addWord (LnR_0 bytes) (i := 2) (by decide) (by decide) (fun len bytes h1 => s_addByte h1 (by decide) (by decide) hP)
  · rw [if_pos z2] at hP ll
    simp only [List.length_append, List.length_cons, List.length_nil] at ll
    refine s_addWord (LnR_0 bytes) (i := 0) (by decide) (by decide) (fun len bytes h1 => ⟨hin, s_addNumber h1 hcap ?_ (fun len bytes h2 => s_addByte h2 ?_ (by decide) hP)⟩)
    · show 0 + 1 + 1 + 1 + 1 + 1 + (dg (S.cap t)).length ≤ 15; omega
    · show (wB 0 ++ dg (S.cap t)).length < 15
      rw [List.length_append]
      show 5 + (dg (S.cap t)).length < 15
      omega
  · rw [if_neg z2, if_neg z] at hP ll
    simp only [List.length_append, List.length_cons, List.length_nil] at ll
    refine s_addWord (LnR_0 bytes) (i := 1) (by decide) (by decide) (fun len bytes h1 => ⟨hin, s_addNumber h1 (by omega) ?_ (fun len bytes h2 => s_addByte h2 ?_ (by decide) hP)⟩)
    · show 6 + (dg (S.K t)).length ≤ 15; omega
    · show (wB 1 ++ dg (S.K t)).length < 15
      rw [List.length_append]
      show 6 + (dg (S.K t)).length < 15
      omega
theorem s_setToPipe (hV : VS S) (hs : ∀ q, q < S.p → pipeLitres q = nI (S.sz q)) (hth : ∀ e, e < 2 * S.p → thingAtEnd e = oI (S.th e)) {len : Int32} {bytes : Nat → Int32} {q : Nat} (hq : q < S.p) {P : Int32 → (Nat → Int32) → Prop} (hP : ∀ len bytes, LnR len bytes (lnP S q) → P len bytes) : wp_Ln_setToPipe len bytes pipeLitres thingAtEnd (nI q) P := by
  have hp := hV.2.1.1
  have t1 := VS_th hV (e := 2 * q) (by omega)
  have t2 := VS_th hV (e := 2 * q + 1) (by omega)
  have d1 := dE_len t1
  have d2 := dE_len t2
  have s := (hV.2.2.1 q hq).2
  have d3 := dg_le3 (v := S.sz q) (by omega)
  have m2 : (2 : Int32) * nI q = nI (2 * q) := by rw [show (2 : Int32) = nI 2 from rfl, pk_mul]
  unfold wp_Ln_setToPipe
  rw [m2, nI_1, nI_clamp (n := 2 * q) (by omega), nI_clamp (n := 2 * q + 1) (by omega), nI_clamp (n := q) (by omega), hth _ (by omega), hth _ (by omega), hs q hq]
  refine s_addWord (LnR_0 bytes) (i := 3) (by decide) (by decide) (fun len bytes h1 => ⟨vp_in_nI (by omega) (by decide), s_addEnd h1 t1 ?_ (fun len bytes h2 => s_addWord h2 (i := 4) (by decide) ?_ (fun len bytes h3 => ⟨vp_in_nI (by omega) (by decide), s_addEnd h3 t2 ?_ (fun len bytes h4 => s_addWord h4 (i := 4) (by decide) ?_ (fun len bytes h5 => ⟨vp_in_nI (by omega) (by decide), s_addNumber h5 (by omega) ?_ (fun len bytes h6 => s_addByte h6 ?_ (by decide) hP)⟩))⟩))⟩)
  all_goals simp only [List.length_append, wB, List.length_cons, List.length_nil]; omega
theorem cat_len {f : Nat → List Nat} {M : Nat} (h : ∀ t, t < M → (f t).length ≤ 16) : ∀ d t, t + d ≤ M → (cat f d t).length ≤ 16 * d := by
  intro d
  induction d with
  | zero => intro t _; exact Nat.le_refl _
  | succ d ih =>
    intro t ht
    have a := ih (t + 1) (by omega)
    have b := h t (by omega)
    show (f t ++ cat f d (t + 1)).length ≤ _
    rw [List.length_append]
    omega
theorem c_write (hV : VS S) (hC : CS S kind position told capacity amount liquid portsTaken endAtPort pipeLitres thingAtEnd portAtEnd bendAtEnd w) {len : Int32} {bytes : Nat → Int32} {x1 : Int32} {P : Int32 → Int32 → (Nat → Int32) → Prop}
    (h1 : ∀ i : Nat, i < 2 ^ 31 → x1 = nI i → ∀ len bytes, P (wA (wT S) i) len bytes) (h0 : (∀ i : Nat, i < 2 ^ 31 → ¬ x1 = nI i) → P (-1) len bytes) : wp_PG_write (nI S.T) (nI S.p) kind capacity pipeLitres thingAtEnd len bytes x1 P := by
  have hT := hV.1.1
  have hp := hV.2.1.1
  obtain ⟨g1, g2, g3⟩ := hC
  unfold wp_PG_write
  refine ⟨fun z => ?_, fun z => h0 (fun i hi e => z (by rw [e]; exact Int32.not_lt.mp (nI_pos hi)))⟩
  obtain ⟨i, hi, ei⟩ := q_nn z
  have h2 := h1 i hi ei
  subst ei
  clear h0 h1
  -- the pipes' lines
  have pipes : ∀ (d q i : Nat) (len : Int32) (bytes : Nat → Int32), q ≤ S.p → S.p - q < d → i < 2 ^ 31 → (∀ len bytes, P (wA (cat (lnP S) (S.p - q) q) i) len bytes) → wl_PG_write_71 (nI S.p) pipeLitres thingAtEnd (wk_PG_write_105_71 P) (wk_PG_write_130_71 P) d (nI i) (nI q) len bytes := by
    intro d
    induction d with
    | zero => intro q i len bytes a1 a2; omega
    | succ d ih =>
      intro q i len bytes a1 a2 a3 a4
      unfold wl_PG_write_71
      rw [nI_leI (by omega) (by omega)]
      refine ⟨fun y => ?_, fun y => ?_⟩
      · have := a4 len bytes
        rw [show S.p - q = 0 by omega] at this
        exact this
      · rw [show S.p - q = (S.p - (q + 1)) + 1 by omega] at a4
        have a4 : ∀ len bytes, P (wA (lnP S q ++ cat (lnP S) (S.p - (q + 1)) (q + 1)) i) len bytes := a4
        refine s_setToPipe hV g3.1 (fun e he => (g2.2 e he).1) (by omega) (fun len' bytes' hr => ?_)
        have ll := (lnP_len hV (q := q) (by omega)).1
        rw [hr.1, nI_leI (by omega) (by omega), nI_1]
        refine ⟨fun x => ?_, fun x => s_lnAt (hr.1 ▸ hr) (by omega) ?_⟩
        · rw [q_sub x]
          refine ih (q + 1) (i - (lnP S q).length) _ _ (by omega) (by omega) (by omega) (fun len bytes => ?_)
          have := a4 len bytes
          rw [wA_ge x] at this
          exact this
        · have := a4 (nI (lnP S q).length) bytes'
          rw [wA_lt (by omega)] at this
          exact this
  have things : ∀ (d t i : Nat) (len : Int32) (bytes : Nat → Int32), t ≤ S.T → S.T - t < d → i < 2 ^ 31 → (∀ len bytes, P (wA (cat (lnT S) (S.T - t) t ++ cat (lnP S) S.p 0) i) len bytes) → wl_PG_write_10 (nI S.T) kind capacity (wk_PG_write_44_10 P) (wk_PG_write_69_10 (nI S.p) pipeLitres thingAtEnd P) d (nI i) (nI t) len bytes := by
    intro d
    induction d with
    | zero => intro t i len bytes a1 a2; omega
    | succ d ih =>
      intro t i len bytes a1 a2 a3 a4
      unfold wl_PG_write_10
      rw [nI_leI (by omega) (by omega)]
      refine ⟨fun y => ?_, fun y => ?_⟩
      · unfold wk_PG_write_69_10
        refine ⟨S.p + 1, pipes (S.p + 1) 0 i len bytes (by omega) (by omega) a3 (fun len bytes => ?_)⟩
        have := a4 len bytes
        rw [show S.T - t = 0 by omega] at this
        exact this
      · rw [show S.T - t = (S.T - (t + 1)) + 1 by omega] at a4
        have a4 : ∀ len bytes, P (wA (lnT S t ++ cat (lnT S) (S.T - (t + 1)) (t + 1) ++ cat (lnP S) S.p 0) i) len bytes := a4
        refine s_setToThing hV (fun t ht => (g1 t ht).1) (fun t ht => (g1 t ht).2.2.2.1) (by omega) (fun len' bytes' hr => ?_)
        have ll := (lnT_len hV (t := t) (by omega)).1
        rw [hr.1, nI_leI (by omega) (by omega), nI_1]
        refine ⟨fun x => ?_, fun x => s_lnAt (hr.1 ▸ hr) (by omega) ?_⟩
        · rw [q_sub x]
          refine ih (t + 1) (i - (lnT S t).length) _ _ (by omega) (by omega) (by omega) (fun len bytes => ?_)
          have := a4 len bytes
          rw [List.append_assoc, wA_ge x] at this
          exact this
        · have := a4 (nI (lnT S t).length) bytes'
          rw [List.append_assoc, wA_lt (by omega)] at this
          exact this
  exact ⟨S.T + 1, things (S.T + 1) 0 i len bytes (by omega) (by omega) hi h2⟩
end Wr
