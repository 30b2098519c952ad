/-! LEVEL 2: four bits a litre. The wb_ rows are the kit's own bits to paste. -/
theorem wb_tb (n : Nat) : (lN n).toBitVec = BitVec.ofNat 64 n := rfl
theorem wb_inj {a b : Int64} (h : a.toBitVec = b.toBitVec) : a = b := Int64.toBitVec_inj.mp h
theorem wb_tn {n : Nat} (h : n < 2 ^ 64) : (lN n).toBitVec.toNat = n := by rw [wb_tb, BitVec.toNat_ofNat, Nat.mod_eq_of_lt h]
theorem wb_of (x : Int64) : ∃ n, n < 2 ^ 64 ∧ x = lN n := ⟨x.toBitVec.toNat, x.toBitVec.isLt, wb_inj (by rw [wb_tb]; simp)⟩
theorem wb_of32 (x : Int32) : ∃ n, n < 2 ^ 32 ∧ x = nI n := ⟨x.toBitVec.toNat, x.toBitVec.isLt, Int32.toBitVec_inj.mp (by show _ = BitVec.ofNat 32 _; simp)⟩
theorem wb_c : ∀ k, k < 64 → ((nI k).toInt64 &&& 63) = lN k := by decide +kernel
theorem wb_cu : ∀ k, k < 64 → ((nI k).toInt64.toUInt64 &&& Int64.toUInt64 63) = UInt64.ofNat k := by decide +kernel
theorem wb_sm : ∀ k, k < 64 → (BitVec.ofNat 64 k).smod 64 = BitVec.ofNat 64 k := by decide +kernel
theorem wb_pw {a b : Nat} (h : a ≤ b) : 2 ^ b = 2 ^ a * 2 ^ (b - a) := by rw [← Nat.pow_add]; congr 1; omega
theorem wb_lt2 {a b : Nat} (h : a < b) : 2 ^ a < 2 ^ b := Nat.pow_lt_pow_right (by decide) h
theorem wb_mod (n : Nat) : lN n = lN (n % 2 ^ 64) := wb_inj (by rw [wb_tb, wb_tb]; apply BitVec.eq_of_toNat_eq; rw [BitVec.toNat_ofNat, BitVec.toNat_ofNat, Nat.mod_mod])
theorem wb_shr {n k : Nat} (hn : n < 2 ^ 64) (hk : k < 64) : ((lN n).toUInt64 >>> ((nI k).toInt64.toUInt64 &&& Int64.toUInt64 63)).toInt64 = lN (n / 2 ^ k) := by
  rw [wb_cu k hk]
  apply wb_inj
  apply BitVec.eq_of_toNat_eq
  show ((lN n).toUInt64 >>> UInt64.ofNat k).toNat = (BitVec.ofNat 64 _).toNat
  have h1 : (UInt64.ofNat k).toNat = k := by
    show (BitVec.ofNat 64 k).toNat = k
    rw [BitVec.toNat_ofNat, Nat.mod_eq_of_lt (by omega)]
  have h2 : (lN n).toUInt64.toNat = n := wb_tn hn
  rw [UInt64.toNat_shiftRight, h1, h2, Nat.mod_eq_of_lt hk, Nat.shiftRight_eq_div_pow, BitVec.toNat_ofNat, Nat.mod_eq_of_lt (Nat.lt_of_le_of_lt (Nat.div_le_self _ _) hn)]
theorem wb_shl (n : Nat) {k : Nat} (hk : k < 64) : lN n <<< ((nI k).toInt64 &&& 63) = lN (n * 2 ^ k) := by
  rw [wb_c k hk]
  apply wb_inj
  rw [Int64.toBitVec_shiftLeft, wb_tb, wb_tb, wb_tb, wb_sm k hk]
  apply BitVec.eq_of_toNat_eq
  rw [BitVec.shiftLeft_eq', BitVec.toNat_shiftLeft, BitVec.toNat_ofNat, BitVec.toNat_ofNat, BitVec.toNat_ofNat, Nat.mod_eq_of_lt (show k < 2 ^ 64 by omega), Nat.shiftLeft_eq, Nat.mul_mod, Nat.mod_mod, ← Nat.mul_mod]
theorem wb_and {a b : Nat} (ha : a < 2 ^ 64) (hb : b < 2 ^ 64) : lN a &&& lN b = lN (a &&& b) := by
  apply wb_inj
  rw [Int64.toBitVec_and, wb_tb, wb_tb, wb_tb]
  apply BitVec.eq_of_toNat_eq
  rw [BitVec.toNat_and, BitVec.toNat_ofNat, BitVec.toNat_ofNat, BitVec.toNat_ofNat, Nat.mod_eq_of_lt ha, Nat.mod_eq_of_lt hb, Nat.mod_eq_of_lt (Nat.and_lt_two_pow _ hb)]
theorem wb_or {a b : Nat} (ha : a < 2 ^ 64) (hb : b < 2 ^ 64) : lN a ||| lN b = lN (a ||| b) := by
  apply wb_inj
  rw [Int64.toBitVec_or, wb_tb, wb_tb, wb_tb]
  apply BitVec.eq_of_toNat_eq
  rw [BitVec.toNat_or, BitVec.toNat_ofNat, BitVec.toNat_ofNat, BitVec.toNat_ofNat, Nat.mod_eq_of_lt ha, Nat.mod_eq_of_lt hb, Nat.mod_eq_of_lt (Nat.or_lt_two_pow ha hb)]
theorem wb_mask {n k : Nat} (hn : n < 2 ^ 64) (hk : k < 64) : lN n &&& lN (2 ^ k - 1) = lN (n % 2 ^ k) := by
  rw [wb_and hn (by have := wb_lt2 hk; omega), Nat.and_two_pow_sub_one_eq_mod]
theorem wb_a1 {n : Nat} (hn : n < 2 ^ 64) : lN n &&& 1 = lN (n % 2) := wb_mask (k := 1) hn (by decide)
theorem wb_bit {n k : Nat} (hn : n < 2 ^ 64) (hk : k < 64) : ((lN n).toUInt64 >>> ((nI k).toInt64.toUInt64 &&& Int64.toUInt64 63)).toInt64 &&& 1 = lN (n / 2 ^ k % 2) := by
  rw [wb_shr hn hk, wb_a1 (Nat.lt_of_le_of_lt (Nat.div_le_self _ _) hn)]
def nib (w : Nat → Int64) (i : Nat) : Nat := (w (i / 16)).toBitVec.toNat / 2 ^ (4 * (i % 16)) % 16
theorem nib_lt (w : Nat → Int64) (i : Nat) : nib w i < 16 := Nat.mod_lt _ (by decide)
theorem nib_0 {w : Nat → Int64} {i : Nat} (h : w (i / 16) = 0) : nib w i = 0 := by
  unfold nib
  rw [h]
  have e : (0 : Int64).toBitVec.toNat = 0 := rfl
  rw [e, Nat.zero_div]
theorem nI_bv (q : Nat) : (nI q).toBitVec.toNat = q % 4294967296 := by
  show (BitVec.ofNat 32 q).toNat = _
  exact BitVec.toNat_ofNat ..
theorem s_shift {i : Nat} (hi : i < 2 ^ 20) {P : Int32 → Prop} (h : P (nI (4 * (i % 16)))) : wp_Li_shift (nI i) P := by
  unfold wp_Li_shift
  have e : (nI i - nI i / 16 * 16) * 4 = nI (4 * (i % 16)) := by
    rw [show (16 : Int32) = nI 16 from rfl, pk_rem (by omega) (by omega) (by omega), show (4 : Int32) = nI 4 from rfl, pk_mul, Nat.mul_comm]
  rw [e]
  exact h
theorem q_16 {i : Nat} (hi : i < 12000) : vp_in (nI i / 16) 750 ∧ (nI i / 16).toNatClampNeg = i / 16 := by
  rw [show (16 : Int32) = nI 16 from rfl, pk_div (by omega) (by omega) (by omega)]
  exact ⟨vp_in_nI (by omega) (by decide), nI_clamp (by omega)⟩
/-- Litres.at -/
theorem s_at {w : Nat → Int64} {i : Nat} (hi : i < 12000) {P : Int32 → Prop} (h : P (nI (nib w i))) : wp_Li_at w (nI i) P := by
  unfold wp_Li_at
  refine s_betweenI (a := 0) (b := 11999) (by decide) (by decide) (fun j h1 h2 e => ?_) (fun hn => absurd rfl (hn i (by omega) (by omega)))
  obtain ⟨h3, h4⟩ := q_16 hi
  refine b_1n ⟨h3, s_shift (by omega) ?_⟩
  rw [h4]
  obtain ⟨n, hn, en⟩ := wb_of (w (i / 16))
  rw [en, wb_shr hn (by omega), lN_i]
  have e2 : nI (n / 2 ^ (4 * (i % 16))) &&& 15 = nI (nib w i) := by
    rw [pk_and (nI (n / 2 ^ (4 * (i % 16)))) (m := 15) 4 rfl, nI_bv]
    unfold nib
    rw [en, wb_tn hn]
    congr 1
    generalize n / 2 ^ (4 * (i % 16)) = q
    omega
  rw [e2]
  exact h
theorem nib_bit (w : Nat → Int64) (j b : Nat) : (nib w j).testBit b = (decide (b < 4) && (w (j / 16)).toBitVec.getLsbD (4 * (j % 16) + b)) := by
  unfold nib
  rw [show (16 : Nat) = 2 ^ 4 from rfl]
  rw [Nat.testBit_mod_two_pow]
  rw [Nat.testBit_div_two_pow]
  rw [BitVec.testBit_toNat]
  rw [Nat.add_comm]
theorem nib_put {w0 : Int64} {k v : Nat} (hk : k < 64) (hv : v < 16) (b : Nat) (hb : b < 64) : ((w0 &&& ((15 <<< ((nI k).toInt64 &&& 63)) ^^^ (-1))) ||| ((nI v &&& 15).toInt64 <<< ((nI k).toInt64 &&& 63))).toBitVec.getLsbD b = if k ≤ b ∧ b < k + 4 then v.testBit (b - k) else w0.toBitVec.getLsbD b := by
  have e1 : nI v &&& 15 = nI v := by
    rw [pk_andN (by omega) (m := 15) 4 rfl, Nat.mod_eq_of_lt (by omega)]
  rw [e1, nI_l (n := v) (by omega), wb_shl v hk, show (15 : Int64) = lN 15 from rfl, wb_shl 15 hk]
  rw [Int64.toBitVec_or, Int64.toBitVec_and, Int64.toBitVec_xor, BitVec.getLsbD_or, BitVec.getLsbD_and, BitVec.getLsbD_xor, wb_tb, wb_tb]
  have e2 : (-1 : Int64).toBitVec.getLsbD b = true := by
    have e3 : (-1 : Int64).toBitVec = BitVec.allOnes 64 := by decide
    rw [e3, BitVec.getLsbD_allOnes]
    simpa using hb
  have e4 : ∀ m : Nat, (BitVec.ofNat 64 (m * 2 ^ k)).getLsbD b = (decide (k ≤ b) && m.testBit (b - k)) := by
    intro m
    rw [BitVec.getLsbD_ofNat, ← Nat.shiftLeft_eq, Nat.testBit_shiftLeft]
    simp [hb]
  rw [e2, e4, e4]
  by_cases c1 : k ≤ b
  · by_cases c2 : b < k + 4
    · have e5 : (15 : Nat).testBit (b - k) = true := by
        have : b - k = 0 ∨ b - k = 1 ∨ b - k = 2 ∨ b - k = 3 := by omega
        rcases this with h | h | h | h <;> rw [h] <;> rfl
      simp [c1, c2, e5]
    · have e5 : (15 : Nat).testBit (b - k) = false := Nat.testBit_lt_two_pow (Nat.lt_of_lt_of_le (show 15 < 2 ^ 4 by decide) (Nat.pow_le_pow_right (by decide) (by omega)))
      have e6 : v.testBit (b - k) = false := Nat.testBit_lt_two_pow (Nat.lt_of_lt_of_le (show v < 2 ^ 4 by omega) (Nat.pow_le_pow_right (by decide) (by omega)))
      simp [c1, c2, e5, e6]
  · simp [c1]
/-- Litres.set -/
theorem s_set {w : Nat → Int64} {i v : Nat} (hi : i < 12000) (hv : v < 16) {P : (Nat → Int64) → Prop} (h : ∀ w' : Nat → Int64, (∀ j, nib w' j = if j = i then v else nib w j) → P w') : wp_Li_set w (nI i) (nI v) P := by
  unfold wp_Li_set
  refine s_betweenI (a := 0) (b := 11999) (by decide) (by decide) (fun j h1 h2 e => ?_) (fun hn => absurd rfl (hn i (by omega) (by omega)))
  obtain ⟨h3, h4⟩ := q_16 hi
  refine b_1n ⟨h3, s_shift (by omega) (s_shift (by omega) ⟨h3, ?_⟩)⟩
  rw [h4]
  apply h
  intro j
  apply Nat.eq_of_testBit_eq
  intro b
  rw [nib_bit]
  by_cases c0 : b < 4
  · by_cases c1 : j / 16 = i / 16
    · rw [c1, pk_uLs, nib_put (by omega) hv (4 * (j % 16) + b) (by omega)]
      by_cases c2 : j = i
      · rw [if_pos c2, if_pos (by omega)]
        have : 4 * (j % 16) + b - 4 * (i % 16) = b := by omega
        rw [this]
        simp [c0]
      · rw [if_neg c2, if_neg (by omega), nib_bit, c1]
    · rw [pk_uLn c1]
      rw [if_neg (fun q => c1 (by rw [q])), nib_bit]
  · have c3 : decide (b < 4) = false := by simpa using c0
    rw [c3, Bool.false_and]
    by_cases c2 : j = i
    · rw [if_pos c2]
      exact (Nat.testBit_lt_two_pow (Nat.lt_of_lt_of_le (show v < 2 ^ 4 by omega) (Nat.pow_le_pow_right (by decide) (by omega)))).symm
    · rw [if_neg c2]
      exact (Nat.testBit_lt_two_pow (Nat.lt_of_lt_of_le (show nib w j < 2 ^ 4 from nib_lt w j) (Nat.pow_le_pow_right (by decide) (by omega)))).symm
