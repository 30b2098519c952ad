/-! LEVEL 2: the class's read -/
section Rd
variable {n : Nat} {tx : Nat → Nat} {bytes : Nat → Int32} {w : Nat → Int64}
theorem s_takeInto (h : tG n tx bytes) {S : AbS} {R : AbS × Option Nat} {P : Int32 → Int32 → Int32 → Int32 → Int32 → Int32 → (Nat → Int32) → (Nat → Int32) → (Nat → Int32) → (Nat → Int32) → (Nat → Int32) → (Nat → Int32) → (Nat → Int32) → (Nat → Int32) → (Nat → Int32) → (Nat → Int32) → (Nat → Int32) → (Nat → Int32) → Prop}
    (hg : ∀ S' q' v, R = (S', none) → VS S' → ∀ kind position told capacity amount liquid portsTaken endAtPort pipeLitres thingAtEnd portAtEnd bendAtEnd, CS S' kind position told capacity amount liquid portsTaken endAtPort pipeLitres thingAtEnd portAtEnd bendAtEnd w → P (-1) 0 q' v (nI S'.T) (nI S'.p) kind position told capacity amount liquid portsTaken endAtPort pipeLitres thingAtEnd portAtEnd bendAtEnd)
    (hb : ∀ S' q' v, R = (S', some q') → q' ≤ n → ∀ a1 a2 kind position told capacity amount liquid portsTaken endAtPort pipeLitres thingAtEnd portAtEnd bendAtEnd, P (nI q') 0 (nI q') v a1 a2 kind position told capacity amount liquid portsTaken endAtPort pipeLitres thingAtEnd portAtEnd bendAtEnd) :
    ∀ (d q k : Nat) (S : AbS) (number : Int32) (kind position told capacity amount liquid portsTaken endAtPort pipeLitres thingAtEnd portAtEnd bendAtEnd : Nat → Int32), q ≤ n → n - q < d → k ≤ q → VS S → CS S kind position told capacity amount liquid portsTaken endAtPort pipeLitres thingAtEnd portAtEnd bendAtEnd w → R = rdF (hh n tx) n d q S →
      wl_Te_takeInto_9 (nI n) bytes (wk_Te_takeInto_60_9 P) d 1 (nI k) (nI q) number (nI S.T) (nI S.p) kind position told capacity amount liquid portsTaken endAtPort pipeLitres thingAtEnd portAtEnd bendAtEnd := by
  have hn := h.1
  intro d
  induction d with
  | zero => intro q k S number k1 k2 k3 k4 k5 k6 k7 k8 k9 k10 k11 k12 a1 a2; omega
  | succ d ih =>
    intro q k S number k1 k2 k3 k4 k5 k6 k7 k8 k9 k10 k11 k12 a1 a2 a3 hV hC hR
    unfold wl_Te_takeInto_9
    have fin : n ≤ q → wk_Te_takeInto_60_9 P 1 (nI k) (nI q) number (nI S.T) (nI S.p) k1 k2 k3 k4 k5 k6 k7 k8 k9 k10 k11 k12 := by
      intro z
      rw [rdF_end z] at hR
      unfold wk_Te_takeInto_60_9
      exact b_1 (hg S _ _ hR hV _ _ _ _ _ _ _ _ _ _ _ _ hC)
    rw [show (2000 : Int32) = nI 2000 from rfl, nI_leI (by decide) (by omega), nI_leI (by omega) (by omega), nI_1]
    refine ⟨fun z => fin (by omega), fun _ => b_1 ⟨fin, fun z => ?_⟩⟩
    have hlt : q < n := by omega
    have out : ∀ (q' : Nat) (v b1 b2 : Int32) (k1 k2 k3 k4 k5 k6 k7 k8 k9 k10 k11 k12 : Nat → Int32), (∃ S', R = (S', some q')) → q' ≤ n → wl_Te_takeInto_9 (nI n) bytes (wk_Te_takeInto_60_9 P) d 0 (nI (k + 1)) (nI q') v b1 b2 k1 k2 k3 k4 k5 k6 k7 k8 k9 k10 k11 k12 := by
      intro q' v b1 b2 k1 k2 k3 k4 k5 k6 k7 k8 k9 k10 k11 k12 hS l
      obtain ⟨S', e⟩ := hS
      obtain ⟨d, rfl⟩ : ∃ e, d = e + 1 := ⟨d - 1, by omega⟩
      have f : wk_Te_takeInto_60_9 P 0 (nI (k + 1)) (nI q') v b1 b2 k1 k2 k3 k4 k5 k6 k7 k8 k9 k10 k11 k12 := by
        unfold wk_Te_takeInto_60_9
        exact b_0 (hb S' q' v e l _ _ _ _ _ _ _ _ _ _ _ _ _ _)
      unfold wl_Te_takeInto_9
      exact ⟨fun _ => f, fun _ => b_0 f⟩
    refine c_takeLine h a1 hV hC (fun r q' v l e ea => b_0 (out q' v _ _ _ _ _ _ _ _ _ _ _ _ _ _ ⟨S, by rw [hR, rdF_no hlt e ea]⟩ l)) (fun r q' v S' l e e10 ea j1 j2 j3 j4 j5 j6 j7 j8 j9 j10 j11 j12 hC' => b_1 ?_) (fun r q' e l ea => pL_10 e (fun z => ea (by rw [z]; rfl)))
    have eo : ovr (hh n tx) (wB 5) q' = (true, q' + 1) := by
      show ovr (hh n tx) [10] q' = _
      rw [ovr, if_pos e10]; rfl
    refine s_passWord h (i := 5) (by decide) (by omega) ?_
    rw [eo]
    have hq' : q ≤ q' := pL_ge e
    exact b_1 (ih (q' + 1) (k + 1) S' v j1 j2 j3 j4 j5 j6 j7 j8 j9 j10 j11 j12 (by omega) (by omega) (by omega) (VS_ap hV ea) hC' (by rw [hR, rdF_yes hlt e ea]))
theorem s_liClear {w : Nat → Int64} {P : (Nat → Int64) → Prop} (h : ∀ w', (∀ j, j < 12000 → nib w' j = 0) → P w') : wp_Li_clear w P := by
  unfold wp_Li_clear
  refine s_fillJ (by decide) (fun f' h1 _ => h f' (fun j hj => nib_0 (h1 (j / 16) (by omega))))
theorem c_read (h : tG n tx bytes) {qp qs : Nat} {pt st sp len place number : Int32} {kind position told capacity amount liquid portsTaken endAtPort pipeLitres thingAtEnd portAtEnd bendAtEnd : Nat → Int32} {ws : Nat → Int64}
    {P : Int32 → Nat → Nat → Int32 → Int32 → (Nat → Int32) → (Nat → Int32) → (Nat → Int32) → (Nat → Int32) → (Nat → Int32) → (Nat → Int32) → (Nat → Int32) → (Nat → Int32) → (Nat → Int32) → (Nat → Int32) → (Nat → Int32) → (Nat → Int32) → (Nat → Int64) → Int32 → Int32 → Int32 → Prop}
    (hg : ∀ S', rdF (hh n tx) n 2001 0 S0 = (S', none) → VS S' → ∀ q' v kind position told capacity amount liquid portsTaken endAtPort pipeLitres thingAtEnd portAtEnd bendAtEnd ws, CS S' kind position told capacity amount liquid portsTaken endAtPort pipeLitres thingAtEnd portAtEnd bendAtEnd ws → P (nI S'.T) qs qp (nI S'.T) (nI S'.p) kind position told capacity amount liquid portsTaken endAtPort pipeLitres thingAtEnd portAtEnd bendAtEnd ws 0 q' v)
    (hb : ∀ S' q', rdF (hh n tx) n 2001 0 S0 = (S', some q') → q' ≤ n → ∀ a1 a2 b1 b2 kind position told capacity amount liquid portsTaken endAtPort pipeLitres thingAtEnd portAtEnd bendAtEnd ws, P (-1 - nI q') qp qs a1 a2 kind position told capacity amount liquid portsTaken endAtPort pipeLitres thingAtEnd portAtEnd bendAtEnd ws 0 b1 b2) :
    wp_PG_read qp qs pt st sp kind position told capacity amount liquid portsTaken endAtPort pipeLitres thingAtEnd portAtEnd bendAtEnd ws (nI n) place number bytes P := by
  have hn := h.1
  unfold wp_PG_read wp_Pl_clear
  refine s_liClear (fun w' hw => ?_)
  unfold wp_Te_takeInto
  refine ⟨2001, ?_⟩
  refine s_takeInto (w := w') h (S := S0) (R := rdF (hh n tx) n 2001 0 S0) (fun S' q' v e hV k1 k2 k3 k4 k5 k6 k7 k8 k9 k10 k11 k12 hC => ⟨fun _ => hg S' e hV _ _ _ _ _ _ _ _ _ _ _ _ _ _ _ hC, fun z => absurd rfl z⟩) (fun S' q' v e l a1 a2 k1 k2 k3 k4 k5 k6 k7 k8 k9 k10 k11 k12 => ⟨fun z => absurd z (q_m1 (j := q') (by omega)), fun _ => hb S' q' e l _ _ _ _ _ _ _ _ _ _ _ _ _ _ _ _ _⟩) 2001 0 0 S0 number kind position told capacity amount liquid portsTaken endAtPort pipeLitres thingAtEnd portAtEnd bendAtEnd (by omega) (by omega) (by omega) VS_0 ⟨fun t ht => absurd ht (Nat.not_lt_zero _), ⟨fun t ht => absurd ht (Nat.not_lt_zero _), fun e he => absurd he (Nat.not_lt_zero _)⟩, fun q hq => absurd hq (Nat.not_lt_zero _), hw⟩ rfl
end Rd
