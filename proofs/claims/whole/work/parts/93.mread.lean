/-! LEVEL 2: the reference's read: first all lines are held against what a plant takes, then they are made -/
def N1 (T : Nat) (K tk : Nat → Nat) (B : Nat) (kinds taken : Nat → Int32) : Prop := (∀ t, t < T → kinds t = nI (rk (K t))) ∧ (∀ t, t < T → ¬ K t = 10 → taken t = nI (tk t)) ∧ ∀ t, t < T → K t = 10 → ∃ c, c ≤ B ∧ taken t = nI c
section N
variable {T B : Nat} {K tk : Nat → Nat} {kinds taken : Nat → Int32}
theorem N1_more (h : N1 T K tk B kinds taken) {B' : Nat} (hB : B ≤ B') : N1 T K tk B' kinds taken := ⟨h.1, h.2.1, fun t ht k => by obtain ⟨c, c1, c2⟩ := h.2.2 t ht k; exact ⟨c, by omega, c2⟩⟩
theorem N1_end (h : N1 T K tk B kinds taken) {t : Nat} (ht : t < T) : N1 T K (nT K tk (some t)) (B + 1) kinds (upd taken t (taken t + 1)) := by
  refine ⟨h.1, fun u hu k => ?_, fun u hu k => ?_⟩
  · unfold nT
    dsimp only
    by_cases q : u = t
    · subst q
      rw [pk_us, if_neg k, va_up_self, h.2.1 u hu k, nI_1]
    · rw [pk_un q]
      split
      · exact h.2.1 u hu k
      · rw [va_up_ne _ _ q]; exact h.2.1 u hu k
  · obtain ⟨c, c1, c2⟩ := h.2.2 u hu k
    by_cases q : u = t
    · subst q
      exact ⟨c + 1, by omega, by rw [pk_us, c2, nI_1]⟩
    · exact ⟨c, by omega, by rw [pk_un q]; exact c2⟩
theorem N1_thing (h : N1 T K tk B kinds taken) {k : Nat} {x : Int32} (hx : x = nI (rk k)) : N1 (T + 1) (va_up K T k) (va_up tk T 0) B (upd kinds T x) (upd taken T 0) := by
  refine ⟨fun u hu => ?_, fun u hu kk => ?_, fun u hu kk => ?_⟩
  · by_cases q : u = T
    · rw [q, pk_us, va_up_self, hx]
    · rw [pk_un q, va_up_ne _ _ q]; exact h.1 u (by omega)
  · by_cases q : u = T
    · rw [q, pk_us, va_up_self]; rfl
    · rw [va_up_ne _ _ q] at kk
      rw [pk_un q, va_up_ne _ _ q]; exact h.2.1 u (by omega) kk
  · by_cases q : u = T
    · exact ⟨0, by omega, by rw [q, pk_us]; rfl⟩
    · rw [va_up_ne _ _ q] at kk
      obtain ⟨c, c1, c2⟩ := h.2.2 u (by omega) kk
      exact ⟨c, c1, by rw [pk_un q]; exact c2⟩
end N
theorem N1_mG2 {S : AbS} {kinds taken : Nat → Int32} (h : N1 S.T S.K S.tk (2 * S.p) kinds taken) (hV : VS S) : mG2 S.T S.p S.K S.tk S.E S.po S.th S.bd taken (fun j => if j % 4 < S.tk (j / 4) then nI (S.E j) else -1) (fun e => oI (S.th e)) (fun e => nI (S.po e)) (fun e => oI (S.bd e)) := by
  refine ⟨fun t ht k => ⟨h.2.1 t ht k, fun i hi => ?_, fun i hi hi4 => ?_⟩, h.2.2, fun e he => ⟨rfl, rfl, fun t _ _ => rfl⟩⟩
  · have v := (hV.2.1.2.1 t ht k).1
    have p4 := pN_le (S.K t) (by have := VS_K hV t ht; omega)
    show (if (4 * t + i) % 4 < S.tk ((4 * t + i) / 4) then _ else _) = _
    rw [show (4 * t + i) / 4 = t by omega, show (4 * t + i) % 4 = i by omega, if_pos hi]
  · show (if (4 * t + i) % 4 < S.tk ((4 * t + i) / 4) then _ else _) = _
    rw [show (4 * t + i) / 4 = t by omega, show (4 * t + i) % 4 = i by omega, if_neg (by omega)]
theorem oI_un {o : Option Nat} (h1 : ∀ t, o = some t → t < 10000000) {o' : Option Nat} (h2 : ∀ t, o' = some t → t < 10000000) (e : oI o = oI o') : o = o' := by
  cases o with
  | none =>
    cases o' with
    | none => rfl
    | some t => exact absurd e.symm (q_m1 (j := t) (by have := h2 t rfl; omega))
  | some t =>
    cases o' with
    | none => exact absurd e (q_m1 (j := t) (by have := h1 t rfl; omega))
    | some t' =>
      have a1 := h1 t rfl
      have a2 := h2 t' rfl
      rw [(nI_eq (a := t) (b := t') (by omega) (by omega)).mp e]
theorem i3_0 : vp_in 0 3 := in3_0
theorem i3_1 : vp_in 1 3 := vp_in_nI (n := 1) (by decide) (by decide)
theorem i3_2 : vp_in 2 3 := vp_in_nI (n := 2) (by decide) (by decide)
section MRd
variable {n : Nat} {tx : Nat → Nat} {text : Nat → Int32}
theorem m_pass1 (h : tG n tx text) {R : AbS × Option Nat} {Kc : Int32 → Int32 → Int32 → Int32 → Int64 → (Nat → Int32) → (Nat → Int32) → (Nat → Int32) → Prop}
    (hg : ∀ S', R = (S', none) → ∀ x1 x2 q' v nk nt w, Kc x1 x2 1 q' v nk nt w)
    (hb : ∀ S' q', R = (S', some q') → q' ≤ n → ∀ x1 x2 v nk nt w, Kc x1 x2 0 (nI q') v nk nt w) :
    ∀ (d q : Nat) (S : AbS) (num : Int64) (nk nt w : Nat → Int32), q ≤ n → n - q < d → VS S → N1 S.T S.K S.tk (2 * S.p) nk nt → R = rdF (hh n tx) n d q S → wl_Mo_read_16 (nI n) text Kc d (nI S.T) (nI S.p) 1 (nI q) num nk nt w := by
  have hn := h.1
  intro d
  induction d with
  | zero => intro q S num nk nt w a1 a2; omega
  | succ d ih =>
    intro q S num nk nt w a1 a2 hV hN hR
    have hT := hV.1.1
    have hp := hV.2.1.1
    unfold wl_Mo_read_16
    rw [nI_leI (by omega) (by omega)]
    refine ⟨fun z => ?_, fun z => b_1 ?_⟩
    · rw [rdF_end z] at hR
      exact hg S hR _ _ _ _ _ _ _
    have hlt : q < n := by omega
    have out : ∀ (q' : Nat) (x1 x2 : Int32) (v : Int64) (nk nt w : Nat → Int32), (∃ S', R = (S', some q')) → q' ≤ n → wl_Mo_read_16 (nI n) text Kc d x1 x2 0 (nI q' + 0) v nk nt w := by
      intro q' x1 x2 v nk nt w hS l
      obtain ⟨S', e⟩ := hS
      obtain ⟨d, rfl⟩ : ∃ e, d = e + 1 := ⟨d - 1, by omega⟩
      have f := hb S' q' e l x1 x2 v nk nt w
      unfold wl_Mo_read_16
      rw [Int32.add_zero]
      exact ⟨fun _ => f, fun _ => b_0 f⟩
    -- a thing's line
    have thing : ∀ (r : LR) (x4 : Int32) (k j v0 : Nat) (q' : Nat) (v : Int64) (w : Nat → Int32), q' < n → pL (hh n tx) q = (r, q') → ap r S = some (S.thing k j) → (¬ x4 = 2 → x4 = nI (rk k)) → (x4 = 2 → w 0 = nI v0 ∧ (2 : Int32) + nI v0 = nI (rk k)) → wj_Mo_read_218 (wl_Mo_read_16 (nI n) text Kc d) (nI S.T) (nI S.p) x4 (nI q') v nk nt w := by
      intro r x4 k j v0 q' v w l e ea e1 e2
      have hq' := pL_ge e
      have t40 : S.T < 40 := by
        unfold ap at ea
        split at ea
        · split at ea
          · rename_i z; exact z.1
          · cases ea
        · split at ea
          · split at ea
            · rename_i z; exact z.1
            · cases ea
          · split at ea
            · split at ea
              · assumption
              · cases ea
            · split at ea
              · split at ea
                · have := congrArg (fun o => o.map AbS.T) ea
                  have : S.T = S.T + 1 := Option.some.inj this
                  omega
                · cases ea
              · cases ea
      have hin : vp_in (nI S.T) 40 := vp_in_nI t40 (by decide)
      have go : ∀ s0, s0 = nI (rk k) → wj_Mo_read_252 (wl_Mo_read_16 (nI n) text Kc d) (nI S.T) (nI S.p) 1 (nI q') v nk nt w s0 (nI S.T) := by
        intro s0 hs
        unfold wj_Mo_read_252
        refine ⟨hin, hin, b_1 ?_⟩
        rw [nI_clamp (n := S.T) (by omega), nI_1, nI_1]
        exact ih (q' + 1) (S.thing k j) v _ _ w (by omega) (by omega) (VS_ap hV ea) (N1_thing hN hs) (by rw [hR, rdF_yes hlt e ea])
      unfold wj_Mo_read_218 wj_Mo_read_223
      refine b_1 ⟨fun y => go x4 (e1 y), fun y => ⟨i3_0, ?_⟩⟩
      have e2 := e2 y
      refine go _ ?_
      show (2 : Int32) + w 0 = _
      rw [e2.1, e2.2]
    have no : ∀ (r : LR) (x4 : Int32) (q' : Nat) (v : Int64) (w : Nat → Int32), q' ≤ n → pL (hh n tx) q = (r, q') → ap r S = none → wj_Mo_read_222 (wl_Mo_read_16 (nI n) text Kc d) (nI S.T) (nI S.p) x4 (nI q') v nk nt w := by
      intro r x4 q' v w l e ea
      unfold wj_Mo_read_222 wj_Mo_read_223
      exact b_0 (b_0 (out q' _ _ _ _ _ _ ⟨S, by rw [hR, rdF_no hlt e ea]⟩ l))
    refine m_line h a1 (fun q' v w l e => ⟨fun _ => ?_, fun z => absurd rfl z⟩) (fun v q' num w lv l e e0 => ⟨fun z => absurd z (by decide), fun _ => ?_⟩) (fun v q' num w lv l e e0 => ⟨fun z => absurd z (by decide), fun _ => ?_⟩) (fun q' num w l e => ⟨fun z => absurd z (by decide), fun _ => ?_⟩) (fun a b v q' num w la lb lv l e e0 e1 e2 => ⟨fun z => absurd z (by decide), fun _ => ?_⟩)
    · unfold wj_Mo_read_48
      exact ⟨fun _ => b_0 (b_0 (out q' _ _ _ _ _ _ ⟨S, by rw [hR, rdF_no hlt e rfl]⟩ l)), fun z => absurd z (by decide)⟩
    · unfold wj_Mo_read_48
      refine ⟨fun _ => b_1 ?_, fun z => absurd z (by decide)⟩
      have ew : w (0 : Int32).toNatClampNeg = nI v := e0
      rw [ew, show (40 : Int32) = nI 40 from rfl, nI_leI (by decide) (by omega), show (1 : Int32) = nI 1 from rfl, nI_ltI (by omega) (by decide), show (100000 : Int32) = nI 100000 from rfl, nI_ltI (by decide) (by omega)]
      refine ⟨fun y => no _ _ q' _ _ (by omega) e (by (first | rw [ap_tank, if_neg (by omega)] | rw [ap_valve, if_neg (by omega)] | rw [ap_pump, if_neg (by omega)] | rw [ap_pipe, if_neg (by omega)])), fun y => ⟨fun y2 => absurd rfl y2, fun _ => ⟨i3_0, fun y3 => no _ _ q' _ _ (by omega) e (by (first | rw [ap_tank, if_neg (by omega)] | rw [ap_valve, if_neg (by omega)] | rw [ap_pump, if_neg (by omega)] | rw [ap_pipe, if_neg (by omega)])), fun y3 => ⟨i3_0, fun y4 => no _ _ q' _ _ (by omega) e (by (first | rw [ap_tank, if_neg (by omega)] | rw [ap_valve, if_neg (by omega)] | rw [ap_pump, if_neg (by omega)] | rw [ap_pipe, if_neg (by omega)])), fun y4 => ?_⟩⟩⟩⟩
      unfold wj_Mo_read_201
      refine ⟨fun _ => thing _ 0 10 v 0 q' _ _ l e (by (first | rw [ap_tank, if_pos (by omega)] | rw [ap_valve, if_pos (by omega)] | rw [ap_pump, if_pos (by omega)] | rw [ap_pipe, if_pos (by omega)])) (fun _ => rfl) (fun z => absurd z (by decide)), fun z => absurd z (by decide)⟩
    · unfold wj_Mo_read_48
      refine ⟨fun _ => b_1 ?_, fun z => absurd z (by decide)⟩
      have ew : w (0 : Int32).toNatClampNeg = nI v := e0
      rw [show (40 : Int32) = nI 40 from rfl, nI_leI (by decide) (by omega)]
      refine ⟨fun y => no _ _ q' _ _ (by omega) e (by (first | rw [ap_tank, if_neg (by omega)] | rw [ap_valve, if_neg (by omega)] | rw [ap_pump, if_neg (by omega)] | rw [ap_pipe, if_neg (by omega)])), fun y => ⟨fun _ => ?_, fun z => absurd z (by decide)⟩⟩
      unfold wj_Mo_read_201
      rw [ew, show (8 : Int32) = nI 8 from rfl, nI_ltI (by decide) (by omega)]
      refine ⟨fun z => absurd rfl z, fun _ => ⟨i3_0, fun y2 => no _ _ q' _ _ (by omega) e (by (first | rw [ap_tank, if_neg (by omega)] | rw [ap_valve, if_neg (by omega)] | rw [ap_pump, if_neg (by omega)] | rw [ap_pipe, if_neg (by omega)])), fun y2 => ?_⟩⟩
      exact thing _ 2 v 0 v q' _ _ l e (by (first | rw [ap_tank, if_pos (by omega)] | rw [ap_valve, if_pos (by omega)] | rw [ap_pump, if_pos (by omega)] | rw [ap_pipe, if_pos (by omega)])) (fun z => absurd rfl z) (fun _ => ⟨e0, by rw [show (2 : Int32) = nI 2 from rfl, nI_add, rk_of (by omega), Nat.add_comm]⟩)
    · unfold wj_Mo_read_48
      refine ⟨fun _ => b_1 ?_, fun z => absurd z (by decide)⟩
      rw [show (40 : Int32) = nI 40 from rfl, nI_leI (by decide) (by omega)]
      refine ⟨fun y => no _ _ q' _ _ (by omega) e (by (first | rw [ap_tank, if_neg (by omega)] | rw [ap_valve, if_neg (by omega)] | rw [ap_pump, if_neg (by omega)] | rw [ap_pipe, if_neg (by omega)])), fun y => ⟨fun _ => ?_, fun z => absurd z (by decide)⟩⟩
      unfold wj_Mo_read_201
      exact ⟨fun _ => thing _ 1 9 0 0 q' _ _ l e (by (first | rw [ap_tank, if_pos (by omega)] | rw [ap_valve, if_pos (by omega)] | rw [ap_pump, if_pos (by omega)] | rw [ap_pipe, if_pos (by omega)])) (fun _ => rfl) (fun z => absurd z (by decide)), fun z => absurd z (by decide)⟩
    · have hq' := pL_ge e
      have bad : ap (LR.pipe a b v) S = none → wj_Mo_read_99 (wl_Mo_read_16 (nI n) text Kc d) (nI S.T) (nI S.p) (nI q') num nk nt w := by
        intro ea
        unfold wj_Mo_read_99 wj_Mo_read_100
        refine b_0 ?_
        unfold wj_Mo_read_130
        refine b_0 ?_
        unfold wj_Mo_read_159
        exact b_0 (out q' _ _ _ _ _ _ ⟨S, by rw [hR, rdF_no hlt e ea]⟩ (by omega))
      unfold wj_Mo_read_48
      refine ⟨fun z => absurd rfl z, fun _ => ?_⟩
      have ew0 : w (0 : Int32).toNatClampNeg = oI a := e0
      have ew1 : w (1 : Int32).toNatClampNeg = oI b := e1
      have ew2 : w (2 : Int32).toNatClampNeg = nI v := e2
      rw [show (60 : Int32) = nI 60 from rfl, nI_leI (by decide) (by omega), ew0, ew1, ew2, nI_l (by omega)]
      refine ⟨fun y => bad (by (first | rw [ap_tank, if_neg (fun z => by omega)] | rw [ap_valve, if_neg (fun z => by omega)] | rw [ap_pump, if_neg (fun z => by omega)] | rw [ap_pipe, if_neg (fun z => by omega)])), fun y => ⟨i3_0, i3_1, i3_2, ?_⟩⟩
      have lf : ∀ (m : Nat) (o : Option Nat), fm S.T S.K S.tk m o → ∀ t, o = some t → t < 10000000 := fun m o h t z => by have := (h t z).1; omega
      refine m_fits hT hN.1 (VS_K hV) (N1_mG2 hN hV) hV.2.1 (fun o1 o2 m f1 f2 f3 m1 m2 ok => b_1 ?_) (fun hz => b_0 (bad ?_))
      · have em := (lN_eq (by omega) (by omega)).mp f3
        have ea1 := oI_un la (lf _ _ ok.2.1) f1
        have ea2 := oI_un lb (lf _ _ ok.2.2) f2
        subst em; subst ea1; subst ea2
        have ea : ap (LR.pipe a b v) S = some (S.pipe a b v) := by (first | rw [ap_tank, if_pos ⟨by omega, m1, m2, ok⟩] | rw [ap_valve, if_pos ⟨by omega, m1, m2, ok⟩] | rw [ap_pump, if_pos ⟨by omega, m1, m2, ok⟩] | rw [ap_pipe, if_pos ⟨by omega, m1, m2, ok⟩])
        have last : ∀ nt2, N1 S.T S.K (nT S.K (nT S.K S.tk a) b) (2 * S.p + 2) nk nt2 → wj_Mo_read_159 (wl_Mo_read_16 (nI n) text Kc d) (nI S.T) (nI S.p) 1 (nI q') num nk nt2 w := by
          intro nt2 hN2
          unfold wj_Mo_read_159
          refine b_1 ?_
          rw [nI_1, nI_1]
          exact ih (q' + 1) (S.pipe a b v) num nk nt2 w (by omega) (by omega) (VS_ap hV ea) hN2 (by rw [hR, rdF_yes hlt e ea])
        have mid : ∀ nt1, N1 S.T S.K (nT S.K S.tk a) (2 * S.p + 1) nk nt1 → wj_Mo_read_130 (wl_Mo_read_16 (nI n) text Kc d) (nI S.T) (nI S.p) 1 (nI q') num nk nt1 w := by
          intro nt1 hN1
          unfold wj_Mo_read_130
          refine b_1 ⟨i3_1, ?_⟩
          rw [ew1]
          cases b with
          | none => exact ⟨fun _ => last nt1 (N1_more hN1 (by omega)), fun z => absurd rfl z⟩
          | some t =>
            have ht := (ok.2.2 t rfl).1
            have it : vp_in (oI (some t)) 40 := vp_in_nI (n := t) (by omega) (by decide)
            have ec : (oI (some t)).toNatClampNeg = t := nI_clamp (by omega)
            refine ⟨fun z => absurd z (q_m1 (j := t) (by omega)), fun _ => ⟨i3_1, it, it, ?_⟩⟩
            rw [ec]
            exact last _ (N1_end hN1 ht)
        unfold wj_Mo_read_100
        refine b_1 ⟨i3_0, ?_⟩
        rw [ew0]
        cases a with
        | none => exact ⟨fun _ => mid nt (N1_more hN (by omega)), fun z => absurd rfl z⟩
        | some t =>
          have ht := (ok.2.1 t rfl).1
          have it : vp_in (oI (some t)) 40 := vp_in_nI (n := t) (by omega) (by decide)
          have ec : (oI (some t)).toNatClampNeg = t := nI_clamp (by omega)
          refine ⟨fun z => absurd z (q_m1 (j := t) (by omega)), fun _ => ⟨i3_0, it, it, ?_⟩⟩
          rw [ec]
          exact mid _ (N1_end hN ht)
      · (first | rw [ap_tank, if_neg (fun z => hz a b v rfl rfl rfl z.2.1 z.2.2.1 z.2.2.2)] | rw [ap_valve, if_neg (fun z => hz a b v rfl rfl rfl z.2.1 z.2.2.1 z.2.2.2)] | rw [ap_pump, if_neg (fun z => hz a b v rfl rfl rfl z.2.1 z.2.2.1 z.2.2.2)] | rw [ap_pipe, if_neg (fun z => hz a b v rfl rfl rfl z.2.1 z.2.2.1 z.2.2.2)])
theorem m_pass2 (h : tG n tx text) {S' : AbS} {Kc : Int32 → Int32 → Int32 → Int64 → Int32 → (Nat → Int32) → (Nat → Int32) → (Nat → Int64) → (Nat → Int64) → (Nat → Int32) → (Nat → Int32) → (Nat → Int32) → (Nat → Int32) → (Nat → Int32) → (Nat → Int32) → (Nat → Int32) → (Nat → Int32) → (Nat → Int32) → (Nat → Int32) → Prop}
    (hg : ∀ q' v kinds taken rooms litres liquids positions sensors ends sizes contents ats ports bends w, MS S' kinds taken rooms litres liquids positions sensors ends sizes contents ats ports bends → Kc (nI S'.T) (nI S'.p) q' v 0 kinds taken rooms litres liquids positions sensors ends sizes contents ats ports bends w) :
    ∀ (d q : Nat) (S : AbS) (num : Int64) (kinds taken : Nat → Int32) (rooms litres : Nat → Int64) (liquids positions sensors ends sizes contents ats ports bends w : Nat → Int32), q ≤ n → n - q < d → VS S → MS S kinds taken rooms litres liquids positions sensors ends sizes contents ats ports bends → rdF (hh n tx) n d q S = (S', none) → wl_Mo_read_315 (nI n) text Kc d (nI S.T) (nI S.p) (nI q) num 0 kinds taken rooms litres liquids positions sensors ends sizes contents ats ports bends w := by
  have hn := h.1
  intro d
  induction d with
  | zero => intro q S num k1 k2 k3 k4 k5 k6 k7 k8 k9 k10 k11 k12 k13 w a1 a2; omega
  | succ d ih =>
    intro q S num k1 k2 k3 k4 k5 k6 k7 k8 k9 k10 k11 k12 k13 w a1 a2 hV hM hR
    have hT := hV.1.1
    have hp := hV.2.1.1
    obtain ⟨g1, g2, g3⟩ := hM
    unfold wl_Mo_read_315
    rw [nI_leI (by omega) (by omega)]
    refine ⟨fun z => ?_, fun z => ?_⟩
    · rw [rdF_end z] at hR
      have e : S = S' := congrArg Prod.fst hR
      subst e
      exact hg _ _ _ _ _ _ _ _ _ _ _ _ _ _ _ _ ⟨g1, g2, g3⟩
    have hlt : q < n := by omega
    have no : ∀ {r : LR} {q' : Nat} {A : Prop}, pL (hh n tx) q = (r, q') → ap r S = none → A := by
      intro r q' A e ea
      rw [rdF_no hlt e ea] at hR
      cases hR
    have yes : ∀ {r : LR} {q' : Nat} {S2 : AbS}, pL (hh n tx) q = (r, q') → q' < n → ap r S = some S2 → ∀ (num : Int64) (kinds taken : Nat → Int32) (rooms litres : Nat → Int64) (liquids positions sensors ends sizes contents ats ports bends w : Nat → Int32), MS S2 kinds taken rooms litres liquids positions sensors ends sizes contents ats ports bends → wl_Mo_read_315 (nI n) text Kc d (nI S2.T) (nI S2.p) (nI q' + 1) num 0 kinds taken rooms litres liquids positions sensors ends sizes contents ats ports bends w := by
      intro r q' S2 e l ea num k1 k2 k3 k4 k5 k6 k7 k8 k9 k10 k11 k12 k13 w hM
      have hq' := pL_ge e
      rw [nI_1]
      rw [rdF_yes hlt e ea] at hR
      exact ih (q' + 1) S2 num k1 k2 k3 k4 k5 k6 k7 k8 k9 k10 k11 k12 k13 w (by omega) (by omega) (VS_ap hV ea) hM hR
    refine m_line h a1 (fun q' v w l e => no e rfl) (fun v q' num w lv l e e0 => ⟨fun z => absurd rfl z, fun _ => ⟨i3_0, ?_⟩⟩) (fun v q' num w lv l e e0 => ⟨fun _ => ⟨fun _ => ⟨fun z => absurd rfl z, fun _ => ⟨i3_0, ?_⟩⟩, fun z => absurd z (by decide)⟩, fun z => absurd z (by decide)⟩) (fun q' num w l e => ⟨fun _ => ⟨fun z => absurd rfl z, fun _ => ?_⟩, fun z => absurd z (by decide)⟩) (fun a b v q' num w la lb lv l e e0 e1 e2 => ⟨fun _ => ⟨fun _ => ⟨fun _ => ⟨i3_0, i3_1, i3_2, ?_⟩, fun z => absurd z (by decide)⟩, fun z => absurd z (by decide)⟩, fun z => absurd z (by decide)⟩)
    · have ew : w (0 : Int32).toNatClampNeg = nI v := e0
      rw [ew, nI_l (by omega)]
      refine m_tank hT (fun j j1 j2 ej t40 ends' hx1 hx2 => ?_) (fun j j1 j2 ej t40 => no e (by (first | rw [ap_tank, if_neg (by omega)] | rw [ap_valve, if_neg (by omega)] | rw [ap_pump, if_neg (by omega)] | rw [ap_pipe, if_neg (by omega)]))) (fun hz => no e (by (first | rw [ap_tank, if_neg (fun z => hz v z.2.1 z.2.2 rfl)] | rw [ap_valve, if_neg (fun z => hz v z.2.1 z.2.2 rfl)] | rw [ap_pump, if_neg (fun z => hz v z.2.1 z.2.2 rfl)] | rw [ap_pipe, if_neg (fun z => hz v z.2.1 z.2.2 rfl)])))
      have ej := (lN_eq (by omega) (by omega)).mp ej
      subst ej
      exact yes e l (S2 := S.thing 10 v) (by (first | rw [ap_tank, if_pos ⟨t40, j1, j2⟩] | rw [ap_valve, if_pos ⟨t40, j1, j2⟩] | rw [ap_pump, if_pos ⟨t40, j1, j2⟩] | rw [ap_pipe, if_pos ⟨t40, j1, j2⟩])) _ _ _ _ _ _ _ _ _ _ _ _ _ _ _ ⟨mG1_thing g1 rfl rfl, mG2_thing g2 hV.2.1 (VS_K hV) hx1 hx2, g3⟩
    · have ew : w (0 : Int32).toNatClampNeg = nI v := e0
      rw [ew]
      refine m_valve hT (fun j j1 ej t40 ends' hx1 hx2 => ?_) (fun j j1 ej t40 => no e (by (first | rw [ap_tank, if_neg (by omega)] | rw [ap_valve, if_neg (by omega)] | rw [ap_pump, if_neg (by omega)] | rw [ap_pipe, if_neg (by omega)]))) (fun hz => no e (by (first | rw [ap_tank, if_neg (fun z => hz v z.2 rfl)] | rw [ap_valve, if_neg (fun z => hz v z.2 rfl)] | rw [ap_pump, if_neg (fun z => hz v z.2 rfl)] | rw [ap_pipe, if_neg (fun z => hz v z.2 rfl)])))
      have ej := (nI_eq (by omega) (by omega)).mp ej
      subst ej
      exact yes e l (S2 := S.thing v 0) (by (first | rw [ap_tank, if_pos ⟨t40, j1⟩] | rw [ap_valve, if_pos ⟨t40, j1⟩] | rw [ap_pump, if_pos ⟨t40, j1⟩] | rw [ap_pipe, if_pos ⟨t40, j1⟩])) _ _ _ _ _ _ _ _ _ _ _ _ _ _ _ ⟨mG1_thing g1 rfl (by rw [rk_of j1]), mG2_thing g2 hV.2.1 (VS_K hV) hx1 hx2, g3⟩
    · refine m_pump hT (fun t40 ends' hx1 hx2 => ?_) (fun t40 => no e (by (first | rw [ap_tank, if_neg (by omega)] | rw [ap_valve, if_neg (by omega)] | rw [ap_pump, if_neg (by omega)] | rw [ap_pipe, if_neg (by omega)])))
      exact yes e l (S2 := S.thing 9 0) (by (first | rw [ap_tank, if_pos t40] | rw [ap_valve, if_pos t40] | rw [ap_pump, if_pos t40] | rw [ap_pipe, if_pos t40])) _ _ _ _ _ _ _ _ _ _ _ _ _ _ _ ⟨mG1_thing g1 rfl rfl, mG2_thing g2 hV.2.1 (VS_K hV) hx1 hx2, g3⟩
    · have ew0 : w (0 : Int32).toNatClampNeg = oI a := e0
      have ew1 : w (1 : Int32).toNatClampNeg = oI b := e1
      have ew2 : w (2 : Int32).toNatClampNeg = nI v := e2
      rw [ew0, ew1, ew2, nI_l (by omega)]
      have lf : ∀ (m : Nat) (o : Option Nat), fm S.T S.K S.tk m o → ∀ t, o = some t → t < 10000000 := fun m o h t z => by have := (h t z).1; omega
      refine m_pipe hT (fun t ht => (g1 t ht).1) (VS_K hV) g2 hV.2.1 (fun o1 o2 m f1 f2 f3 m1 m2 ok p60 b1 b2 b3 b4 b5 c' hc1 hc2 gg => ?_) (fun o1 o2 m f1 f2 f3 m1 m2 ok p60 => no e (by (first | rw [ap_tank, if_neg (fun z => by omega)] | rw [ap_valve, if_neg (fun z => by omega)] | rw [ap_pump, if_neg (fun z => by omega)] | rw [ap_pipe, if_neg (fun z => by omega)]))) (fun hz => no e (by (first | rw [ap_tank, if_neg (fun z => hz a b v rfl rfl rfl z.2.1 z.2.2.1 z.2.2.2)] | rw [ap_valve, if_neg (fun z => hz a b v rfl rfl rfl z.2.1 z.2.2.1 z.2.2.2)] | rw [ap_pump, if_neg (fun z => hz a b v rfl rfl rfl z.2.1 z.2.2.1 z.2.2.2)] | rw [ap_pipe, if_neg (fun z => hz a b v rfl rfl rfl z.2.1 z.2.2.1 z.2.2.2)])))
      have em := (lN_eq (by omega) (by omega)).mp f3
      have ea1 := oI_un la (lf _ _ ok.2.1) f1
      have ea2 := oI_un lb (lf _ _ ok.2.2) f2
      subst em; subst ea1; subst ea2
      exact yes e l (S2 := S.pipe a b v) (by (first | rw [ap_tank, if_pos ⟨p60, m1, m2, ok⟩] | rw [ap_valve, if_pos ⟨p60, m1, m2, ok⟩] | rw [ap_pump, if_pos ⟨p60, m1, m2, ok⟩] | rw [ap_pipe, if_pos ⟨p60, m1, m2, ok⟩])) _ _ _ _ _ _ _ _ _ _ _ _ _ _ _ ⟨g1, gg, mG3_pipe g3 hV.2.2 hc1 hc2⟩
theorem m_read (h : tG n tx text) {things pipes place thr : Int32} {number : Int64} {kinds taken : Nat → Int32} {rooms litres : Nat → Int64} {liquids positions sensors ends sizes contents ats ports bends nk nt w : Nat → Int32}
    {P : Int32 → Int32 → Int32 → Int32 → Int32 → Int64 → Int32 → (Nat → Int32) → (Nat → Int32) → (Nat → Int64) → (Nat → Int64) → (Nat → Int32) → (Nat → Int32) → (Nat → Int32) → (Nat → Int32) → (Nat → Int32) → (Nat → Int32) → (Nat → Int32) → (Nat → Int32) → (Nat → Int32) → (Nat → Int32) → (Nat → Int32) → (Nat → Int32) → Prop}
    (hg : ∀ S', rdF (hh n tx) n 2001 0 S0 = (S', none) → ∀ q' v kinds taken rooms litres liquids positions sensors ends sizes contents ats ports bends nk nt w, MS S' kinds taken rooms litres liquids positions sensors ends sizes contents ats ports bends → P (nI S'.T) (nI S'.T) (nI S'.p) 0 q' v 0 kinds taken rooms litres liquids positions sensors ends sizes contents ats ports bends nk nt w)
    (hb : ∀ S' q', rdF (hh n tx) n 2001 0 S0 = (S', some q') → q' ≤ n → ∀ v nk nt w, P (-1 - nI q') things pipes 0 (nI q') v 0 kinds taken rooms litres liquids positions sensors ends sizes contents ats ports bends nk nt w) :
    wp_Mo_read things pipes (nI n) place number thr kinds taken rooms litres liquids positions sensors ends sizes contents ats ports bends text nk nt w P := by
  have hn := h.1
  unfold wp_Mo_read
  refine ⟨2001, ?_⟩
  refine m_pass1 h (R := rdF (hh n tx) n 2001 0 S0) (fun S' e x1 x2 q' v nk nt w => ?_) (fun S' q' e l x1 x2 v nk nt w => ?_) 2001 0 S0 number nk nt w (by omega) (by omega) VS_0 ⟨fun t ht => absurd ht (Nat.not_lt_zero _), fun t ht => absurd ht (Nat.not_lt_zero _), fun t ht => absurd ht (Nat.not_lt_zero _)⟩ rfl
  · unfold wk_Mo_read_284_16 wj_Mo_read_284
    refine b_1n ⟨2001, ?_⟩
    refine m_pass2 h (S' := S') (fun q' v k1 k2 k3 k4 k5 k6 k7 k8 k9 k10 k11 k12 k13 w hM => ?_) 2001 0 S0 v kinds taken rooms litres liquids positions sensors ends sizes contents ats ports bends w (by omega) (by omega) VS_0 ⟨fun t ht => absurd ht (Nat.not_lt_zero _), ⟨fun t ht => absurd ht (Nat.not_lt_zero _), fun t ht => absurd ht (Nat.not_lt_zero _), fun e he => absurd he (Nat.not_lt_zero _)⟩, fun q hq => absurd hq (Nat.not_lt_zero _), fun q i hq => absurd hq (Nat.not_lt_zero _)⟩ e
    unfold wk_Mo_read_421_315
    exact hg S' e _ _ _ _ _ _ _ _ _ _ _ _ _ _ _ _ _ _ hM
  · unfold wk_Mo_read_284_16 wj_Mo_read_284
    exact b_0n (hb S' q' e l v nk nt w)
end MRd
