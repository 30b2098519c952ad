/-! LEVEL 2, THE END: both sides of every call, side by side -/
section J
variable {S : AbS} {kind position told capacity amount liquid portsTaken endAtPort pipeLitres thingAtEnd portAtEnd bendAtEnd : Nat → Int32} {w : Nat → Int64}
variable {kinds taken : Nat → Int32} {rooms litres : Nat → Int64} {liquids positions sensors ends sizes contents ats ports bends : Nat → Int32} {thr : Int32}
theorem J_tank (hV : VS S) (hC : CS S kind position told capacity amount liquid portsTaken endAtPort pipeLitres thingAtEnd portAtEnd bendAtEnd w) (hM : MS S kinds taken rooms litres liquids positions sensors ends sizes contents ats ports bends) (x : Int64) :
    wp_PG_tank (nI S.T) kind position told capacity amount liquid portsTaken x (fun r a0 a1 a2 a3 a4 a5 a6 a7 => wp_Mo_tank (nI S.T) thr kinds taken rooms litres liquids positions sensors ends x (fun r' b0 _ b1 b2 b3 b4 b5 b6 b7 b8 => r = r' ∧ ∃ S', VS S' ∧ a0 = nI S'.T ∧ b0 = nI S'.T ∧ nI S.p = nI S'.p ∧ CS S' a1 a2 a3 a4 a5 a6 a7 endAtPort pipeLitres thingAtEnd portAtEnd bendAtEnd w ∧ MS S' b1 b2 b3 b4 b5 b6 b7 b8 sizes contents ats ports bends)) := by
  have hT := hV.1.1
  obtain ⟨c1, c2, c3⟩ := hC
  obtain ⟨g1, g2, g3⟩ := hM
  unfold wp_PG_tank
  refine c_tank hT (fun j j1 j2 e t => ?_) (fun j j1 j2 e t => ?_) (fun hn => ?_)
  · subst e
    refine m_tank hT (fun j' k1 k2 e' t' ends' h1 h2 => ?_) (fun j' k1 k2 e' t' => by omega) (fun hn => absurd rfl (hn j j1 j2))
    have ej := (lN_eq (by omega) (by omega)).mp e'
    subst ej
    exact ⟨rfl, S.thing 10 j, VS_thing hV t (by decide) j2, rfl, rfl, rfl, ⟨cG1_thing c1, cG2_thing c2 hV.2.1, c3⟩, mG1_thing g1 rfl rfl, mG2_thing g2 hV.2.1 (VS_K hV) h1 h2, g3⟩
  · subst e
    exact m_tank hT (fun j' k1 k2 e' t' ends' h1 h2 => by omega) (fun j' k1 k2 e' t' => ⟨rfl, S, hV, rfl, rfl, rfl, ⟨c1, c2, c3⟩, g1, g2, g3⟩) (fun hn => absurd rfl (hn j j1 j2))
  · exact m_tank hT (fun j k1 k2 e t' ends' h1 h2 => absurd e (hn j k1 k2)) (fun j k1 k2 e t' => absurd e (hn j k1 k2)) (fun _ => ⟨rfl, S, hV, rfl, rfl, rfl, ⟨c1, c2, c3⟩, g1, g2, g3⟩)
theorem J_pump (hV : VS S) (hC : CS S kind position told capacity amount liquid portsTaken endAtPort pipeLitres thingAtEnd portAtEnd bendAtEnd w) (hM : MS S kinds taken rooms litres liquids positions sensors ends sizes contents ats ports bends) :
    wp_PG_pump (nI S.T) kind position told capacity amount liquid portsTaken (fun r a0 a1 a2 a3 a4 a5 a6 a7 => wp_Mo_pump (nI S.T) thr kinds taken rooms litres liquids positions sensors ends (fun r' b0 _ b1 b2 b3 b4 b5 b6 b7 b8 => r = r' ∧ ∃ S', VS S' ∧ a0 = nI S'.T ∧ b0 = nI S'.T ∧ nI S.p = nI S'.p ∧ CS S' a1 a2 a3 a4 a5 a6 a7 endAtPort pipeLitres thingAtEnd portAtEnd bendAtEnd w ∧ MS S' b1 b2 b3 b4 b5 b6 b7 b8 sizes contents ats ports bends)) := by
  have hT := hV.1.1
  obtain ⟨c1, c2, c3⟩ := hC
  obtain ⟨g1, g2, g3⟩ := hM
  unfold wp_PG_pump
  refine c_pump hT (fun t => ?_) (fun t => ?_)
  · exact m_pump hT (fun t' ends' h1 h2 => ⟨rfl, S.thing 9 0, VS_thing hV t (by decide) (by decide), rfl, rfl, rfl, ⟨cG1_thing c1, cG2_thing c2 hV.2.1, c3⟩, mG1_thing g1 rfl rfl, mG2_thing g2 hV.2.1 (VS_K hV) h1 h2, g3⟩) (fun t' => by omega)
  · exact m_pump hT (fun t' ends' h1 h2 => by omega) (fun t' => ⟨rfl, S, hV, rfl, rfl, rfl, ⟨c1, c2, c3⟩, g1, g2, g3⟩)
theorem J_valve (hV : VS S) (hC : CS S kind position told capacity amount liquid portsTaken endAtPort pipeLitres thingAtEnd portAtEnd bendAtEnd w) (hM : MS S kinds taken rooms litres liquids positions sensors ends sizes contents ats ports bends) (x : Int32) :
    wp_PG_valve (nI S.T) kind position told capacity amount liquid portsTaken x (fun r a0 a1 a2 a3 a4 a5 a6 a7 => wp_Mo_valve (nI S.T) thr kinds taken rooms litres liquids positions sensors ends x (fun r' b0 _ b1 b2 b3 b4 b5 b6 b7 b8 => r = r' ∧ ∃ S', VS S' ∧ a0 = nI S'.T ∧ b0 = nI S'.T ∧ nI S.p = nI S'.p ∧ CS S' a1 a2 a3 a4 a5 a6 a7 endAtPort pipeLitres thingAtEnd portAtEnd bendAtEnd w ∧ MS S' b1 b2 b3 b4 b5 b6 b7 b8 sizes contents ats ports bends)) := by
  have hT := hV.1.1
  obtain ⟨c1, c2, c3⟩ := hC
  obtain ⟨g1, g2, g3⟩ := hM
  unfold wp_PG_valve
  refine c_valve hT (fun j j1 e t => ?_) (fun j j1 e t => ?_) (fun hn => ?_)
  · subst e
    refine m_valve hT (fun j' k1 e' t' ends' h1 h2 => ?_) (fun j' k1 e' t' => by omega) (fun hn => absurd rfl (hn j j1))
    have ej := (nI_eq (by omega) (by omega)).mp e'
    subst ej
    exact ⟨rfl, S.thing j 0, VS_thing hV t (by omega) (by decide), rfl, rfl, rfl, ⟨cG1_thing c1, cG2_thing c2 hV.2.1, c3⟩, mG1_thing g1 rfl (by rw [rk_of j1]), mG2_thing g2 hV.2.1 (VS_K hV) h1 h2, g3⟩
  · subst e
    exact m_valve hT (fun j' k1 e' t' ends' h1 h2 => by omega) (fun j' k1 e' t' => ⟨rfl, S, hV, rfl, rfl, rfl, ⟨c1, c2, c3⟩, g1, g2, g3⟩) (fun hn => absurd rfl (hn j j1))
  · exact m_valve hT (fun j k1 e t' ends' h1 h2 => absurd e (hn j k1)) (fun j k1 e t' => absurd e (hn j k1)) (fun _ => ⟨rfl, S, hV, rfl, rfl, rfl, ⟨c1, c2, c3⟩, g1, g2, g3⟩)
theorem J_pipe (hV : VS S) (hC : CS S kind position told capacity amount liquid portsTaken endAtPort pipeLitres thingAtEnd portAtEnd bendAtEnd w) (hM : MS S kinds taken rooms litres liquids positions sensors ends sizes contents ats ports bends) (x1 x2 : Int32) (x3 : Int64) :
    wp_PG_pipe (nI S.T) (nI S.p) kind portsTaken endAtPort pipeLitres thingAtEnd portAtEnd bendAtEnd x1 x2 x3 (fun r a0 a1 a2 a3 a4 a5 a6 => wp_Mo_pipe (nI S.T) (nI S.p) thr kinds taken ends sizes contents ats ports bends x1 x2 x3 (fun r' b0 _ b1 b2 b3 b4 b5 b6 b7 => r = r' ∧ ∃ S', VS S' ∧ nI S.T = nI S'.T ∧ a0 = nI S'.p ∧ b0 = nI S'.p ∧ CS S' kind position told capacity amount liquid a1 a2 a3 a4 a5 a6 w ∧ MS S' kinds b1 rooms litres liquids positions sensors b2 b3 b4 b5 b6 b7)) := by
  have hT := hV.1.1
  have hp := hV.2.1.1
  obtain ⟨c1, c2, c3⟩ := hC
  obtain ⟨g1, g2, g3⟩ := hM
  have lf : ∀ (m : Nat) (o : Option Nat), fm S.T S.K S.tk m o → ∀ t, o = some t → t < 10000000 := fun m o h t z => by have := (h t z).1; omega
  refine c_pipe hT (fun t ht => (c1 t ht).1) (VS_K hV) c2 hV.2.1 (fun o1 o2 m e1 e2 e3 m1 m2 ok p60 a1 a2 a3 a4 a5 gg => ?_) (fun o1 o2 m e1 e2 e3 m1 m2 ok p60 => ?_) (fun hn => ?_)
  · refine m_pipe hT (fun t ht => (g1 t ht).1) (VS_K hV) g2 hV.2.1 (fun o1' o2' m' f1 f2 f3 n1 n2 ok' p60' b1 b2 b3 b4 b5 c' hc1 hc2 gg' => ?_) (fun o1' o2' m' f1 f2 f3 n1 n2 ok' p60' => by omega) (fun hn => absurd ok (hn o1 o2 m e1 e2 e3 m1 m2))
    have em := (lN_eq (a := m) (b := m') (by omega) (by omega)).mp (by rw [← e3, ← f3])
    have ea1 := oI_un (lf _ _ ok.2.1) (lf _ _ ok'.2.1) (by rw [← e1, ← f1])
    have ea2 := oI_un (lf _ _ ok.2.2) (lf _ _ ok'.2.2) (by rw [← e2, ← f2])
    subst em; subst ea1; subst ea2
    exact ⟨rfl, S.pipe o1 o2 m, VS_pipe hV p60 ok m1 m2, rfl, rfl, rfl, ⟨c1, gg, cG3_pipe c3⟩, g1, gg', mG3_pipe g3 hV.2.2 hc1 hc2⟩
  · exact m_pipe hT (fun t ht => (g1 t ht).1) (VS_K hV) g2 hV.2.1 (fun o1' o2' m' f1 f2 f3 n1 n2 ok' p60' b1 b2 b3 b4 b5 c' hc1 hc2 gg' => by omega) (fun o1' o2' m' f1 f2 f3 n1 n2 ok' p60' => ⟨rfl, S, hV, rfl, rfl, rfl, ⟨c1, c2, c3⟩, g1, g2, g3⟩) (fun hn => absurd ok (hn o1 o2 m e1 e2 e3 m1 m2))
  · exact m_pipe hT (fun t ht => (g1 t ht).1) (VS_K hV) g2 hV.2.1 (fun o1' o2' m' f1 f2 f3 n1 n2 ok' p60' b1 b2 b3 b4 b5 c' hc1 hc2 gg' => absurd ok' (hn o1' o2' m' f1 f2 f3 n1 n2)) (fun o1' o2' m' f1 f2 f3 n1 n2 ok' p60' => absurd ok' (hn o1' o2' m' f1 f2 f3 n1 n2)) (fun _ => ⟨rfl, S, hV, rfl, rfl, rfl, ⟨c1, c2, c3⟩, g1, g2, g3⟩)
/-- the plant with other bends -/
def AbS.bent (S : AbS) (bd : Nat → Option Nat) : AbS := mkS S.T S.p S.K S.pos S.cap S.am S.lq S.tk S.E S.po S.sz S.ct S.tl S.th bd
theorem J_bend (hV : VS S) (hC : CS S kind position told capacity amount liquid portsTaken endAtPort pipeLitres thingAtEnd portAtEnd bendAtEnd w) (hM : MS S kinds taken rooms litres liquids positions sensors ends sizes contents ats ports bends) (x1 x2 : Int32) :
    wp_PG_bend (nI S.p) thingAtEnd bendAtEnd x1 x2 (fun r a1 => wp_Mo_bend (nI S.p) thr ats bends x1 x2 (fun r' _ b1 => r = r' ∧ ∃ S', VS S' ∧ nI S.T = nI S'.T ∧ nI S.p = nI S'.p ∧ CS S' kind position told capacity amount liquid portsTaken endAtPort pipeLitres thingAtEnd portAtEnd a1 w ∧ MS S' kinds taken rooms litres liquids positions sensors ends sizes contents ats ports b1)) := by
  have hT := hV.1.1
  have hp := hV.2.1.1
  obtain ⟨c1, c2, c3⟩ := hC
  obtain ⟨g1, g2, g3⟩ := hM
  refine c_bend hV.2.1 hT (fun e he => (c2.2 e he).1) (fun e he => (c2.2 e he).2.1) (fun a b ha hb hne e1 e2 arr harr => ?_) (fun hn => ?_)
  · refine m_bend hV.2.1 hT (fun e he => (g2.2.2 e he).1) (fun e he => (g2.2.2 e he).2.1) (fun a' b' ha' hb' hne' f1 f2 arr' harr' => ?_) (fun hn => absurd e2 (hn a b ha hb hne e1))
    have ea := (nI_eq (a := a) (b := a') (by omega) (by omega)).mp (by rw [← e1, ← f1])
    have eb := (nI_eq (a := b) (b := b') (by omega) (by omega)).mp (by rw [← e2, ← f2])
    subst ea; subst eb
    exact ⟨rfl, S.bent (bn S.th S.bd a b).2, ⟨hV.1, bn_vG2 hV.2.1 ha hb hne, hV.2.2⟩, rfl, rfl, ⟨c1, ⟨c2.1, fun e he => ⟨(c2.2 e he).1, harr e he, (c2.2 e he).2.2⟩⟩, c3⟩, g1, ⟨g2.1, g2.2.1, fun e he => ⟨(g2.2.2 e he).1, harr' e he, (g2.2.2 e he).2.2⟩⟩, g3⟩
  · exact m_bend hV.2.1 hT (fun e he => (g2.2.2 e he).1) (fun e he => (g2.2.2 e he).2.1) (fun a' b' ha' hb' hne' f1 f2 arr' harr' => absurd f2 (hn a' b' ha' hb' hne' f1)) (fun _ => ⟨rfl, S, hV, rfl, rfl, ⟨c1, c2, c3⟩, g1, g2, g3⟩)
/-- the plant with another position, another told position -/
def AbS.put (S : AbS) (t q : Nat) : AbS := mkS S.T S.p S.K (va_up S.pos t q) S.cap S.am S.lq S.tk S.E S.po S.sz S.ct S.tl S.th S.bd
def AbS.tell (S : AbS) (t : Nat) (x : Int32) : AbS := mkS S.T S.p S.K S.pos S.cap S.am S.lq S.tk S.E S.po S.sz S.ct (va_up S.tl t x) S.th S.bd
def AbS.tanks (S : AbS) (am lq ct : Nat → Nat) : AbS := mkS S.T S.p S.K S.pos S.cap am lq S.tk S.E S.po S.sz ct S.tl S.th S.bd
theorem J_sensor (hV : VS S) (hC : CS S kind position told capacity amount liquid portsTaken endAtPort pipeLitres thingAtEnd portAtEnd bendAtEnd w) (hM : MS S kinds taken rooms litres liquids positions sensors ends sizes contents ats ports bends) (x1 x2 : Int32) :
    wp_PG_sensor (nI S.T) kind told x1 x2 (fun r a1 => wp_Mo_sensor (nI S.T) thr kinds sensors x1 x2 (fun r' _ b1 => r = r' ∧ ∃ S', VS S' ∧ nI S.T = nI S'.T ∧ nI S.p = nI S'.p ∧ CS S' kind position a1 capacity amount liquid portsTaken endAtPort pipeLitres thingAtEnd portAtEnd bendAtEnd w ∧ MS S' kinds taken rooms litres liquids positions b1 ends sizes contents ats ports bends)) := by
  have hT := hV.1.1
  obtain ⟨c1, c2, c3⟩ := hC
  obtain ⟨g1, g2, g3⟩ := hM
  refine c_sensor hT (fun t ht => (c1 t ht).1) (VS_K hV) (fun t q ht k8 hq e1 e2 => ?_) (fun hn => ?_)
  · refine m_sensor hT (fun t ht => (g1 t ht).1) (VS_K hV) (fun t' q' ht' k8' hq' f1 f2 => ?_) (fun hn => absurd e2 (hn t q ht k8 hq e1))
    have et := (nI_eq (a := t) (b := t') (by omega) (by omega)).mp (by rw [← e1, ← f1])
    subst et
    exact ⟨rfl, S.tell t x2, ⟨hV.1, hV.2.1, hV.2.2⟩, rfl, rfl, ⟨cG1_told c1, c2, c3⟩, mG1_told g1, g2, g3⟩
  · exact m_sensor hT (fun t ht => (g1 t ht).1) (VS_K hV) (fun t' q' ht' k8' hq' f1 f2 => absurd f2 (hn t' q' ht' k8' hq' f1)) (fun _ => ⟨rfl, S, hV, rfl, rfl, ⟨c1, c2, c3⟩, g1, g2, g3⟩)
theorem J_unsure (hV : VS S) (hC : CS S kind position told capacity amount liquid portsTaken endAtPort pipeLitres thingAtEnd portAtEnd bendAtEnd w) (hM : MS S kinds taken rooms litres liquids positions sensors ends sizes contents ats ports bends) (x1 : Int32) :
    wp_PG_unsure (nI S.T) kind position told x1 (fun r => wp_Mo_unsure (nI S.T) thr kinds positions sensors x1 (fun r' _ => r = r')) := by
  have hT := hV.1.1
  obtain ⟨c1, c2, c3⟩ := hC
  obtain ⟨g1, g2, g3⟩ := hM
  refine c_unsure hT (fun t ht => (c1 t ht).1) (VS_K hV) (fun t ht => (c1 t ht).2.1) (fun t ht => (c1 t ht).2.2.1) (fun t ht k8 e1 n1 n2 => ?_) (fun hn => ?_)
  · exact m_unsure hT (fun t ht => (g1 t ht).1) (VS_K hV) (fun t ht => (g1 t ht).2.1) (fun t ht => (g1 t ht).2.2.1) (fun _ _ _ _ _ _ => rfl) (fun hn => absurd (hn t ht k8 e1 n1) n2)
  · exact m_unsure hT (fun t ht => (g1 t ht).1) (VS_K hV) (fun t ht => (g1 t ht).2.1) (fun t ht => (g1 t ht).2.2.1) (fun t ht k8 e1 n1 n2 => absurd (hn t ht k8 e1 n1) n2) (fun _ => rfl)
theorem J_content (hV : VS S) (hC : CS S kind position told capacity amount liquid portsTaken endAtPort pipeLitres thingAtEnd portAtEnd bendAtEnd w) (hM : MS S kinds taken rooms litres liquids positions sensors ends sizes contents ats ports bends) (x1 : Int32) :
    wp_PG_content (nI S.p) pipeLitres w x1 (fun r => wp_Mo_content (nI S.p) thr sizes contents x1 (fun r' _ => r = r')) := by
  have hp := hV.2.1.1
  refine c_content hp hV.2.2 hC.2.2 (fun q hq e => ?_) (fun hn => ?_)
  · refine m_content hp hV.2.2 hM.2.2 (fun q' hq' e' => ?_) (fun hn => absurd e (hn q hq))
    have eq := (nI_eq (a := q) (b := q') (by omega) (by omega)).mp (by rw [← e, ← e'])
    rw [eq]
  · exact m_content hp hV.2.2 hM.2.2 (fun q' hq' e' => absurd e' (hn q' hq')) (fun _ => rfl)
theorem J_fill (hV : VS S) (hC : CS S kind position told capacity amount liquid portsTaken endAtPort pipeLitres thingAtEnd portAtEnd bendAtEnd w) (hM : MS S kinds taken rooms litres liquids positions sensors ends sizes contents ats ports bends) (x1 x2 : Int32) (x3 : Int64) :
    wp_PG_fill (nI S.T) kind capacity amount liquid x1 x2 x3 (fun r a1 a2 => wp_Mo_fill (nI S.T) thr kinds rooms litres liquids x1 x2 x3 (fun r' _ b1 b2 => r = r' ∧ ∃ S', VS S' ∧ nI S.T = nI S'.T ∧ nI S.p = nI S'.p ∧ CS S' kind position told capacity a1 a2 portsTaken endAtPort pipeLitres thingAtEnd portAtEnd bendAtEnd w ∧ MS S' kinds taken rooms b1 b2 positions sensors ends sizes contents ats ports bends)) := by
  have hT := hV.1.1
  obtain ⟨c1, c2, c3⟩ := hC
  obtain ⟨g1, g2, g3⟩ := hM
  have v1 : ∀ t, t < S.T → S.cap t ≤ 100000 := fun t ht => (hV.1.2 t ht).2.2.1
  have v2 : ∀ t, t < S.T → S.am t ≤ S.cap t := fun t ht => (hV.1.2 t ht).2.2.2.1
  have v3 : ∀ t, t < S.T → S.lq t ≤ 15 := fun t ht => (hV.1.2 t ht).2.2.2.2.1
  refine c_fill hT (fun t ht => (c1 t ht).1) (VS_K hV) (fun t ht => (c1 t ht).2.2.2.1) (fun t ht => (c1 t ht).2.2.2.2.1) (fun t ht => (c1 t ht).2.2.2.2.2) v1 v2 v3 (fun t q n ht k10 q1 q2 n1 n2 hf e1 e2 e3 => ?_) (fun hn => ?_)
  · refine m_fill hT (fun t ht => (g1 t ht).1) (VS_K hV) (fun t ht => (g1 t ht).2.2.2.1) (fun t ht => (g1 t ht).2.2.2.2.1) (fun t ht => (g1 t ht).2.2.2.2.2) v1 v2 v3 (fun t' q' n' ht' k10' q1' q2' n1' n2' hf' f1 f2 f3 => ?_) (fun hn => absurd e3 (hn t q n ht k10 q1 q2 n1 n2 hf e1 e2))
    have et := (nI_eq (a := t) (b := t') (by omega) (by omega)).mp (by rw [← e1, ← f1])
    have eq := (nI_eq (a := q) (b := q') (by omega) (by omega)).mp (by rw [← e2, ← f2])
    have en := (lN_eq (a := n) (b := n') (by omega) (by omega)).mp (by rw [← e3, ← f3])
    subst et; subst eq; subst en
    have hm := mix_pos (a := S.am t) (b := S.lq t) (q := q) (by omega)
    exact ⟨rfl, S.tanks (va_up S.am t (S.am t + n)) (va_up S.lq t (mix (S.am t) (S.lq t) q)) S.ct, ⟨vG1_pour hV.1 hf (mix_le (by omega)) (by omega), hV.2.1, hV.2.2⟩, rfl, rfl, ⟨cG1_pour c1, c2, c3⟩, mG1_pour g1, g2, g3⟩
  · exact m_fill hT (fun t ht => (g1 t ht).1) (VS_K hV) (fun t ht => (g1 t ht).2.2.2.1) (fun t ht => (g1 t ht).2.2.2.2.1) (fun t ht => (g1 t ht).2.2.2.2.2) v1 v2 v3 (fun t' q' n' ht' k10' q1' q2' n1' n2' hf' f1 f2 f3 => absurd f3 (hn t' q' n' ht' k10' q1' q2' n1' n2' hf' f1 f2)) (fun _ => ⟨rfl, S, hV, rfl, rfl, ⟨c1, c2, c3⟩, g1, g2, g3⟩)
variable {fc size : Int32} {found previous lastE : Nat → Int32} {row : Nat → Int64} {wide : Int32} {left way line : Nat → Int32}
theorem J_move (hV : VS S) (hC : CS S kind position told capacity amount liquid portsTaken endAtPort pipeLitres thingAtEnd portAtEnd bendAtEnd w) (hM : MS S kinds taken rooms litres liquids positions sensors ends sizes contents ats ports bends) (x1 x2 : Int32) (x3 : Int64) :
    wp_PG_move (nI S.T) (nI S.p) kind position capacity amount liquid portsTaken endAtPort pipeLitres thingAtEnd portAtEnd bendAtEnd w fc found previous lastE size row x1 x2 x3 (fun r a1 a2 a3 _ _ _ _ _ _ => wp_Mo_move (nI S.T) (nI S.p) wide thr kinds rooms litres liquids positions ends sizes contents ats ports bends left way line x1 x2 x3 (fun r' _ _ b1 b2 b3 _ _ _ => r = r' ∧ ∃ S', VS S' ∧ nI S.T = nI S'.T ∧ nI S.p = nI S'.p ∧ CS S' kind position told capacity a1 a2 portsTaken endAtPort pipeLitres thingAtEnd portAtEnd bendAtEnd a3 ∧ MS S' kinds taken rooms b1 b2 positions sensors ends sizes b3 ats ports bends)) := by
  have hT := hV.1.1
  obtain ⟨c1, c2, c3⟩ := hC
  obtain ⟨g1, g2, g3⟩ := hM
  refine c_move hV.1 c1 hV.2.1 c2 hV.2.2 c3 (fun s t n hG a1 a2 a3 _ _ _ _ _ _ v3 d3 d1 => ?_) (fun hn _ _ _ _ => ?_)
  · refine m_move hV.1 g1 hV.2.1 g2 hV.2.2 g3 (fun s' t' n' hG' _ b1 b2 b3 _ _ _ e3 e1 => ?_) (fun hn _ _ _ => absurd hG (hn s t n))
    obtain ⟨z1, z2, -, -, z5, z6, z7, z8, z9, z10, -⟩ := hG
    obtain ⟨y1, y2, -, -, -, y6, y7, y8, y9, y10, -⟩ := hG'
    have es := (nI_eq (a := s) (b := s') (by omega) (by omega)).mp (by rw [← z8, ← y8])
    have et := (nI_eq (a := t) (b := t') (by omega) (by omega)).mp (by rw [← z9, ← y9])
    have en := (lN_eq (a := n) (b := n') (by omega) (by omega)).mp (by rw [← z10, ← y10])
    subst es; subst et; subst en
    exact ⟨rfl, S.tanks (mvAm S.am s t (mvN S.p S.K S.pos S.tk S.E S.po S.th S.bd S.sz S.ct S.cap S.am S.lq s t n)) (mvLq S.am S.lq s t (mvN S.p S.K S.pos S.tk S.E S.po S.th S.bd S.sz S.ct S.cap S.am S.lq s t n)) (mvCt S.p S.K S.pos S.tk S.E S.po S.th S.bd S.sz S.ct S.cap S.am S.lq s t n), ⟨vG1_move hV.1 hV.2.2 z1 z2 z5, hV.2.1, v3⟩, rfl, rfl, ⟨d1, c2, d3⟩, e1, g2, e3⟩
  · exact m_move hV.1 g1 hV.2.1 g2 hV.2.2 g3 (fun s' t' n' hG' _ b1 b2 b3 _ _ _ e3 e1 => absurd hG' (hn s' t' n')) (fun _ _ _ _ => ⟨rfl, S, hV, rfl, rfl, ⟨c1, c2, c3⟩, g1, g2, g3⟩)
theorem J_joined (hV : VS S) (hC : CS S kind position told capacity amount liquid portsTaken endAtPort pipeLitres thingAtEnd portAtEnd bendAtEnd w) (hM : MS S kinds taken rooms litres liquids positions sensors ends sizes contents ats ports bends) (x1 x2 : Int32) :
    wp_PG_joined (nI S.T) (nI S.p) kind position portsTaken endAtPort thingAtEnd portAtEnd bendAtEnd fc found previous lastE x1 x2 (fun r _ _ _ _ => wp_Mo_joined (nI S.T) (nI S.p) wide thr kinds positions ends ats ports bends left way x1 x2 (fun r' _ _ _ _ => r = r')) := by
  have hT := hV.1.1
  obtain ⟨c1, c2, c3⟩ := hC
  obtain ⟨g1, g2, g3⟩ := hM
  exact s_joined hT (fun t ht => (c1 t ht).1) (VS_K hV) (fun t ht => (c1 t ht).2.1) (VS_q hV) c2 hV.2.1 (fun _ _ _ _ => m_joined hT (fun t ht => (g1 t ht).1) (VS_K hV) (fun t ht => (g1 t ht).2.1) (VS_q hV) g2 hV.2.1 (fun _ _ _ => rfl))
variable {n : Nat} {tx : Nat → Nat} {bytes text : Nat → Int32} {place number wish fnd : Int32}
theorem tG_add (h : tG n tx bytes) (hn : n < 2000) {u : Nat} (u1 : 1 ≤ u) (u2 : u ≤ 127) : tG (n + 1) (va_up tx n u) (upd bytes n (nI u)) := by
  refine ⟨by omega, fun i hi => ?_⟩
  by_cases q : i = n
  · rw [q, va_up_self, pk_us]; exact ⟨rfl, u1, u2⟩
  · rw [va_up_ne _ _ q, pk_un q]; exact h.2 i (by omega)
theorem J_unit (h : tG n tx bytes) (h' : tG n tx text) (x1 : Int32) :
    wp_PG_unit (nI n) bytes x1 (fun r a0 a1 => wp_Mo_unit (nI n) thr text x1 (fun r' b0 _ b1 => r = r' ∧ ∃ n' tx', a0 = nI n' ∧ b0 = nI n' ∧ tG n' tx' a1 ∧ tG n' tx' b1)) := by
  have hn := h.1
  refine c_unit hn (fun u u1 u2 e l => ?_) (fun hz => ?_)
  · refine m_unit hn (fun u' u1' u2' e' l' => ?_) (fun hz => absurd l (hz u u1 u2 e))
    have eu := (nI_eq (a := u) (b := u') (by omega) (by omega)).mp (by rw [← e, ← e'])
    subst eu
    exact ⟨rfl, n + 1, _, rfl, rfl, tG_add h l u1 u2, tG_add h' l u1 u2⟩
  · exact m_unit hn (fun u' u1' u2' e' l' => absurd l' (hz u' u1' u2' e')) (fun _ => ⟨rfl, n, tx, rfl, rfl, h, h'⟩)
theorem J_write (hV : VS S) (hC : CS S kind position told capacity amount liquid portsTaken endAtPort pipeLitres thingAtEnd portAtEnd bendAtEnd w) (hM : MS S kinds taken rooms litres liquids positions sensors ends sizes contents ats ports bends) {len : Int32} {lb : Nat → Int32} (x1 : Int32) :
    wp_PG_write (nI S.T) (nI S.p) kind capacity pipeLitres thingAtEnd len lb x1 (fun r _ _ => wp_Mo_write (nI S.T) (nI S.p) thr wish fnd kinds rooms sizes ats x1 (fun r' _ _ _ => r = r')) := by
  refine c_write hV hC (fun i hi e _ _ => ?_) (fun hn => ?_)
  · refine m_write hV hM (fun i' hi' e' _ _ => ?_) (fun hn => absurd e (hn i hi))
    have ei := (nI_eq (a := i) (b := i') hi hi').mp (by rw [← e, ← e'])
    rw [ei]
  · exact m_write hV hM (fun i' hi' e' _ _ => absurd e' (hn i' hi')) (fun _ _ _ => rfl)
theorem J_read (hV : VS S) (hC : CS S kind position told capacity amount liquid portsTaken endAtPort pipeLitres thingAtEnd portAtEnd bendAtEnd w) (hM : MS S kinds taken rooms litres liquids positions sensors ends sizes contents ats ports bends) (h : tG n tx bytes) (h' : tG n tx text) {qp qs : Nat} {st sp tp tn mp : Int32} {mn : Int64} {k1 k2 k3 k4 k5 k6 k7 k8 k9 k10 k11 k12 nk nt wd : Nat → Int32} {sw : Nat → Int64} :
    wp_PG_read qp qs (nI S.T) st sp k1 k2 k3 k4 k5 k6 k7 k8 k9 k10 k11 k12 sw (nI n) tp tn bytes (fun r p' s' a0 a1 a2 a3 a4 a5 a6 a7 a8 a9 a10 a11 a12 a13 a14 a15 _ _ => wp_Mo_read (nI S.T) (nI S.p) (nI n) mp mn thr kinds taken rooms litres liquids positions sensors ends sizes contents ats ports bends text nk nt wd (fun r' b0 b1 b2 _ _ _ d1 d2 d3 d4 d5 d6 d7 d8 d9 d10 d11 d12 d13 _ _ _ => r = r' ∧ a15 = nI 0 ∧ b2 = nI 0 ∧ ∃ S', VS S' ∧ b0 = nI S'.T ∧ b1 = nI S'.p ∧ MS S' d1 d2 d3 d4 d5 d6 d7 d8 d9 d10 d11 d12 d13 ∧ ((p' = qs ∧ s' = qp ∧ a0 = nI S'.T ∧ a1 = nI S'.p ∧ CS S' a2 a3 a4 a5 a6 a7 a8 a9 a10 a11 a12 a13 a14) ∨ (p' = qp ∧ s' = qs ∧ S' = S)))) := by
  refine c_read (len := 0) h (fun S' e hV' q' v j1 j2 j3 j4 j5 j6 j7 j8 j9 j10 j11 j12 ws hC' => ?_) (fun S' q' e l a1 a2 b1 b2 j1 j2 j3 j4 j5 j6 j7 j8 j9 j10 j11 j12 ws => ?_)
  · refine m_read h' (fun S2 e2 q2 v2 i1 i2 i3 i4 i5 i6 i7 i8 i9 i10 i11 i12 i13 nk nt w hM' => ?_) (fun S2 q2 e2 _ _ _ _ _ => by rw [e] at e2; cases e2)
    rw [e] at e2
    cases e2
    exact ⟨rfl, rfl, rfl, S', hV', rfl, rfl, hM', Or.inl ⟨rfl, rfl, rfl, rfl, hC'⟩⟩
  · refine m_read h' (fun S2 e2 q2 v2 i1 i2 i3 i4 i5 i6 i7 i8 i9 i10 i11 i12 i13 nk nt w hM' => by rw [e] at e2; cases e2) (fun S2 q2 e2 _ v nk nt w => ?_)
    rw [e] at e2
    cases e2
    exact ⟨rfl, rfl, rfl, S, hV, rfl, rfl, hM, Or.inr ⟨rfl, rfl, rfl⟩⟩
/-- position: there is such a thing -/
theorem J_pos1 (hV : VS S) (hC : CS S kind position told capacity amount liquid portsTaken endAtPort pipeLitres thingAtEnd portAtEnd bendAtEnd w) (hM : MS S kinds taken rooms litres liquids positions sensors ends sizes contents ats ports bends) {x1 : Int32} (x2 : Int32) (ht : ∃ t, t < S.T ∧ x1 = nI t) :
    wp_PG_position (nI S.T) kind position x1 x2 (fun r a1 => wp_Mo_position (nI S.T) thr kinds positions x1 x2 (fun r' th' b1 => th' = 0 ∧ (if r = 0 then (0 : Int64) else 1) = (if r' = 0 then (0 : Int64) else 1) ∧ ∃ S', VS S' ∧ nI S.T = nI S'.T ∧ nI S.p = nI S'.p ∧ CS S' kind a1 told capacity amount liquid portsTaken endAtPort pipeLitres thingAtEnd portAtEnd bendAtEnd w ∧ MS S' kinds taken rooms litres liquids b1 sensors ends sizes contents ats ports bends)) := by
  have hT := hV.1.1
  obtain ⟨t, ht, ex⟩ := ht
  subst ex
  obtain ⟨c1, c2, c3⟩ := hC
  obtain ⟨g1, g2, g3⟩ := hM
  unfold wp_PG_position
  refine s_isThing (by omega) (fun t' ht' e => ⟨fun _ => ?_, fun z => absurd z q_10⟩) (fun hn => absurd rfl (hn t ht))
  have keep : (∀ q, S.K t ≤ 8 → q ≤ 9 → ¬ x2 = nI q) → wp_Mo_position (nI S.T) thr kinds positions (nI t) x2 (fun r' th' b1 => th' = 0 ∧ (if (0 : Int32) = 0 then (0 : Int64) else 1) = (if r' = 0 then (0 : Int64) else 1) ∧ ∃ S', VS S' ∧ nI S.T = nI S'.T ∧ nI S.p = nI S'.p ∧ CS S' kind position told capacity amount liquid portsTaken endAtPort pipeLitres thingAtEnd portAtEnd bendAtEnd w ∧ MS S' kinds taken rooms litres liquids b1 sensors ends sizes contents ats ports bends) := by
    intro hno
    refine m_position hT (fun t ht => (g1 t ht).1) (VS_K hV) (fun t2 q2 ht2 k8 hq2 f1 f2 => ?_) (fun t2 ht2 f1 _ => ⟨rfl, rfl, S, hV, rfl, rfl, ⟨c1, c2, c3⟩, g1, g2, g3⟩) (fun hn => absurd rfl (hn t ht))
    have et := (nI_eq (a := t) (b := t2) (by omega) (by omega)).mp f1
    subst et
    exact absurd f2 (hno q2 k8 hq2)
  refine s_isValve hT (fun t ht => (c1 t ht).1) (VS_K hV) (fun t2 ht2 k8 e2 => b_1 ?_) (fun hn => b_0 (keep (fun q k8 _ => absurd rfl (hn t ht k8))))
  have et := (nI_eq (a := t) (b := t2) (by omega) (by omega)).mp e2
  subst et
  refine s_isPosition (fun q hq eq => b_1n ⟨vp_in_nI (by omega) (by decide), ?_⟩) (fun hn => b_0n (keep (fun q _ hq => hn q hq)))
  subst eq
  rw [nI_clamp (n := t) (by omega)]
  refine m_position hT (fun t ht => (g1 t ht).1) (VS_K hV) (fun t2 q2 ht2 k82 hq2 f1 f2 => ?_) (fun t2 ht2 f1 hno => ?_) (fun hn => absurd rfl (hn t ht))
  · have et := (nI_eq (a := t) (b := t2) (by omega) (by omega)).mp f1
    have eq := (nI_eq (a := q) (b := q2) (by omega) (by omega)).mp f2
    subst et; subst eq
    exact ⟨rfl, rfl, S.put t q, ⟨vG1_pos hV.1 hq, hV.2.1, hV.2.2⟩, rfl, rfl, ⟨cG1_pos c1, c2, c3⟩, mG1_pos g1, g2, g3⟩
  · have et := (nI_eq (a := t) (b := t2) (by omega) (by omega)).mp f1
    subst et
    exact absurd rfl (hno q k8 hq)
/-- position: there is no such thing -/
theorem J_pos0 (hV : VS S) (hM : MS S kinds taken rooms litres liquids positions sensors ends sizes contents ats ports bends) {x1 : Int32} (x2 : Int32) (hn : ∀ t, t < S.T → ¬ x1 = nI t) : wp_Mo_position (nI S.T) thr kinds positions x1 x2 (fun _ th' b1 => th' = 1 ∧ b1 = positions) := by
  have hT := hV.1.1
  obtain ⟨g1, g2, g3⟩ := hM
  exact m_position hT (fun t ht => (g1 t ht).1) (VS_K hV) (fun t2 q2 ht2 k8 hq2 f1 f2 => absurd f1 (hn t2 ht2)) (fun t2 ht2 f1 _ => absurd f1 (hn t2 ht2)) (fun _ => ⟨rfl, rfl⟩)
end J
