/-! the same, with names for the numbers of things, pipes and bytes -/
section Jp
variable {S : AbS} {kind position told capacity amount liquid portsTaken endAtPort pipeLitres thingAtEnd portAtEnd bendAtEnd : Nat → Int32} {w : Nat → Int64}
variable {kinds taken : Nat → Int32} {rooms litres : Nat → Int64} {liquids positions sensors ends sizes contents ats ports bends : Nat → Int32} {thr : Int32}
variable {fc size : Int32} {found previous lastE : Nat → Int32} {row : Nat → Int64} {wide : Int32} {left way line : Nat → Int32}
variable {n : Nat} {tx : Nat → Nat} {bytes text : Nat → Int32} {place number wish fnd : Int32}
variable {vT vP vN mT mP mN : Int32}
theorem Jp_tank (e1 : vT = nI S.T) (e2 : vP = nI S.p) (e3 : mT = nI S.T) (e4 : mP = nI S.p) (e5 : vN = nI n) (e6 : mN = nI n) (hV : VS S) (hC : CS S kind position told capacity amount liquid portsTaken endAtPort pipeLitres thingAtEnd portAtEnd bendAtEnd w) (hM : MS S kinds taken rooms litres liquids positions sensors ends sizes contents ats ports bends) (x : Int64) :
    wp_PG_tank vT kind position told capacity amount liquid portsTaken x (fun r a0 a1 a2 a3 a4 a5 a6 a7 => wp_Mo_tank mT thr kinds taken rooms litres liquids positions sensors ends x (fun r' b0 _ b1 b2 b3 b4 b5 b6 b7 b8 => r = r' ∧ ∃ S', VS S' ∧ a0 = nI S'.T ∧ b0 = nI S'.T ∧ nI S.p = nI S'.p ∧ CS S' a1 a2 a3 a4 a5 a6 a7 endAtPort pipeLitres thingAtEnd portAtEnd bendAtEnd w ∧ MS S' b1 b2 b3 b4 b5 b6 b7 b8 sizes contents ats ports bends)) := by
  subst e1; subst e2; subst e3; subst e4; subst e5; subst e6
  exact J_tank hV hC hM x
theorem Jp_pump (e1 : vT = nI S.T) (e2 : vP = nI S.p) (e3 : mT = nI S.T) (e4 : mP = nI S.p) (e5 : vN = nI n) (e6 : mN = nI n) (hV : VS S) (hC : CS S kind position told capacity amount liquid portsTaken endAtPort pipeLitres thingAtEnd portAtEnd bendAtEnd w) (hM : MS S kinds taken rooms litres liquids positions sensors ends sizes contents ats ports bends) :
    wp_PG_pump vT kind position told capacity amount liquid portsTaken (fun r a0 a1 a2 a3 a4 a5 a6 a7 => wp_Mo_pump mT thr kinds taken rooms litres liquids positions sensors ends (fun r' b0 _ b1 b2 b3 b4 b5 b6 b7 b8 => r = r' ∧ ∃ S', VS S' ∧ a0 = nI S'.T ∧ b0 = nI S'.T ∧ nI S.p = nI S'.p ∧ CS S' a1 a2 a3 a4 a5 a6 a7 endAtPort pipeLitres thingAtEnd portAtEnd bendAtEnd w ∧ MS S' b1 b2 b3 b4 b5 b6 b7 b8 sizes contents ats ports bends)) := by
  subst e1; subst e2; subst e3; subst e4; subst e5; subst e6
  exact J_pump hV hC hM
theorem Jp_valve (e1 : vT = nI S.T) (e2 : vP = nI S.p) (e3 : mT = nI S.T) (e4 : mP = nI S.p) (e5 : vN = nI n) (e6 : mN = nI n) (hV : VS S) (hC : CS S kind position told capacity amount liquid portsTaken endAtPort pipeLitres thingAtEnd portAtEnd bendAtEnd w) (hM : MS S kinds taken rooms litres liquids positions sensors ends sizes contents ats ports bends) (x : Int32) :
    wp_PG_valve vT kind position told capacity amount liquid portsTaken x (fun r a0 a1 a2 a3 a4 a5 a6 a7 => wp_Mo_valve mT thr kinds taken rooms litres liquids positions sensors ends x (fun r' b0 _ b1 b2 b3 b4 b5 b6 b7 b8 => r = r' ∧ ∃ S', VS S' ∧ a0 = nI S'.T ∧ b0 = nI S'.T ∧ nI S.p = nI S'.p ∧ CS S' a1 a2 a3 a4 a5 a6 a7 endAtPort pipeLitres thingAtEnd portAtEnd bendAtEnd w ∧ MS S' b1 b2 b3 b4 b5 b6 b7 b8 sizes contents ats ports bends)) := by
  subst e1; subst e2; subst e3; subst e4; subst e5; subst e6
  exact J_valve hV hC hM x
theorem Jp_pipe (e1 : vT = nI S.T) (e2 : vP = nI S.p) (e3 : mT = nI S.T) (e4 : mP = nI S.p) (e5 : vN = nI n) (e6 : mN = nI n) (hV : VS S) (hC : CS S kind position told capacity amount liquid portsTaken endAtPort pipeLitres thingAtEnd portAtEnd bendAtEnd w) (hM : MS S kinds taken rooms litres liquids positions sensors ends sizes contents ats ports bends) (x1 x2 : Int32) (x3 : Int64) :
    wp_PG_pipe vT vP kind portsTaken endAtPort pipeLitres thingAtEnd portAtEnd bendAtEnd x1 x2 x3 (fun r a0 a1 a2 a3 a4 a5 a6 => wp_Mo_pipe mT mP thr kinds taken ends sizes contents ats ports bends x1 x2 x3 (fun r' b0 _ b1 b2 b3 b4 b5 b6 b7 => r = r' ∧ ∃ S', VS S' ∧ nI S.T = nI S'.T ∧ a0 = nI S'.p ∧ b0 = nI S'.p ∧ CS S' kind position told capacity amount liquid a1 a2 a3 a4 a5 a6 w ∧ MS S' kinds b1 rooms litres liquids positions sensors b2 b3 b4 b5 b6 b7)) := by
  subst e1; subst e2; subst e3; subst e4; subst e5; subst e6
  exact J_pipe hV hC hM x1 x2 x3
theorem Jp_bend (e1 : vT = nI S.T) (e2 : vP = nI S.p) (e3 : mT = nI S.T) (e4 : mP = nI S.p) (e5 : vN = nI n) (e6 : mN = nI n) (hV : VS S) (hC : CS S kind position told capacity amount liquid portsTaken endAtPort pipeLitres thingAtEnd portAtEnd bendAtEnd w) (hM : MS S kinds taken rooms litres liquids positions sensors ends sizes contents ats ports bends) (x1 x2 : Int32) :
    wp_PG_bend vP thingAtEnd bendAtEnd x1 x2 (fun r a1 => wp_Mo_bend mP thr ats bends x1 x2 (fun r' _ b1 => r = r' ∧ ∃ S', VS S' ∧ nI S.T = nI S'.T ∧ nI S.p = nI S'.p ∧ CS S' kind position told capacity amount liquid portsTaken endAtPort pipeLitres thingAtEnd portAtEnd a1 w ∧ MS S' kinds taken rooms litres liquids positions sensors ends sizes contents ats ports b1)) := by
  subst e1; subst e2; subst e3; subst e4; subst e5; subst e6
  exact J_bend hV hC hM x1 x2
theorem Jp_sensor (e1 : vT = nI S.T) (e2 : vP = nI S.p) (e3 : mT = nI S.T) (e4 : mP = nI S.p) (e5 : vN = nI n) (e6 : mN = nI n) (hV : VS S) (hC : CS S kind position told capacity amount liquid portsTaken endAtPort pipeLitres thingAtEnd portAtEnd bendAtEnd w) (hM : MS S kinds taken rooms litres liquids positions sensors ends sizes contents ats ports bends) (x1 x2 : Int32) :
    wp_PG_sensor vT kind told x1 x2 (fun r a1 => wp_Mo_sensor mT thr kinds sensors x1 x2 (fun r' _ b1 => r = r' ∧ ∃ S', VS S' ∧ nI S.T = nI S'.T ∧ nI S.p = nI S'.p ∧ CS S' kind position a1 capacity amount liquid portsTaken endAtPort pipeLitres thingAtEnd portAtEnd bendAtEnd w ∧ MS S' kinds taken rooms litres liquids positions b1 ends sizes contents ats ports bends)) := by
  subst e1; subst e2; subst e3; subst e4; subst e5; subst e6
  exact J_sensor hV hC hM x1 x2
theorem Jp_unsure (e1 : vT = nI S.T) (e2 : vP = nI S.p) (e3 : mT = nI S.T) (e4 : mP = nI S.p) (e5 : vN = nI n) (e6 : mN = nI n) (hV : VS S) (hC : CS S kind position told capacity amount liquid portsTaken endAtPort pipeLitres thingAtEnd portAtEnd bendAtEnd w) (hM : MS S kinds taken rooms litres liquids positions sensors ends sizes contents ats ports bends) (x1 : Int32) :
    wp_PG_unsure vT kind position told x1 (fun r => wp_Mo_unsure mT thr kinds positions sensors x1 (fun r' _ => r = r')) := by
  subst e1; subst e2; subst e3; subst e4; subst e5; subst e6
  exact J_unsure hV hC hM x1
theorem Jp_content (e1 : vT = nI S.T) (e2 : vP = nI S.p) (e3 : mT = nI S.T) (e4 : mP = nI S.p) (e5 : vN = nI n) (e6 : mN = nI n) (hV : VS S) (hC : CS S kind position told capacity amount liquid portsTaken endAtPort pipeLitres thingAtEnd portAtEnd bendAtEnd w) (hM : MS S kinds taken rooms litres liquids positions sensors ends sizes contents ats ports bends) (x1 : Int32) :
    wp_PG_content vP pipeLitres w x1 (fun r => wp_Mo_content mP thr sizes contents x1 (fun r' _ => r = r')) := by
  subst e1; subst e2; subst e3; subst e4; subst e5; subst e6
  exact J_content hV hC hM x1
theorem Jp_fill (e1 : vT = nI S.T) (e2 : vP = nI S.p) (e3 : mT = nI S.T) (e4 : mP = nI S.p) (e5 : vN = nI n) (e6 : mN = nI n) (hV : VS S) (hC : CS S kind position told capacity amount liquid portsTaken endAtPort pipeLitres thingAtEnd portAtEnd bendAtEnd w) (hM : MS S kinds taken rooms litres liquids positions sensors ends sizes contents ats ports bends) (x1 x2 : Int32) (x3 : Int64) :
    wp_PG_fill vT kind capacity amount liquid x1 x2 x3 (fun r a1 a2 => wp_Mo_fill mT thr kinds rooms litres liquids x1 x2 x3 (fun r' _ b1 b2 => r = r' ∧ ∃ S', VS S' ∧ nI S.T = nI S'.T ∧ nI S.p = nI S'.p ∧ CS S' kind position told capacity a1 a2 portsTaken endAtPort pipeLitres thingAtEnd portAtEnd bendAtEnd w ∧ MS S' kinds taken rooms b1 b2 positions sensors ends sizes contents ats ports bends)) := by
  subst e1; subst e2; subst e3; subst e4; subst e5; subst e6
  exact J_fill hV hC hM x1 x2 x3
theorem Jp_move (e1 : vT = nI S.T) (e2 : vP = nI S.p) (e3 : mT = nI S.T) (e4 : mP = nI S.p) (e5 : vN = nI n) (e6 : mN = nI n) (hV : VS S) (hC : CS S kind position told capacity amount liquid portsTaken endAtPort pipeLitres thingAtEnd portAtEnd bendAtEnd w) (hM : MS S kinds taken rooms litres liquids positions sensors ends sizes contents ats ports bends) (x1 x2 : Int32) (x3 : Int64) :
    wp_PG_move vT vP kind position capacity amount liquid portsTaken endAtPort pipeLitres thingAtEnd portAtEnd bendAtEnd w fc found previous lastE size row x1 x2 x3 (fun r a1 a2 a3 _ _ _ _ _ _ => wp_Mo_move mT mP wide thr kinds rooms litres liquids positions ends sizes contents ats ports bends left way line x1 x2 x3 (fun r' _ _ b1 b2 b3 _ _ _ => r = r' ∧ ∃ S', VS S' ∧ nI S.T = nI S'.T ∧ nI S.p = nI S'.p ∧ CS S' kind position told capacity a1 a2 portsTaken endAtPort pipeLitres thingAtEnd portAtEnd bendAtEnd a3 ∧ MS S' kinds taken rooms b1 b2 positions sensors ends sizes b3 ats ports bends)) := by
  subst e1; subst e2; subst e3; subst e4; subst e5; subst e6
  exact J_move hV hC hM x1 x2 x3
theorem Jp_joined (e1 : vT = nI S.T) (e2 : vP = nI S.p) (e3 : mT = nI S.T) (e4 : mP = nI S.p) (e5 : vN = nI n) (e6 : mN = nI n) (hV : VS S) (hC : CS S kind position told capacity amount liquid portsTaken endAtPort pipeLitres thingAtEnd portAtEnd bendAtEnd w) (hM : MS S kinds taken rooms litres liquids positions sensors ends sizes contents ats ports bends) (x1 x2 : Int32) :
    wp_PG_joined vT vP kind position portsTaken endAtPort thingAtEnd portAtEnd bendAtEnd fc found previous lastE x1 x2 (fun r _ _ _ _ => wp_Mo_joined mT mP wide thr kinds positions ends ats ports bends left way x1 x2 (fun r' _ _ _ _ => r = r')) := by
  subst e1; subst e2; subst e3; subst e4; subst e5; subst e6
  exact J_joined hV hC hM x1 x2
theorem Jp_unit (e1 : vT = nI S.T) (e2 : vP = nI S.p) (e3 : mT = nI S.T) (e4 : mP = nI S.p) (e5 : vN = nI n) (e6 : mN = nI n) (h : tG n tx bytes) (h' : tG n tx text) (x1 : Int32) :
    wp_PG_unit vN bytes x1 (fun r a0 a1 => wp_Mo_unit mN thr text x1 (fun r' b0 _ b1 => r = r' ∧ ∃ n' tx', a0 = nI n' ∧ b0 = nI n' ∧ tG n' tx' a1 ∧ tG n' tx' b1)) := by
  subst e1; subst e2; subst e3; subst e4; subst e5; subst e6
  exact J_unit h h' x1
theorem Jp_write (e1 : vT = nI S.T) (e2 : vP = nI S.p) (e3 : mT = nI S.T) (e4 : mP = nI S.p) (e5 : vN = nI n) (e6 : mN = nI n) (hV : VS S) (hC : CS S kind position told capacity amount liquid portsTaken endAtPort pipeLitres thingAtEnd portAtEnd bendAtEnd w) (hM : MS S kinds taken rooms litres liquids positions sensors ends sizes contents ats ports bends) {len : Int32} {lb : Nat → Int32} (x1 : Int32) :
    wp_PG_write vT vP kind capacity pipeLitres thingAtEnd len lb x1 (fun r _ _ => wp_Mo_write mT mP thr wish fnd kinds rooms sizes ats x1 (fun r' _ _ _ => r = r')) := by
  subst e1; subst e2; subst e3; subst e4; subst e5; subst e6
  exact J_write hV hC hM x1
theorem Jp_read (e1 : vT = nI S.T) (e2 : vP = nI S.p) (e3 : mT = nI S.T) (e4 : mP = nI S.p) (e5 : vN = nI n) (e6 : mN = nI n) (hV : VS S) (hC : CS S kind position told capacity amount liquid portsTaken endAtPort pipeLitres thingAtEnd portAtEnd bendAtEnd w) (hM : MS S kinds taken rooms litres liquids positions sensors ends sizes contents ats ports bends) (h : tG n tx bytes) (h' : tG n tx text) {qp qs : Nat} {st sp tp tn mp : Int32} {mn : Int64} {k1 k2 k3 k4 k5 k6 k7 k8 k9 k10 k11 k12 nk nt wd : Nat → Int32} {sw : Nat → Int64} :
    wp_PG_read qp qs vT st sp k1 k2 k3 k4 k5 k6 k7 k8 k9 k10 k11 k12 sw vN tp tn bytes (fun r p' s' a0 a1 a2 a3 a4 a5 a6 a7 a8 a9 a10 a11 a12 a13 a14 a15 _ _ => wp_Mo_read mT mP mN mp mn thr kinds taken rooms litres liquids positions sensors ends sizes contents ats ports bends text nk nt wd (fun r' b0 b1 b2 _ _ _ d1 d2 d3 d4 d5 d6 d7 d8 d9 d10 d11 d12 d13 _ _ _ => r = r' ∧ a15 = nI 0 ∧ b2 = nI 0 ∧ ∃ S', VS S' ∧ b0 = nI S'.T ∧ b1 = nI S'.p ∧ MS S' d1 d2 d3 d4 d5 d6 d7 d8 d9 d10 d11 d12 d13 ∧ ((p' = qs ∧ s' = qp ∧ a0 = nI S'.T ∧ a1 = nI S'.p ∧ CS S' a2 a3 a4 a5 a6 a7 a8 a9 a10 a11 a12 a13 a14) ∨ (p' = qp ∧ s' = qs ∧ S' = S)))) := by
  subst e1; subst e2; subst e3; subst e4; subst e5; subst e6
  exact J_read hV hC hM h h'
theorem Jp_pos1 (e1 : vT = nI S.T) (e2 : vP = nI S.p) (e3 : mT = nI S.T) (e4 : mP = nI S.p) (e5 : vN = nI n) (e6 : mN = nI n) (hV : VS S) (hC : CS S kind position told capacity amount liquid portsTaken endAtPort pipeLitres thingAtEnd portAtEnd bendAtEnd w) (hM : MS S kinds taken rooms litres liquids positions sensors ends sizes contents ats ports bends) {x1 : Int32} (x2 : Int32) (ht : ∃ t, t < S.T ∧ x1 = nI t) :
    wp_PG_position vT kind position x1 x2 (fun r a1 => wp_Mo_position mT thr kinds positions x1 x2 (fun r' th' b1 => th' = 0 ∧ (if r = 0 then (0 : Int64) else 1) = (if r' = 0 then (0 : Int64) else 1) ∧ ∃ S', VS S' ∧ nI S.T = nI S'.T ∧ nI S.p = nI S'.p ∧ CS S' kind a1 told capacity amount liquid portsTaken endAtPort pipeLitres thingAtEnd portAtEnd bendAtEnd w ∧ MS S' kinds taken rooms litres liquids b1 sensors ends sizes contents ats ports bends)) := by
  subst e1; subst e2; subst e3; subst e4; subst e5; subst e6
  exact J_pos1 hV hC hM x2 ht
theorem Jp_pos0 (e1 : vT = nI S.T) (e2 : vP = nI S.p) (e3 : mT = nI S.T) (e4 : mP = nI S.p) (e5 : vN = nI n) (e6 : mN = nI n) (hV : VS S) (hM : MS S kinds taken rooms litres liquids positions sensors ends sizes contents ats ports bends) {x1 : Int32} (x2 : Int32) (hn : ∀ t, t < S.T → ¬ x1 = nI t) :
    wp_Mo_position mT thr kinds positions x1 x2 (fun _ th' b1 => th' = 1 ∧ b1 = positions) := by
  subst e1; subst e2; subst e3; subst e4; subst e5; subst e6
  exact J_pos0 hV hM x2 hn
end Jp
