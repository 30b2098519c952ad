/-! One list of words for every method: its own code, and those of the tables' words that stay when the machine goes on. -/
def okw : Cond → Bool
  | .fieldLinkNest .. => true
  | .methodLinkNest .. => true
  | w => goodWord w || k2_isCode w
def tb : List Cond := lw_tbl.filter okw
theorem okw_warm {w : Cond} (h : okw w = true) {args : Array Value} {s : State} (hb : w.before args s = true) (a' : Array Value) (U : State) (hW : s.WarmedH U.vm) : w.before a' U = true := by
  cases w <;> first
    | exact va_Nw.use rfl (va_Nw.warmF hW (va_Nw.of rfl hb))
    | exact va_Nw.use rfl (va_Nw.warmM hW (va_Nw.of rfl hb))
    | exact word_at hW (Or.inl rfl) hb
    | (refine word_at hW (good_of_word ?_) hb; simpa [okw, k2_isCode] using h)
theorem tb_warm {args : Array Value} {s : State} (ht : ∀ w ∈ tb, w.before args s = true) {y : MethodName} {b : ByteArray} {n : Nat} {r : Option FieldType} (hc : Cond.code y b n r ∈ tb) : ∀ w ∈ (Cond.code y b n r :: tb), ∀ (a' : Array Value) (U : State), s.WarmedH U.vm → w.before a' U = true := by
  intro w hw a' U hW
  have hm : w ∈ tb := by
    rcases List.mem_cons.mp hw with h | h
    · rw [h]; exact hc
    · exact h
  exact okw_warm (List.mem_filter.mp hm).2 (ht w hm) a' U hW
section MyCalls
variable {R : Room} {s : State} {args : Array Value} {own C host : String} {index : Nat} {y : MethodName} {bytes : ByteArray} {maxL mc ms : Nat} {ret : Option FieldType} {rm : Room}
theorem my_cB (n : Nat) (ht : ∀ w ∈ tb, w.before args s = true) (hl : Cond.methodLink own index y ∈ tb) (hini : Cond.initialized y.cls ∈ tb) (hc : Cond.code y bytes maxL ret ∈ tb) (hrc : rm.cells = mc) (hrs : rm.slots = ms)
    (hd : y.cls ≠ "java/lang/invoke/MethodHandle" ∧ y.cls ≠ "java/lang/invoke/VarHandle" ∧ (parseMethodDescriptor y.desc).map (fun d => d.parameters.length) = some n) (hR : rm.frames + 1 ≤ R.frames ∧ 8 + (maxL + 11) + rm.locals ≤ R.locals) :
    CallB R s args own index y bytes maxL ret (Cond.code y bytes maxL ret :: tb) rm mc ms n := by
  refine ⟨hrc, hrs, hR.1, hR.2, tb_warm ht hc, List.mem_cons_self, ht _ hc, ht _ hini, ⟨hd.1, hd.2.1⟩, fun sig h => ?_, ht _ hl⟩
  have h2 := hd.2.2
  rw [h] at h2
  exact (Option.some.inj h2).symm
theorem my_cwV (n : Nat) (ht : ∀ w ∈ tb, w.before args s = true) (hl : Cond.methodLink own index y ∈ tb) (h2 : Cond.instanceMethod y ∈ tb) (h3 : Cond.selects C y y ∈ tb) (hini : Cond.initialized y.cls ∈ tb) (hc : Cond.code y bytes maxL ret ∈ tb) (hrc : rm.cells = mc) (hrs : rm.slots = ms)
    (hd : y.cls ≠ "java/lang/invoke/MethodHandle" ∧ y.cls ≠ "java/lang/invoke/VarHandle" ∧ (parseMethodDescriptor y.desc).map (fun d => d.parameters.length) = some n) (hR : rm.frames + 1 ≤ R.frames ∧ 8 + (maxL + 11) + rm.locals ≤ R.locals) :
    CallW R s args own C index y bytes maxL ret (Cond.code y bytes maxL ret :: tb) rm mc ms n := ⟨my_cB n ht hl hini hc hrc hrs hd hR, ht _ h2, ht _ h3⟩
theorem my_cwS (n : Nat) (ht : ∀ w ∈ tb, w.before args s = true) (hl : Cond.methodLink own index y ∈ tb) (h2 : Cond.static y ∈ tb) (hini : Cond.initialized y.cls ∈ tb) (hc : Cond.code y bytes maxL ret ∈ tb) (hrc : rm.cells = mc) (hrs : rm.slots = ms)
    (hd : y.cls ≠ "java/lang/invoke/MethodHandle" ∧ y.cls ≠ "java/lang/invoke/VarHandle" ∧ (parseMethodDescriptor y.desc).map (fun d => d.parameters.length) = some n) (hR : rm.frames + 1 ≤ R.frames ∧ 8 + (maxL + 11) + rm.locals ≤ R.locals) :
    CallB R s args own index y bytes maxL ret (Cond.code y bytes maxL ret :: tb) rm mc ms n ∧ (Cond.static y).before args s = true := ⟨my_cB n ht hl hini hc hrc hrs hd hR, ht _ h2⟩
theorem my_cn (n : Nat) (ht : ∀ w ∈ tb, w.before args s = true) (hl : Cond.methodLinkNest own index y host ∈ tb) (hini : Cond.initialized y.cls ∈ tb) (hc : Cond.code y bytes maxL ret ∈ tb) (hrc : rm.cells = mc) (hrs : rm.slots = ms)
    (hd : y.cls ≠ "java/lang/invoke/MethodHandle" ∧ y.cls ≠ "java/lang/invoke/VarHandle" ∧ (parseMethodDescriptor y.desc).map (fun d => d.parameters.length) = some n) (hR : rm.frames + 1 ≤ R.frames ∧ 8 + (maxL + 11) + rm.locals ≤ R.locals) :
    va_CN R s args own index y host bytes maxL ret (Cond.code y bytes maxL ret :: tb) rm mc ms n := by
  refine ⟨⟨hrc, hrs, hR.1, hR.2, tb_warm ht hc, List.mem_cons_self⟩, ht _ hc, ht _ hini, ⟨hd.1, hd.2.1⟩, fun sig h => ?_, ht _ hl⟩
  have h2 := hd.2.2
  rw [h] at h2
  exact (Option.some.inj h2).symm
end MyCalls
/-- two array classes of one type are one -/
theorem gn_arr {D : va_G} {cl : List vw_C} {tys : List (ClassId × FieldType)} {s : State} (hK : va_K D cl tys s) (i j : Nat) {ty : FieldType} {c1 c2 : ClassId} (h1 : tys[i]? = some (c1, ty)) (h2 : tys[j]? = some (c2, ty)) : c1 = c2 := by
  have a := (hK.2 i _ h1).2
  have b := (hK.2 j _ h2).2
  have fin : ∀ c : ClassId, va_RA s c ty → s.vm.findClass ("[" ++ ty.toString) = some c := by
    intro c h
    cases ty <;> first | exact h | (obtain ⟨_, _, _, _, _, h⟩ := h; exact h)
  exact Option.some.inj ((fin _ a).symm.trans (fin _ b))
def R_PG : String := "PlantGraph"
def R_Pl : String := "PlantGraph$Plant"
def R_Li : String := "PlantGraph$Litres"
def R_Wa : String := "PlantGraph$Ways"
def R_Fl : String := "PlantGraph$Flow"
def R_Te : String := "PlantGraph$Text"
def R_Ln : String := "PlantGraph$Line"
def R_Mo : String := "PlantGraphModel"
def R_Ar : String := "java/util/Arrays"
def R_Js : String := "java/lang/String"
def R_Jl : String := "java/lang/StringLatin1"
def R_Xi : String := "java/lang/IndexOutOfBoundsException"
def R_Xr : String := "java/lang/RuntimeException"
def R_Xe : String := "java/lang/Exception"
def R_Xt : String := "java/lang/Throwable"
def R_La : String := "PlantGraphLaw"
def R_Ob : String := "java/lang/Object"
def R_Ma : String := "java/lang/Math"
def R_Ju : String := "java/lang/StringUTF16"
def R_Jp : String := "jdk/internal/util/Preconditions"
def F_PG : u_T := fun k => match k with
  | 0 => ("PlantGraph", "plant", "LPlantGraph$Plant;", false)
  | 1 => ("PlantGraph", "spare", "LPlantGraph$Plant;", false)
  | 2 => ("PlantGraph", "ways", "LPlantGraph$Ways;", true)
  | 3 => ("PlantGraph", "flow", "LPlantGraph$Flow;", true)
  | 4 => ("PlantGraph", "text", "LPlantGraph$Text;", true)
  | _ => ("PlantGraph", "line", "LPlantGraph$Line;", true)
def t_PG : Nat → FieldType := fun k => match k with
  | 0 => .object "PlantGraph$Plant"
  | 1 => .object "PlantGraph$Plant"
  | 2 => .object "PlantGraph$Ways"
  | 3 => .object "PlantGraph$Flow"
  | 4 => .object "PlantGraph$Text"
  | _ => .object "PlantGraph$Line"
abbrev w_PG : List Cond := u_ws R_PG F_PG 6
theorem n_PG : ∀ a, a < 6 → ∀ b, b < 6 → a ≠ b → (F_PG a).2.1 ≠ (F_PG b).2.1 := by decide +kernel
theorem t_PG_ok : ∀ k, k < 6 → parseFieldDescriptor (F_PG k).2.2.1 = some (t_PG k) := by decide +kernel
set_option maxRecDepth 100000 in
theorem i_PG : ∀ w ∈ w_PG, w ∈ tb := by decide +kernel
def F_Pl : u_T := fun k => match k with
  | 0 => ("PlantGraph$Plant", "things", "I", false)
  | 1 => ("PlantGraph$Plant", "kind", "[I", true)
  | 2 => ("PlantGraph$Plant", "position", "[I", true)
  | 3 => ("PlantGraph$Plant", "told", "[I", true)
  | 4 => ("PlantGraph$Plant", "capacity", "[I", true)
  | 5 => ("PlantGraph$Plant", "amount", "[I", true)
  | 6 => ("PlantGraph$Plant", "liquid", "[I", true)
  | 7 => ("PlantGraph$Plant", "portsTaken", "[I", true)
  | 8 => ("PlantGraph$Plant", "endAtPort", "[I", true)
  | 9 => ("PlantGraph$Plant", "pipes", "I", false)
  | 10 => ("PlantGraph$Plant", "pipeLitres", "[I", true)
  | 11 => ("PlantGraph$Plant", "thingAtEnd", "[I", true)
  | 12 => ("PlantGraph$Plant", "portAtEnd", "[I", true)
  | 13 => ("PlantGraph$Plant", "bendAtEnd", "[I", true)
  | _ => ("PlantGraph$Plant", "inPipes", "LPlantGraph$Litres;", true)
def t_Pl : Nat → FieldType := fun k => match k with
  | 0 => .int
  | 1 => .array .int
  | 2 => .array .int
  | 3 => .array .int
  | 4 => .array .int
  | 5 => .array .int
  | 6 => .array .int
  | 7 => .array .int
  | 8 => .array .int
  | 9 => .int
  | 10 => .array .int
  | 11 => .array .int
  | 12 => .array .int
  | 13 => .array .int
  | _ => .object "PlantGraph$Litres"
abbrev w_Pl : List Cond := u_ws R_Pl F_Pl 15
theorem n_Pl : ∀ a, a < 15 → ∀ b, b < 15 → a ≠ b → (F_Pl a).2.1 ≠ (F_Pl b).2.1 := by decide +kernel
theorem t_Pl_ok : ∀ k, k < 15 → parseFieldDescriptor (F_Pl k).2.2.1 = some (t_Pl k) := by decide +kernel
set_option maxRecDepth 100000 in
theorem i_Pl : ∀ w ∈ w_Pl, w ∈ tb := by decide +kernel
def F_Li : u_T := fun k => match k with
  | _ => ("PlantGraph$Litres", "words", "[J", true)
def t_Li : Nat → FieldType := fun k => match k with
  | _ => .array .long
abbrev w_Li : List Cond := u_ws R_Li F_Li 1
theorem n_Li : ∀ a, a < 1 → ∀ b, b < 1 → a ≠ b → (F_Li a).2.1 ≠ (F_Li b).2.1 := by decide +kernel
theorem t_Li_ok : ∀ k, k < 1 → parseFieldDescriptor (F_Li k).2.2.1 = some (t_Li k) := by decide +kernel
set_option maxRecDepth 100000 in
theorem i_Li : ∀ w ∈ w_Li, w ∈ tb := by decide +kernel
def F_Wa : u_T := fun k => match k with
  | 0 => ("PlantGraph$Ways", "found", "[I", true)
  | 1 => ("PlantGraph$Ways", "foundCount", "I", false)
  | 2 => ("PlantGraph$Ways", "previous", "[I", true)
  | _ => ("PlantGraph$Ways", "lastEndAtThing", "[I", true)
def t_Wa : Nat → FieldType := fun k => match k with
  | 0 => .array .int
  | 1 => .int
  | 2 => .array .int
  | _ => .array .int
abbrev w_Wa : List Cond := u_ws R_Wa F_Wa 4
theorem n_Wa : ∀ a, a < 4 → ∀ b, b < 4 → a ≠ b → (F_Wa a).2.1 ≠ (F_Wa b).2.1 := by decide +kernel
theorem t_Wa_ok : ∀ k, k < 4 → parseFieldDescriptor (F_Wa k).2.2.1 = some (t_Wa k) := by decide +kernel
set_option maxRecDepth 100000 in
theorem i_Wa : ∀ w ∈ w_Wa, w ∈ tb := by decide +kernel
def F_Fl : u_T := fun k => match k with
  | 0 => ("PlantGraph$Flow", "row", "LPlantGraph$Litres;", true)
  | _ => ("PlantGraph$Flow", "size", "I", false)
def t_Fl : Nat → FieldType := fun k => match k with
  | 0 => .object "PlantGraph$Litres"
  | _ => .int
abbrev w_Fl : List Cond := u_ws R_Fl F_Fl 2
theorem n_Fl : ∀ a, a < 2 → ∀ b, b < 2 → a ≠ b → (F_Fl a).2.1 ≠ (F_Fl b).2.1 := by decide +kernel
theorem t_Fl_ok : ∀ k, k < 2 → parseFieldDescriptor (F_Fl k).2.2.1 = some (t_Fl k) := by decide +kernel
set_option maxRecDepth 100000 in
theorem i_Fl : ∀ w ∈ w_Fl, w ∈ tb := by decide +kernel
def F_Te : u_T := fun k => match k with
  | 0 => ("PlantGraph$Text", "bytes", "[B", true)
  | 1 => ("PlantGraph$Text", "length", "I", false)
  | 2 => ("PlantGraph$Text", "place", "I", false)
  | _ => ("PlantGraph$Text", "number", "I", false)
def t_Te : Nat → FieldType := fun k => match k with
  | 0 => .array .byte
  | 1 => .int
  | 2 => .int
  | _ => .int
abbrev w_Te : List Cond := u_ws R_Te F_Te 4
theorem n_Te : ∀ a, a < 4 → ∀ b, b < 4 → a ≠ b → (F_Te a).2.1 ≠ (F_Te b).2.1 := by decide +kernel
theorem t_Te_ok : ∀ k, k < 4 → parseFieldDescriptor (F_Te k).2.2.1 = some (t_Te k) := by decide +kernel
set_option maxRecDepth 100000 in
theorem i_Te : ∀ w ∈ w_Te, w ∈ tb := by decide +kernel
def F_Ln : u_T := fun k => match k with
  | 0 => ("PlantGraph$Line", "bytes", "[B", true)
  | _ => ("PlantGraph$Line", "length", "I", false)
def t_Ln : Nat → FieldType := fun k => match k with
  | 0 => .array .byte
  | _ => .int
abbrev w_Ln : List Cond := u_ws R_Ln F_Ln 2
theorem n_Ln : ∀ a, a < 2 → ∀ b, b < 2 → a ≠ b → (F_Ln a).2.1 ≠ (F_Ln b).2.1 := by decide +kernel
theorem t_Ln_ok : ∀ k, k < 2 → parseFieldDescriptor (F_Ln k).2.2.1 = some (t_Ln k) := by decide +kernel
set_option maxRecDepth 100000 in
theorem i_Ln : ∀ w ∈ w_Ln, w ∈ tb := by decide +kernel
def F_Mo : u_T := fun k => match k with
  | 0 => ("PlantGraphModel", "things", "I", false)
  | 1 => ("PlantGraphModel", "kinds", "[I", true)
  | 2 => ("PlantGraphModel", "taken", "[I", true)
  | 3 => ("PlantGraphModel", "rooms", "[J", true)
  | 4 => ("PlantGraphModel", "litres", "[J", true)
  | 5 => ("PlantGraphModel", "liquids", "[I", true)
  | 6 => ("PlantGraphModel", "positions", "[I", true)
  | 7 => ("PlantGraphModel", "sensors", "[I", true)
  | 8 => ("PlantGraphModel", "ends", "[I", true)
  | 9 => ("PlantGraphModel", "pipes", "I", false)
  | 10 => ("PlantGraphModel", "sizes", "[I", true)
  | 11 => ("PlantGraphModel", "contents", "[B", true)
  | 12 => ("PlantGraphModel", "at", "[I", true)
  | 13 => ("PlantGraphModel", "ports", "[I", true)
  | 14 => ("PlantGraphModel", "bends", "[I", true)
  | 15 => ("PlantGraphModel", "left", "[I", true)
  | 16 => ("PlantGraphModel", "way", "[I", true)
  | 17 => ("PlantGraphModel", "wide", "I", false)
  | 18 => ("PlantGraphModel", "line", "[B", true)
  | 19 => ("PlantGraphModel", "text", "[B", true)
  | 20 => ("PlantGraphModel", "size", "I", false)
  | 21 => ("PlantGraphModel", "place", "I", false)
  | 22 => ("PlantGraphModel", "number", "J", false)
  | 23 => ("PlantGraphModel", "newKinds", "[I", true)
  | 24 => ("PlantGraphModel", "newTaken", "[I", true)
  | 25 => ("PlantGraphModel", "words", "[I", true)
  | 26 => ("PlantGraphModel", "thrown", "I", false)
  | 27 => ("PlantGraphModel", "wish", "I", false)
  | _ => ("PlantGraphModel", "found", "I", false)
def t_Mo : Nat → FieldType := fun k => match k with
  | 0 => .int
  | 1 => .array .int
  | 2 => .array .int
  | 3 => .array .long
  | 4 => .array .long
  | 5 => .array .int
  | 6 => .array .int
  | 7 => .array .int
  | 8 => .array .int
  | 9 => .int
  | 10 => .array .int
  | 11 => .array .byte
  | 12 => .array .int
  | 13 => .array .int
  | 14 => .array .int
  | 15 => .array .int
  | 16 => .array .int
  | 17 => .int
  | 18 => .array .byte
  | 19 => .array .byte
  | 20 => .int
  | 21 => .int
  | 22 => .long
  | 23 => .array .int
  | 24 => .array .int
  | 25 => .array .int
  | 26 => .int
  | 27 => .int
  | _ => .int
abbrev w_Mo : List Cond := u_ws R_Mo F_Mo 29
theorem n_Mo : ∀ a, a < 29 → ∀ b, b < 29 → a ≠ b → (F_Mo a).2.1 ≠ (F_Mo b).2.1 := by decide +kernel
theorem t_Mo_ok : ∀ k, k < 29 → parseFieldDescriptor (F_Mo k).2.2.1 = some (t_Mo k) := by decide +kernel
set_option maxRecDepth 100000 in
theorem i_Mo : ∀ w ∈ w_Mo, w ∈ tb := by decide +kernel
abbrev o_Mo (a : Nat → Nat) (things : Int32) (pipes : Int32) (wide : Int32) (size : Int32) (place : Int32) (number : Int64) (thrown : Int32) (wish : Int32) (found : Int32) : List Value := [.int things, .ref (a 1), .ref (a 2), .ref (a 3), .ref (a 4), .ref (a 5), .ref (a 6), .ref (a 7), .ref (a 8), .int pipes, .ref (a 10), .ref (a 11), .ref (a 12), .ref (a 13), .ref (a 14), .ref (a 15), .ref (a 16), .int wide, .ref (a 18), .ref (a 19), .int size, .int place, .long number, .ref (a 23), .ref (a 24), .ref (a 25), .int thrown, .int wish, .int found]
abbrev classes : List vw_C := [(R_PG, F_PG, 6), (R_Pl, F_Pl, 15), (R_Li, F_Li, 1), (R_Wa, F_Wa, 4), (R_Fl, F_Fl, 2), (R_Te, F_Te, 4), (R_Ln, F_Ln, 2), (R_Mo, F_Mo, 29)]
abbrev b_PG_init : ByteArray := prog_1_method_1_code
def y_PG_init : MethodName := ⟨R_PG, "<init>", "()V"⟩
abbrev b_Pl_init : ByteArray := prog_5_method_1_code
def y_Pl_init : MethodName := ⟨R_Pl, "<init>", "()V"⟩
abbrev b_Li_init : ByteArray := prog_4_method_1_code
def y_Li_init : MethodName := ⟨R_Li, "<init>", "()V"⟩
abbrev b_Wa_init : ByteArray := prog_7_method_1_code
def y_Wa_init : MethodName := ⟨R_Wa, "<init>", "()V"⟩
abbrev b_Fl_init : ByteArray := prog_2_method_1_code
def y_Fl_init : MethodName := ⟨R_Fl, "<init>", "()V"⟩
abbrev b_Te_init : ByteArray := prog_6_method_1_code
def y_Te_init : MethodName := ⟨R_Te, "<init>", "()V"⟩
abbrev b_Ln_init : ByteArray := prog_3_method_1_code
def y_Ln_init : MethodName := ⟨R_Ln, "<init>", "()V"⟩
abbrev b_PG_tank : ByteArray := prog_1_method_2_code
def y_PG_tank : MethodName := ⟨R_PG, "tank", "(J)I"⟩
abbrev b_Pl_addTank : ByteArray := prog_5_method_7_code
def y_Pl_addTank : MethodName := ⟨R_Pl, "addTank", "(J)I"⟩
abbrev b_PG_isBetween : ByteArray := prog_1_method_17_code
def y_PG_isBetween : MethodName := ⟨R_PG, "isBetween", "(JJJ)Z"⟩
abbrev b_Pl_addThing : ByteArray := prog_5_method_10_code
def y_Pl_addThing : MethodName := ⟨R_Pl, "addThing", "(II)I"⟩
abbrev b_PG_pump : ByteArray := prog_1_method_3_code
def y_PG_pump : MethodName := ⟨R_PG, "pump", "()I"⟩
abbrev b_Pl_addPump : ByteArray := prog_5_method_8_code
def y_Pl_addPump : MethodName := ⟨R_Pl, "addPump", "()I"⟩
abbrev b_PG_valve : ByteArray := prog_1_method_4_code
def y_PG_valve : MethodName := ⟨R_PG, "valve", "(I)I"⟩
abbrev b_Pl_addValve : ByteArray := prog_5_method_9_code
def y_Pl_addValve : MethodName := ⟨R_Pl, "addValve", "(I)I"⟩
abbrev b_PG_pipe : ByteArray := prog_1_method_5_code
def y_PG_pipe : MethodName := ⟨R_PG, "pipe", "(IIJ)I"⟩
abbrev b_Pl_addPipe : ByteArray := prog_5_method_11_code
def y_Pl_addPipe : MethodName := ⟨R_Pl, "addPipe", "(IIJ)I"⟩
abbrev b_Pl_takesEnds : ByteArray := prog_5_method_12_code
def y_Pl_takesEnds : MethodName := ⟨R_Pl, "takesEnds", "(II)Z"⟩
abbrev b_Pl_isThing : ByteArray := prog_5_method_3_code
def y_Pl_isThing : MethodName := ⟨R_Pl, "isThing", "(I)Z"⟩
abbrev b_Pl_addEnd : ByteArray := prog_5_method_13_code
def y_Pl_addEnd : MethodName := ⟨R_Pl, "addEnd", "(II)V"⟩
abbrev b_PG_bend : ByteArray := prog_1_method_6_code
def y_PG_bend : MethodName := ⟨R_PG, "bend", "(II)I"⟩
abbrev b_Pl_isPipe : ByteArray := prog_5_method_6_code
def y_Pl_isPipe : MethodName := ⟨R_Pl, "isPipe", "(I)Z"⟩
abbrev b_Pl_endBentTo : ByteArray := prog_5_method_14_code
def y_Pl_endBentTo : MethodName := ⟨R_Pl, "endBentTo", "(II)I"⟩
abbrev b_Pl_takeBendOut : ByteArray := prog_5_method_17_code
def y_Pl_takeBendOut : MethodName := ⟨R_Pl, "takeBendOut", "(I)V"⟩
abbrev b_Pl_endForBend : ByteArray := prog_5_method_15_code
def y_Pl_endForBend : MethodName := ⟨R_Pl, "endForBend", "(I)I"⟩
abbrev b_Pl_putBendIn : ByteArray := prog_5_method_16_code
def y_Pl_putBendIn : MethodName := ⟨R_Pl, "putBendIn", "(II)V"⟩
abbrev b_PG_sensor : ByteArray := prog_1_method_8_code
def y_PG_sensor : MethodName := ⟨R_PG, "sensor", "(II)Z"⟩
abbrev b_Pl_isValve : ByteArray := prog_5_method_5_code
def y_Pl_isValve : MethodName := ⟨R_Pl, "isValve", "(I)Z"⟩
abbrev b_PG_isPosition : ByteArray := prog_1_method_18_code
def y_PG_isPosition : MethodName := ⟨R_PG, "isPosition", "(I)Z"⟩
abbrev b_PG_unsure : ByteArray := prog_1_method_9_code
def y_PG_unsure : MethodName := ⟨R_PG, "unsure", "(I)Z"⟩
abbrev b_PG_content : ByteArray := prog_1_method_10_code
def y_PG_content : MethodName := ⟨R_PG, "content", "(I)I"⟩
abbrev b_Pl_liquidInPipe : ByteArray := prog_5_method_23_code
def y_Pl_liquidInPipe : MethodName := ⟨R_Pl, "liquidInPipe", "(I)I"⟩
abbrev b_Pl_litreFrom : ByteArray := prog_5_method_24_code
def y_Pl_litreFrom : MethodName := ⟨R_Pl, "litreFrom", "(II)I"⟩
abbrev b_Pl_placeFrom : ByteArray := prog_5_method_26_code
def y_Pl_placeFrom : MethodName := ⟨R_Pl, "placeFrom", "(II)I"⟩
abbrev b_Li_at : ByteArray := prog_4_method_3_code
def y_Li_at : MethodName := ⟨R_Li, "at", "(I)I"⟩
abbrev b_Li_shift : ByteArray := prog_4_method_5_code
def y_Li_shift : MethodName := ⟨R_Li, "shift", "(I)I"⟩
abbrev b_PG_fill : ByteArray := prog_1_method_11_code
def y_PG_fill : MethodName := ⟨R_PG, "fill", "(IIJ)Z"⟩
abbrev b_Pl_isTank : ByteArray := prog_5_method_4_code
def y_Pl_isTank : MethodName := ⟨R_Pl, "isTank", "(I)Z"⟩
abbrev b_Pl_roomIn : ByteArray := prog_5_method_20_code
def y_Pl_roomIn : MethodName := ⟨R_Pl, "roomIn", "(I)I"⟩
abbrev b_Pl_pourIn : ByteArray := prog_5_method_21_code
def y_Pl_pourIn : MethodName := ⟨R_Pl, "pourIn", "(III)V"⟩
abbrev b_PG_move : ByteArray := prog_1_method_12_code
def y_PG_move : MethodName := ⟨R_PG, "move", "(IIJ)J"⟩
abbrev b_Wa_search : ByteArray := prog_7_method_2_code
def y_Wa_search : MethodName := ⟨R_Wa, "search", "(LPlantGraph$Plant;I)V"⟩
abbrev b_Ar_fillI : ByteArray := prog_18_method_103_code
def y_Ar_fillI : MethodName := ⟨R_Ar, "fill", "([II)V"⟩
abbrev b_Wa_passPipe : ByteArray := prog_7_method_6_code
def y_Wa_passPipe : MethodName := ⟨R_Wa, "passPipe", "(LPlantGraph$Plant;II)V"⟩
abbrev b_Wa_goOn : ByteArray := prog_7_method_5_code
def y_Wa_goOn : MethodName := ⟨R_Wa, "goOn", "(LPlantGraph$Plant;I)V"⟩
abbrev b_Pl_passes : ByteArray := prog_5_method_18_code
def y_Pl_passes : MethodName := ⟨R_Pl, "passes", "(III)Z"⟩
abbrev b_Pl_isPair : ByteArray := prog_5_method_19_code
def y_Pl_isPair : MethodName := ⟨R_Pl, "isPair", "(IIII)Z"⟩
abbrev b_Wa_lastEnd : ByteArray := prog_7_method_3_code
def y_Wa_lastEnd : MethodName := ⟨R_Wa, "lastEnd", "(I)I"⟩
abbrev b_Fl_run : ByteArray := prog_2_method_2_code
def y_Fl_run : MethodName := ⟨R_Fl, "run", "(LPlantGraph$Plant;LPlantGraph$Ways;III)I"⟩
abbrev b_Fl_gather : ByteArray := prog_2_method_3_code
def y_Fl_gather : MethodName := ⟨R_Fl, "gather", "(LPlantGraph$Plant;LPlantGraph$Ways;I)V"⟩
abbrev b_Li_set : ByteArray := prog_4_method_4_code
def y_Li_set : MethodName := ⟨R_Li, "set", "(II)V"⟩
abbrev b_Wa_endBefore : ByteArray := prog_7_method_4_code
def y_Wa_endBefore : MethodName := ⟨R_Wa, "endBefore", "(I)I"⟩
abbrev b_Fl_pushOut : ByteArray := prog_2_method_4_code
def y_Fl_pushOut : MethodName := ⟨R_Fl, "pushOut", "(LPlantGraph$Plant;II)I"⟩
abbrev b_Pl_drawOff : ByteArray := prog_5_method_22_code
def y_Pl_drawOff : MethodName := ⟨R_Pl, "drawOff", "(II)V"⟩
abbrev b_Fl_spread : ByteArray := prog_2_method_5_code
def y_Fl_spread : MethodName := ⟨R_Fl, "spread", "(LPlantGraph$Plant;LPlantGraph$Ways;III)V"⟩
abbrev b_Pl_setLitreFrom : ByteArray := prog_5_method_25_code
def y_Pl_setLitreFrom : MethodName := ⟨R_Pl, "setLitreFrom", "(III)V"⟩
abbrev b_PG_joined : ByteArray := prog_1_method_13_code
def y_PG_joined : MethodName := ⟨R_PG, "joined", "(II)I"⟩
abbrev b_PG_unit : ByteArray := prog_1_method_14_code
def y_PG_unit : MethodName := ⟨R_PG, "unit", "(I)Z"⟩
abbrev b_Te_add : ByteArray := prog_6_method_2_code
def y_Te_add : MethodName := ⟨R_Te, "add", "(I)Z"⟩
abbrev b_PG_read : ByteArray := prog_1_method_15_code
def y_PG_read : MethodName := ⟨R_PG, "read", "()I"⟩
abbrev b_Pl_clear : ByteArray := prog_5_method_2_code
def y_Pl_clear : MethodName := ⟨R_Pl, "clear", "()V"⟩
abbrev b_Li_clear : ByteArray := prog_4_method_2_code
def y_Li_clear : MethodName := ⟨R_Li, "clear", "()V"⟩
abbrev b_Ar_fillJ : ByteArray := prog_18_method_101_code
def y_Ar_fillJ : MethodName := ⟨R_Ar, "fill", "([JJ)V"⟩
abbrev b_Te_takeInto : ByteArray := prog_6_method_3_code
def y_Te_takeInto : MethodName := ⟨R_Te, "takeInto", "(LPlantGraph$Plant;)I"⟩
abbrev b_Te_takeLine : ByteArray := prog_6_method_4_code
def y_Te_takeLine : MethodName := ⟨R_Te, "takeLine", "(LPlantGraph$Plant;)Z"⟩
abbrev b_Te_byteAt : ByteArray := prog_6_method_6_code
def y_Te_byteAt : MethodName := ⟨R_Te, "byteAt", "(I)I"⟩
abbrev b_Te_passWord : ByteArray := prog_6_method_8_code
def y_Te_passWord : MethodName := ⟨R_Te, "passWord", "(Ljava/lang/String;)Z"⟩
abbrev b_Js_length : ByteArray := prog_14_method_54_code
def y_Js_length : MethodName := ⟨R_Js, "length", "()I"⟩
abbrev b_Js_coder : ByteArray := prog_14_method_152_code
def y_Js_coder : MethodName := ⟨R_Js, "coder", "()B"⟩
abbrev b_Js_charAt : ByteArray := prog_14_method_56_code
def y_Js_charAt : MethodName := ⟨R_Js, "charAt", "(I)C"⟩
abbrev b_Js_isLatin1 : ByteArray := prog_14_method_154_code
def y_Js_isLatin1 : MethodName := ⟨R_Js, "isLatin1", "()Z"⟩
abbrev b_Jl_charAt : ByteArray := prog_15_method_2_code
def y_Jl_charAt : MethodName := ⟨R_Jl, "charAt", "([BI)C"⟩
abbrev b_Js_checkIndex : ByteArray := prog_14_method_155_code
def y_Js_checkIndex : MethodName := ⟨R_Js, "checkIndex", "(II)V"⟩
abbrev b_Jp_checkIndex : ByteArray := prog_19_method_11_code
def y_Jp_checkIndex : MethodName := ⟨R_Jp, "checkIndex", "(IILjava/util/function/BiFunction;)I"⟩
abbrev b_Ju_charAt : ByteArray := prog_16_method_83_code
def y_Ju_charAt : MethodName := ⟨R_Ju, "charAt", "([BI)C"⟩
abbrev b_Ju_checkIndex : ByteArray := prog_16_method_91_code
def y_Ju_checkIndex : MethodName := ⟨R_Ju, "checkIndex", "(I[B)V"⟩
abbrev b_Ju_length : ByteArray := prog_16_method_6_code
def y_Ju_length : MethodName := ⟨R_Ju, "length", "([B)I"⟩
abbrev b_Ju_getChar : ByteArray := prog_16_method_5_code
def y_Ju_getChar : MethodName := ⟨R_Ju, "getChar", "([BI)C"⟩
abbrev b_Te_passNumber : ByteArray := prog_6_method_10_code
def y_Te_passNumber : MethodName := ⟨R_Te, "passNumber", "()Z"⟩
abbrev b_Te_isLineEnd : ByteArray := prog_6_method_7_code
def y_Te_isLineEnd : MethodName := ⟨R_Te, "isLineEnd", "()Z"⟩
abbrev b_Te_takePipe : ByteArray := prog_6_method_5_code
def y_Te_takePipe : MethodName := ⟨R_Te, "takePipe", "(LPlantGraph$Plant;)Z"⟩
abbrev b_Te_passEnd : ByteArray := prog_6_method_9_code
def y_Te_passEnd : MethodName := ⟨R_Te, "passEnd", "()Z"⟩
abbrev b_PG_write : ByteArray := prog_1_method_16_code
def y_PG_write : MethodName := ⟨R_PG, "write", "(I)I"⟩
abbrev b_Ln_setToThing : ByteArray := prog_3_method_3_code
def y_Ln_setToThing : MethodName := ⟨R_Ln, "setToThing", "(LPlantGraph$Plant;I)V"⟩
abbrev b_Ln_addWord : ByteArray := prog_3_method_7_code
def y_Ln_addWord : MethodName := ⟨R_Ln, "addWord", "(Ljava/lang/String;)V"⟩
abbrev b_Ln_addByte : ByteArray := prog_3_method_8_code
def y_Ln_addByte : MethodName := ⟨R_Ln, "addByte", "(I)V"⟩
abbrev b_Ln_addNumber : ByteArray := prog_3_method_6_code
def y_Ln_addNumber : MethodName := ⟨R_Ln, "addNumber", "(I)V"⟩
abbrev b_Ln_byteAt : ByteArray := prog_3_method_2_code
def y_Ln_byteAt : MethodName := ⟨R_Ln, "byteAt", "(I)I"⟩
abbrev b_Ln_setToPipe : ByteArray := prog_3_method_4_code
def y_Ln_setToPipe : MethodName := ⟨R_Ln, "setToPipe", "(LPlantGraph$Plant;I)V"⟩
abbrev b_Ln_addEnd : ByteArray := prog_3_method_5_code
def y_Ln_addEnd : MethodName := ⟨R_Ln, "addEnd", "(I)V"⟩
abbrev b_PG_position : ByteArray := prog_1_method_7_code
def y_PG_position : MethodName := ⟨R_PG, "position", "(II)Z"⟩
abbrev b_Xt_init0 : ByteArray := prog_17_method_1_code
def y_Xt_init0 : MethodName := ⟨R_Xt, "<init>", "()V"⟩
abbrev b_Xi_init : ByteArray := prog_11_method_2_code
def y_Xi_init : MethodName := ⟨R_Xi, "<init>", "(Ljava/lang/String;)V"⟩
abbrev b_Xr_init : ByteArray := prog_13_method_2_code
def y_Xr_init : MethodName := ⟨R_Xr, "<init>", "(Ljava/lang/String;)V"⟩
abbrev b_Xe_init : ByteArray := prog_10_method_2_code
def y_Xe_init : MethodName := ⟨R_Xe, "<init>", "(Ljava/lang/String;)V"⟩
abbrev b_Xt_init : ByteArray := prog_17_method_2_code
def y_Xt_init : MethodName := ⟨R_Xt, "<init>", "(Ljava/lang/String;)V"⟩
abbrev b_Mo_init : ByteArray := prog_9_method_1_code
def y_Mo_init : MethodName := ⟨R_Mo, "<init>", "()V"⟩
abbrev b_Mo_thrown : ByteArray := prog_9_method_2_code
def y_Mo_thrown : MethodName := ⟨R_Mo, "thrown", "()I"⟩
abbrev b_Mo_tank : ByteArray := prog_9_method_4_code
def y_Mo_tank : MethodName := ⟨R_Mo, "tank", "(J)I"⟩
abbrev b_Mo_make : ByteArray := prog_9_method_3_code
def y_Mo_make : MethodName := ⟨R_Mo, "make", "(IJ)I"⟩
abbrev b_Mo_pump : ByteArray := prog_9_method_5_code
def y_Mo_pump : MethodName := ⟨R_Mo, "pump", "()I"⟩
abbrev b_Mo_valve : ByteArray := prog_9_method_6_code
def y_Mo_valve : MethodName := ⟨R_Mo, "valve", "(I)I"⟩
abbrev b_Mo_pipe : ByteArray := prog_9_method_11_code
def y_Mo_pipe : MethodName := ⟨R_Mo, "pipe", "(IIJ)I"⟩
abbrev b_Mo_fits : ByteArray := prog_9_method_10_code
def y_Mo_fits : MethodName := ⟨R_Mo, "fits", "([I[IIIIJ)Z"⟩
abbrev b_Mo_join : ByteArray := prog_9_method_12_code
def y_Mo_join : MethodName := ⟨R_Mo, "join", "(II)V"⟩
abbrev b_Mo_bend : ByteArray := prog_9_method_15_code
def y_Mo_bend : MethodName := ⟨R_Mo, "bend", "(II)I"⟩
abbrev b_Mo_isPipe : ByteArray := prog_9_method_13_code
def y_Mo_isPipe : MethodName := ⟨R_Mo, "isPipe", "(I)Z"⟩
abbrev b_Mo_free : ByteArray := prog_9_method_14_code
def y_Mo_free : MethodName := ⟨R_Mo, "free", "(I)I"⟩
abbrev b_Mo_position : ByteArray := prog_9_method_16_code
def y_Mo_position : MethodName := ⟨R_Mo, "position", "(II)Z"⟩
abbrev b_Mo_isThing : ByteArray := prog_9_method_7_code
def y_Mo_isThing : MethodName := ⟨R_Mo, "isThing", "(I)Z"⟩
abbrev b_Mo_isValve : ByteArray := prog_9_method_9_code
def y_Mo_isValve : MethodName := ⟨R_Mo, "isValve", "(I)Z"⟩
abbrev b_Mo_sensor : ByteArray := prog_9_method_17_code
def y_Mo_sensor : MethodName := ⟨R_Mo, "sensor", "(II)Z"⟩
abbrev b_Mo_unsure : ByteArray := prog_9_method_18_code
def y_Mo_unsure : MethodName := ⟨R_Mo, "unsure", "(I)Z"⟩
abbrev b_Mo_content : ByteArray := prog_9_method_19_code
def y_Mo_content : MethodName := ⟨R_Mo, "content", "(I)I"⟩
abbrev b_Mo_fill : ByteArray := prog_9_method_21_code
def y_Mo_fill : MethodName := ⟨R_Mo, "fill", "(IIJ)Z"⟩
abbrev b_Mo_isTank : ByteArray := prog_9_method_8_code
def y_Mo_isTank : MethodName := ⟨R_Mo, "isTank", "(I)Z"⟩
abbrev b_Mo_come : ByteArray := prog_9_method_20_code
def y_Mo_come : MethodName := ⟨R_Mo, "come", "(IIJ)V"⟩
abbrev b_Mo_move : ByteArray := prog_9_method_26_code
def y_Mo_move : MethodName := ⟨R_Mo, "move", "(IIJ)J"⟩
abbrev b_Mo_find : ByteArray := prog_9_method_25_code
def y_Mo_find : MethodName := ⟨R_Mo, "find", "(II)Z"⟩
abbrev b_Mo_measure : ByteArray := prog_9_method_24_code
def y_Mo_measure : MethodName := ⟨R_Mo, "measure", "(I)V"⟩
abbrev b_Mo_next : ByteArray := prog_9_method_23_code
def y_Mo_next : MethodName := ⟨R_Mo, "next", "(II)I"⟩
abbrev b_Mo_passes : ByteArray := prog_9_method_22_code
def y_Mo_passes : MethodName := ⟨R_Mo, "passes", "(IIII)Z"⟩
abbrev b_Mo_joined : ByteArray := prog_9_method_27_code
def y_Mo_joined : MethodName := ⟨R_Mo, "joined", "(II)I"⟩
abbrev b_Mo_unit : ByteArray := prog_9_method_28_code
def y_Mo_unit : MethodName := ⟨R_Mo, "unit", "(I)Z"⟩
abbrev b_Mo_read : ByteArray := prog_9_method_33_code
def y_Mo_read : MethodName := ⟨R_Mo, "read", "()I"⟩
abbrev b_Mo_line : ByteArray := prog_9_method_32_code
def y_Mo_line : MethodName := ⟨R_Mo, "line", "()I"⟩
abbrev b_Mo_here : ByteArray := prog_9_method_29_code
def y_Mo_here : MethodName := ⟨R_Mo, "here", "()I"⟩
abbrev b_Mo_over : ByteArray := prog_9_method_30_code
def y_Mo_over : MethodName := ⟨R_Mo, "over", "(J)Z"⟩
abbrev b_Mo_value : ByteArray := prog_9_method_31_code
def y_Mo_value : MethodName := ⟨R_Mo, "value", "(Z)Z"⟩
abbrev b_Mo_write : ByteArray := prog_9_method_36_code
def y_Mo_write : MethodName := ⟨R_Mo, "write", "(I)I"⟩
abbrev b_Mo_say : ByteArray := prog_9_method_34_code
def y_Mo_say : MethodName := ⟨R_Mo, "say", "(J)V"⟩
abbrev b_Mo_sayNumber : ByteArray := prog_9_method_35_code
def y_Mo_sayNumber : MethodName := ⟨R_Mo, "sayNumber", "(J)V"⟩
