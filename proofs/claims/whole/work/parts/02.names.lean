def oT_Hall : u_T := fun k => match k with
  | 0 => ("OrderHall", "arcs", "LOrderHall$Arcs;", true)
  | 1 => ("OrderHall", "ring", "LOrderHall$Ring;", true)
  | 2 => ("OrderHall", "order", "LOrderHall$Order;", true)
  | 3 => ("OrderHall", "bounds", "LOrderHall$Bounds;", true)
  | 4 => ("OrderHall", "held", "LOrderHall$Held;", true)
  | 5 => ("OrderHall", "line", "LOrderHall$Line;", true)
  | 6 => ("OrderHall", "parts", "LOrderHall$Parts;", true)
  | _ => ("OrderHall", "settled", "Z", false)
def t_Hall : Nat → FieldType := fun k => match k with
  | 0 => .object "OrderHall$Arcs"
  | 1 => .object "OrderHall$Ring"
  | 2 => .object "OrderHall$Order"
  | 3 => .object "OrderHall$Bounds"
  | 4 => .object "OrderHall$Held"
  | 5 => .object "OrderHall$Line"
  | 6 => .object "OrderHall$Parts"
  | _ => .boolean
theorem n_Hall : ∀ a, a < 8 → ∀ b, b < 8 → a ≠ b → (oT_Hall a).2.1 ≠ (oT_Hall b).2.1 := by decide +kernel
theorem t_Hall_ok : ∀ k, k < 8 → parseFieldDescriptor (oT_Hall k).2.2.1 = some (t_Hall k) := by decide +kernel
def oT_Arcs : u_T := fun k => match k with
  | 0 => ("OrderHall$Arcs", "n", "I", false)
  | _ => ("OrderHall$Arcs", "next", "[I", true)
def t_Arcs : Nat → FieldType := fun k => match k with
  | 0 => .int
  | _ => .array .int
theorem n_Arcs : ∀ a, a < 2 → ∀ b, b < 2 → a ≠ b → (oT_Arcs a).2.1 ≠ (oT_Arcs b).2.1 := by decide +kernel
theorem t_Arcs_ok : ∀ k, k < 2 → parseFieldDescriptor (oT_Arcs k).2.2.1 = some (t_Arcs k) := by decide +kernel
def oT_Ring : u_T := fun k => match k with
  | 0 => ("OrderHall$Ring", "length", "I", false)
  | 1 => ("OrderHall$Ring", "element", "[I", true)
  | _ => ("OrderHall$Ring", "back", "[I", true)
def t_Ring : Nat → FieldType := fun k => match k with
  | 0 => .int
  | 1 => .array .int
  | _ => .array .int
theorem n_Ring : ∀ a, a < 3 → ∀ b, b < 3 → a ≠ b → (oT_Ring a).2.1 ≠ (oT_Ring b).2.1 := by decide +kernel
theorem t_Ring_ok : ∀ k, k < 3 → parseFieldDescriptor (oT_Ring k).2.2.1 = some (t_Ring k) := by decide +kernel
def oT_Order : u_T := fun k => match k with
  | 0 => ("OrderHall$Order", "n", "I", false)
  | 1 => ("OrderHall$Order", "below", "[I", true)
  | 2 => ("OrderHall$Order", "above", "[I", true)
  | 3 => ("OrderHall$Order", "apart", "[I", true)
  | 4 => ("OrderHall$Order", "rise", "[I", true)
  | 5 => ("OrderHall$Order", "fall", "[I", true)
  | 6 => ("OrderHall$Order", "sorted", "[I", true)
  | _ => ("OrderHall$Order", "row", "[I", true)
def t_Order : Nat → FieldType := fun k => match k with
  | 0 => .int
  | 1 => .array .int
  | 2 => .array .int
  | 3 => .array .int
  | 4 => .array .int
  | 5 => .array .int
  | 6 => .array .int
  | _ => .array .int
theorem n_Order : ∀ a, a < 8 → ∀ b, b < 8 → a ≠ b → (oT_Order a).2.1 ≠ (oT_Order b).2.1 := by decide +kernel
theorem t_Order_ok : ∀ k, k < 8 → parseFieldDescriptor (oT_Order k).2.2.1 = some (t_Order k) := by decide +kernel
def oT_Bounds : u_T := fun k => match k with
  | 0 => ("OrderHall$Bounds", "order", "LOrderHall$Order;", true)
  | 1 => ("OrderHall$Bounds", "meet", "[[I", true)
  | _ => ("OrderHall$Bounds", "join", "[[I", true)
def t_Bounds : Nat → FieldType := fun k => match k with
  | 0 => .object "OrderHall$Order"
  | 1 => .array (.array .int)
  | _ => .array (.array .int)
theorem n_Bounds : ∀ a, a < 3 → ∀ b, b < 3 → a ≠ b → (oT_Bounds a).2.1 ≠ (oT_Bounds b).2.1 := by decide +kernel
theorem t_Bounds_ok : ∀ k, k < 3 → parseFieldDescriptor (oT_Bounds k).2.2.1 = some (t_Bounds k) := by decide +kernel
def oT_Held : u_T := fun k => match k with
  | 0 => ("OrderHall$Held", "measured", "Z", false)
  | 1 => ("OrderHall$Held", "size", "[[I", true)
  | 2 => ("OrderHall$Held", "set", "[[I", true)
  | 3 => ("OrderHall$Held", "antichains", "I", false)
  | 4 => ("OrderHall$Held", "widest", "I", false)
  | 5 => ("OrderHall$Held", "inWidest", "I", false)
  | 6 => ("OrderHall$Held", "order", "LOrderHall$Order;", true)
  | _ => ("OrderHall$Held", "largest", "[B", true)
def t_Held : Nat → FieldType := fun k => match k with
  | 0 => .boolean
  | 1 => .array (.array .int)
  | 2 => .array (.array .int)
  | 3 => .int
  | 4 => .int
  | 5 => .int
  | 6 => .object "OrderHall$Order"
  | _ => .array .byte
theorem n_Held : ∀ a, a < 8 → ∀ b, b < 8 → a ≠ b → (oT_Held a).2.1 ≠ (oT_Held b).2.1 := by decide +kernel
theorem t_Held_ok : ∀ k, k < 8 → parseFieldDescriptor (oT_Held k).2.2.1 = some (t_Held k) := by decide +kernel
def oT_Line : u_T := fun k => match k with
  | 0 => ("OrderHall$Line", "counted", "Z", false)
  | 1 => ("OrderHall$Line", "there", "Z", false)
  | 2 => ("OrderHall$Line", "element", "[I", true)
  | 3 => ("OrderHall$Line", "order", "LOrderHall$Order;", true)
  | _ => ("OrderHall$Line", "ways", "[J", true)
def t_Line : Nat → FieldType := fun k => match k with
  | 0 => .boolean
  | 1 => .boolean
  | 2 => .array .int
  | 3 => .object "OrderHall$Order"
  | _ => .array .long
theorem n_Line : ∀ a, a < 5 → ∀ b, b < 5 → a ≠ b → (oT_Line a).2.1 ≠ (oT_Line b).2.1 := by decide +kernel
theorem t_Line_ok : ∀ k, k < 5 → parseFieldDescriptor (oT_Line k).2.2.1 = some (t_Line k) := by decide +kernel
def oT_Parts : u_T := fun k => match k with
  | 0 => ("OrderHall$Parts", "order", "LOrderHall$Order;", true)
  | 1 => ("OrderHall$Parts", "size", "[I", true)
  | 2 => ("OrderHall$Parts", "made", "I", false)
  | 3 => ("OrderHall$Parts", "behind", "[I", true)
  | 4 => ("OrderHall$Parts", "before", "[I", true)
  | 5 => ("OrderHall$Parts", "reached", "[I", true)
  | _ => ("OrderHall$Parts", "queue", "[I", true)
def t_Parts : Nat → FieldType := fun k => match k with
  | 0 => .object "OrderHall$Order"
  | 1 => .array .int
  | 2 => .int
  | 3 => .array .int
  | 4 => .array .int
  | 5 => .array .int
  | _ => .array .int
theorem n_Parts : ∀ a, a < 7 → ∀ b, b < 7 → a ≠ b → (oT_Parts a).2.1 ≠ (oT_Parts b).2.1 := by decide +kernel
theorem t_Parts_ok : ∀ k, k < 7 → parseFieldDescriptor (oT_Parts k).2.2.1 = some (t_Parts k) := by decide +kernel
def oT_Model : u_T := fun k => match k with
  | 0 => ("OrderHallModel", "thrown", "I", false)
  | 1 => ("OrderHallModel", "n", "I", false)
  | 2 => ("OrderHallModel", "settled", "Z", false)
  | 3 => ("OrderHallModel", "arcs", "[Z", true)
  | 4 => ("OrderHallModel", "less", "[Z", true)
  | 5 => ("OrderHallModel", "ring", "[I", true)
  | 6 => ("OrderHallModel", "ringSize", "I", false)
  | 7 => ("OrderHallModel", "height", "[B", true)
  | 8 => ("OrderHallModel", "width", "[B", true)
  | 9 => ("OrderHallModel", "ways", "[J", true)
  | 10 => ("OrderHallModel", "known", "Z", false)
  | 11 => ("OrderHallModel", "sequence", "[I", true)
  | 12 => ("OrderHallModel", "there", "Z", false)
  | 13 => ("OrderHallModel", "tries", "[I", true)
  | 14 => ("OrderHallModel", "signs", "[I", true)
  | 15 => ("OrderHallModel", "told", "[Z", true)
  | _ => ("OrderHallModel", "kept", "[I", true)
def t_Model : Nat → FieldType := fun k => match k with
  | 0 => .int
  | 1 => .int
  | 2 => .boolean
  | 3 => .array .boolean
  | 4 => .array .boolean
  | 5 => .array .int
  | 6 => .int
  | 7 => .array .byte
  | 8 => .array .byte
  | 9 => .array .long
  | 10 => .boolean
  | 11 => .array .int
  | 12 => .boolean
  | 13 => .array .int
  | 14 => .array .int
  | 15 => .array .boolean
  | _ => .array .int
theorem n_Model : ∀ a, a < 17 → ∀ b, b < 17 → a ≠ b → (oT_Model a).2.1 ≠ (oT_Model b).2.1 := by decide +kernel
theorem t_Model_ok : ∀ k, k < 17 → parseFieldDescriptor (oT_Model k).2.2.1 = some (t_Model k) := by decide +kernel
abbrev classes : List vw_C := [("OrderHall", oT_Hall, 8), ("OrderHall$Arcs", oT_Arcs, 2), ("OrderHall$Ring", oT_Ring, 3), ("OrderHall$Order", oT_Order, 8), ("OrderHall$Bounds", oT_Bounds, 3), ("OrderHall$Held", oT_Held, 8), ("OrderHall$Line", oT_Line, 5), ("OrderHall$Parts", oT_Parts, 7), ("OrderHallModel", oT_Model, 17)]
def oz_TW : List Cond := lw_tbl.filter goodWord
theorem oz_TW_good : ∀ w ∈ oz_TW, (w.onTables && w.keeps) = true ∨ ∃ ty, w = .arrayClass ty := fun _ h => good_of_word (List.mem_filter.mp h).2
theorem oz_inT {w : Cond} (k : Nat) (h : tables_1[k]? = some w) (g : goodWord w = true) : w ∈ oz_TW := List.mem_filter.mpr ⟨List.mem_append_right _ (List.mem_of_getElem? h), g⟩
theorem oz_inS {q : MethodName × Nat} (k : Nat) (h : lw_privs[k]? = some q) : Cond.selects q.1.cls q.1 q.1 ∈ oz_TW := List.mem_filter.mpr ⟨List.mem_append_left _ (List.mem_map.mpr ⟨q, List.mem_of_getElem? h, rfl⟩), rfl⟩
def oz_NW : List Cond := [(Jvm.Cond.methodLinkNest "OrderHall" (9 : Nat) ({ cls := "OrderHall$Arcs", name := "<init>", desc := "()V" } : Jvm.MethodName) "OrderHall"), (Jvm.Cond.methodLinkNest "OrderHall" (18 : Nat) ({ cls := "OrderHall$Ring", name := "<init>", desc := "()V" } : Jvm.MethodName) "OrderHall"), (Jvm.Cond.methodLinkNest "OrderHall" (25 : Nat) ({ cls := "OrderHall$Order", name := "<init>", desc := "()V" } : Jvm.MethodName) "OrderHall"), (Jvm.Cond.methodLinkNest "OrderHall$Ring" (39 : Nat) ({ cls := "OrderHall", name := "has", desc := "(II)Z" } : Jvm.MethodName) "OrderHall"), (Jvm.Cond.methodLinkNest "OrderHall$Order" (61 : Nat) ({ cls := "OrderHall", name := "has", desc := "(II)Z" } : Jvm.MethodName) "OrderHall"), (Jvm.Cond.methodLinkNest "OrderHall$Line" (50 : Nat) ({ cls := "OrderHall", name := "has", desc := "(II)Z" } : Jvm.MethodName) "OrderHall"), (Jvm.Cond.methodLinkNest "OrderHall$Arcs" (19 : Nat) ({ cls := "OrderHall", name := "has", desc := "(II)Z" } : Jvm.MethodName) "OrderHall"), (Jvm.Cond.methodLinkNest "OrderHall$Bounds" (44 : Nat) ({ cls := "OrderHall", name := "has", desc := "(II)Z" } : Jvm.MethodName) "OrderHall"), (Jvm.Cond.methodLinkNest "OrderHall$Parts" (91 : Nat) ({ cls := "OrderHall", name := "has", desc := "(II)Z" } : Jvm.MethodName) "OrderHall")]
theorem oz_NW_tab : ∀ w ∈ oz_NW, w.onTables = true := by decide +kernel
theorem oz_NW_warm {s U : State} : ∀ w ∈ oz_NW, s.WarmedH U.vm → va_Nw w s → va_Nw w U := by
  intro w hw hW h
  simp only [oz_NW, List.mem_cons, List.not_mem_nil, or_false] at hw
  rcases hw with rfl | rfl | rfl | rfl | rfl | rfl | rfl | rfl | rfl <;> exact va_Nw.warmM hW h
theorem tn_28 : (Jvm.Cond.methodLinkNest "OrderHall" (9 : Nat) ({ cls := "OrderHall$Arcs", name := "<init>", desc := "()V" } : Jvm.MethodName) "OrderHall") ∈ oz_NW := List.mem_of_getElem? (i := 0) rfl
theorem tn_47 : (Jvm.Cond.methodLinkNest "OrderHall" (18 : Nat) ({ cls := "OrderHall$Ring", name := "<init>", desc := "()V" } : Jvm.MethodName) "OrderHall") ∈ oz_NW := List.mem_of_getElem? (i := 1) rfl
theorem tn_65 : (Jvm.Cond.methodLinkNest "OrderHall" (25 : Nat) ({ cls := "OrderHall$Order", name := "<init>", desc := "()V" } : Jvm.MethodName) "OrderHall") ∈ oz_NW := List.mem_of_getElem? (i := 2) rfl
theorem tn_273 : (Jvm.Cond.methodLinkNest "OrderHall$Ring" (39 : Nat) ({ cls := "OrderHall", name := "has", desc := "(II)Z" } : Jvm.MethodName) "OrderHall") ∈ oz_NW := List.mem_of_getElem? (i := 3) rfl
theorem tn_295 : (Jvm.Cond.methodLinkNest "OrderHall$Order" (61 : Nat) ({ cls := "OrderHall", name := "has", desc := "(II)Z" } : Jvm.MethodName) "OrderHall") ∈ oz_NW := List.mem_of_getElem? (i := 4) rfl
theorem tn_341 : (Jvm.Cond.methodLinkNest "OrderHall$Line" (50 : Nat) ({ cls := "OrderHall", name := "has", desc := "(II)Z" } : Jvm.MethodName) "OrderHall") ∈ oz_NW := List.mem_of_getElem? (i := 5) rfl
theorem tn_465 : (Jvm.Cond.methodLinkNest "OrderHall$Arcs" (19 : Nat) ({ cls := "OrderHall", name := "has", desc := "(II)Z" } : Jvm.MethodName) "OrderHall") ∈ oz_NW := List.mem_of_getElem? (i := 6) rfl
theorem tn_661 : (Jvm.Cond.methodLinkNest "OrderHall$Bounds" (44 : Nat) ({ cls := "OrderHall", name := "has", desc := "(II)Z" } : Jvm.MethodName) "OrderHall") ∈ oz_NW := List.mem_of_getElem? (i := 7) rfl
theorem tn_745 : (Jvm.Cond.methodLinkNest "OrderHall$Parts" (91 : Nat) ({ cls := "OrderHall", name := "has", desc := "(II)Z" } : Jvm.MethodName) "OrderHall") ∈ oz_NW := List.mem_of_getElem? (i := 8) rfl
theorem ts_0 : Cond.selects "OrderHall" ⟨"OrderHall", "unsettle", "()V"⟩ ⟨"OrderHall", "unsettle", "()V"⟩ ∈ oz_TW := oz_inS (q := (⟨"OrderHall", "unsettle", "()V"⟩, _)) 0 rfl
theorem ts_1 : Cond.selects "OrderHall$Ring" ⟨"OrderHall$Ring", "stepsRound", "(LOrderHall$Arcs;II)I"⟩ ⟨"OrderHall$Ring", "stepsRound", "(LOrderHall$Arcs;II)I"⟩ ∈ oz_TW := oz_inS (q := (⟨"OrderHall$Ring", "stepsRound", "(LOrderHall$Arcs;II)I"⟩, _)) 1 rfl
theorem ts_2 : Cond.selects "OrderHall$Ring" ⟨"OrderHall$Ring", "write", "(LOrderHall$Arcs;I)V"⟩ ⟨"OrderHall$Ring", "write", "(LOrderHall$Arcs;I)V"⟩ ∈ oz_TW := oz_inS (q := (⟨"OrderHall$Ring", "write", "(LOrderHall$Arcs;I)V"⟩, _)) 2 rfl
theorem ts_3 : Cond.selects "OrderHall" ⟨"OrderHall", "adopt", "()V"⟩ ⟨"OrderHall", "adopt", "()V"⟩ ∈ oz_TW := oz_inS (q := (⟨"OrderHall", "adopt", "()V"⟩, _)) 3 rfl
theorem ts_4 : Cond.selects "OrderHall$Order" ⟨"OrderHall$Order", "closeAbove", "(LOrderHall$Arcs;)V"⟩ ⟨"OrderHall$Order", "closeAbove", "(LOrderHall$Arcs;)V"⟩ ∈ oz_TW := oz_inS (q := (⟨"OrderHall$Order", "closeAbove", "(LOrderHall$Arcs;)V"⟩, _)) 4 rfl
theorem ts_5 : Cond.selects "OrderHall$Order" ⟨"OrderHall$Order", "belowOf", "(I)I"⟩ ⟨"OrderHall$Order", "belowOf", "(I)I"⟩ ∈ oz_TW := oz_inS (q := (⟨"OrderHall$Order", "belowOf", "(I)I"⟩, _)) 5 rfl
theorem ts_6 : Cond.selects "OrderHall$Order" ⟨"OrderHall$Order", "sort", "()V"⟩ ⟨"OrderHall$Order", "sort", "()V"⟩ ∈ oz_TW := oz_inS (q := (⟨"OrderHall$Order", "sort", "()V"⟩, _)) 6 rfl
theorem ts_7 : Cond.selects "OrderHall$Order" ⟨"OrderHall$Order", "measureLevels", "()V"⟩ ⟨"OrderHall$Order", "measureLevels", "()V"⟩ ∈ oz_TW := oz_inS (q := (⟨"OrderHall$Order", "measureLevels", "()V"⟩, _)) 7 rfl
theorem ts_8 : Cond.selects "OrderHall$Order" ⟨"OrderHall$Order", "greatest", "([II)I"⟩ ⟨"OrderHall$Order", "greatest", "([II)I"⟩ ∈ oz_TW := oz_inS (q := (⟨"OrderHall$Order", "greatest", "([II)I"⟩, _)) 8 rfl
theorem ts_9 : Cond.selects "OrderHall$Line" ⟨"OrderHall$Line", "waysWith", "(II)J"⟩ ⟨"OrderHall$Line", "waysWith", "(II)J"⟩ ∈ oz_TW := oz_inS (q := (⟨"OrderHall$Line", "waysWith", "(II)J"⟩, _)) 9 rfl
theorem ts_11 : Cond.selects "OrderHall" ⟨"OrderHall", "wantSettled", "()V"⟩ ⟨"OrderHall", "wantSettled", "()V"⟩ ∈ oz_TW := oz_inS (q := (⟨"OrderHall", "wantSettled", "()V"⟩, _)) 11 rfl
theorem ts_12 : Cond.selects "OrderHall$Held" ⟨"OrderHall$Held", "measureKind", "(I)V"⟩ ⟨"OrderHall$Held", "measureKind", "(I)V"⟩ ∈ oz_TW := oz_inS (q := (⟨"OrderHall$Held", "measureKind", "(I)V"⟩, _)) 12 rfl
theorem ts_13 : Cond.selects "OrderHall$Held" ⟨"OrderHall$Held", "extendLargest", "(II)V"⟩ ⟨"OrderHall$Held", "extendLargest", "(II)V"⟩ ∈ oz_TW := oz_inS (q := (⟨"OrderHall$Held", "extendLargest", "(II)V"⟩, _)) 13 rfl
theorem ts_14 : Cond.selects "OrderHall$Held" ⟨"OrderHall$Held", "noteFirsts", "([I[I)V"⟩ ⟨"OrderHall$Held", "noteFirsts", "([I[I)V"⟩ ∈ oz_TW := oz_inS (q := (⟨"OrderHall$Held", "noteFirsts", "([I[I)V"⟩, _)) 14 rfl
theorem ts_15 : Cond.selects "OrderHall$Held" ⟨"OrderHall$Held", "spreadFirsts", "([I[I)V"⟩ ⟨"OrderHall$Held", "spreadFirsts", "([I[I)V"⟩ ∈ oz_TW := oz_inS (q := (⟨"OrderHall$Held", "spreadFirsts", "([I[I)V"⟩, _)) 15 rfl
theorem ts_16 : Cond.selects "OrderHall$Held" ⟨"OrderHall$Held", "countAntichains", "()V"⟩ ⟨"OrderHall$Held", "countAntichains", "()V"⟩ ∈ oz_TW := oz_inS (q := (⟨"OrderHall$Held", "countAntichains", "()V"⟩, _)) 16 rfl
theorem ts_17 : Cond.selects "OrderHall$Order" ⟨"OrderHall$Order", "sum", "([II)I"⟩ ⟨"OrderHall$Order", "sum", "([II)I"⟩ ∈ oz_TW := oz_inS (q := (⟨"OrderHall$Order", "sum", "([II)I"⟩, _)) 17 rfl
theorem ts_18 : Cond.selects "OrderHall$Line" ⟨"OrderHall$Line", "countWays", "()V"⟩ ⟨"OrderHall$Line", "countWays", "()V"⟩ ∈ oz_TW := oz_inS (q := (⟨"OrderHall$Line", "countWays", "()V"⟩, _)) 18 rfl
theorem ts_19 : Cond.selects "OrderHall$Line" ⟨"OrderHall$Line", "waysBehind", "(I)J"⟩ ⟨"OrderHall$Line", "waysBehind", "(I)J"⟩ ∈ oz_TW := oz_inS (q := (⟨"OrderHall$Line", "waysBehind", "(I)J"⟩, _)) 19 rfl
theorem ts_20 : Cond.selects "OrderHall$Bounds" ⟨"OrderHall$Bounds", "beyondAll", "(I[I)I"⟩ ⟨"OrderHall$Bounds", "beyondAll", "(I[I)I"⟩ ∈ oz_TW := oz_inS (q := (⟨"OrderHall$Bounds", "beyondAll", "(I[I)I"⟩, _)) 20 rfl
theorem ts_21 : Cond.selects "OrderHall$Parts" ⟨"OrderHall$Parts", "split", "(II)V"⟩ ⟨"OrderHall$Parts", "split", "(II)V"⟩ ∈ oz_TW := oz_inS (q := (⟨"OrderHall$Parts", "split", "(II)V"⟩, _)) 21 rfl
theorem ts_22 : Cond.selects "OrderHall$Parts" ⟨"OrderHall$Parts", "linkChains", "(I)V"⟩ ⟨"OrderHall$Parts", "linkChains", "(I)V"⟩ ∈ oz_TW := oz_inS (q := (⟨"OrderHall$Parts", "linkChains", "(I)V"⟩, _)) 22 rfl
theorem ts_23 : Cond.selects "OrderHall$Parts" ⟨"OrderHall$Parts", "linkOn", "(II)V"⟩ ⟨"OrderHall$Parts", "linkOn", "(II)V"⟩ ∈ oz_TW := oz_inS (q := (⟨"OrderHall$Parts", "linkOn", "(II)V"⟩, _)) 23 rfl
theorem ts_24 : Cond.selects "OrderHall$Parts" ⟨"OrderHall$Parts", "relink", "(I)V"⟩ ⟨"OrderHall$Parts", "relink", "(I)V"⟩ ∈ oz_TW := oz_inS (q := (⟨"OrderHall$Parts", "relink", "(I)V"⟩, _)) 24 rfl
theorem ts_25 : Cond.selects "OrderHall$Parts" ⟨"OrderHall$Parts", "cutChains", "(I)V"⟩ ⟨"OrderHall$Parts", "cutChains", "(I)V"⟩ ∈ oz_TW := oz_inS (q := (⟨"OrderHall$Parts", "cutChains", "(I)V"⟩, _)) 25 rfl
theorem ts_26 : Cond.selects "OrderHall$Parts" ⟨"OrderHall$Parts", "chainFrom", "(I)I"⟩ ⟨"OrderHall$Parts", "chainFrom", "(I)I"⟩ ∈ oz_TW := oz_inS (q := (⟨"OrderHall$Parts", "chainFrom", "(I)I"⟩, _)) 26 rfl
theorem ts_27 : Cond.selects "OrderHall$Parts" ⟨"OrderHall$Parts", "addPart", "(I)V"⟩ ⟨"OrderHall$Parts", "addPart", "(I)V"⟩ ∈ oz_TW := oz_inS (q := (⟨"OrderHall$Parts", "addPart", "(I)V"⟩, _)) 27 rfl
theorem ts_28 : Cond.selects "OrderHall$Parts" ⟨"OrderHall$Parts", "cutLayers", "(I)V"⟩ ⟨"OrderHall$Parts", "cutLayers", "(I)V"⟩ ∈ oz_TW := oz_inS (q := (⟨"OrderHall$Parts", "cutLayers", "(I)V"⟩, _)) 28 rfl
theorem ts_29 : Cond.selects "OrderHall$Parts" ⟨"OrderHall$Parts", "together", "(I)I"⟩ ⟨"OrderHall$Parts", "together", "(I)I"⟩ ∈ oz_TW := oz_inS (q := (⟨"OrderHall$Parts", "together", "(I)I"⟩, _)) 29 rfl
theorem ts_30 : Cond.selects "OrderHallModel" ⟨"OrderHallModel", "change", "()V"⟩ ⟨"OrderHallModel", "change", "()V"⟩ ∈ oz_TW := oz_inS (q := (⟨"OrderHallModel", "change", "()V"⟩, _)) 30 rfl
theorem ts_31 : Cond.selects "OrderHallModel" ⟨"OrderHallModel", "setArc", "(IIZ)I"⟩ ⟨"OrderHallModel", "setArc", "(IIZ)I"⟩ ∈ oz_TW := oz_inS (q := (⟨"OrderHallModel", "setArc", "(IIZ)I"⟩, _)) 31 rfl
theorem ts_32 : Cond.selects "OrderHallModel" ⟨"OrderHallModel", "isElement", "(I)Z"⟩ ⟨"OrderHallModel", "isElement", "(I)Z"⟩ ∈ oz_TW := oz_inS (q := (⟨"OrderHallModel", "isElement", "(I)Z"⟩, _)) 32 rfl
theorem ts_33 : Cond.selects "OrderHallModel" ⟨"OrderHallModel", "isLess", "(II)Z"⟩ ⟨"OrderHallModel", "isLess", "(II)Z"⟩ ∈ oz_TW := oz_inS (q := (⟨"OrderHallModel", "isLess", "(II)Z"⟩, _)) 33 rfl
theorem ts_34 : Cond.selects "OrderHallModel" ⟨"OrderHallModel", "findRing", "(I)Z"⟩ ⟨"OrderHallModel", "findRing", "(I)Z"⟩ ∈ oz_TW := oz_inS (q := (⟨"OrderHallModel", "findRing", "(I)Z"⟩, _)) 34 rfl
theorem ts_35 : Cond.selects "OrderHallModel" ⟨"OrderHallModel", "closes", "(II)Z"⟩ ⟨"OrderHallModel", "closes", "(II)Z"⟩ ∈ oz_TW := oz_inS (q := (⟨"OrderHallModel", "closes", "(II)Z"⟩, _)) 35 rfl
theorem ts_36 : Cond.selects "OrderHallModel" ⟨"OrderHallModel", "isArc", "(II)Z"⟩ ⟨"OrderHallModel", "isArc", "(II)Z"⟩ ∈ oz_TW := oz_inS (q := (⟨"OrderHallModel", "isArc", "(II)Z"⟩, _)) 36 rfl
theorem ts_37 : Cond.selects "OrderHallModel" ⟨"OrderHallModel", "firstAt", "(I)I"⟩ ⟨"OrderHallModel", "firstAt", "(I)I"⟩ ∈ oz_TW := oz_inS (q := (⟨"OrderHallModel", "firstAt", "(I)I"⟩, _)) 37 rfl
theorem ts_38 : Cond.selects "OrderHallModel" ⟨"OrderHallModel", "covers", "(II)Z"⟩ ⟨"OrderHallModel", "covers", "(II)Z"⟩ ∈ oz_TW := oz_inS (q := (⟨"OrderHallModel", "covers", "(II)Z"⟩, _)) 38 rfl
theorem ts_39 : Cond.selects "OrderHallModel" ⟨"OrderHallModel", "isApart", "(II)Z"⟩ ⟨"OrderHallModel", "isApart", "(II)Z"⟩ ∈ oz_TW := oz_inS (q := (⟨"OrderHallModel", "isApart", "(II)Z"⟩, _)) 39 rfl
theorem ts_40 : Cond.selects "OrderHallModel" ⟨"OrderHallModel", "know", "()V"⟩ ⟨"OrderHallModel", "know", "()V"⟩ ∈ oz_TW := oz_inS (q := (⟨"OrderHallModel", "know", "()V"⟩, _)) 40 rfl
theorem ts_41 : Cond.selects "OrderHallModel" ⟨"OrderHallModel", "isChain", "(I)Z"⟩ ⟨"OrderHallModel", "isChain", "(I)Z"⟩ ∈ oz_TW := oz_inS (q := (⟨"OrderHallModel", "isChain", "(I)Z"⟩, _)) 41 rfl
theorem ts_42 : Cond.selects "OrderHallModel" ⟨"OrderHallModel", "isAntichain", "(I)Z"⟩ ⟨"OrderHallModel", "isAntichain", "(I)Z"⟩ ∈ oz_TW := oz_inS (q := (⟨"OrderHallModel", "isAntichain", "(I)Z"⟩, _)) 42 rfl
theorem ts_43 : Cond.selects "OrderHallModel" ⟨"OrderHallModel", "mayCome", "(II)Z"⟩ ⟨"OrderHallModel", "mayCome", "(II)Z"⟩ ∈ oz_TW := oz_inS (q := (⟨"OrderHallModel", "mayCome", "(II)Z"⟩, _)) 43 rfl
theorem ts_44 : Cond.selects "OrderHallModel" ⟨"OrderHallModel", "isClosed", "(I)Z"⟩ ⟨"OrderHallModel", "isClosed", "(I)Z"⟩ ∈ oz_TW := oz_inS (q := (⟨"OrderHallModel", "isClosed", "(I)Z"⟩, _)) 44 rfl
theorem ts_45 : Cond.selects "OrderHallModel" ⟨"OrderHallModel", "isUnder", "(IIZ)Z"⟩ ⟨"OrderHallModel", "isUnder", "(IIZ)Z"⟩ ∈ oz_TW := oz_inS (q := (⟨"OrderHallModel", "isUnder", "(IIZ)Z"⟩, _)) 45 rfl
theorem ts_46 : Cond.selects "OrderHallModel" ⟨"OrderHallModel", "asks", "(II)Z"⟩ ⟨"OrderHallModel", "asks", "(II)Z"⟩ ∈ oz_TW := oz_inS (q := (⟨"OrderHallModel", "asks", "(II)Z"⟩, _)) 46 rfl
theorem ts_47 : Cond.selects "OrderHallModel" ⟨"OrderHallModel", "firstHeld", "(II)I"⟩ ⟨"OrderHallModel", "firstHeld", "(II)I"⟩ ∈ oz_TW := oz_inS (q := (⟨"OrderHallModel", "firstHeld", "(II)I"⟩, _)) 47 rfl
theorem ts_48 : Cond.selects "OrderHallModel" ⟨"OrderHallModel", "isHeld", "(III)Z"⟩ ⟨"OrderHallModel", "isHeld", "(III)Z"⟩ ∈ oz_TW := oz_inS (q := (⟨"OrderHallModel", "isHeld", "(III)Z"⟩, _)) 48 rfl
theorem ts_49 : Cond.selects "OrderHallModel" ⟨"OrderHallModel", "boundOf", "(III)I"⟩ ⟨"OrderHallModel", "boundOf", "(III)I"⟩ ∈ oz_TW := oz_inS (q := (⟨"OrderHallModel", "boundOf", "(III)I"⟩, _)) 49 rfl
theorem ts_50 : Cond.selects "OrderHallModel" ⟨"OrderHallModel", "isBound", "(IIII)Z"⟩ ⟨"OrderHallModel", "isBound", "(IIII)Z"⟩ ∈ oz_TW := oz_inS (q := (⟨"OrderHallModel", "isBound", "(IIII)Z"⟩, _)) 50 rfl
theorem ts_51 : Cond.selects "OrderHallModel" ⟨"OrderHallModel", "isAtMost", "(II)Z"⟩ ⟨"OrderHallModel", "isAtMost", "(II)Z"⟩ ∈ oz_TW := oz_inS (q := (⟨"OrderHallModel", "isAtMost", "(II)Z"⟩, _)) 51 rfl
theorem ts_52 : Cond.selects "OrderHallModel" ⟨"OrderHallModel", "tell", "(II)V"⟩ ⟨"OrderHallModel", "tell", "(II)V"⟩ ∈ oz_TW := oz_inS (q := (⟨"OrderHallModel", "tell", "(II)V"⟩, _)) 52 rfl
theorem tw_1 : (Jvm.Cond.initialized "OrderHall") ∈ oz_TW := oz_inT 1 (by decide +kernel) rfl
theorem tw_2 : (Jvm.Cond.initialized "OrderHall$Arcs") ∈ oz_TW := oz_inT 2 (by decide +kernel) rfl
theorem tw_3 : (Jvm.Cond.initialized "OrderHall$Ring") ∈ oz_TW := oz_inT 3 (by decide +kernel) rfl
theorem tw_4 : (Jvm.Cond.initialized "OrderHall$Order") ∈ oz_TW := oz_inT 4 (by decide +kernel) rfl
theorem tw_5 : (Jvm.Cond.initialized "OrderHall$Bounds") ∈ oz_TW := oz_inT 5 (by decide +kernel) rfl
theorem tw_6 : (Jvm.Cond.initialized "OrderHall$Held") ∈ oz_TW := oz_inT 6 (by decide +kernel) rfl
theorem tw_7 : (Jvm.Cond.initialized "OrderHall$Line") ∈ oz_TW := oz_inT 7 (by decide +kernel) rfl
theorem tw_8 : (Jvm.Cond.initialized "OrderHall$Parts") ∈ oz_TW := oz_inT 8 (by decide +kernel) rfl
theorem tw_9 : (Jvm.Cond.initialized "OrderHallModel") ∈ oz_TW := oz_inT 9 (by decide +kernel) rfl
theorem tw_13 : (Jvm.Cond.initialized "java/lang/IllegalArgumentException") ∈ oz_TW := oz_inT 13 (by decide +kernel) rfl
theorem tw_14 : (Jvm.Cond.initialized "java/lang/IndexOutOfBoundsException") ∈ oz_TW := oz_inT 14 (by decide +kernel) rfl
theorem tw_15 : (Jvm.Cond.initialized "java/lang/Integer") ∈ oz_TW := oz_inT 15 (by decide +kernel) rfl
theorem tw_16 : (Jvm.Cond.initialized "java/lang/Math") ∈ oz_TW := oz_inT 16 (by decide +kernel) rfl
theorem tw_17 : (Jvm.Cond.initialized "java/lang/IllegalStateException") ∈ oz_TW := oz_inT 17 (by decide +kernel) rfl
theorem tw_32 : (Jvm.Cond.fieldLink "OrderHall$Arcs" (9 : Nat) "OrderHall$Arcs" "n" "I") ∈ oz_TW := oz_inT 32 (by decide +kernel) rfl
theorem tw_33 : (Jvm.Cond.fieldLink "OrderHall$Order" (37 : Nat) "OrderHall$Arcs" "n" "I") ∈ oz_TW := oz_inT 33 (by decide +kernel) rfl
theorem tw_34 : (Jvm.Cond.fieldLink "OrderHall$Ring" (22 : Nat) "OrderHall$Arcs" "n" "I") ∈ oz_TW := oz_inT 34 (by decide +kernel) rfl
theorem tw_35 : (Jvm.Cond.fieldLink "OrderHall" (74 : Nat) "OrderHall$Arcs" "n" "I") ∈ oz_TW := oz_inT 35 (by decide +kernel) rfl
theorem tw_36 : (Jvm.Cond.fieldLink "OrderHall$Arcs" (15 : Nat) "OrderHall$Arcs" "next" "[I") ∈ oz_TW := oz_inT 36 (by decide +kernel) rfl
theorem tw_37 : (Jvm.Cond.fieldLink "OrderHall$Order" (58 : Nat) "OrderHall$Arcs" "next" "[I") ∈ oz_TW := oz_inT 37 (by decide +kernel) rfl
theorem tw_38 : (Jvm.Cond.fieldLink "OrderHall$Ring" (43 : Nat) "OrderHall$Arcs" "next" "[I") ∈ oz_TW := oz_inT 38 (by decide +kernel) rfl
theorem tw_39 : (Jvm.Cond.lays "OrderHall$Arcs" "OrderHall$Arcs" "n" "I") ∈ oz_TW := oz_inT 39 (by decide +kernel) rfl
theorem tw_41 : (Jvm.Cond.laysFinal "OrderHall$Arcs" "OrderHall$Arcs" "next" "[I") ∈ oz_TW := oz_inT 41 (by decide +kernel) rfl
theorem tw_51 : (Jvm.Cond.fieldLink "OrderHall$Ring" (9 : Nat) "OrderHall$Ring" "length" "I") ∈ oz_TW := oz_inT 51 (by decide +kernel) rfl
theorem tw_52 : (Jvm.Cond.fieldLink "OrderHall" (93 : Nat) "OrderHall$Ring" "length" "I") ∈ oz_TW := oz_inT 52 (by decide +kernel) rfl
theorem tw_53 : (Jvm.Cond.fieldLink "OrderHall$Ring" (15 : Nat) "OrderHall$Ring" "element" "[I") ∈ oz_TW := oz_inT 53 (by decide +kernel) rfl
theorem tw_54 : (Jvm.Cond.fieldLink "OrderHall" (99 : Nat) "OrderHall$Ring" "element" "[I") ∈ oz_TW := oz_inT 54 (by decide +kernel) rfl
theorem tw_55 : (Jvm.Cond.fieldLink "OrderHall$Ring" (19 : Nat) "OrderHall$Ring" "back" "[I") ∈ oz_TW := oz_inT 55 (by decide +kernel) rfl
theorem tw_56 : (Jvm.Cond.lays "OrderHall$Ring" "OrderHall$Ring" "length" "I") ∈ oz_TW := oz_inT 56 (by decide +kernel) rfl
theorem tw_58 : (Jvm.Cond.laysFinal "OrderHall$Ring" "OrderHall$Ring" "element" "[I") ∈ oz_TW := oz_inT 58 (by decide +kernel) rfl
theorem tw_60 : (Jvm.Cond.laysFinal "OrderHall$Ring" "OrderHall$Ring" "back" "[I") ∈ oz_TW := oz_inT 60 (by decide +kernel) rfl
theorem tw_69 : (Jvm.Cond.fieldLink "OrderHall$Order" (9 : Nat) "OrderHall$Order" "n" "I") ∈ oz_TW := oz_inT 69 (by decide +kernel) rfl
theorem tw_70 : (Jvm.Cond.fieldLink "OrderHall$Parts" (35 : Nat) "OrderHall$Order" "n" "I") ∈ oz_TW := oz_inT 70 (by decide +kernel) rfl
theorem tw_71 : (Jvm.Cond.fieldLink "OrderHall$Held" (48 : Nat) "OrderHall$Order" "n" "I") ∈ oz_TW := oz_inT 71 (by decide +kernel) rfl
theorem tw_72 : (Jvm.Cond.fieldLink "OrderHall$Line" (43 : Nat) "OrderHall$Order" "n" "I") ∈ oz_TW := oz_inT 72 (by decide +kernel) rfl
theorem tw_73 : (Jvm.Cond.fieldLink "OrderHall$Bounds" (40 : Nat) "OrderHall$Order" "n" "I") ∈ oz_TW := oz_inT 73 (by decide +kernel) rfl
theorem tw_74 : (Jvm.Cond.fieldLink "OrderHall" (106 : Nat) "OrderHall$Order" "n" "I") ∈ oz_TW := oz_inT 74 (by decide +kernel) rfl
theorem tw_75 : (Jvm.Cond.fieldLink "OrderHall$Arcs" (33 : Nat) "OrderHall$Order" "n" "I") ∈ oz_TW := oz_inT 75 (by decide +kernel) rfl
theorem tw_76 : (Jvm.Cond.fieldLink "OrderHall$Order" (15 : Nat) "OrderHall$Order" "below" "[I") ∈ oz_TW := oz_inT 76 (by decide +kernel) rfl
theorem tw_77 : (Jvm.Cond.fieldLink "OrderHall$Bounds" (23 : Nat) "OrderHall$Order" "below" "[I") ∈ oz_TW := oz_inT 77 (by decide +kernel) rfl
theorem tw_78 : (Jvm.Cond.fieldLink "OrderHall$Held" (57 : Nat) "OrderHall$Order" "below" "[I") ∈ oz_TW := oz_inT 78 (by decide +kernel) rfl
theorem tw_79 : (Jvm.Cond.fieldLink "OrderHall$Line" (47 : Nat) "OrderHall$Order" "below" "[I") ∈ oz_TW := oz_inT 79 (by decide +kernel) rfl
theorem tw_80 : (Jvm.Cond.fieldLink "OrderHall$Parts" (84 : Nat) "OrderHall$Order" "below" "[I") ∈ oz_TW := oz_inT 80 (by decide +kernel) rfl
theorem tw_81 : (Jvm.Cond.fieldLink "OrderHall" (113 : Nat) "OrderHall$Order" "below" "[I") ∈ oz_TW := oz_inT 81 (by decide +kernel) rfl
theorem tw_82 : (Jvm.Cond.fieldLink "OrderHall$Order" (19 : Nat) "OrderHall$Order" "above" "[I") ∈ oz_TW := oz_inT 82 (by decide +kernel) rfl
theorem tw_83 : (Jvm.Cond.fieldLink "OrderHall$Bounds" (37 : Nat) "OrderHall$Order" "above" "[I") ∈ oz_TW := oz_inT 83 (by decide +kernel) rfl
theorem tw_84 : (Jvm.Cond.fieldLink "OrderHall$Held" (60 : Nat) "OrderHall$Order" "above" "[I") ∈ oz_TW := oz_inT 84 (by decide +kernel) rfl
theorem tw_85 : (Jvm.Cond.fieldLink "OrderHall$Arcs" (40 : Nat) "OrderHall$Order" "above" "[I") ∈ oz_TW := oz_inT 85 (by decide +kernel) rfl
theorem tw_86 : (Jvm.Cond.fieldLink "OrderHall" (107 : Nat) "OrderHall$Order" "above" "[I") ∈ oz_TW := oz_inT 86 (by decide +kernel) rfl
theorem tw_87 : (Jvm.Cond.fieldLink "OrderHall$Parts" (101 : Nat) "OrderHall$Order" "above" "[I") ∈ oz_TW := oz_inT 87 (by decide +kernel) rfl
theorem tw_88 : (Jvm.Cond.fieldLink "OrderHall$Order" (22 : Nat) "OrderHall$Order" "apart" "[I") ∈ oz_TW := oz_inT 88 (by decide +kernel) rfl
theorem tw_89 : (Jvm.Cond.fieldLink "OrderHall$Held" (53 : Nat) "OrderHall$Order" "apart" "[I") ∈ oz_TW := oz_inT 89 (by decide +kernel) rfl
theorem tw_90 : (Jvm.Cond.fieldLink "OrderHall$Line" (58 : Nat) "OrderHall$Order" "apart" "[I") ∈ oz_TW := oz_inT 90 (by decide +kernel) rfl
theorem tw_91 : (Jvm.Cond.fieldLink "OrderHall" (123 : Nat) "OrderHall$Order" "apart" "[I") ∈ oz_TW := oz_inT 91 (by decide +kernel) rfl
theorem tw_92 : (Jvm.Cond.fieldLink "OrderHall$Order" (25 : Nat) "OrderHall$Order" "rise" "[I") ∈ oz_TW := oz_inT 92 (by decide +kernel) rfl
theorem tw_93 : (Jvm.Cond.fieldLink "OrderHall" (126 : Nat) "OrderHall$Order" "rise" "[I") ∈ oz_TW := oz_inT 93 (by decide +kernel) rfl
theorem tw_94 : (Jvm.Cond.fieldLink "OrderHall$Order" (28 : Nat) "OrderHall$Order" "fall" "[I") ∈ oz_TW := oz_inT 94 (by decide +kernel) rfl
theorem tw_95 : (Jvm.Cond.fieldLink "OrderHall" (129 : Nat) "OrderHall$Order" "fall" "[I") ∈ oz_TW := oz_inT 95 (by decide +kernel) rfl
theorem tw_96 : (Jvm.Cond.fieldLink "OrderHall$Order" (31 : Nat) "OrderHall$Order" "sorted" "[I") ∈ oz_TW := oz_inT 96 (by decide +kernel) rfl
theorem tw_97 : (Jvm.Cond.fieldLink "OrderHall$Order" (34 : Nat) "OrderHall$Order" "row" "[I") ∈ oz_TW := oz_inT 97 (by decide +kernel) rfl
theorem tw_98 : (Jvm.Cond.lays "OrderHall$Order" "OrderHall$Order" "n" "I") ∈ oz_TW := oz_inT 98 (by decide +kernel) rfl
theorem tw_100 : (Jvm.Cond.laysFinal "OrderHall$Order" "OrderHall$Order" "below" "[I") ∈ oz_TW := oz_inT 100 (by decide +kernel) rfl
theorem tw_102 : (Jvm.Cond.laysFinal "OrderHall$Order" "OrderHall$Order" "above" "[I") ∈ oz_TW := oz_inT 102 (by decide +kernel) rfl
theorem tw_104 : (Jvm.Cond.laysFinal "OrderHall$Order" "OrderHall$Order" "apart" "[I") ∈ oz_TW := oz_inT 104 (by decide +kernel) rfl
theorem tw_106 : (Jvm.Cond.laysFinal "OrderHall$Order" "OrderHall$Order" "rise" "[I") ∈ oz_TW := oz_inT 106 (by decide +kernel) rfl
theorem tw_108 : (Jvm.Cond.laysFinal "OrderHall$Order" "OrderHall$Order" "fall" "[I") ∈ oz_TW := oz_inT 108 (by decide +kernel) rfl
theorem tw_110 : (Jvm.Cond.laysFinal "OrderHall$Order" "OrderHall$Order" "sorted" "[I") ∈ oz_TW := oz_inT 110 (by decide +kernel) rfl
theorem tw_112 : (Jvm.Cond.laysFinal "OrderHall$Order" "OrderHall$Order" "row" "[I") ∈ oz_TW := oz_inT 112 (by decide +kernel) rfl
theorem tw_123 : (Jvm.Cond.fieldLink "OrderHall$Bounds" (19 : Nat) "OrderHall$Bounds" "order" "LOrderHall$Order;") ∈ oz_TW := oz_inT 123 (by decide +kernel) rfl
theorem tw_124 : (Jvm.Cond.fieldLink "OrderHall$Bounds" (11 : Nat) "OrderHall$Bounds" "meet" "[[I") ∈ oz_TW := oz_inT 124 (by decide +kernel) rfl
theorem tw_125 : (Jvm.Cond.fieldLink "OrderHall$Bounds" (16 : Nat) "OrderHall$Bounds" "join" "[[I") ∈ oz_TW := oz_inT 125 (by decide +kernel) rfl
theorem tw_126 : (Jvm.Cond.laysFinal "OrderHall$Bounds" "OrderHall$Bounds" "order" "LOrderHall$Order;") ∈ oz_TW := oz_inT 126 (by decide +kernel) rfl
theorem tw_128 : (Jvm.Cond.laysFinal "OrderHall$Bounds" "OrderHall$Bounds" "meet" "[[I") ∈ oz_TW := oz_inT 128 (by decide +kernel) rfl
theorem tw_130 : (Jvm.Cond.laysFinal "OrderHall$Bounds" "OrderHall$Bounds" "join" "[[I") ∈ oz_TW := oz_inT 130 (by decide +kernel) rfl
theorem tw_140 : (Jvm.Cond.fieldLink "OrderHall$Held" (9 : Nat) "OrderHall$Held" "measured" "Z") ∈ oz_TW := oz_inT 140 (by decide +kernel) rfl
theorem tw_141 : (Jvm.Cond.fieldLink "OrderHall" (240 : Nat) "OrderHall$Held" "measured" "Z") ∈ oz_TW := oz_inT 141 (by decide +kernel) rfl
theorem tw_142 : (Jvm.Cond.fieldLink "OrderHall$Held" (17 : Nat) "OrderHall$Held" "size" "[[I") ∈ oz_TW := oz_inT 142 (by decide +kernel) rfl
theorem tw_143 : (Jvm.Cond.fieldLink "OrderHall$Parts" (54 : Nat) "OrderHall$Held" "size" "[[I") ∈ oz_TW := oz_inT 143 (by decide +kernel) rfl
theorem tw_144 : (Jvm.Cond.fieldLink "OrderHall" (139 : Nat) "OrderHall$Held" "size" "[[I") ∈ oz_TW := oz_inT 144 (by decide +kernel) rfl
theorem tw_145 : (Jvm.Cond.fieldLink "OrderHall$Held" (20 : Nat) "OrderHall$Held" "set" "[[I") ∈ oz_TW := oz_inT 145 (by decide +kernel) rfl
theorem tw_146 : (Jvm.Cond.fieldLink "OrderHall$Parts" (40 : Nat) "OrderHall$Held" "set" "[[I") ∈ oz_TW := oz_inT 146 (by decide +kernel) rfl
theorem tw_147 : (Jvm.Cond.fieldLink "OrderHall" (158 : Nat) "OrderHall$Held" "set" "[[I") ∈ oz_TW := oz_inT 147 (by decide +kernel) rfl
theorem tw_148 : (Jvm.Cond.fieldLink "OrderHall$Held" (23 : Nat) "OrderHall$Held" "antichains" "I") ∈ oz_TW := oz_inT 148 (by decide +kernel) rfl
theorem tw_149 : (Jvm.Cond.fieldLink "OrderHall" (149 : Nat) "OrderHall$Held" "antichains" "I") ∈ oz_TW := oz_inT 149 (by decide +kernel) rfl
theorem tw_150 : (Jvm.Cond.fieldLink "OrderHall$Held" (27 : Nat) "OrderHall$Held" "widest" "I") ∈ oz_TW := oz_inT 150 (by decide +kernel) rfl
theorem tw_151 : (Jvm.Cond.fieldLink "OrderHall" (152 : Nat) "OrderHall$Held" "widest" "I") ∈ oz_TW := oz_inT 151 (by decide +kernel) rfl
theorem tw_152 : (Jvm.Cond.fieldLink "OrderHall$Held" (30 : Nat) "OrderHall$Held" "inWidest" "I") ∈ oz_TW := oz_inT 152 (by decide +kernel) rfl
theorem tw_153 : (Jvm.Cond.fieldLink "OrderHall" (155 : Nat) "OrderHall$Held" "inWidest" "I") ∈ oz_TW := oz_inT 153 (by decide +kernel) rfl
theorem tw_154 : (Jvm.Cond.fieldLink "OrderHall$Held" (37 : Nat) "OrderHall$Held" "order" "LOrderHall$Order;") ∈ oz_TW := oz_inT 154 (by decide +kernel) rfl
theorem tw_155 : (Jvm.Cond.fieldLink "OrderHall$Held" (33 : Nat) "OrderHall$Held" "largest" "[B") ∈ oz_TW := oz_inT 155 (by decide +kernel) rfl
theorem tw_156 : (Jvm.Cond.lays "OrderHall$Held" "OrderHall$Held" "measured" "Z") ∈ oz_TW := oz_inT 156 (by decide +kernel) rfl
theorem tw_158 : (Jvm.Cond.laysFinal "OrderHall$Held" "OrderHall$Held" "size" "[[I") ∈ oz_TW := oz_inT 158 (by decide +kernel) rfl
theorem tw_160 : (Jvm.Cond.laysFinal "OrderHall$Held" "OrderHall$Held" "set" "[[I") ∈ oz_TW := oz_inT 160 (by decide +kernel) rfl
theorem tw_162 : (Jvm.Cond.lays "OrderHall$Held" "OrderHall$Held" "antichains" "I") ∈ oz_TW := oz_inT 162 (by decide +kernel) rfl
theorem tw_164 : (Jvm.Cond.lays "OrderHall$Held" "OrderHall$Held" "widest" "I") ∈ oz_TW := oz_inT 164 (by decide +kernel) rfl
theorem tw_166 : (Jvm.Cond.lays "OrderHall$Held" "OrderHall$Held" "inWidest" "I") ∈ oz_TW := oz_inT 166 (by decide +kernel) rfl
theorem tw_168 : (Jvm.Cond.laysFinal "OrderHall$Held" "OrderHall$Held" "order" "LOrderHall$Order;") ∈ oz_TW := oz_inT 168 (by decide +kernel) rfl
theorem tw_170 : (Jvm.Cond.laysFinal "OrderHall$Held" "OrderHall$Held" "largest" "[B") ∈ oz_TW := oz_inT 170 (by decide +kernel) rfl
theorem tw_180 : (Jvm.Cond.fieldLink "OrderHall$Line" (9 : Nat) "OrderHall$Line" "counted" "Z") ∈ oz_TW := oz_inT 180 (by decide +kernel) rfl
theorem tw_181 : (Jvm.Cond.fieldLink "OrderHall" (243 : Nat) "OrderHall$Line" "counted" "Z") ∈ oz_TW := oz_inT 181 (by decide +kernel) rfl
theorem tw_182 : (Jvm.Cond.fieldLink "OrderHall$Line" (15 : Nat) "OrderHall$Line" "there" "Z") ∈ oz_TW := oz_inT 182 (by decide +kernel) rfl
theorem tw_183 : (Jvm.Cond.fieldLink "OrderHall" (175 : Nat) "OrderHall$Line" "there" "Z") ∈ oz_TW := oz_inT 183 (by decide +kernel) rfl
theorem tw_184 : (Jvm.Cond.fieldLink "OrderHall$Line" (18 : Nat) "OrderHall$Line" "element" "[I") ∈ oz_TW := oz_inT 184 (by decide +kernel) rfl
theorem tw_185 : (Jvm.Cond.fieldLink "OrderHall" (179 : Nat) "OrderHall$Line" "element" "[I") ∈ oz_TW := oz_inT 185 (by decide +kernel) rfl
theorem tw_186 : (Jvm.Cond.fieldLink "OrderHall$Line" (26 : Nat) "OrderHall$Line" "order" "LOrderHall$Order;") ∈ oz_TW := oz_inT 186 (by decide +kernel) rfl
theorem tw_187 : (Jvm.Cond.fieldLink "OrderHall$Line" (22 : Nat) "OrderHall$Line" "ways" "[J") ∈ oz_TW := oz_inT 187 (by decide +kernel) rfl
theorem tw_188 : (Jvm.Cond.lays "OrderHall$Line" "OrderHall$Line" "counted" "Z") ∈ oz_TW := oz_inT 188 (by decide +kernel) rfl
theorem tw_190 : (Jvm.Cond.lays "OrderHall$Line" "OrderHall$Line" "there" "Z") ∈ oz_TW := oz_inT 190 (by decide +kernel) rfl
theorem tw_192 : (Jvm.Cond.laysFinal "OrderHall$Line" "OrderHall$Line" "element" "[I") ∈ oz_TW := oz_inT 192 (by decide +kernel) rfl
theorem tw_194 : (Jvm.Cond.laysFinal "OrderHall$Line" "OrderHall$Line" "order" "LOrderHall$Order;") ∈ oz_TW := oz_inT 194 (by decide +kernel) rfl
theorem tw_196 : (Jvm.Cond.laysFinal "OrderHall$Line" "OrderHall$Line" "ways" "[J") ∈ oz_TW := oz_inT 196 (by decide +kernel) rfl
theorem tw_206 : (Jvm.Cond.fieldLink "OrderHall$Parts" (31 : Nat) "OrderHall$Parts" "order" "LOrderHall$Order;") ∈ oz_TW := oz_inT 206 (by decide +kernel) rfl
theorem tw_207 : (Jvm.Cond.fieldLink "OrderHall$Parts" (9 : Nat) "OrderHall$Parts" "size" "[I") ∈ oz_TW := oz_inT 207 (by decide +kernel) rfl
theorem tw_208 : (Jvm.Cond.fieldLink "OrderHall$Parts" (15 : Nat) "OrderHall$Parts" "made" "I") ∈ oz_TW := oz_inT 208 (by decide +kernel) rfl
theorem tw_209 : (Jvm.Cond.fieldLink "OrderHall$Parts" (19 : Nat) "OrderHall$Parts" "behind" "[I") ∈ oz_TW := oz_inT 209 (by decide +kernel) rfl
theorem tw_210 : (Jvm.Cond.fieldLink "OrderHall$Parts" (22 : Nat) "OrderHall$Parts" "before" "[I") ∈ oz_TW := oz_inT 210 (by decide +kernel) rfl
theorem tw_211 : (Jvm.Cond.fieldLink "OrderHall$Parts" (25 : Nat) "OrderHall$Parts" "reached" "[I") ∈ oz_TW := oz_inT 211 (by decide +kernel) rfl
theorem tw_212 : (Jvm.Cond.fieldLink "OrderHall$Parts" (28 : Nat) "OrderHall$Parts" "queue" "[I") ∈ oz_TW := oz_inT 212 (by decide +kernel) rfl
theorem tw_213 : (Jvm.Cond.laysFinal "OrderHall$Parts" "OrderHall$Parts" "order" "LOrderHall$Order;") ∈ oz_TW := oz_inT 213 (by decide +kernel) rfl
theorem tw_215 : (Jvm.Cond.laysFinal "OrderHall$Parts" "OrderHall$Parts" "size" "[I") ∈ oz_TW := oz_inT 215 (by decide +kernel) rfl
theorem tw_217 : (Jvm.Cond.lays "OrderHall$Parts" "OrderHall$Parts" "made" "I") ∈ oz_TW := oz_inT 217 (by decide +kernel) rfl
theorem tw_219 : (Jvm.Cond.laysFinal "OrderHall$Parts" "OrderHall$Parts" "behind" "[I") ∈ oz_TW := oz_inT 219 (by decide +kernel) rfl
theorem tw_221 : (Jvm.Cond.laysFinal "OrderHall$Parts" "OrderHall$Parts" "before" "[I") ∈ oz_TW := oz_inT 221 (by decide +kernel) rfl
theorem tw_223 : (Jvm.Cond.laysFinal "OrderHall$Parts" "OrderHall$Parts" "reached" "[I") ∈ oz_TW := oz_inT 223 (by decide +kernel) rfl
theorem tw_225 : (Jvm.Cond.laysFinal "OrderHall$Parts" "OrderHall$Parts" "queue" "[I") ∈ oz_TW := oz_inT 225 (by decide +kernel) rfl
theorem tw_228 : (Jvm.Cond.fieldLink "OrderHall" (10 : Nat) "OrderHall" "arcs" "LOrderHall$Arcs;") ∈ oz_TW := oz_inT 228 (by decide +kernel) rfl
theorem tw_229 : (Jvm.Cond.fieldLink "OrderHall" (19 : Nat) "OrderHall" "ring" "LOrderHall$Ring;") ∈ oz_TW := oz_inT 229 (by decide +kernel) rfl
theorem tw_230 : (Jvm.Cond.fieldLink "OrderHall" (26 : Nat) "OrderHall" "order" "LOrderHall$Order;") ∈ oz_TW := oz_inT 230 (by decide +kernel) rfl
theorem tw_231 : (Jvm.Cond.fieldLink "OrderHall" (35 : Nat) "OrderHall" "bounds" "LOrderHall$Bounds;") ∈ oz_TW := oz_inT 231 (by decide +kernel) rfl
theorem tw_232 : (Jvm.Cond.fieldLink "OrderHall" (42 : Nat) "OrderHall" "held" "LOrderHall$Held;") ∈ oz_TW := oz_inT 232 (by decide +kernel) rfl
theorem tw_233 : (Jvm.Cond.fieldLink "OrderHall" (49 : Nat) "OrderHall" "line" "LOrderHall$Line;") ∈ oz_TW := oz_inT 233 (by decide +kernel) rfl
theorem tw_234 : (Jvm.Cond.fieldLink "OrderHall" (56 : Nat) "OrderHall" "parts" "LOrderHall$Parts;") ∈ oz_TW := oz_inT 234 (by decide +kernel) rfl
theorem tw_235 : (Jvm.Cond.fieldLink "OrderHall" (222 : Nat) "OrderHall" "settled" "Z") ∈ oz_TW := oz_inT 235 (by decide +kernel) rfl
theorem tw_236 : (Jvm.Cond.laysFinal "OrderHall" "OrderHall" "arcs" "LOrderHall$Arcs;") ∈ oz_TW := oz_inT 236 (by decide +kernel) rfl
theorem tw_238 : (Jvm.Cond.laysFinal "OrderHall" "OrderHall" "ring" "LOrderHall$Ring;") ∈ oz_TW := oz_inT 238 (by decide +kernel) rfl
theorem tw_240 : (Jvm.Cond.laysFinal "OrderHall" "OrderHall" "order" "LOrderHall$Order;") ∈ oz_TW := oz_inT 240 (by decide +kernel) rfl
theorem tw_242 : (Jvm.Cond.laysFinal "OrderHall" "OrderHall" "bounds" "LOrderHall$Bounds;") ∈ oz_TW := oz_inT 242 (by decide +kernel) rfl
theorem tw_244 : (Jvm.Cond.laysFinal "OrderHall" "OrderHall" "held" "LOrderHall$Held;") ∈ oz_TW := oz_inT 244 (by decide +kernel) rfl
theorem tw_246 : (Jvm.Cond.laysFinal "OrderHall" "OrderHall" "line" "LOrderHall$Line;") ∈ oz_TW := oz_inT 246 (by decide +kernel) rfl
theorem tw_248 : (Jvm.Cond.laysFinal "OrderHall" "OrderHall" "parts" "LOrderHall$Parts;") ∈ oz_TW := oz_inT 248 (by decide +kernel) rfl
theorem tw_250 : (Jvm.Cond.lays "OrderHall" "OrderHall" "settled" "Z") ∈ oz_TW := oz_inT 250 (by decide +kernel) rfl
theorem tw_257 : (Jvm.Cond.methodLink "OrderHall" (67 : Nat) ({ cls := "OrderHall", name := "unsettle", desc := "()V" } : Jvm.MethodName)) ∈ oz_TW := oz_inT 257 (by decide +kernel) rfl
theorem tw_259 : (Jvm.Cond.instanceMethod ({ cls := "OrderHall", name := "unsettle", desc := "()V" } : Jvm.MethodName)) ∈ oz_TW := oz_inT 259 (by decide +kernel) rfl
theorem tw_260 : (Jvm.Cond.code ({ cls := "OrderHall", name := "unsettle", desc := "()V" } : Jvm.MethodName) prog_1_method_29_code (1 : Nat) (Option.none : Option Jvm.ClassFile.FieldType)) ∈ oz_TW := oz_inT 260 (by decide +kernel) rfl
theorem tw_261 : (Jvm.Cond.methodLink "OrderHall" (89 : Nat) ({ cls := "OrderHall$Ring", name := "seek", desc := "(LOrderHall$Arcs;)V" } : Jvm.MethodName)) ∈ oz_TW := oz_inT 261 (by decide +kernel) rfl
theorem tw_262 : (Jvm.Cond.instanceMethod ({ cls := "OrderHall$Ring", name := "seek", desc := "(LOrderHall$Arcs;)V" } : Jvm.MethodName)) ∈ oz_TW := oz_inT 262 (by decide +kernel) rfl
theorem tw_263 : (Jvm.Cond.selects "OrderHall$Ring" ({ cls := "OrderHall$Ring", name := "seek", desc := "(LOrderHall$Arcs;)V" } : Jvm.MethodName) ({ cls := "OrderHall$Ring", name := "seek", desc := "(LOrderHall$Arcs;)V" } : Jvm.MethodName)) ∈ oz_TW := oz_inT 263 (by decide +kernel) rfl
theorem tw_264 : (Jvm.Cond.code ({ cls := "OrderHall$Ring", name := "seek", desc := "(LOrderHall$Arcs;)V" } : Jvm.MethodName) prog_8_method_2_code (6 : Nat) (Option.none : Option Jvm.ClassFile.FieldType)) ∈ oz_TW := oz_inT 264 (by decide +kernel) rfl
theorem tw_265 : (Jvm.Cond.methodLink "OrderHall$Ring" (27 : Nat) ({ cls := "OrderHall$Ring", name := "stepsRound", desc := "(LOrderHall$Arcs;II)I" } : Jvm.MethodName)) ∈ oz_TW := oz_inT 265 (by decide +kernel) rfl
theorem tw_267 : (Jvm.Cond.instanceMethod ({ cls := "OrderHall$Ring", name := "stepsRound", desc := "(LOrderHall$Arcs;II)I" } : Jvm.MethodName)) ∈ oz_TW := oz_inT 267 (by decide +kernel) rfl
theorem tw_268 : (Jvm.Cond.code ({ cls := "OrderHall$Ring", name := "stepsRound", desc := "(LOrderHall$Arcs;II)I" } : Jvm.MethodName) prog_8_method_3_code (5 : Nat) (Option.some Jvm.ClassFile.FieldType.int)) ∈ oz_TW := oz_inT 268 (by decide +kernel) rfl
theorem tw_269 : (Jvm.Cond.methodLink "OrderHall$Ring" (35 : Nat) ({ cls := "OrderHall$Arcs", name := "into", desc := "(I)I" } : Jvm.MethodName)) ∈ oz_TW := oz_inT 269 (by decide +kernel) rfl
theorem tw_270 : (Jvm.Cond.instanceMethod ({ cls := "OrderHall$Arcs", name := "into", desc := "(I)I" } : Jvm.MethodName)) ∈ oz_TW := oz_inT 270 (by decide +kernel) rfl
theorem tw_271 : (Jvm.Cond.selects "OrderHall$Arcs" ({ cls := "OrderHall$Arcs", name := "into", desc := "(I)I" } : Jvm.MethodName) ({ cls := "OrderHall$Arcs", name := "into", desc := "(I)I" } : Jvm.MethodName)) ∈ oz_TW := oz_inT 271 (by decide +kernel) rfl
theorem tw_272 : (Jvm.Cond.code ({ cls := "OrderHall$Arcs", name := "into", desc := "(I)I" } : Jvm.MethodName) prog_2_method_5_code (4 : Nat) (Option.some Jvm.ClassFile.FieldType.int)) ∈ oz_TW := oz_inT 272 (by decide +kernel) rfl
theorem tw_274 : (Jvm.Cond.static ({ cls := "OrderHall", name := "has", desc := "(II)Z" } : Jvm.MethodName)) ∈ oz_TW := oz_inT 274 (by decide +kernel) rfl
theorem tw_275 : (Jvm.Cond.code ({ cls := "OrderHall", name := "has", desc := "(II)Z" } : Jvm.MethodName) prog_1_method_31_code (2 : Nat) (Option.some Jvm.ClassFile.FieldType.boolean)) ∈ oz_TW := oz_inT 275 (by decide +kernel) rfl
theorem tw_276 : (Jvm.Cond.methodLink "OrderHall$Ring" (31 : Nat) ({ cls := "OrderHall$Ring", name := "write", desc := "(LOrderHall$Arcs;I)V" } : Jvm.MethodName)) ∈ oz_TW := oz_inT 276 (by decide +kernel) rfl
theorem tw_278 : (Jvm.Cond.instanceMethod ({ cls := "OrderHall$Ring", name := "write", desc := "(LOrderHall$Arcs;I)V" } : Jvm.MethodName)) ∈ oz_TW := oz_inT 278 (by decide +kernel) rfl
theorem tw_279 : (Jvm.Cond.code ({ cls := "OrderHall$Ring", name := "write", desc := "(LOrderHall$Arcs;I)V" } : Jvm.MethodName) prog_8_method_4_code (5 : Nat) (Option.none : Option Jvm.ClassFile.FieldType)) ∈ oz_TW := oz_inT 279 (by decide +kernel) rfl
theorem tw_280 : (Jvm.Cond.methodLink "OrderHall$Ring" (46 : Nat) ({ cls := "OrderHall$Ring", name := "least", desc := "(I)I" } : Jvm.MethodName)) ∈ oz_TW := oz_inT 280 (by decide +kernel) rfl
theorem tw_281 : (Jvm.Cond.static ({ cls := "OrderHall$Ring", name := "least", desc := "(I)I" } : Jvm.MethodName)) ∈ oz_TW := oz_inT 281 (by decide +kernel) rfl
theorem tw_282 : (Jvm.Cond.code ({ cls := "OrderHall$Ring", name := "least", desc := "(I)I" } : Jvm.MethodName) prog_8_method_5_code (2 : Nat) (Option.some Jvm.ClassFile.FieldType.int)) ∈ oz_TW := oz_inT 282 (by decide +kernel) rfl
theorem tw_283 : (Jvm.Cond.methodLink "OrderHall" (96 : Nat) ({ cls := "OrderHall", name := "adopt", desc := "()V" } : Jvm.MethodName)) ∈ oz_TW := oz_inT 283 (by decide +kernel) rfl
theorem tw_285 : (Jvm.Cond.instanceMethod ({ cls := "OrderHall", name := "adopt", desc := "()V" } : Jvm.MethodName)) ∈ oz_TW := oz_inT 285 (by decide +kernel) rfl
theorem tw_286 : (Jvm.Cond.code ({ cls := "OrderHall", name := "adopt", desc := "()V" } : Jvm.MethodName) prog_1_method_30_code (1 : Nat) (Option.none : Option Jvm.ClassFile.FieldType)) ∈ oz_TW := oz_inT 286 (by decide +kernel) rfl
theorem tw_287 : (Jvm.Cond.methodLink "OrderHall" (237 : Nat) ({ cls := "OrderHall$Order", name := "learn", desc := "(LOrderHall$Arcs;)V" } : Jvm.MethodName)) ∈ oz_TW := oz_inT 287 (by decide +kernel) rfl
theorem tw_288 : (Jvm.Cond.instanceMethod ({ cls := "OrderHall$Order", name := "learn", desc := "(LOrderHall$Arcs;)V" } : Jvm.MethodName)) ∈ oz_TW := oz_inT 288 (by decide +kernel) rfl
theorem tw_289 : (Jvm.Cond.selects "OrderHall$Order" ({ cls := "OrderHall$Order", name := "learn", desc := "(LOrderHall$Arcs;)V" } : Jvm.MethodName) ({ cls := "OrderHall$Order", name := "learn", desc := "(LOrderHall$Arcs;)V" } : Jvm.MethodName)) ∈ oz_TW := oz_inT 289 (by decide +kernel) rfl
theorem tw_290 : (Jvm.Cond.code ({ cls := "OrderHall$Order", name := "learn", desc := "(LOrderHall$Arcs;)V" } : Jvm.MethodName) prog_6_method_2_code (3 : Nat) (Option.none : Option Jvm.ClassFile.FieldType)) ∈ oz_TW := oz_inT 290 (by decide +kernel) rfl
theorem tw_291 : (Jvm.Cond.methodLink "OrderHall$Order" (40 : Nat) ({ cls := "OrderHall$Order", name := "closeAbove", desc := "(LOrderHall$Arcs;)V" } : Jvm.MethodName)) ∈ oz_TW := oz_inT 291 (by decide +kernel) rfl
theorem tw_293 : (Jvm.Cond.instanceMethod ({ cls := "OrderHall$Order", name := "closeAbove", desc := "(LOrderHall$Arcs;)V" } : Jvm.MethodName)) ∈ oz_TW := oz_inT 293 (by decide +kernel) rfl
theorem tw_294 : (Jvm.Cond.code ({ cls := "OrderHall$Order", name := "closeAbove", desc := "(LOrderHall$Arcs;)V" } : Jvm.MethodName) prog_6_method_4_code (4 : Nat) (Option.none : Option Jvm.ClassFile.FieldType)) ∈ oz_TW := oz_inT 294 (by decide +kernel) rfl
theorem tw_296 : (Jvm.Cond.methodLink "OrderHall$Order" (44 : Nat) ({ cls := "OrderHall$Order", name := "belowOf", desc := "(I)I" } : Jvm.MethodName)) ∈ oz_TW := oz_inT 296 (by decide +kernel) rfl
theorem tw_298 : (Jvm.Cond.instanceMethod ({ cls := "OrderHall$Order", name := "belowOf", desc := "(I)I" } : Jvm.MethodName)) ∈ oz_TW := oz_inT 298 (by decide +kernel) rfl
theorem tw_299 : (Jvm.Cond.code ({ cls := "OrderHall$Order", name := "belowOf", desc := "(I)I" } : Jvm.MethodName) prog_6_method_5_code (4 : Nat) (Option.some Jvm.ClassFile.FieldType.int)) ∈ oz_TW := oz_inT 299 (by decide +kernel) rfl
theorem tw_300 : (Jvm.Cond.methodLink "OrderHall$Order" (48 : Nat) ({ cls := "OrderHall$Order", name := "everything", desc := "()I" } : Jvm.MethodName)) ∈ oz_TW := oz_inT 300 (by decide +kernel) rfl
theorem tw_301 : (Jvm.Cond.instanceMethod ({ cls := "OrderHall$Order", name := "everything", desc := "()I" } : Jvm.MethodName)) ∈ oz_TW := oz_inT 301 (by decide +kernel) rfl
theorem tw_302 : (Jvm.Cond.selects "OrderHall$Order" ({ cls := "OrderHall$Order", name := "everything", desc := "()I" } : Jvm.MethodName) ({ cls := "OrderHall$Order", name := "everything", desc := "()I" } : Jvm.MethodName)) ∈ oz_TW := oz_inT 302 (by decide +kernel) rfl
theorem tw_303 : (Jvm.Cond.code ({ cls := "OrderHall$Order", name := "everything", desc := "()I" } : Jvm.MethodName) prog_6_method_3_code (1 : Nat) (Option.some Jvm.ClassFile.FieldType.int)) ∈ oz_TW := oz_inT 303 (by decide +kernel) rfl
theorem tw_304 : (Jvm.Cond.methodLink "OrderHall$Order" (52 : Nat) ({ cls := "OrderHall$Order", name := "sort", desc := "()V" } : Jvm.MethodName)) ∈ oz_TW := oz_inT 304 (by decide +kernel) rfl
theorem tw_306 : (Jvm.Cond.instanceMethod ({ cls := "OrderHall$Order", name := "sort", desc := "()V" } : Jvm.MethodName)) ∈ oz_TW := oz_inT 306 (by decide +kernel) rfl
theorem tw_307 : (Jvm.Cond.code ({ cls := "OrderHall$Order", name := "sort", desc := "()V" } : Jvm.MethodName) prog_6_method_6_code (4 : Nat) (Option.none : Option Jvm.ClassFile.FieldType)) ∈ oz_TW := oz_inT 307 (by decide +kernel) rfl
theorem tw_308 : (Jvm.Cond.methodLink "OrderHall$Order" (65 : Nat) ({ cls := "java/lang/Integer", name := "bitCount", desc := "(I)I" } : Jvm.MethodName)) ∈ oz_TW := oz_inT 308 (by decide +kernel) rfl
theorem tw_309 : (Jvm.Cond.static ({ cls := "java/lang/Integer", name := "bitCount", desc := "(I)I" } : Jvm.MethodName)) ∈ oz_TW := oz_inT 309 (by decide +kernel) rfl
theorem tw_310 : (Jvm.Cond.code ({ cls := "java/lang/Integer", name := "bitCount", desc := "(I)I" } : Jvm.MethodName) prog_15_method_49_code (1 : Nat) (Option.some Jvm.ClassFile.FieldType.int)) ∈ oz_TW := oz_inT 310 (by decide +kernel) rfl
theorem tw_311 : (Jvm.Cond.constant "java/lang/Integer" (265 : Nat) (1431655765 : Int32)) ∈ oz_TW := oz_inT 311 (by decide +kernel) rfl
theorem tw_312 : (Jvm.Cond.constant "java/lang/Integer" (266 : Nat) (858993459 : Int32)) ∈ oz_TW := oz_inT 312 (by decide +kernel) rfl
theorem tw_313 : (Jvm.Cond.constant "java/lang/Integer" (267 : Nat) (252645135 : Int32)) ∈ oz_TW := oz_inT 313 (by decide +kernel) rfl
theorem tw_314 : (Jvm.Cond.methodLink "OrderHall$Order" (55 : Nat) ({ cls := "OrderHall$Order", name := "measureLevels", desc := "()V" } : Jvm.MethodName)) ∈ oz_TW := oz_inT 314 (by decide +kernel) rfl
theorem tw_316 : (Jvm.Cond.instanceMethod ({ cls := "OrderHall$Order", name := "measureLevels", desc := "()V" } : Jvm.MethodName)) ∈ oz_TW := oz_inT 316 (by decide +kernel) rfl
theorem tw_317 : (Jvm.Cond.code ({ cls := "OrderHall$Order", name := "measureLevels", desc := "()V" } : Jvm.MethodName) prog_6_method_7_code (2 : Nat) (Option.none : Option Jvm.ClassFile.FieldType)) ∈ oz_TW := oz_inT 317 (by decide +kernel) rfl
theorem tw_318 : (Jvm.Cond.methodLink "OrderHall$Order" (70 : Nat) ({ cls := "OrderHall$Order", name := "greatest", desc := "([II)I" } : Jvm.MethodName)) ∈ oz_TW := oz_inT 318 (by decide +kernel) rfl
theorem tw_320 : (Jvm.Cond.instanceMethod ({ cls := "OrderHall$Order", name := "greatest", desc := "([II)I" } : Jvm.MethodName)) ∈ oz_TW := oz_inT 320 (by decide +kernel) rfl
theorem tw_321 : (Jvm.Cond.code ({ cls := "OrderHall$Order", name := "greatest", desc := "([II)I" } : Jvm.MethodName) prog_6_method_8_code (5 : Nat) (Option.some Jvm.ClassFile.FieldType.int)) ∈ oz_TW := oz_inT 321 (by decide +kernel) rfl
theorem tw_322 : (Jvm.Cond.methodLink "OrderHall$Order" (74 : Nat) ({ cls := "java/lang/Math", name := "max", desc := "(II)I" } : Jvm.MethodName)) ∈ oz_TW := oz_inT 322 (by decide +kernel) rfl
theorem tw_323 : (Jvm.Cond.static ({ cls := "java/lang/Math", name := "max", desc := "(II)I" } : Jvm.MethodName)) ∈ oz_TW := oz_inT 323 (by decide +kernel) rfl
theorem tw_324 : (Jvm.Cond.code ({ cls := "java/lang/Math", name := "max", desc := "(II)I" } : Jvm.MethodName) prog_16_method_65_code (2 : Nat) (Option.some Jvm.ClassFile.FieldType.int)) ∈ oz_TW := oz_inT 324 (by decide +kernel) rfl
theorem tw_337 : (Jvm.Cond.methodLink "OrderHall" (180 : Nat) ({ cls := "OrderHall$Line", name := "swap", desc := "(I)Z" } : Jvm.MethodName)) ∈ oz_TW := oz_inT 337 (by decide +kernel) rfl
theorem tw_338 : (Jvm.Cond.instanceMethod ({ cls := "OrderHall$Line", name := "swap", desc := "(I)Z" } : Jvm.MethodName)) ∈ oz_TW := oz_inT 338 (by decide +kernel) rfl
theorem tw_339 : (Jvm.Cond.selects "OrderHall$Line" ({ cls := "OrderHall$Line", name := "swap", desc := "(I)Z" } : Jvm.MethodName) ({ cls := "OrderHall$Line", name := "swap", desc := "(I)Z" } : Jvm.MethodName)) ∈ oz_TW := oz_inT 339 (by decide +kernel) rfl
theorem tw_340 : (Jvm.Cond.code ({ cls := "OrderHall$Line", name := "swap", desc := "(I)Z" } : Jvm.MethodName) prog_5_method_8_code (4 : Nat) (Option.some Jvm.ClassFile.FieldType.boolean)) ∈ oz_TW := oz_inT 340 (by decide +kernel) rfl
theorem tw_346 : (Jvm.Cond.methodLink "OrderHall" (184 : Nat) ({ cls := "OrderHall$Line", name := "rank", desc := "()J" } : Jvm.MethodName)) ∈ oz_TW := oz_inT 346 (by decide +kernel) rfl
theorem tw_347 : (Jvm.Cond.instanceMethod ({ cls := "OrderHall$Line", name := "rank", desc := "()J" } : Jvm.MethodName)) ∈ oz_TW := oz_inT 347 (by decide +kernel) rfl
theorem tw_348 : (Jvm.Cond.selects "OrderHall$Line" ({ cls := "OrderHall$Line", name := "rank", desc := "()J" } : Jvm.MethodName) ({ cls := "OrderHall$Line", name := "rank", desc := "()J" } : Jvm.MethodName)) ∈ oz_TW := oz_inT 348 (by decide +kernel) rfl
theorem tw_349 : (Jvm.Cond.code ({ cls := "OrderHall$Line", name := "rank", desc := "()J" } : Jvm.MethodName) prog_5_method_7_code (6 : Nat) (Option.some Jvm.ClassFile.FieldType.long)) ∈ oz_TW := oz_inT 349 (by decide +kernel) rfl
theorem tw_350 : (Jvm.Cond.methodLink "OrderHall$Line" (54 : Nat) ({ cls := "OrderHall$Line", name := "waysWith", desc := "(II)J" } : Jvm.MethodName)) ∈ oz_TW := oz_inT 350 (by decide +kernel) rfl
theorem tw_352 : (Jvm.Cond.instanceMethod ({ cls := "OrderHall$Line", name := "waysWith", desc := "(II)J" } : Jvm.MethodName)) ∈ oz_TW := oz_inT 352 (by decide +kernel) rfl
theorem tw_353 : (Jvm.Cond.code ({ cls := "OrderHall$Line", name := "waysWith", desc := "(II)J" } : Jvm.MethodName) prog_5_method_6_code (3 : Nat) (Option.some Jvm.ClassFile.FieldType.long)) ∈ oz_TW := oz_inT 353 (by decide +kernel) rfl
theorem tw_354 : (Jvm.Cond.constantLong "OrderHall" (187 : Nat) (-1 : Int64)) ∈ oz_TW := oz_inT 354 (by decide +kernel) rfl
theorem tw_363 : (Jvm.Cond.classLink "OrderHall" (60 : Nat) "java/lang/IllegalArgumentException") ∈ oz_TW := oz_inT 363 (by decide +kernel) rfl
theorem tw_364 : (Jvm.Cond.instantiable "java/lang/IllegalArgumentException" (6 : Nat)) ∈ oz_TW := oz_inT 364 (by decide +kernel) rfl
theorem tw_430 : (Jvm.Cond.methodLink "OrderHall" (70 : Nat) ({ cls := "OrderHall$Arcs", name := "clear", desc := "(I)V" } : Jvm.MethodName)) ∈ oz_TW := oz_inT 430 (by decide +kernel) rfl
theorem tw_431 : (Jvm.Cond.instanceMethod ({ cls := "OrderHall$Arcs", name := "clear", desc := "(I)V" } : Jvm.MethodName)) ∈ oz_TW := oz_inT 431 (by decide +kernel) rfl
theorem tw_432 : (Jvm.Cond.selects "OrderHall$Arcs" ({ cls := "OrderHall$Arcs", name := "clear", desc := "(I)V" } : Jvm.MethodName) ({ cls := "OrderHall$Arcs", name := "clear", desc := "(I)V" } : Jvm.MethodName)) ∈ oz_TW := oz_inT 432 (by decide +kernel) rfl
theorem tw_433 : (Jvm.Cond.code ({ cls := "OrderHall$Arcs", name := "clear", desc := "(I)V" } : Jvm.MethodName) prog_2_method_2_code (3 : Nat) (Option.none : Option Jvm.ClassFile.FieldType)) ∈ oz_TW := oz_inT 433 (by decide +kernel) rfl
theorem tw_442 : (Jvm.Cond.methodLink "OrderHall" (78 : Nat) ({ cls := "OrderHall", name := "wantElement", desc := "(II)V" } : Jvm.MethodName)) ∈ oz_TW := oz_inT 442 (by decide +kernel) rfl
theorem tw_443 : (Jvm.Cond.static ({ cls := "OrderHall", name := "wantElement", desc := "(II)V" } : Jvm.MethodName)) ∈ oz_TW := oz_inT 443 (by decide +kernel) rfl
theorem tw_444 : (Jvm.Cond.code ({ cls := "OrderHall", name := "wantElement", desc := "(II)V" } : Jvm.MethodName) prog_1_method_27_code (2 : Nat) (Option.none : Option Jvm.ClassFile.FieldType)) ∈ oz_TW := oz_inT 444 (by decide +kernel) rfl
theorem tw_445 : (Jvm.Cond.classLink "OrderHall" (230 : Nat) "java/lang/IndexOutOfBoundsException") ∈ oz_TW := oz_inT 445 (by decide +kernel) rfl
theorem tw_446 : (Jvm.Cond.instantiable "java/lang/IndexOutOfBoundsException" (6 : Nat)) ∈ oz_TW := oz_inT 446 (by decide +kernel) rfl
theorem tw_461 : (Jvm.Cond.methodLink "OrderHall" (82 : Nat) ({ cls := "OrderHall$Arcs", name := "add", desc := "(II)Z" } : Jvm.MethodName)) ∈ oz_TW := oz_inT 461 (by decide +kernel) rfl
theorem tw_462 : (Jvm.Cond.instanceMethod ({ cls := "OrderHall$Arcs", name := "add", desc := "(II)Z" } : Jvm.MethodName)) ∈ oz_TW := oz_inT 462 (by decide +kernel) rfl
theorem tw_463 : (Jvm.Cond.selects "OrderHall$Arcs" ({ cls := "OrderHall$Arcs", name := "add", desc := "(II)Z" } : Jvm.MethodName) ({ cls := "OrderHall$Arcs", name := "add", desc := "(II)Z" } : Jvm.MethodName)) ∈ oz_TW := oz_inT 463 (by decide +kernel) rfl
theorem tw_464 : (Jvm.Cond.code ({ cls := "OrderHall$Arcs", name := "add", desc := "(II)Z" } : Jvm.MethodName) prog_2_method_3_code (4 : Nat) (Option.some Jvm.ClassFile.FieldType.boolean)) ∈ oz_TW := oz_inT 464 (by decide +kernel) rfl
theorem tw_473 : (Jvm.Cond.methodLink "OrderHall" (86 : Nat) ({ cls := "OrderHall$Arcs", name := "remove", desc := "(II)Z" } : Jvm.MethodName)) ∈ oz_TW := oz_inT 473 (by decide +kernel) rfl
theorem tw_474 : (Jvm.Cond.instanceMethod ({ cls := "OrderHall$Arcs", name := "remove", desc := "(II)Z" } : Jvm.MethodName)) ∈ oz_TW := oz_inT 474 (by decide +kernel) rfl
theorem tw_475 : (Jvm.Cond.selects "OrderHall$Arcs" ({ cls := "OrderHall$Arcs", name := "remove", desc := "(II)Z" } : Jvm.MethodName) ({ cls := "OrderHall$Arcs", name := "remove", desc := "(II)Z" } : Jvm.MethodName)) ∈ oz_TW := oz_inT 475 (by decide +kernel) rfl
theorem tw_476 : (Jvm.Cond.code ({ cls := "OrderHall$Arcs", name := "remove", desc := "(II)Z" } : Jvm.MethodName) prog_2_method_4_code (4 : Nat) (Option.some Jvm.ClassFile.FieldType.boolean)) ∈ oz_TW := oz_inT 476 (by decide +kernel) rfl
theorem tw_485 : (Jvm.Cond.methodLink "OrderHall" (103 : Nat) ({ cls := "OrderHall", name := "wantSettled", desc := "()V" } : Jvm.MethodName)) ∈ oz_TW := oz_inT 485 (by decide +kernel) rfl
theorem tw_487 : (Jvm.Cond.instanceMethod ({ cls := "OrderHall", name := "wantSettled", desc := "()V" } : Jvm.MethodName)) ∈ oz_TW := oz_inT 487 (by decide +kernel) rfl
theorem tw_488 : (Jvm.Cond.code ({ cls := "OrderHall", name := "wantSettled", desc := "()V" } : Jvm.MethodName) prog_1_method_26_code (1 : Nat) (Option.none : Option Jvm.ClassFile.FieldType)) ∈ oz_TW := oz_inT 488 (by decide +kernel) rfl
theorem tw_489 : (Jvm.Cond.classLink "OrderHall" (225 : Nat) "java/lang/IllegalStateException") ∈ oz_TW := oz_inT 489 (by decide +kernel) rfl
theorem tw_490 : (Jvm.Cond.instantiable "java/lang/IllegalStateException" (6 : Nat)) ∈ oz_TW := oz_inT 490 (by decide +kernel) rfl
theorem tw_505 : (Jvm.Cond.methodLink "OrderHall" (110 : Nat) ({ cls := "OrderHall", name := "has", desc := "(II)Z" } : Jvm.MethodName)) ∈ oz_TW := oz_inT 505 (by decide +kernel) rfl
theorem tw_513 : (Jvm.Cond.methodLink "OrderHall" (116 : Nat) ({ cls := "OrderHall", name := "wantUpTo", desc := "(II)V" } : Jvm.MethodName)) ∈ oz_TW := oz_inT 513 (by decide +kernel) rfl
theorem tw_514 : (Jvm.Cond.static ({ cls := "OrderHall", name := "wantUpTo", desc := "(II)V" } : Jvm.MethodName)) ∈ oz_TW := oz_inT 514 (by decide +kernel) rfl
theorem tw_515 : (Jvm.Cond.code ({ cls := "OrderHall", name := "wantUpTo", desc := "(II)V" } : Jvm.MethodName) prog_1_method_28_code (2 : Nat) (Option.none : Option Jvm.ClassFile.FieldType)) ∈ oz_TW := oz_inT 515 (by decide +kernel) rfl
theorem tw_517 : (Jvm.Cond.methodLink "OrderHall" (119 : Nat) ({ cls := "OrderHall$Order", name := "ends", desc := "(I[I)I" } : Jvm.MethodName)) ∈ oz_TW := oz_inT 517 (by decide +kernel) rfl
theorem tw_518 : (Jvm.Cond.instanceMethod ({ cls := "OrderHall$Order", name := "ends", desc := "(I[I)I" } : Jvm.MethodName)) ∈ oz_TW := oz_inT 518 (by decide +kernel) rfl
theorem tw_519 : (Jvm.Cond.selects "OrderHall$Order" ({ cls := "OrderHall$Order", name := "ends", desc := "(I[I)I" } : Jvm.MethodName) ({ cls := "OrderHall$Order", name := "ends", desc := "(I[I)I" } : Jvm.MethodName)) ∈ oz_TW := oz_inT 519 (by decide +kernel) rfl
theorem tw_520 : (Jvm.Cond.code ({ cls := "OrderHall$Order", name := "ends", desc := "(I[I)I" } : Jvm.MethodName) prog_6_method_11_code (5 : Nat) (Option.some Jvm.ClassFile.FieldType.int)) ∈ oz_TW := oz_inT 520 (by decide +kernel) rfl
theorem tw_535 : (Jvm.Cond.methodLink "OrderHall" (132 : Nat) ({ cls := "OrderHall$Order", name := "height", desc := "()I" } : Jvm.MethodName)) ∈ oz_TW := oz_inT 535 (by decide +kernel) rfl
theorem tw_536 : (Jvm.Cond.instanceMethod ({ cls := "OrderHall$Order", name := "height", desc := "()I" } : Jvm.MethodName)) ∈ oz_TW := oz_inT 536 (by decide +kernel) rfl
theorem tw_537 : (Jvm.Cond.selects "OrderHall$Order" ({ cls := "OrderHall$Order", name := "height", desc := "()I" } : Jvm.MethodName) ({ cls := "OrderHall$Order", name := "height", desc := "()I" } : Jvm.MethodName)) ∈ oz_TW := oz_inT 537 (by decide +kernel) rfl
theorem tw_538 : (Jvm.Cond.code ({ cls := "OrderHall$Order", name := "height", desc := "()I" } : Jvm.MethodName) prog_6_method_10_code (1 : Nat) (Option.some Jvm.ClassFile.FieldType.int)) ∈ oz_TW := oz_inT 538 (by decide +kernel) rfl
theorem tw_539 : (Jvm.Cond.methodLink "OrderHall" (136 : Nat) ({ cls := "OrderHall$Held", name := "measure", desc := "()V" } : Jvm.MethodName)) ∈ oz_TW := oz_inT 539 (by decide +kernel) rfl
theorem tw_540 : (Jvm.Cond.instanceMethod ({ cls := "OrderHall$Held", name := "measure", desc := "()V" } : Jvm.MethodName)) ∈ oz_TW := oz_inT 540 (by decide +kernel) rfl
theorem tw_541 : (Jvm.Cond.selects "OrderHall$Held" ({ cls := "OrderHall$Held", name := "measure", desc := "()V" } : Jvm.MethodName) ({ cls := "OrderHall$Held", name := "measure", desc := "()V" } : Jvm.MethodName)) ∈ oz_TW := oz_inT 541 (by decide +kernel) rfl
theorem tw_542 : (Jvm.Cond.code ({ cls := "OrderHall$Held", name := "measure", desc := "()V" } : Jvm.MethodName) prog_4_method_2_code (1 : Nat) (Option.none : Option Jvm.ClassFile.FieldType)) ∈ oz_TW := oz_inT 542 (by decide +kernel) rfl
theorem tw_543 : (Jvm.Cond.methodLink "OrderHall$Held" (41 : Nat) ({ cls := "OrderHall$Held", name := "measureKind", desc := "(I)V" } : Jvm.MethodName)) ∈ oz_TW := oz_inT 543 (by decide +kernel) rfl
theorem tw_545 : (Jvm.Cond.instanceMethod ({ cls := "OrderHall$Held", name := "measureKind", desc := "(I)V" } : Jvm.MethodName)) ∈ oz_TW := oz_inT 545 (by decide +kernel) rfl
theorem tw_546 : (Jvm.Cond.code ({ cls := "OrderHall$Held", name := "measureKind", desc := "(I)V" } : Jvm.MethodName) prog_4_method_3_code (3 : Nat) (Option.none : Option Jvm.ClassFile.FieldType)) ∈ oz_TW := oz_inT 546 (by decide +kernel) rfl
theorem tw_547 : (Jvm.Cond.methodLink "OrderHall$Held" (63 : Nat) ({ cls := "OrderHall$Held", name := "extendLargest", desc := "(II)V" } : Jvm.MethodName)) ∈ oz_TW := oz_inT 547 (by decide +kernel) rfl
theorem tw_549 : (Jvm.Cond.instanceMethod ({ cls := "OrderHall$Held", name := "extendLargest", desc := "(II)V" } : Jvm.MethodName)) ∈ oz_TW := oz_inT 549 (by decide +kernel) rfl
theorem tw_550 : (Jvm.Cond.code ({ cls := "OrderHall$Held", name := "extendLargest", desc := "(II)V" } : Jvm.MethodName) prog_4_method_4_code (7 : Nat) (Option.none : Option Jvm.ClassFile.FieldType)) ∈ oz_TW := oz_inT 550 (by decide +kernel) rfl
theorem tw_551 : (Jvm.Cond.methodLink "OrderHall$Held" (74 : Nat) ({ cls := "java/lang/Math", name := "max", desc := "(II)I" } : Jvm.MethodName)) ∈ oz_TW := oz_inT 551 (by decide +kernel) rfl
theorem tw_552 : (Jvm.Cond.methodLink "OrderHall$Held" (67 : Nat) ({ cls := "OrderHall$Held", name := "noteFirsts", desc := "([I[I)V" } : Jvm.MethodName)) ∈ oz_TW := oz_inT 552 (by decide +kernel) rfl
theorem tw_554 : (Jvm.Cond.instanceMethod ({ cls := "OrderHall$Held", name := "noteFirsts", desc := "([I[I)V" } : Jvm.MethodName)) ∈ oz_TW := oz_inT 554 (by decide +kernel) rfl
theorem tw_555 : (Jvm.Cond.code ({ cls := "OrderHall$Held", name := "noteFirsts", desc := "([I[I)V" } : Jvm.MethodName) prog_4_method_5_code (6 : Nat) (Option.none : Option Jvm.ClassFile.FieldType)) ∈ oz_TW := oz_inT 555 (by decide +kernel) rfl
theorem tw_556 : (Jvm.Cond.methodLink "OrderHall$Held" (80 : Nat) ({ cls := "OrderHall$Order", name := "everything", desc := "()I" } : Jvm.MethodName)) ∈ oz_TW := oz_inT 556 (by decide +kernel) rfl
theorem tw_557 : (Jvm.Cond.methodLink "OrderHall$Held" (84 : Nat) ({ cls := "java/lang/Integer", name := "bitCount", desc := "(I)I" } : Jvm.MethodName)) ∈ oz_TW := oz_inT 557 (by decide +kernel) rfl
theorem tw_558 : (Jvm.Cond.methodLink "OrderHall$Held" (71 : Nat) ({ cls := "OrderHall$Held", name := "spreadFirsts", desc := "([I[I)V" } : Jvm.MethodName)) ∈ oz_TW := oz_inT 558 (by decide +kernel) rfl
theorem tw_560 : (Jvm.Cond.instanceMethod ({ cls := "OrderHall$Held", name := "spreadFirsts", desc := "([I[I)V" } : Jvm.MethodName)) ∈ oz_TW := oz_inT 560 (by decide +kernel) rfl
theorem tw_561 : (Jvm.Cond.code ({ cls := "OrderHall$Held", name := "spreadFirsts", desc := "([I[I)V" } : Jvm.MethodName) prog_4_method_6_code (4 : Nat) (Option.none : Option Jvm.ClassFile.FieldType)) ∈ oz_TW := oz_inT 561 (by decide +kernel) rfl
theorem tw_562 : (Jvm.Cond.methodLink "OrderHall$Held" (45 : Nat) ({ cls := "OrderHall$Held", name := "countAntichains", desc := "()V" } : Jvm.MethodName)) ∈ oz_TW := oz_inT 562 (by decide +kernel) rfl
theorem tw_564 : (Jvm.Cond.instanceMethod ({ cls := "OrderHall$Held", name := "countAntichains", desc := "()V" } : Jvm.MethodName)) ∈ oz_TW := oz_inT 564 (by decide +kernel) rfl
theorem tw_565 : (Jvm.Cond.code ({ cls := "OrderHall$Held", name := "countAntichains", desc := "()V" } : Jvm.MethodName) prog_4_method_7_code (2 : Nat) (Option.none : Option Jvm.ClassFile.FieldType)) ∈ oz_TW := oz_inT 565 (by decide +kernel) rfl
theorem tw_566 : (Jvm.Cond.methodLink "OrderHall" (143 : Nat) ({ cls := "OrderHall$Order", name := "pairs", desc := "()I" } : Jvm.MethodName)) ∈ oz_TW := oz_inT 566 (by decide +kernel) rfl
theorem tw_567 : (Jvm.Cond.instanceMethod ({ cls := "OrderHall$Order", name := "pairs", desc := "()I" } : Jvm.MethodName)) ∈ oz_TW := oz_inT 567 (by decide +kernel) rfl
theorem tw_568 : (Jvm.Cond.selects "OrderHall$Order" ({ cls := "OrderHall$Order", name := "pairs", desc := "()I" } : Jvm.MethodName) ({ cls := "OrderHall$Order", name := "pairs", desc := "()I" } : Jvm.MethodName)) ∈ oz_TW := oz_inT 568 (by decide +kernel) rfl
theorem tw_569 : (Jvm.Cond.code ({ cls := "OrderHall$Order", name := "pairs", desc := "()I" } : Jvm.MethodName) prog_6_method_12_code (3 : Nat) (Option.some Jvm.ClassFile.FieldType.int)) ∈ oz_TW := oz_inT 569 (by decide +kernel) rfl
theorem tw_570 : (Jvm.Cond.methodLink "OrderHall" (146 : Nat) ({ cls := "OrderHall$Order", name := "coverPairs", desc := "()I" } : Jvm.MethodName)) ∈ oz_TW := oz_inT 570 (by decide +kernel) rfl
theorem tw_571 : (Jvm.Cond.instanceMethod ({ cls := "OrderHall$Order", name := "coverPairs", desc := "()I" } : Jvm.MethodName)) ∈ oz_TW := oz_inT 571 (by decide +kernel) rfl
theorem tw_572 : (Jvm.Cond.selects "OrderHall$Order" ({ cls := "OrderHall$Order", name := "coverPairs", desc := "()I" } : Jvm.MethodName) ({ cls := "OrderHall$Order", name := "coverPairs", desc := "()I" } : Jvm.MethodName)) ∈ oz_TW := oz_inT 572 (by decide +kernel) rfl
theorem tw_573 : (Jvm.Cond.code ({ cls := "OrderHall$Order", name := "coverPairs", desc := "()I" } : Jvm.MethodName) prog_6_method_13_code (3 : Nat) (Option.some Jvm.ClassFile.FieldType.int)) ∈ oz_TW := oz_inT 573 (by decide +kernel) rfl
theorem tw_574 : (Jvm.Cond.methodLink "OrderHall$Order" (80 : Nat) ({ cls := "OrderHall$Order", name := "ends", desc := "(I[I)I" } : Jvm.MethodName)) ∈ oz_TW := oz_inT 574 (by decide +kernel) rfl
theorem tw_603 : (Jvm.Cond.methodLink "OrderHall" (161 : Nat) ({ cls := "OrderHall$Order", name := "chainsOf", desc := "(I)I" } : Jvm.MethodName)) ∈ oz_TW := oz_inT 603 (by decide +kernel) rfl
theorem tw_604 : (Jvm.Cond.instanceMethod ({ cls := "OrderHall$Order", name := "chainsOf", desc := "(I)I" } : Jvm.MethodName)) ∈ oz_TW := oz_inT 604 (by decide +kernel) rfl
theorem tw_605 : (Jvm.Cond.selects "OrderHall$Order" ({ cls := "OrderHall$Order", name := "chainsOf", desc := "(I)I" } : Jvm.MethodName) ({ cls := "OrderHall$Order", name := "chainsOf", desc := "(I)I" } : Jvm.MethodName)) ∈ oz_TW := oz_inT 605 (by decide +kernel) rfl
theorem tw_606 : (Jvm.Cond.code ({ cls := "OrderHall$Order", name := "chainsOf", desc := "(I)I" } : Jvm.MethodName) prog_6_method_14_code (4 : Nat) (Option.some Jvm.ClassFile.FieldType.int)) ∈ oz_TW := oz_inT 606 (by decide +kernel) rfl
theorem tw_607 : (Jvm.Cond.methodLink "OrderHall$Order" (84 : Nat) ({ cls := "OrderHall$Order", name := "sum", desc := "([II)I" } : Jvm.MethodName)) ∈ oz_TW := oz_inT 607 (by decide +kernel) rfl
theorem tw_609 : (Jvm.Cond.instanceMethod ({ cls := "OrderHall$Order", name := "sum", desc := "([II)I" } : Jvm.MethodName)) ∈ oz_TW := oz_inT 609 (by decide +kernel) rfl
theorem tw_610 : (Jvm.Cond.code ({ cls := "OrderHall$Order", name := "sum", desc := "([II)I" } : Jvm.MethodName) prog_6_method_9_code (5 : Nat) (Option.some Jvm.ClassFile.FieldType.int)) ∈ oz_TW := oz_inT 610 (by decide +kernel) rfl
theorem tw_618 : (Jvm.Cond.methodLink "OrderHall" (165 : Nat) ({ cls := "OrderHall$Line", name := "total", desc := "()J" } : Jvm.MethodName)) ∈ oz_TW := oz_inT 618 (by decide +kernel) rfl
theorem tw_619 : (Jvm.Cond.instanceMethod ({ cls := "OrderHall$Line", name := "total", desc := "()J" } : Jvm.MethodName)) ∈ oz_TW := oz_inT 619 (by decide +kernel) rfl
theorem tw_620 : (Jvm.Cond.selects "OrderHall$Line" ({ cls := "OrderHall$Line", name := "total", desc := "()J" } : Jvm.MethodName) ({ cls := "OrderHall$Line", name := "total", desc := "()J" } : Jvm.MethodName)) ∈ oz_TW := oz_inT 620 (by decide +kernel) rfl
theorem tw_621 : (Jvm.Cond.code ({ cls := "OrderHall$Line", name := "total", desc := "()J" } : Jvm.MethodName) prog_5_method_2_code (1 : Nat) (Option.some Jvm.ClassFile.FieldType.long)) ∈ oz_TW := oz_inT 621 (by decide +kernel) rfl
theorem tw_622 : (Jvm.Cond.methodLink "OrderHall$Line" (30 : Nat) ({ cls := "OrderHall$Line", name := "countWays", desc := "()V" } : Jvm.MethodName)) ∈ oz_TW := oz_inT 622 (by decide +kernel) rfl
theorem tw_624 : (Jvm.Cond.instanceMethod ({ cls := "OrderHall$Line", name := "countWays", desc := "()V" } : Jvm.MethodName)) ∈ oz_TW := oz_inT 624 (by decide +kernel) rfl
theorem tw_625 : (Jvm.Cond.code ({ cls := "OrderHall$Line", name := "countWays", desc := "()V" } : Jvm.MethodName) prog_5_method_3_code (3 : Nat) (Option.none : Option Jvm.ClassFile.FieldType)) ∈ oz_TW := oz_inT 625 (by decide +kernel) rfl
theorem tw_626 : (Jvm.Cond.methodLink "OrderHall$Line" (33 : Nat) ({ cls := "OrderHall$Order", name := "everything", desc := "()I" } : Jvm.MethodName)) ∈ oz_TW := oz_inT 626 (by decide +kernel) rfl
theorem tw_627 : (Jvm.Cond.methodLink "OrderHall$Line" (39 : Nat) ({ cls := "OrderHall$Line", name := "waysBehind", desc := "(I)J" } : Jvm.MethodName)) ∈ oz_TW := oz_inT 627 (by decide +kernel) rfl
theorem tw_629 : (Jvm.Cond.instanceMethod ({ cls := "OrderHall$Line", name := "waysBehind", desc := "(I)J" } : Jvm.MethodName)) ∈ oz_TW := oz_inT 629 (by decide +kernel) rfl
theorem tw_630 : (Jvm.Cond.code ({ cls := "OrderHall$Line", name := "waysBehind", desc := "(I)J" } : Jvm.MethodName) prog_5_method_4_code (6 : Nat) (Option.some Jvm.ClassFile.FieldType.long)) ∈ oz_TW := oz_inT 630 (by decide +kernel) rfl
theorem tw_639 : (Jvm.Cond.methodLink "OrderHall" (171 : Nat) ({ cls := "OrderHall$Line", name := "write", desc := "(J)V" } : Jvm.MethodName)) ∈ oz_TW := oz_inT 639 (by decide +kernel) rfl
theorem tw_640 : (Jvm.Cond.instanceMethod ({ cls := "OrderHall$Line", name := "write", desc := "(J)V" } : Jvm.MethodName)) ∈ oz_TW := oz_inT 640 (by decide +kernel) rfl
theorem tw_641 : (Jvm.Cond.selects "OrderHall$Line" ({ cls := "OrderHall$Line", name := "write", desc := "(J)V" } : Jvm.MethodName) ({ cls := "OrderHall$Line", name := "write", desc := "(J)V" } : Jvm.MethodName)) ∈ oz_TW := oz_inT 641 (by decide +kernel) rfl
theorem tw_642 : (Jvm.Cond.code ({ cls := "OrderHall$Line", name := "write", desc := "(J)V" } : Jvm.MethodName) prog_5_method_5_code (10 : Nat) (Option.none : Option Jvm.ClassFile.FieldType)) ∈ oz_TW := oz_inT 642 (by decide +kernel) rfl
theorem tw_650 : (Jvm.Cond.methodLink "OrderHall" (189 : Nat) ({ cls := "OrderHall$Bounds", name := "lower", desc := "(II)I" } : Jvm.MethodName)) ∈ oz_TW := oz_inT 650 (by decide +kernel) rfl
theorem tw_651 : (Jvm.Cond.instanceMethod ({ cls := "OrderHall$Bounds", name := "lower", desc := "(II)I" } : Jvm.MethodName)) ∈ oz_TW := oz_inT 651 (by decide +kernel) rfl
theorem tw_652 : (Jvm.Cond.selects "OrderHall$Bounds" ({ cls := "OrderHall$Bounds", name := "lower", desc := "(II)I" } : Jvm.MethodName) ({ cls := "OrderHall$Bounds", name := "lower", desc := "(II)I" } : Jvm.MethodName)) ∈ oz_TW := oz_inT 652 (by decide +kernel) rfl
theorem tw_653 : (Jvm.Cond.code ({ cls := "OrderHall$Bounds", name := "lower", desc := "(II)I" } : Jvm.MethodName) prog_3_method_2_code (3 : Nat) (Option.some Jvm.ClassFile.FieldType.int)) ∈ oz_TW := oz_inT 653 (by decide +kernel) rfl
theorem tw_654 : (Jvm.Cond.methodLink "OrderHall$Bounds" (29 : Nat) ({ cls := "OrderHall$Bounds", name := "common", desc := "([III)I" } : Jvm.MethodName)) ∈ oz_TW := oz_inT 654 (by decide +kernel) rfl
theorem tw_655 : (Jvm.Cond.static ({ cls := "OrderHall$Bounds", name := "common", desc := "([III)I" } : Jvm.MethodName)) ∈ oz_TW := oz_inT 655 (by decide +kernel) rfl
theorem tw_656 : (Jvm.Cond.code ({ cls := "OrderHall$Bounds", name := "common", desc := "([III)I" } : Jvm.MethodName) prog_3_method_4_code (3 : Nat) (Option.some Jvm.ClassFile.FieldType.int)) ∈ oz_TW := oz_inT 656 (by decide +kernel) rfl
theorem tw_657 : (Jvm.Cond.methodLink "OrderHall$Bounds" (33 : Nat) ({ cls := "OrderHall$Bounds", name := "beyondAll", desc := "(I[I)I" } : Jvm.MethodName)) ∈ oz_TW := oz_inT 657 (by decide +kernel) rfl
theorem tw_659 : (Jvm.Cond.instanceMethod ({ cls := "OrderHall$Bounds", name := "beyondAll", desc := "(I[I)I" } : Jvm.MethodName)) ∈ oz_TW := oz_inT 659 (by decide +kernel) rfl
theorem tw_660 : (Jvm.Cond.code ({ cls := "OrderHall$Bounds", name := "beyondAll", desc := "(I[I)I" } : Jvm.MethodName) prog_3_method_5_code (4 : Nat) (Option.some Jvm.ClassFile.FieldType.int)) ∈ oz_TW := oz_inT 660 (by decide +kernel) rfl
theorem tw_662 : (Jvm.Cond.methodLink "OrderHall" (193 : Nat) ({ cls := "OrderHall$Bounds", name := "upper", desc := "(II)I" } : Jvm.MethodName)) ∈ oz_TW := oz_inT 662 (by decide +kernel) rfl
theorem tw_663 : (Jvm.Cond.instanceMethod ({ cls := "OrderHall$Bounds", name := "upper", desc := "(II)I" } : Jvm.MethodName)) ∈ oz_TW := oz_inT 663 (by decide +kernel) rfl
theorem tw_664 : (Jvm.Cond.selects "OrderHall$Bounds" ({ cls := "OrderHall$Bounds", name := "upper", desc := "(II)I" } : Jvm.MethodName) ({ cls := "OrderHall$Bounds", name := "upper", desc := "(II)I" } : Jvm.MethodName)) ∈ oz_TW := oz_inT 664 (by decide +kernel) rfl
theorem tw_665 : (Jvm.Cond.code ({ cls := "OrderHall$Bounds", name := "upper", desc := "(II)I" } : Jvm.MethodName) prog_3_method_3_code (3 : Nat) (Option.some Jvm.ClassFile.FieldType.int)) ∈ oz_TW := oz_inT 665 (by decide +kernel) rfl
theorem tw_673 : (Jvm.Cond.methodLink "OrderHall" (196 : Nat) ({ cls := "OrderHall$Bounds", name := "complete", desc := "()Z" } : Jvm.MethodName)) ∈ oz_TW := oz_inT 673 (by decide +kernel) rfl
theorem tw_674 : (Jvm.Cond.instanceMethod ({ cls := "OrderHall$Bounds", name := "complete", desc := "()Z" } : Jvm.MethodName)) ∈ oz_TW := oz_inT 674 (by decide +kernel) rfl
theorem tw_675 : (Jvm.Cond.selects "OrderHall$Bounds" ({ cls := "OrderHall$Bounds", name := "complete", desc := "()Z" } : Jvm.MethodName) ({ cls := "OrderHall$Bounds", name := "complete", desc := "()Z" } : Jvm.MethodName)) ∈ oz_TW := oz_inT 675 (by decide +kernel) rfl
theorem tw_676 : (Jvm.Cond.code ({ cls := "OrderHall$Bounds", name := "complete", desc := "()Z" } : Jvm.MethodName) prog_3_method_6_code (3 : Nat) (Option.some Jvm.ClassFile.FieldType.boolean)) ∈ oz_TW := oz_inT 676 (by decide +kernel) rfl
theorem tw_677 : (Jvm.Cond.methodLink "OrderHall$Bounds" (48 : Nat) ({ cls := "OrderHall$Bounds", name := "lower", desc := "(II)I" } : Jvm.MethodName)) ∈ oz_TW := oz_inT 677 (by decide +kernel) rfl
theorem tw_678 : (Jvm.Cond.methodLink "OrderHall$Bounds" (52 : Nat) ({ cls := "OrderHall$Bounds", name := "upper", desc := "(II)I" } : Jvm.MethodName)) ∈ oz_TW := oz_inT 678 (by decide +kernel) rfl
theorem tw_679 : (Jvm.Cond.methodLink "OrderHall" (200 : Nat) ({ cls := "OrderHall$Bounds", name := "distributive", desc := "()Z" } : Jvm.MethodName)) ∈ oz_TW := oz_inT 679 (by decide +kernel) rfl
theorem tw_680 : (Jvm.Cond.instanceMethod ({ cls := "OrderHall$Bounds", name := "distributive", desc := "()Z" } : Jvm.MethodName)) ∈ oz_TW := oz_inT 680 (by decide +kernel) rfl
theorem tw_681 : (Jvm.Cond.selects "OrderHall$Bounds" ({ cls := "OrderHall$Bounds", name := "distributive", desc := "()Z" } : Jvm.MethodName) ({ cls := "OrderHall$Bounds", name := "distributive", desc := "()Z" } : Jvm.MethodName)) ∈ oz_TW := oz_inT 681 (by decide +kernel) rfl
theorem tw_682 : (Jvm.Cond.code ({ cls := "OrderHall$Bounds", name := "distributive", desc := "()Z" } : Jvm.MethodName) prog_3_method_7_code (4 : Nat) (Option.some Jvm.ClassFile.FieldType.boolean)) ∈ oz_TW := oz_inT 682 (by decide +kernel) rfl
theorem tw_690 : (Jvm.Cond.methodLink "OrderHall" (203 : Nat) ({ cls := "OrderHall$Order", name := "signOf", desc := "(II)I" } : Jvm.MethodName)) ∈ oz_TW := oz_inT 690 (by decide +kernel) rfl
theorem tw_691 : (Jvm.Cond.instanceMethod ({ cls := "OrderHall$Order", name := "signOf", desc := "(II)I" } : Jvm.MethodName)) ∈ oz_TW := oz_inT 691 (by decide +kernel) rfl
theorem tw_692 : (Jvm.Cond.selects "OrderHall$Order" ({ cls := "OrderHall$Order", name := "signOf", desc := "(II)I" } : Jvm.MethodName) ({ cls := "OrderHall$Order", name := "signOf", desc := "(II)I" } : Jvm.MethodName)) ∈ oz_TW := oz_inT 692 (by decide +kernel) rfl
theorem tw_693 : (Jvm.Cond.code ({ cls := "OrderHall$Order", name := "signOf", desc := "(II)I" } : Jvm.MethodName) prog_6_method_15_code (5 : Nat) (Option.some Jvm.ClassFile.FieldType.int)) ∈ oz_TW := oz_inT 693 (by decide +kernel) rfl
theorem tw_701 : (Jvm.Cond.methodLink "OrderHall" (206 : Nat) ({ cls := "OrderHall$Arcs", name := "reverse", desc := "()V" } : Jvm.MethodName)) ∈ oz_TW := oz_inT 701 (by decide +kernel) rfl
theorem tw_702 : (Jvm.Cond.instanceMethod ({ cls := "OrderHall$Arcs", name := "reverse", desc := "()V" } : Jvm.MethodName)) ∈ oz_TW := oz_inT 702 (by decide +kernel) rfl
theorem tw_703 : (Jvm.Cond.selects "OrderHall$Arcs" ({ cls := "OrderHall$Arcs", name := "reverse", desc := "()V" } : Jvm.MethodName) ({ cls := "OrderHall$Arcs", name := "reverse", desc := "()V" } : Jvm.MethodName)) ∈ oz_TW := oz_inT 703 (by decide +kernel) rfl
theorem tw_704 : (Jvm.Cond.code ({ cls := "OrderHall$Arcs", name := "reverse", desc := "()V" } : Jvm.MethodName) prog_2_method_6_code (3 : Nat) (Option.none : Option Jvm.ClassFile.FieldType)) ∈ oz_TW := oz_inT 704 (by decide +kernel) rfl
theorem tw_712 : (Jvm.Cond.methodLink "OrderHall" (209 : Nat) ({ cls := "OrderHall$Order", name := "everything", desc := "()I" } : Jvm.MethodName)) ∈ oz_TW := oz_inT 712 (by decide +kernel) rfl
theorem tw_714 : (Jvm.Cond.methodLink "OrderHall" (214 : Nat) ({ cls := "OrderHall$Arcs", name := "restrict", desc := "(LOrderHall$Order;I)V" } : Jvm.MethodName)) ∈ oz_TW := oz_inT 714 (by decide +kernel) rfl
theorem tw_715 : (Jvm.Cond.instanceMethod ({ cls := "OrderHall$Arcs", name := "restrict", desc := "(LOrderHall$Order;I)V" } : Jvm.MethodName)) ∈ oz_TW := oz_inT 715 (by decide +kernel) rfl
theorem tw_716 : (Jvm.Cond.selects "OrderHall$Arcs" ({ cls := "OrderHall$Arcs", name := "restrict", desc := "(LOrderHall$Order;I)V" } : Jvm.MethodName) ({ cls := "OrderHall$Arcs", name := "restrict", desc := "(LOrderHall$Order;I)V" } : Jvm.MethodName)) ∈ oz_TW := oz_inT 716 (by decide +kernel) rfl
theorem tw_717 : (Jvm.Cond.code ({ cls := "OrderHall$Arcs", name := "restrict", desc := "(LOrderHall$Order;I)V" } : Jvm.MethodName) prog_2_method_7_code (4 : Nat) (Option.none : Option Jvm.ClassFile.FieldType)) ∈ oz_TW := oz_inT 717 (by decide +kernel) rfl
theorem tw_718 : (Jvm.Cond.methodLink "OrderHall$Arcs" (23 : Nat) ({ cls := "java/lang/Integer", name := "bitCount", desc := "(I)I" } : Jvm.MethodName)) ∈ oz_TW := oz_inT 718 (by decide +kernel) rfl
theorem tw_719 : (Jvm.Cond.methodLink "OrderHall$Arcs" (29 : Nat) ({ cls := "OrderHall$Arcs", name := "clear", desc := "(I)V" } : Jvm.MethodName)) ∈ oz_TW := oz_inT 719 (by decide +kernel) rfl
theorem tw_720 : (Jvm.Cond.methodLink "OrderHall$Arcs" (36 : Nat) ({ cls := "OrderHall$Arcs", name := "numberIn", desc := "(II)I" } : Jvm.MethodName)) ∈ oz_TW := oz_inT 720 (by decide +kernel) rfl
theorem tw_721 : (Jvm.Cond.static ({ cls := "OrderHall$Arcs", name := "numberIn", desc := "(II)I" } : Jvm.MethodName)) ∈ oz_TW := oz_inT 721 (by decide +kernel) rfl
theorem tw_722 : (Jvm.Cond.code ({ cls := "OrderHall$Arcs", name := "numberIn", desc := "(II)I" } : Jvm.MethodName) prog_2_method_8_code (2 : Nat) (Option.some Jvm.ClassFile.FieldType.int)) ∈ oz_TW := oz_inT 722 (by decide +kernel) rfl
theorem tw_723 : (Jvm.Cond.methodLink "OrderHall$Arcs" (43 : Nat) ({ cls := "OrderHall$Arcs", name := "renumbered", desc := "(III)I" } : Jvm.MethodName)) ∈ oz_TW := oz_inT 723 (by decide +kernel) rfl
theorem tw_724 : (Jvm.Cond.static ({ cls := "OrderHall$Arcs", name := "renumbered", desc := "(III)I" } : Jvm.MethodName)) ∈ oz_TW := oz_inT 724 (by decide +kernel) rfl
theorem tw_725 : (Jvm.Cond.code ({ cls := "OrderHall$Arcs", name := "renumbered", desc := "(III)I" } : Jvm.MethodName) prog_2_method_9_code (5 : Nat) (Option.some Jvm.ClassFile.FieldType.int)) ∈ oz_TW := oz_inT 725 (by decide +kernel) rfl
theorem tw_733 : (Jvm.Cond.methodLink "OrderHall" (218 : Nat) ({ cls := "OrderHall$Parts", name := "suffice", desc := "(LOrderHall$Held;I)Z" } : Jvm.MethodName)) ∈ oz_TW := oz_inT 733 (by decide +kernel) rfl
theorem tw_734 : (Jvm.Cond.instanceMethod ({ cls := "OrderHall$Parts", name := "suffice", desc := "(LOrderHall$Held;I)Z" } : Jvm.MethodName)) ∈ oz_TW := oz_inT 734 (by decide +kernel) rfl
theorem tw_735 : (Jvm.Cond.selects "OrderHall$Parts" ({ cls := "OrderHall$Parts", name := "suffice", desc := "(LOrderHall$Held;I)Z" } : Jvm.MethodName) ({ cls := "OrderHall$Parts", name := "suffice", desc := "(LOrderHall$Held;I)Z" } : Jvm.MethodName)) ∈ oz_TW := oz_inT 735 (by decide +kernel) rfl
theorem tw_736 : (Jvm.Cond.code ({ cls := "OrderHall$Parts", name := "suffice", desc := "(LOrderHall$Held;I)Z" } : Jvm.MethodName) prog_7_method_2_code (6 : Nat) (Option.some Jvm.ClassFile.FieldType.boolean)) ∈ oz_TW := oz_inT 736 (by decide +kernel) rfl
theorem tw_737 : (Jvm.Cond.methodLink "OrderHall$Parts" (46 : Nat) ({ cls := "OrderHall$Parts", name := "split", desc := "(II)V" } : Jvm.MethodName)) ∈ oz_TW := oz_inT 737 (by decide +kernel) rfl
theorem tw_739 : (Jvm.Cond.instanceMethod ({ cls := "OrderHall$Parts", name := "split", desc := "(II)V" } : Jvm.MethodName)) ∈ oz_TW := oz_inT 739 (by decide +kernel) rfl
theorem tw_740 : (Jvm.Cond.code ({ cls := "OrderHall$Parts", name := "split", desc := "(II)V" } : Jvm.MethodName) prog_7_method_4_code (5 : Nat) (Option.none : Option Jvm.ClassFile.FieldType)) ∈ oz_TW := oz_inT 740 (by decide +kernel) rfl
theorem tw_741 : (Jvm.Cond.methodLink "OrderHall$Parts" (66 : Nat) ({ cls := "OrderHall$Parts", name := "linkChains", desc := "(I)V" } : Jvm.MethodName)) ∈ oz_TW := oz_inT 741 (by decide +kernel) rfl
theorem tw_743 : (Jvm.Cond.instanceMethod ({ cls := "OrderHall$Parts", name := "linkChains", desc := "(I)V" } : Jvm.MethodName)) ∈ oz_TW := oz_inT 743 (by decide +kernel) rfl
theorem tw_744 : (Jvm.Cond.code ({ cls := "OrderHall$Parts", name := "linkChains", desc := "(I)V" } : Jvm.MethodName) prog_7_method_9_code (3 : Nat) (Option.none : Option Jvm.ClassFile.FieldType)) ∈ oz_TW := oz_inT 744 (by decide +kernel) rfl
theorem tw_746 : (Jvm.Cond.methodLink "OrderHall$Parts" (98 : Nat) ({ cls := "OrderHall$Parts", name := "linkOn", desc := "(II)V" } : Jvm.MethodName)) ∈ oz_TW := oz_inT 746 (by decide +kernel) rfl
theorem tw_748 : (Jvm.Cond.instanceMethod ({ cls := "OrderHall$Parts", name := "linkOn", desc := "(II)V" } : Jvm.MethodName)) ∈ oz_TW := oz_inT 748 (by decide +kernel) rfl
theorem tw_749 : (Jvm.Cond.code ({ cls := "OrderHall$Parts", name := "linkOn", desc := "(II)V" } : Jvm.MethodName) prog_7_method_10_code (8 : Nat) (Option.none : Option Jvm.ClassFile.FieldType)) ∈ oz_TW := oz_inT 749 (by decide +kernel) rfl
theorem tw_750 : (Jvm.Cond.methodLink "OrderHall$Parts" (104 : Nat) ({ cls := "OrderHall$Parts", name := "relink", desc := "(I)V" } : Jvm.MethodName)) ∈ oz_TW := oz_inT 750 (by decide +kernel) rfl
theorem tw_752 : (Jvm.Cond.instanceMethod ({ cls := "OrderHall$Parts", name := "relink", desc := "(I)V" } : Jvm.MethodName)) ∈ oz_TW := oz_inT 752 (by decide +kernel) rfl
theorem tw_753 : (Jvm.Cond.code ({ cls := "OrderHall$Parts", name := "relink", desc := "(I)V" } : Jvm.MethodName) prog_7_method_11_code (6 : Nat) (Option.none : Option Jvm.ClassFile.FieldType)) ∈ oz_TW := oz_inT 753 (by decide +kernel) rfl
theorem tw_754 : (Jvm.Cond.methodLink "OrderHall$Parts" (70 : Nat) ({ cls := "OrderHall$Parts", name := "cutChains", desc := "(I)V" } : Jvm.MethodName)) ∈ oz_TW := oz_inT 754 (by decide +kernel) rfl
theorem tw_756 : (Jvm.Cond.instanceMethod ({ cls := "OrderHall$Parts", name := "cutChains", desc := "(I)V" } : Jvm.MethodName)) ∈ oz_TW := oz_inT 756 (by decide +kernel) rfl
theorem tw_757 : (Jvm.Cond.code ({ cls := "OrderHall$Parts", name := "cutChains", desc := "(I)V" } : Jvm.MethodName) prog_7_method_7_code (3 : Nat) (Option.none : Option Jvm.ClassFile.FieldType)) ∈ oz_TW := oz_inT 757 (by decide +kernel) rfl
theorem tw_758 : (Jvm.Cond.methodLink "OrderHall$Parts" (95 : Nat) ({ cls := "OrderHall$Parts", name := "chainFrom", desc := "(I)I" } : Jvm.MethodName)) ∈ oz_TW := oz_inT 758 (by decide +kernel) rfl
theorem tw_760 : (Jvm.Cond.instanceMethod ({ cls := "OrderHall$Parts", name := "chainFrom", desc := "(I)I" } : Jvm.MethodName)) ∈ oz_TW := oz_inT 760 (by decide +kernel) rfl
theorem tw_761 : (Jvm.Cond.code ({ cls := "OrderHall$Parts", name := "chainFrom", desc := "(I)I" } : Jvm.MethodName) prog_7_method_8_code (5 : Nat) (Option.some Jvm.ClassFile.FieldType.int)) ∈ oz_TW := oz_inT 761 (by decide +kernel) rfl
theorem tw_762 : (Jvm.Cond.methodLink "OrderHall$Parts" (81 : Nat) ({ cls := "OrderHall$Parts", name := "addPart", desc := "(I)V" } : Jvm.MethodName)) ∈ oz_TW := oz_inT 762 (by decide +kernel) rfl
theorem tw_764 : (Jvm.Cond.instanceMethod ({ cls := "OrderHall$Parts", name := "addPart", desc := "(I)V" } : Jvm.MethodName)) ∈ oz_TW := oz_inT 764 (by decide +kernel) rfl
theorem tw_765 : (Jvm.Cond.code ({ cls := "OrderHall$Parts", name := "addPart", desc := "(I)V" } : Jvm.MethodName) prog_7_method_5_code (2 : Nat) (Option.none : Option Jvm.ClassFile.FieldType)) ∈ oz_TW := oz_inT 765 (by decide +kernel) rfl
theorem tw_766 : (Jvm.Cond.methodLink "OrderHall$Parts" (73 : Nat) ({ cls := "OrderHall$Parts", name := "cutLayers", desc := "(I)V" } : Jvm.MethodName)) ∈ oz_TW := oz_inT 766 (by decide +kernel) rfl
theorem tw_768 : (Jvm.Cond.instanceMethod ({ cls := "OrderHall$Parts", name := "cutLayers", desc := "(I)V" } : Jvm.MethodName)) ∈ oz_TW := oz_inT 768 (by decide +kernel) rfl
theorem tw_769 : (Jvm.Cond.code ({ cls := "OrderHall$Parts", name := "cutLayers", desc := "(I)V" } : Jvm.MethodName) prog_7_method_6_code (5 : Nat) (Option.none : Option Jvm.ClassFile.FieldType)) ∈ oz_TW := oz_inT 769 (by decide +kernel) rfl
theorem tw_770 : (Jvm.Cond.methodLink "OrderHall$Parts" (87 : Nat) ({ cls := "OrderHall$Order", name := "ends", desc := "(I[I)I" } : Jvm.MethodName)) ∈ oz_TW := oz_inT 770 (by decide +kernel) rfl
theorem tw_771 : (Jvm.Cond.methodLink "OrderHall$Parts" (76 : Nat) ({ cls := "java/lang/Integer", name := "bitCount", desc := "(I)I" } : Jvm.MethodName)) ∈ oz_TW := oz_inT 771 (by decide +kernel) rfl
theorem tw_772 : (Jvm.Cond.methodLink "OrderHall$Parts" (50 : Nat) ({ cls := "OrderHall$Parts", name := "together", desc := "(I)I" } : Jvm.MethodName)) ∈ oz_TW := oz_inT 772 (by decide +kernel) rfl
theorem tw_774 : (Jvm.Cond.instanceMethod ({ cls := "OrderHall$Parts", name := "together", desc := "(I)I" } : Jvm.MethodName)) ∈ oz_TW := oz_inT 774 (by decide +kernel) rfl
theorem tw_775 : (Jvm.Cond.code ({ cls := "OrderHall$Parts", name := "together", desc := "(I)I" } : Jvm.MethodName) prog_7_method_3_code (4 : Nat) (Option.some Jvm.ClassFile.FieldType.int)) ∈ oz_TW := oz_inT 775 (by decide +kernel) rfl
theorem tw_776 : (Jvm.Cond.methodLink "OrderHall$Parts" (60 : Nat) ({ cls := "java/lang/Math", name := "min", desc := "(II)I" } : Jvm.MethodName)) ∈ oz_TW := oz_inT 776 (by decide +kernel) rfl
theorem tw_777 : (Jvm.Cond.static ({ cls := "java/lang/Math", name := "min", desc := "(II)I" } : Jvm.MethodName)) ∈ oz_TW := oz_inT 777 (by decide +kernel) rfl
theorem tw_778 : (Jvm.Cond.code ({ cls := "java/lang/Math", name := "min", desc := "(II)I" } : Jvm.MethodName) prog_16_method_69_code (2 : Nat) (Option.some Jvm.ClassFile.FieldType.int)) ∈ oz_TW := oz_inT 778 (by decide +kernel) rfl
theorem tw_779 : (Jvm.Cond.methodLink "OrderHall$Parts" (56 : Nat) ({ cls := "OrderHall$Order", name := "everything", desc := "()I" } : Jvm.MethodName)) ∈ oz_TW := oz_inT 779 (by decide +kernel) rfl
theorem tw_786 : (Jvm.Cond.fieldLink "OrderHallModel" (50 : Nat) "OrderHallModel" "thrown" "I") ∈ oz_TW := oz_inT 786 (by decide +kernel) rfl
theorem tw_787 : (Jvm.Cond.fieldLink "OrderHallModel" (7 : Nat) "OrderHallModel" "n" "I") ∈ oz_TW := oz_inT 787 (by decide +kernel) rfl
theorem tw_788 : (Jvm.Cond.fieldLink "OrderHallModel" (53 : Nat) "OrderHallModel" "settled" "Z") ∈ oz_TW := oz_inT 788 (by decide +kernel) rfl
theorem tw_789 : (Jvm.Cond.fieldLink "OrderHallModel" (13 : Nat) "OrderHallModel" "arcs" "[Z") ∈ oz_TW := oz_inT 789 (by decide +kernel) rfl
theorem tw_790 : (Jvm.Cond.fieldLink "OrderHallModel" (17 : Nat) "OrderHallModel" "less" "[Z") ∈ oz_TW := oz_inT 790 (by decide +kernel) rfl
theorem tw_791 : (Jvm.Cond.fieldLink "OrderHallModel" (20 : Nat) "OrderHallModel" "ring" "[I") ∈ oz_TW := oz_inT 791 (by decide +kernel) rfl
theorem tw_792 : (Jvm.Cond.fieldLink "OrderHallModel" (63 : Nat) "OrderHallModel" "ringSize" "I") ∈ oz_TW := oz_inT 792 (by decide +kernel) rfl
theorem tw_793 : (Jvm.Cond.fieldLink "OrderHallModel" (24 : Nat) "OrderHallModel" "height" "[B") ∈ oz_TW := oz_inT 793 (by decide +kernel) rfl
theorem tw_794 : (Jvm.Cond.fieldLink "OrderHallModel" (28 : Nat) "OrderHallModel" "width" "[B") ∈ oz_TW := oz_inT 794 (by decide +kernel) rfl
theorem tw_795 : (Jvm.Cond.fieldLink "OrderHallModel" (31 : Nat) "OrderHallModel" "ways" "[J") ∈ oz_TW := oz_inT 795 (by decide +kernel) rfl
theorem tw_796 : (Jvm.Cond.fieldLink "OrderHallModel" (60 : Nat) "OrderHallModel" "known" "Z") ∈ oz_TW := oz_inT 796 (by decide +kernel) rfl
theorem tw_797 : (Jvm.Cond.fieldLink "OrderHallModel" (35 : Nat) "OrderHallModel" "sequence" "[I") ∈ oz_TW := oz_inT 797 (by decide +kernel) rfl
theorem tw_798 : (Jvm.Cond.fieldLink "OrderHallModel" (57 : Nat) "OrderHallModel" "there" "Z") ∈ oz_TW := oz_inT 798 (by decide +kernel) rfl
theorem tw_799 : (Jvm.Cond.fieldLink "OrderHallModel" (38 : Nat) "OrderHallModel" "tries" "[I") ∈ oz_TW := oz_inT 799 (by decide +kernel) rfl
theorem tw_800 : (Jvm.Cond.fieldLink "OrderHallModel" (41 : Nat) "OrderHallModel" "signs" "[I") ∈ oz_TW := oz_inT 800 (by decide +kernel) rfl
theorem tw_801 : (Jvm.Cond.fieldLink "OrderHallModel" (44 : Nat) "OrderHallModel" "told" "[Z") ∈ oz_TW := oz_inT 801 (by decide +kernel) rfl
theorem tw_802 : (Jvm.Cond.fieldLink "OrderHallModel" (47 : Nat) "OrderHallModel" "kept" "[I") ∈ oz_TW := oz_inT 802 (by decide +kernel) rfl
theorem tw_803 : (Jvm.Cond.lays "OrderHallModel" "OrderHallModel" "thrown" "I") ∈ oz_TW := oz_inT 803 (by decide +kernel) rfl
theorem tw_805 : (Jvm.Cond.lays "OrderHallModel" "OrderHallModel" "n" "I") ∈ oz_TW := oz_inT 805 (by decide +kernel) rfl
theorem tw_807 : (Jvm.Cond.lays "OrderHallModel" "OrderHallModel" "settled" "Z") ∈ oz_TW := oz_inT 807 (by decide +kernel) rfl
theorem tw_809 : (Jvm.Cond.laysFinal "OrderHallModel" "OrderHallModel" "arcs" "[Z") ∈ oz_TW := oz_inT 809 (by decide +kernel) rfl
theorem tw_811 : (Jvm.Cond.laysFinal "OrderHallModel" "OrderHallModel" "less" "[Z") ∈ oz_TW := oz_inT 811 (by decide +kernel) rfl
theorem tw_813 : (Jvm.Cond.laysFinal "OrderHallModel" "OrderHallModel" "ring" "[I") ∈ oz_TW := oz_inT 813 (by decide +kernel) rfl
theorem tw_815 : (Jvm.Cond.lays "OrderHallModel" "OrderHallModel" "ringSize" "I") ∈ oz_TW := oz_inT 815 (by decide +kernel) rfl
theorem tw_817 : (Jvm.Cond.laysFinal "OrderHallModel" "OrderHallModel" "height" "[B") ∈ oz_TW := oz_inT 817 (by decide +kernel) rfl
theorem tw_819 : (Jvm.Cond.laysFinal "OrderHallModel" "OrderHallModel" "width" "[B") ∈ oz_TW := oz_inT 819 (by decide +kernel) rfl
theorem tw_821 : (Jvm.Cond.laysFinal "OrderHallModel" "OrderHallModel" "ways" "[J") ∈ oz_TW := oz_inT 821 (by decide +kernel) rfl
theorem tw_823 : (Jvm.Cond.lays "OrderHallModel" "OrderHallModel" "known" "Z") ∈ oz_TW := oz_inT 823 (by decide +kernel) rfl
theorem tw_825 : (Jvm.Cond.laysFinal "OrderHallModel" "OrderHallModel" "sequence" "[I") ∈ oz_TW := oz_inT 825 (by decide +kernel) rfl
theorem tw_827 : (Jvm.Cond.lays "OrderHallModel" "OrderHallModel" "there" "Z") ∈ oz_TW := oz_inT 827 (by decide +kernel) rfl
theorem tw_829 : (Jvm.Cond.laysFinal "OrderHallModel" "OrderHallModel" "tries" "[I") ∈ oz_TW := oz_inT 829 (by decide +kernel) rfl
theorem tw_831 : (Jvm.Cond.laysFinal "OrderHallModel" "OrderHallModel" "signs" "[I") ∈ oz_TW := oz_inT 831 (by decide +kernel) rfl
theorem tw_833 : (Jvm.Cond.laysFinal "OrderHallModel" "OrderHallModel" "told" "[Z") ∈ oz_TW := oz_inT 833 (by decide +kernel) rfl
theorem tw_835 : (Jvm.Cond.laysFinal "OrderHallModel" "OrderHallModel" "kept" "[I") ∈ oz_TW := oz_inT 835 (by decide +kernel) rfl
theorem tw_847 : (Jvm.Cond.methodLink "OrderHallModel" (66 : Nat) ({ cls := "OrderHallModel", name := "change", desc := "()V" } : Jvm.MethodName)) ∈ oz_TW := oz_inT 847 (by decide +kernel) rfl
theorem tw_849 : (Jvm.Cond.instanceMethod ({ cls := "OrderHallModel", name := "change", desc := "()V" } : Jvm.MethodName)) ∈ oz_TW := oz_inT 849 (by decide +kernel) rfl
theorem tw_850 : (Jvm.Cond.code ({ cls := "OrderHallModel", name := "change", desc := "()V" } : Jvm.MethodName) prog_10_method_4_code (1 : Nat) (Option.none : Option Jvm.ClassFile.FieldType)) ∈ oz_TW := oz_inT 850 (by decide +kernel) rfl
theorem tw_855 : (Jvm.Cond.methodLink "OrderHallModel" (73 : Nat) ({ cls := "OrderHallModel", name := "setArc", desc := "(IIZ)I" } : Jvm.MethodName)) ∈ oz_TW := oz_inT 855 (by decide +kernel) rfl
theorem tw_857 : (Jvm.Cond.instanceMethod ({ cls := "OrderHallModel", name := "setArc", desc := "(IIZ)I" } : Jvm.MethodName)) ∈ oz_TW := oz_inT 857 (by decide +kernel) rfl
theorem tw_858 : (Jvm.Cond.code ({ cls := "OrderHallModel", name := "setArc", desc := "(IIZ)I" } : Jvm.MethodName) prog_10_method_6_code (5 : Nat) (Option.some Jvm.ClassFile.FieldType.int)) ∈ oz_TW := oz_inT 858 (by decide +kernel) rfl
theorem tw_859 : (Jvm.Cond.methodLink "OrderHallModel" (69 : Nat) ({ cls := "OrderHallModel", name := "isElement", desc := "(I)Z" } : Jvm.MethodName)) ∈ oz_TW := oz_inT 859 (by decide +kernel) rfl
theorem tw_861 : (Jvm.Cond.instanceMethod ({ cls := "OrderHallModel", name := "isElement", desc := "(I)Z" } : Jvm.MethodName)) ∈ oz_TW := oz_inT 861 (by decide +kernel) rfl
theorem tw_862 : (Jvm.Cond.code ({ cls := "OrderHallModel", name := "isElement", desc := "(I)Z" } : Jvm.MethodName) prog_10_method_3_code (2 : Nat) (Option.some Jvm.ClassFile.FieldType.boolean)) ∈ oz_TW := oz_inT 862 (by decide +kernel) rfl
theorem tw_868 : (Jvm.Cond.instanceMethod ({ cls := "OrderHallModel", name := "settle", desc := "()I" } : Jvm.MethodName)) ∈ oz_TW := oz_inT 868 (by decide +kernel) rfl
theorem tw_869 : (Jvm.Cond.selects "OrderHallModel" ({ cls := "OrderHallModel", name := "settle", desc := "()I" } : Jvm.MethodName) ({ cls := "OrderHallModel", name := "settle", desc := "()I" } : Jvm.MethodName)) ∈ oz_TW := oz_inT 869 (by decide +kernel) rfl
theorem tw_870 : (Jvm.Cond.code ({ cls := "OrderHallModel", name := "settle", desc := "()I" } : Jvm.MethodName) prog_10_method_15_code (5 : Nat) (Option.some Jvm.ClassFile.FieldType.int)) ∈ oz_TW := oz_inT 870 (by decide +kernel) rfl
theorem tw_871 : (Jvm.Cond.methodLink "OrderHallModel" (77 : Nat) ({ cls := "OrderHallModel", name := "isLess", desc := "(II)Z" } : Jvm.MethodName)) ∈ oz_TW := oz_inT 871 (by decide +kernel) rfl
theorem tw_873 : (Jvm.Cond.instanceMethod ({ cls := "OrderHallModel", name := "isLess", desc := "(II)Z" } : Jvm.MethodName)) ∈ oz_TW := oz_inT 873 (by decide +kernel) rfl
theorem tw_874 : (Jvm.Cond.code ({ cls := "OrderHallModel", name := "isLess", desc := "(II)Z" } : Jvm.MethodName) prog_10_method_10_code (3 : Nat) (Option.some Jvm.ClassFile.FieldType.boolean)) ∈ oz_TW := oz_inT 874 (by decide +kernel) rfl
theorem tw_875 : (Jvm.Cond.methodLink "OrderHallModel" (91 : Nat) ({ cls := "OrderHallModel", name := "findRing", desc := "(I)Z" } : Jvm.MethodName)) ∈ oz_TW := oz_inT 875 (by decide +kernel) rfl
theorem tw_877 : (Jvm.Cond.instanceMethod ({ cls := "OrderHallModel", name := "findRing", desc := "(I)Z" } : Jvm.MethodName)) ∈ oz_TW := oz_inT 877 (by decide +kernel) rfl
theorem tw_878 : (Jvm.Cond.code ({ cls := "OrderHallModel", name := "findRing", desc := "(I)Z" } : Jvm.MethodName) prog_10_method_14_code (3 : Nat) (Option.some Jvm.ClassFile.FieldType.boolean)) ∈ oz_TW := oz_inT 878 (by decide +kernel) rfl
theorem tw_879 : (Jvm.Cond.methodLink "OrderHallModel" (88 : Nat) ({ cls := "OrderHallModel", name := "closes", desc := "(II)Z" } : Jvm.MethodName)) ∈ oz_TW := oz_inT 879 (by decide +kernel) rfl
theorem tw_881 : (Jvm.Cond.instanceMethod ({ cls := "OrderHallModel", name := "closes", desc := "(II)Z" } : Jvm.MethodName)) ∈ oz_TW := oz_inT 881 (by decide +kernel) rfl
theorem tw_882 : (Jvm.Cond.code ({ cls := "OrderHallModel", name := "closes", desc := "(II)Z" } : Jvm.MethodName) prog_10_method_13_code (5 : Nat) (Option.some Jvm.ClassFile.FieldType.boolean)) ∈ oz_TW := oz_inT 882 (by decide +kernel) rfl
theorem tw_883 : (Jvm.Cond.methodLink "OrderHallModel" (81 : Nat) ({ cls := "OrderHallModel", name := "isArc", desc := "(II)Z" } : Jvm.MethodName)) ∈ oz_TW := oz_inT 883 (by decide +kernel) rfl
theorem tw_885 : (Jvm.Cond.instanceMethod ({ cls := "OrderHallModel", name := "isArc", desc := "(II)Z" } : Jvm.MethodName)) ∈ oz_TW := oz_inT 885 (by decide +kernel) rfl
theorem tw_886 : (Jvm.Cond.code ({ cls := "OrderHallModel", name := "isArc", desc := "(II)Z" } : Jvm.MethodName) prog_10_method_9_code (3 : Nat) (Option.some Jvm.ClassFile.FieldType.boolean)) ∈ oz_TW := oz_inT 886 (by decide +kernel) rfl
theorem tw_887 : (Jvm.Cond.methodLink "OrderHallModel" (84 : Nat) ({ cls := "OrderHallModel", name := "firstAt", desc := "(I)I" } : Jvm.MethodName)) ∈ oz_TW := oz_inT 887 (by decide +kernel) rfl
theorem tw_889 : (Jvm.Cond.instanceMethod ({ cls := "OrderHallModel", name := "firstAt", desc := "(I)I" } : Jvm.MethodName)) ∈ oz_TW := oz_inT 889 (by decide +kernel) rfl
theorem tw_890 : (Jvm.Cond.code ({ cls := "OrderHallModel", name := "firstAt", desc := "(I)I" } : Jvm.MethodName) prog_10_method_12_code (5 : Nat) (Option.some Jvm.ClassFile.FieldType.int)) ∈ oz_TW := oz_inT 890 (by decide +kernel) rfl
theorem tw_903 : (Jvm.Cond.methodLink "OrderHallModel" (94 : Nat) ({ cls := "OrderHallModel", name := "covers", desc := "(II)Z" } : Jvm.MethodName)) ∈ oz_TW := oz_inT 903 (by decide +kernel) rfl
theorem tw_905 : (Jvm.Cond.instanceMethod ({ cls := "OrderHallModel", name := "covers", desc := "(II)Z" } : Jvm.MethodName)) ∈ oz_TW := oz_inT 905 (by decide +kernel) rfl
theorem tw_906 : (Jvm.Cond.code ({ cls := "OrderHallModel", name := "covers", desc := "(II)Z" } : Jvm.MethodName) prog_10_method_18_code (5 : Nat) (Option.some Jvm.ClassFile.FieldType.boolean)) ∈ oz_TW := oz_inT 906 (by decide +kernel) rfl
theorem tw_907 : (Jvm.Cond.methodLink "OrderHallModel" (97 : Nat) ({ cls := "OrderHallModel", name := "isApart", desc := "(II)Z" } : Jvm.MethodName)) ∈ oz_TW := oz_inT 907 (by decide +kernel) rfl
theorem tw_909 : (Jvm.Cond.instanceMethod ({ cls := "OrderHallModel", name := "isApart", desc := "(II)Z" } : Jvm.MethodName)) ∈ oz_TW := oz_inT 909 (by decide +kernel) rfl
theorem tw_910 : (Jvm.Cond.code ({ cls := "OrderHallModel", name := "isApart", desc := "(II)Z" } : Jvm.MethodName) prog_10_method_11_code (3 : Nat) (Option.some Jvm.ClassFile.FieldType.boolean)) ∈ oz_TW := oz_inT 910 (by decide +kernel) rfl
theorem tw_915 : (Jvm.Cond.methodLink "OrderHallModel" (115 : Nat) ({ cls := "OrderHallModel", name := "know", desc := "()V" } : Jvm.MethodName)) ∈ oz_TW := oz_inT 915 (by decide +kernel) rfl
theorem tw_917 : (Jvm.Cond.instanceMethod ({ cls := "OrderHallModel", name := "know", desc := "()V" } : Jvm.MethodName)) ∈ oz_TW := oz_inT 917 (by decide +kernel) rfl
theorem tw_918 : (Jvm.Cond.code ({ cls := "OrderHallModel", name := "know", desc := "()V" } : Jvm.MethodName) prog_10_method_24_code (8 : Nat) (Option.none : Option Jvm.ClassFile.FieldType)) ∈ oz_TW := oz_inT 918 (by decide +kernel) rfl
theorem tw_919 : (Jvm.Cond.methodLink "OrderHallModel" (103 : Nat) ({ cls := "OrderHallModel", name := "sizeOf", desc := "(I)I" } : Jvm.MethodName)) ∈ oz_TW := oz_inT 919 (by decide +kernel) rfl
theorem tw_920 : (Jvm.Cond.static ({ cls := "OrderHallModel", name := "sizeOf", desc := "(I)I" } : Jvm.MethodName)) ∈ oz_TW := oz_inT 920 (by decide +kernel) rfl
theorem tw_921 : (Jvm.Cond.code ({ cls := "OrderHallModel", name := "sizeOf", desc := "(I)I" } : Jvm.MethodName) prog_10_method_21_code (3 : Nat) (Option.some Jvm.ClassFile.FieldType.int)) ∈ oz_TW := oz_inT 921 (by decide +kernel) rfl
theorem tw_922 : (Jvm.Cond.methodLink "OrderHallModel" (100 : Nat) ({ cls := "OrderHallModel", name := "has", desc := "(II)Z" } : Jvm.MethodName)) ∈ oz_TW := oz_inT 922 (by decide +kernel) rfl
theorem tw_923 : (Jvm.Cond.static ({ cls := "OrderHallModel", name := "has", desc := "(II)Z" } : Jvm.MethodName)) ∈ oz_TW := oz_inT 923 (by decide +kernel) rfl
theorem tw_924 : (Jvm.Cond.code ({ cls := "OrderHallModel", name := "has", desc := "(II)Z" } : Jvm.MethodName) prog_10_method_20_code (2 : Nat) (Option.some Jvm.ClassFile.FieldType.boolean)) ∈ oz_TW := oz_inT 924 (by decide +kernel) rfl
theorem tw_925 : (Jvm.Cond.methodLink "OrderHallModel" (106 : Nat) ({ cls := "OrderHallModel", name := "isChain", desc := "(I)Z" } : Jvm.MethodName)) ∈ oz_TW := oz_inT 925 (by decide +kernel) rfl
theorem tw_927 : (Jvm.Cond.instanceMethod ({ cls := "OrderHallModel", name := "isChain", desc := "(I)Z" } : Jvm.MethodName)) ∈ oz_TW := oz_inT 927 (by decide +kernel) rfl
theorem tw_928 : (Jvm.Cond.code ({ cls := "OrderHallModel", name := "isChain", desc := "(I)Z" } : Jvm.MethodName) prog_10_method_22_code (5 : Nat) (Option.some Jvm.ClassFile.FieldType.boolean)) ∈ oz_TW := oz_inT 928 (by decide +kernel) rfl
theorem tw_929 : (Jvm.Cond.methodLink "OrderHallModel" (109 : Nat) ({ cls := "OrderHallModel", name := "isAntichain", desc := "(I)Z" } : Jvm.MethodName)) ∈ oz_TW := oz_inT 929 (by decide +kernel) rfl
theorem tw_931 : (Jvm.Cond.instanceMethod ({ cls := "OrderHallModel", name := "isAntichain", desc := "(I)Z" } : Jvm.MethodName)) ∈ oz_TW := oz_inT 931 (by decide +kernel) rfl
theorem tw_932 : (Jvm.Cond.code ({ cls := "OrderHallModel", name := "isAntichain", desc := "(I)Z" } : Jvm.MethodName) prog_10_method_23_code (5 : Nat) (Option.some Jvm.ClassFile.FieldType.boolean)) ∈ oz_TW := oz_inT 932 (by decide +kernel) rfl
theorem tw_933 : (Jvm.Cond.methodLink "OrderHallModel" (112 : Nat) ({ cls := "OrderHallModel", name := "mayCome", desc := "(II)Z" } : Jvm.MethodName)) ∈ oz_TW := oz_inT 933 (by decide +kernel) rfl
theorem tw_935 : (Jvm.Cond.instanceMethod ({ cls := "OrderHallModel", name := "mayCome", desc := "(II)Z" } : Jvm.MethodName)) ∈ oz_TW := oz_inT 935 (by decide +kernel) rfl
theorem tw_936 : (Jvm.Cond.code ({ cls := "OrderHallModel", name := "mayCome", desc := "(II)Z" } : Jvm.MethodName) prog_10_method_25_code (5 : Nat) (Option.some Jvm.ClassFile.FieldType.boolean)) ∈ oz_TW := oz_inT 936 (by decide +kernel) rfl
theorem tw_941 : (Jvm.Cond.methodLink "OrderHallModel" (118 : Nat) ({ cls := "OrderHallModel", name := "isClosed", desc := "(I)Z" } : Jvm.MethodName)) ∈ oz_TW := oz_inT 941 (by decide +kernel) rfl
theorem tw_943 : (Jvm.Cond.instanceMethod ({ cls := "OrderHallModel", name := "isClosed", desc := "(I)Z" } : Jvm.MethodName)) ∈ oz_TW := oz_inT 943 (by decide +kernel) rfl
theorem tw_944 : (Jvm.Cond.code ({ cls := "OrderHallModel", name := "isClosed", desc := "(I)Z" } : Jvm.MethodName) prog_10_method_27_code (5 : Nat) (Option.some Jvm.ClassFile.FieldType.boolean)) ∈ oz_TW := oz_inT 944 (by decide +kernel) rfl
theorem tw_949 : (Jvm.Cond.methodLink "OrderHallModel" (121 : Nat) ({ cls := "OrderHallModel", name := "isUnder", desc := "(IIZ)Z" } : Jvm.MethodName)) ∈ oz_TW := oz_inT 949 (by decide +kernel) rfl
theorem tw_951 : (Jvm.Cond.instanceMethod ({ cls := "OrderHallModel", name := "isUnder", desc := "(IIZ)Z" } : Jvm.MethodName)) ∈ oz_TW := oz_inT 951 (by decide +kernel) rfl
theorem tw_952 : (Jvm.Cond.code ({ cls := "OrderHallModel", name := "isUnder", desc := "(IIZ)Z" } : Jvm.MethodName) prog_10_method_29_code (8 : Nat) (Option.some Jvm.ClassFile.FieldType.boolean)) ∈ oz_TW := oz_inT 952 (by decide +kernel) rfl
theorem tw_957 : (Jvm.Cond.methodLink "OrderHallModel" (129 : Nat) ({ cls := "OrderHallModel", name := "asks", desc := "(II)Z" } : Jvm.MethodName)) ∈ oz_TW := oz_inT 957 (by decide +kernel) rfl
theorem tw_959 : (Jvm.Cond.instanceMethod ({ cls := "OrderHallModel", name := "asks", desc := "(II)Z" } : Jvm.MethodName)) ∈ oz_TW := oz_inT 959 (by decide +kernel) rfl
theorem tw_960 : (Jvm.Cond.code ({ cls := "OrderHallModel", name := "asks", desc := "(II)Z" } : Jvm.MethodName) prog_10_method_33_code (3 : Nat) (Option.some Jvm.ClassFile.FieldType.boolean)) ∈ oz_TW := oz_inT 960 (by decide +kernel) rfl
theorem tw_961 : (Jvm.Cond.methodLink "OrderHallModel" (132 : Nat) ({ cls := "OrderHallModel", name := "firstHeld", desc := "(II)I" } : Jvm.MethodName)) ∈ oz_TW := oz_inT 961 (by decide +kernel) rfl
theorem tw_963 : (Jvm.Cond.instanceMethod ({ cls := "OrderHallModel", name := "firstHeld", desc := "(II)I" } : Jvm.MethodName)) ∈ oz_TW := oz_inT 963 (by decide +kernel) rfl
theorem tw_964 : (Jvm.Cond.code ({ cls := "OrderHallModel", name := "firstHeld", desc := "(II)I" } : Jvm.MethodName) prog_10_method_32_code (5 : Nat) (Option.some Jvm.ClassFile.FieldType.int)) ∈ oz_TW := oz_inT 964 (by decide +kernel) rfl
theorem tw_965 : (Jvm.Cond.methodLink "OrderHallModel" (125 : Nat) ({ cls := "OrderHallModel", name := "isHeld", desc := "(III)Z" } : Jvm.MethodName)) ∈ oz_TW := oz_inT 965 (by decide +kernel) rfl
theorem tw_967 : (Jvm.Cond.instanceMethod ({ cls := "OrderHallModel", name := "isHeld", desc := "(III)Z" } : Jvm.MethodName)) ∈ oz_TW := oz_inT 967 (by decide +kernel) rfl
theorem tw_968 : (Jvm.Cond.code ({ cls := "OrderHallModel", name := "isHeld", desc := "(III)Z" } : Jvm.MethodName) prog_10_method_31_code (4 : Nat) (Option.some Jvm.ClassFile.FieldType.boolean)) ∈ oz_TW := oz_inT 968 (by decide +kernel) rfl
theorem tw_997 : (Jvm.Cond.constantLong "OrderHallModel" (136 : Nat) (-1 : Int64)) ∈ oz_TW := oz_inT 997 (by decide +kernel) rfl
theorem tw_1002 : (Jvm.Cond.methodLink "OrderHallModel" (145 : Nat) ({ cls := "OrderHallModel", name := "boundOf", desc := "(III)I" } : Jvm.MethodName)) ∈ oz_TW := oz_inT 1002 (by decide +kernel) rfl
theorem tw_1004 : (Jvm.Cond.instanceMethod ({ cls := "OrderHallModel", name := "boundOf", desc := "(III)I" } : Jvm.MethodName)) ∈ oz_TW := oz_inT 1004 (by decide +kernel) rfl
theorem tw_1005 : (Jvm.Cond.code ({ cls := "OrderHallModel", name := "boundOf", desc := "(III)I" } : Jvm.MethodName) prog_10_method_44_code (8 : Nat) (Option.some Jvm.ClassFile.FieldType.int)) ∈ oz_TW := oz_inT 1005 (by decide +kernel) rfl
theorem tw_1006 : (Jvm.Cond.methodLink "OrderHallModel" (141 : Nat) ({ cls := "OrderHallModel", name := "isBound", desc := "(IIII)Z" } : Jvm.MethodName)) ∈ oz_TW := oz_inT 1006 (by decide +kernel) rfl
theorem tw_1008 : (Jvm.Cond.instanceMethod ({ cls := "OrderHallModel", name := "isBound", desc := "(IIII)Z" } : Jvm.MethodName)) ∈ oz_TW := oz_inT 1008 (by decide +kernel) rfl
theorem tw_1009 : (Jvm.Cond.code ({ cls := "OrderHallModel", name := "isBound", desc := "(IIII)Z" } : Jvm.MethodName) prog_10_method_43_code (5 : Nat) (Option.some Jvm.ClassFile.FieldType.boolean)) ∈ oz_TW := oz_inT 1009 (by decide +kernel) rfl
theorem tw_1010 : (Jvm.Cond.methodLink "OrderHallModel" (138 : Nat) ({ cls := "OrderHallModel", name := "isAtMost", desc := "(II)Z" } : Jvm.MethodName)) ∈ oz_TW := oz_inT 1010 (by decide +kernel) rfl
theorem tw_1012 : (Jvm.Cond.instanceMethod ({ cls := "OrderHallModel", name := "isAtMost", desc := "(II)Z" } : Jvm.MethodName)) ∈ oz_TW := oz_inT 1012 (by decide +kernel) rfl
theorem tw_1013 : (Jvm.Cond.code ({ cls := "OrderHallModel", name := "isAtMost", desc := "(II)Z" } : Jvm.MethodName) prog_10_method_42_code (3 : Nat) (Option.some Jvm.ClassFile.FieldType.boolean)) ∈ oz_TW := oz_inT 1013 (by decide +kernel) rfl
theorem tw_1022 : (Jvm.Cond.methodLink "OrderHallModel" (149 : Nat) ({ cls := "OrderHallModel", name := "tell", desc := "(II)V" } : Jvm.MethodName)) ∈ oz_TW := oz_inT 1022 (by decide +kernel) rfl
theorem tw_1024 : (Jvm.Cond.instanceMethod ({ cls := "OrderHallModel", name := "tell", desc := "(II)V" } : Jvm.MethodName)) ∈ oz_TW := oz_inT 1024 (by decide +kernel) rfl
theorem tw_1025 : (Jvm.Cond.code ({ cls := "OrderHallModel", name := "tell", desc := "(II)V" } : Jvm.MethodName) prog_10_method_48_code (6 : Nat) (Option.none : Option Jvm.ClassFile.FieldType)) ∈ oz_TW := oz_inT 1025 (by decide +kernel) rfl
theorem tw_1030 : (Jvm.Cond.methodLink "OrderHallModel" (153 : Nat) ({ cls := "OrderHallModel", name := "settle", desc := "()I" } : Jvm.MethodName)) ∈ oz_TW := oz_inT 1030 (by decide +kernel) rfl
theorem tin_Hall : ∀ w ∈ u_ws "OrderHall" oT_Hall 8, w ∈ oz_TW := by
  intro w h
  obtain ⟨k, hk, rfl⟩ := List.mem_map.mp h
  have hk := List.mem_range.mp hk
  match k, hk with
  | 0, _ => exact tw_236
  | 1, _ => exact tw_238
  | 2, _ => exact tw_240
  | 3, _ => exact tw_242
  | 4, _ => exact tw_244
  | 5, _ => exact tw_246
  | 6, _ => exact tw_248
  | 7, _ => exact tw_250
  | k + 8, hk => exact absurd hk (by omega)
theorem tin_Arcs : ∀ w ∈ u_ws "OrderHall$Arcs" oT_Arcs 2, w ∈ oz_TW := by
  intro w h
  obtain ⟨k, hk, rfl⟩ := List.mem_map.mp h
  have hk := List.mem_range.mp hk
  match k, hk with
  | 0, _ => exact tw_39
  | 1, _ => exact tw_41
  | k + 2, hk => exact absurd hk (by omega)
theorem tin_Ring : ∀ w ∈ u_ws "OrderHall$Ring" oT_Ring 3, w ∈ oz_TW := by
  intro w h
  obtain ⟨k, hk, rfl⟩ := List.mem_map.mp h
  have hk := List.mem_range.mp hk
  match k, hk with
  | 0, _ => exact tw_56
  | 1, _ => exact tw_58
  | 2, _ => exact tw_60
  | k + 3, hk => exact absurd hk (by omega)
theorem tin_Order : ∀ w ∈ u_ws "OrderHall$Order" oT_Order 8, w ∈ oz_TW := by
  intro w h
  obtain ⟨k, hk, rfl⟩ := List.mem_map.mp h
  have hk := List.mem_range.mp hk
  match k, hk with
  | 0, _ => exact tw_98
  | 1, _ => exact tw_100
  | 2, _ => exact tw_102
  | 3, _ => exact tw_104
  | 4, _ => exact tw_106
  | 5, _ => exact tw_108
  | 6, _ => exact tw_110
  | 7, _ => exact tw_112
  | k + 8, hk => exact absurd hk (by omega)
theorem tin_Bounds : ∀ w ∈ u_ws "OrderHall$Bounds" oT_Bounds 3, w ∈ oz_TW := by
  intro w h
  obtain ⟨k, hk, rfl⟩ := List.mem_map.mp h
  have hk := List.mem_range.mp hk
  match k, hk with
  | 0, _ => exact tw_126
  | 1, _ => exact tw_128
  | 2, _ => exact tw_130
  | k + 3, hk => exact absurd hk (by omega)
theorem tin_Held : ∀ w ∈ u_ws "OrderHall$Held" oT_Held 8, w ∈ oz_TW := by
  intro w h
  obtain ⟨k, hk, rfl⟩ := List.mem_map.mp h
  have hk := List.mem_range.mp hk
  match k, hk with
  | 0, _ => exact tw_156
  | 1, _ => exact tw_158
  | 2, _ => exact tw_160
  | 3, _ => exact tw_162
  | 4, _ => exact tw_164
  | 5, _ => exact tw_166
  | 6, _ => exact tw_168
  | 7, _ => exact tw_170
  | k + 8, hk => exact absurd hk (by omega)
theorem tin_Line : ∀ w ∈ u_ws "OrderHall$Line" oT_Line 5, w ∈ oz_TW := by
  intro w h
  obtain ⟨k, hk, rfl⟩ := List.mem_map.mp h
  have hk := List.mem_range.mp hk
  match k, hk with
  | 0, _ => exact tw_188
  | 1, _ => exact tw_190
  | 2, _ => exact tw_192
  | 3, _ => exact tw_194
  | 4, _ => exact tw_196
  | k + 5, hk => exact absurd hk (by omega)
theorem tin_Parts : ∀ w ∈ u_ws "OrderHall$Parts" oT_Parts 7, w ∈ oz_TW := by
  intro w h
  obtain ⟨k, hk, rfl⟩ := List.mem_map.mp h
  have hk := List.mem_range.mp hk
  match k, hk with
  | 0, _ => exact tw_213
  | 1, _ => exact tw_215
  | 2, _ => exact tw_217
  | 3, _ => exact tw_219
  | 4, _ => exact tw_221
  | 5, _ => exact tw_223
  | 6, _ => exact tw_225
  | k + 7, hk => exact absurd hk (by omega)
theorem tin_Model : ∀ w ∈ u_ws "OrderHallModel" oT_Model 17, w ∈ oz_TW := by
  intro w h
  obtain ⟨k, hk, rfl⟩ := List.mem_map.mp h
  have hk := List.mem_range.mp hk
  match k, hk with
  | 0, _ => exact tw_803
  | 1, _ => exact tw_805
  | 2, _ => exact tw_807
  | 3, _ => exact tw_809
  | 4, _ => exact tw_811
  | 5, _ => exact tw_813
  | 6, _ => exact tw_815
  | 7, _ => exact tw_817
  | 8, _ => exact tw_819
  | 9, _ => exact tw_821
  | 10, _ => exact tw_823
  | 11, _ => exact tw_825
  | 12, _ => exact tw_827
  | 13, _ => exact tw_829
  | 14, _ => exact tw_831
  | 15, _ => exact tw_833
  | 16, _ => exact tw_835
  | k + 17, hk => exact absurd hk (by omega)
theorem tw_max : Cond.static Lib.Math.max.name ∈ oz_TW ∧ Cond.initialized "java/lang/Math" ∈ oz_TW ∧ Cond.code Lib.Math.max.name Lib.Math.max.code 2 (some .int) ∈ oz_TW := ⟨tw_323, tw_16, tw_324⟩
theorem tw_min : Cond.static Lib.Math.min.name ∈ oz_TW ∧ Cond.initialized "java/lang/Math" ∈ oz_TW ∧ Cond.code Lib.Math.min.name Lib.Math.min.code 2 (some .int) ∈ oz_TW := ⟨tw_777, tw_16, tw_778⟩
