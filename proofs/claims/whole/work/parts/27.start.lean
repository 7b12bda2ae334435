theorem tw_19 : (Jvm.Cond.instantiable "OrderHall" (8 : Nat)) ∈ oz_TW := oz_inT 19 (by decide +kernel) rfl
theorem tw_781 : (Jvm.Cond.instantiable "OrderHallModel" (17 : Nat)) ∈ oz_TW := oz_inT 781 (by decide +kernel) rfl
theorem tw_18 : (Jvm.Cond.classLink "OrderHallLaw" (8 : Nat) "OrderHall") ∈ oz_TW := oz_inT 18 (by decide +kernel) rfl
theorem tw_20 : (Jvm.Cond.methodLink "OrderHallLaw" (79 : Nat) ({ cls := "OrderHall", name := "<init>", desc := "()V" } : Jvm.MethodName)) ∈ oz_TW := oz_inT 20 (by decide +kernel) rfl
theorem tw_21 : (Jvm.Cond.instanceMethod ({ cls := "OrderHall", name := "<init>", desc := "()V" } : Jvm.MethodName)) ∈ oz_TW := oz_inT 21 (by decide +kernel) rfl
theorem tw_22 : (Jvm.Cond.code ({ cls := "OrderHall", name := "<init>", desc := "()V" } : Jvm.MethodName) prog_1_method_1_code (1 : Nat) (Option.none : Option Jvm.ClassFile.FieldType)) ∈ oz_TW := oz_inT 22 (by decide +kernel) rfl
theorem tw_780 : (Jvm.Cond.classLink "OrderHallLaw" (80 : Nat) "OrderHallModel") ∈ oz_TW := oz_inT 780 (by decide +kernel) rfl
theorem tw_782 : (Jvm.Cond.methodLink "OrderHallLaw" (82 : Nat) ({ cls := "OrderHallModel", name := "<init>", desc := "()V" } : Jvm.MethodName)) ∈ oz_TW := oz_inT 782 (by decide +kernel) rfl
theorem tw_783 : (Jvm.Cond.instanceMethod ({ cls := "OrderHallModel", name := "<init>", desc := "()V" } : Jvm.MethodName)) ∈ oz_TW := oz_inT 783 (by decide +kernel) rfl
theorem tw_784 : (Jvm.Cond.code ({ cls := "OrderHallModel", name := "<init>", desc := "()V" } : Jvm.MethodName) prog_10_method_1_code (1 : Nat) (Option.none : Option Jvm.ClassFile.FieldType)) ∈ oz_TW := oz_inT 784 (by decide +kernel) rfl
theorem oz_Sf_of {n d : String} {args : Array Value} {s : State} (h1 : (Cond.laysStatic oz_tN n d).before args s = true) (h2 : (Cond.isRef (.static oz_tN n d)).before args s = true) : oz_Sf n d s.heap.size s := by
  obtain ⟨c, k, i, f, a, cell, g1, g2, g3, g4, g5, g6, g7, g8, g9⟩ := Cond.laysStatic_spec h1
  obtain ⟨u, e1, e2⟩ := Cond.isRef_spec h2
  obtain ⟨w, hw⟩ : ∃ w, cell.slots[f.slot]? = some w := ⟨_, Array.getElem?_eq_getElem g8⟩
  have hev : (Term.static oz_tN n d).eval args s none [] s = some w := by
    simp [Term.eval, State.fieldNamed?, g2, g3, g4, g5, g6, hw]
  have hu : w = u := Option.some.inj (hev.symm.trans e1)
  subst hu
  exact ⟨w, c, i, a, k, f, cell, e2, g1, g2, g3, g4, g5, g6, g7, g8, g9, hw, fun h => Nat.not_lt.mpr h (Array.getElem?_eq_some_iff.mp g5).1⟩
theorem oz_knows {args : Array Value} {s : State} (hts : ∀ w ∈ oz_TW, w.before args s = true) (hO : (Cond.arrayOver (.array .int)).before args s = true) : ∃ (D : va_G) (cs : Nat → ClassId), va_K D classes (oz_ty cs) s := by
  have hC : ∀ c : Nat, ∃ y : ClassId × (Nat → Nat), ∀ q, classes[c]? = some q → u_Kn s q.1 q.2.1 q.2.2 y.1 y.2 := by
    intro c
    match c with
    | 0 =>
      obtain ⟨a, b, h⟩ := u_known hts tin_Hall (hts _ tw_19)
      exact ⟨(a, b), fun q hq => by
        have e := Option.some.inj hq
        subst e
        exact h⟩
    | 1 =>
      obtain ⟨a, b, h⟩ := u_known hts tin_Arcs (hts _ tw_27)
      exact ⟨(a, b), fun q hq => by
        have e := Option.some.inj hq
        subst e
        exact h⟩
    | 2 =>
      obtain ⟨a, b, h⟩ := u_known hts tin_Ring (hts _ tw_46)
      exact ⟨(a, b), fun q hq => by
        have e := Option.some.inj hq
        subst e
        exact h⟩
    | 3 =>
      obtain ⟨a, b, h⟩ := u_known hts tin_Order (hts _ tw_64)
      exact ⟨(a, b), fun q hq => by
        have e := Option.some.inj hq
        subst e
        exact h⟩
    | 4 =>
      obtain ⟨a, b, h⟩ := u_known hts tin_Bounds (hts _ tw_116)
      exact ⟨(a, b), fun q hq => by
        have e := Option.some.inj hq
        subst e
        exact h⟩
    | 5 =>
      obtain ⟨a, b, h⟩ := u_known hts tin_Held (hts _ tw_134)
      exact ⟨(a, b), fun q hq => by
        have e := Option.some.inj hq
        subst e
        exact h⟩
    | 6 =>
      obtain ⟨a, b, h⟩ := u_known hts tin_Line (hts _ tw_175)
      exact ⟨(a, b), fun q hq => by
        have e := Option.some.inj hq
        subst e
        exact h⟩
    | 7 =>
      obtain ⟨a, b, h⟩ := u_known hts tin_Parts (hts _ tw_201)
      exact ⟨(a, b), fun q hq => by
        have e := Option.some.inj hq
        subst e
        exact h⟩
    | 8 =>
      obtain ⟨a, b, h⟩ := u_known hts tin_Model (hts _ tw_781)
      exact ⟨(a, b), fun q hq => by
        have e := Option.some.inj hq
        subst e
        exact h⟩
    | n + 9 => exact ⟨(0, fun _ => 0), fun q hq => by cases hq⟩
  obtain ⟨f, hf⟩ := Classical.axiomOfChoice hC
  have hA : ∀ ty, (Cond.arrayClass ty).before args s = true → (∀ C, ty ≠ .object C) → ∃ c, ArrOfT s c ty ∧ va_RA s c ty := by
    intro ty h hty
    obtain ⟨c, k, comp, h1, h2, h3⟩ := Cond.arrayClass_spec h
    refine ⟨c, fun n z => ⟨fun k h => (by cases h), k, h2, comp, h3⟩, ?_⟩
    cases ty with
    | object C => exact absurd rfl (hty C)
    | _ => exact h1
  obtain ⟨c0, k0⟩ := hA .int (hts _ tw_44) (by intro C h; cases h)
  obtain ⟨c1, k1⟩ := hA .byte (hts _ tw_173) (by intro C h; cases h)
  obtain ⟨c2, k2⟩ := hA .long (hts _ tw_199) (by intro C h; cases h)
  obtain ⟨c3, k3⟩ := hA .boolean (hts _ tw_838) (by intro C h; cases h)
  obtain ⟨comp, c4, k, -, h2, h3, h4⟩ := Cond.arrayOver_specA hO
  have k4 : ArrOfT s c4 (.array .int) ∧ va_RA s c4 (.array .int) := ⟨fun n z => ⟨fun k h => (by cases h), k, h2, comp, h3⟩, h4⟩
  refine ⟨(fun c => (f c).1, fun c => (f c).2), fun i => match i with | 0 => c0 | 1 => c1 | 2 => c2 | 3 => c3 | _ => c4, ⟨fun c q hq => hf c q hq, ?_⟩⟩
  intro k q hq
  match k with
  | 0 => cases hq; exact k0
  | 1 => cases hq; exact k1
  | 2 => cases hq; exact k2
  | 3 => cases hq; exact k3
  | 4 => cases hq; exact k4
  | n + 5 => cases hq
theorem oz_FW_in : ∀ w ∈ oz_FW, w ∈ tables_1 := by decide +kernel
theorem oz_NW_in : ∀ w ∈ oz_NW, w ∈ tables_1 := by decide +kernel
theorem oz_NC_in : ∀ w ∈ oz_NC, w ∈ flatC (Jvm.Cond.and given_1 narrow_1) := by decide +kernel
theorem oz_SR_in : ∀ kt ∈ oz_SR, Cond.stringRef "OrderHall" kt.1 kt.2 ∈ tables_1 := by decide +kernel
theorem oz_FW_tab : ∀ w ∈ oz_FW, w.onTables = true := fun w h => (oz_FW_face w h).1
theorem oz_st_in : Cond.laysStatic oz_tN "UNASSIGNED_STACK" oz_steD ∈ tables_1 ∧ Cond.laysStatic oz_tN "SUPPRESSED_SENTINEL" oz_listD ∈ tables_1 := by decide +kernel
theorem oz_sr_in : Cond.isRef (.static oz_tN "UNASSIGNED_STACK" oz_steD) ∈ flatC (Jvm.Cond.and given_1 narrow_1) ∧ Cond.isRef (.static oz_tN "SUPPRESSED_SENTINEL" oz_listD) ∈ flatC (Jvm.Cond.and given_1 narrow_1) := by decide +kernel
theorem oz_ao_in : Cond.arrayOver (.array .int) ∈ tables_1 := by decide +kernel
theorem oz_first {args : Array Value} {s : State} {cur : ClassId} (hts : ∀ w ∈ lw_tbl, w.before args s = true) (hg : (Jvm.Cond.and given_1 narrow_1).before args s = true) (hcur : s.vm.findClass "OrderHall" = some cur) : oz_Ex s.heap.size s := by
  have h1 : ∀ w ∈ tables_1, w.before args s = true := fun w hw => hts w (List.mem_append_right _ hw)
  have h2 := flat_of_before _ hg
  have hNC : ∀ w ∈ oz_NC, va_Nw w s := fun w hw => by
    have h := h2 w (oz_NC_in w hw)
    simp only [oz_NC, List.mem_cons, List.not_mem_nil, or_false] at hw
    rcases hw with rfl | rfl | rfl <;> exact h
  refine ⟨fun w hw => va_Nw.of (oz_FW_tab w hw) (h1 w (oz_FW_in w hw)), hNC, fun kt hkt => ?_, oz_Sf_of (h1 _ oz_st_in.1) (h2 _ oz_sr_in.1), oz_Sf_of (h1 _ oz_st_in.2) (h2 _ oz_sr_in.2)⟩
  have hw := h1 _ (oz_SR_in kt hkt)
  obtain ⟨_, _, _, a, -, -, -, -, -, ev⟩ := Cond.stringRef_spec hcur hw
  exact ⟨a, vk_R.of hw ev⟩
def oz_M0 : oz_M := (fun i => match i with | 1 => fun k => if k = 0 then 1 else 0 | 6 => fun k => if k = 0 then 1 else 0 | 62 => fun k => if k = 1 then 1 else 0 | _ => fun _ => 0, fun _ _ => 0)
theorem oz_cw_map {b N : Nat} {E : Nat → va_E} : oz_cw b ((List.range N).map E) = (List.range N).map fun i => (b + i, E i) := by
  apply List.ext_getElem?
  intro i
  rw [oz_cw_at]
  by_cases h : i < N
  · simp [h]
  · simp [h]
theorem oz_KtoZ {G : oz_G} {cells slots pc : Nat} {lv : List (Nat × Value)} {st : List Value} {es : List va_E} {M : oz_M} (he : es = (List.range oz_N).map fun i => oz_E (oz_cs G) (oz_b G) i (M.1 i) (M.2 i)) (h : oz_Z ((G.1, G.2.1, (cells, slots, G.2.2.1.2.2), G.2.2.2) : oz_G) pc lv st M) : oz_KZ G cells slots pc lv st es := by
  intro H locs ls hP hsz hS hl
  have hP2 := hP.P
  rw [he, oz_cw_map] at hP2
  exact h H locs ls hP2 hS hl
/-! THE CLAIM OUT OF ONE WALK OF THE LAW'S BODY. Your part is whole_start (and what it stands on); all else here is the same for every law, but numbers. -/
def R_law : String := "OrderHallLaw"
def lw_P (b : Addr) (xs : List Int32) (args : Array Value) (s : State) : Prop := args = #[.ref b] ∧ s.IntsAt b xs ∧ xs.length ≤ 2048 ∧ (Jvm.Cond.and given_1 narrow_1).before args s = true
def lw_Q (_ : Array Value) (s : State) (o : Outcome) (t : State) : Prop := o = .returned (some (.int 1)) ∧ Framed s o t [] 601024 7293034
def lw_Z (below : List Frame) (a : Array Value) (s : State) : State → Prop := fun t => ∃ o, t.status = .running ∧ Ended t below o ∧ lw_Q a s o t
/-- the law's own end, with 1 on the stack, nothing written that was there before, its room as the claim has it -/
theorem lw_ret {p : Program} {l : Launch} {e : Env} {s : State} {m : MethodId} {below : List Frame} {meth : Method} {c : Code} {b : Nat} (hx : p.tables.exec = Jvm.exec) (hb : c.code = code) (hr : meth.sig.returnType = ret) (hlocks : meth.locks = false) {pc : Nat} {H : Heap} {ls : Array Slot} (hdg : decode code pc = .ok (.ireturn, 1)) : W p l e room_1 s m #[Value.ref b] below meth c H [] 601024 7293034 (lw_Z below #[Value.ref b] s) (F0 m pc ls [.int 1]) := by
  intro T hT X
  obtain ⟨fs, hret, hrun, hended, hW, hframe⟩ := X.leave (v := some (.int 1)) (hlocks := hlocks) (fun h => by rw [hr] at h; cases h)
  have hmeth' : T.vm.method? m = some meth := X.method'
  refine ⟨T.setFrames fs, ?_, .returned (some (.int 1)), hrun, hended, rfl, ⟨_, rfl⟩, hW, hframe⟩
  jvm_step X.here [X.here.top, hx, hb, hdg, hmeth', hr, ret, narrow_b1]
  (try refine ⟨rfl, ?_⟩); (try refine ⟨rfl, ?_⟩)
  first | (intro acts; rw [hret _ acts rfl rfl rfl]) | rw [hret _ _ rfl rfl rfl]
  exact Steps.refl _
/-- what holds at the law's entry: the machine, the code, the tables' words (any of lw_tbl by 'hts w (by decide +kernel)'), the script of L ints xs at the cell b, what the Statement gives of the start (any of its parts by flat_of_before) -/
def lw_At (p : Program) (s : State) (m : MethodId) (meth : Method) (c : Code) (b L : Nat) (xs : Nat → Int32) : Prop :=
  p.tables.exec = Jvm.exec ∧ c.code = code ∧ meth.sig.returnType = ret ∧ c.maxLocals = 8 ∧ s.vm.findClass R_law = some m.cls ∧ (∀ w ∈ lw_tbl, w.before #[Value.ref b] s = true) ∧ va_X b L xs s s.heap ∧ b < s.heap.size ∧ meth.locks = false ∧ (Jvm.Cond.and given_1 narrow_1).before #[Value.ref b] s = true
set_option maxRecDepth 40000 in
set_option maxHeartbeats 4000000 in
theorem law_make {G : oz_G} {b0 : Nat} (cx : oz_KC G code "OrderHallLaw") (hRm : G.1.2.2.2.1 = room_1) (hnL : oz_nL G = 8) (k : oz_Z ((G.1, G.2.1, (75, 83169, G.2.2.1.2.2), G.2.2.2) : oz_G) 20 [(3, .ref (oz_b G + 74)), (2, .ref (oz_b G + 62)), (1, .ref (oz_b G + 0)), (0, .ref b0)] [] oz_M0) : oz_KZ G 0 0 0 [(0, .ref b0)] [] [] := by
  refine ok_new (q := 3) cx t_Hall t_Hall_ok tin_Hall ⟨tw_18, tw_19, tw_1⟩ (ci := 0) rfl (fs := [.null, .null, .null, .null, .null, .null, .null, .int 0]) (fun j hj => match j, hj with | 0, _ => rfl | 1, _ => rfl | 2, _ => rfl | 3, _ => rfl | 4, _ => rfl | 5, _ => rfl | 6, _ => rfl | 7, _ => rfl) (by rw [hRm]; decide) (by rw [hRm]; decide) d_Law_0 rfl ?_
  refine ok_dup (q := 4) cx d_Law_3 rfl rfl ?_
  refine ok_init (q := 7) cx (es2 := [.inr (0, [.ref (oz_b G + 1), .ref (oz_b G + 3), .ref (oz_b G + 6), .ref (oz_b G + 14), .ref (oz_b G + 45), .ref (oz_b G + 53), .ref (oz_b G + 56), .int 0]), .inr (1, [.int 1, .ref (oz_b G + 2)]), .inl (oz_cs G 0, 14, .inl (fun _ => 0)), .inr (2, [.int 0, .ref (oz_b G + 4), .ref (oz_b G + 5)]), .inl (oz_cs G 0, 14, .inl (fun _ => 0)), .inl (oz_cs G 0, 15, .inl (fun _ => 0)), .inr (3, [.int 1, .ref (oz_b G + 7), .ref (oz_b G + 8), .ref (oz_b G + 9), .ref (oz_b G + 10), .ref (oz_b G + 11), .ref (oz_b G + 12), .ref (oz_b G + 13)]), .inl (oz_cs G 0, 14, .inl (fun _ => 0)), .inl (oz_cs G 0, 14, .inl (fun _ => 0)), .inl (oz_cs G 0, 14, .inl (fun _ => 0)), .inl (oz_cs G 0, 14, .inl (fun _ => 0)), .inl (oz_cs G 0, 14, .inl (fun _ => 0)), .inl (oz_cs G 0, 14, .inl (fun _ => 0)), .inl (oz_cs G 0, 14, .inl (fun _ => 0)), .inr (4, [.ref (oz_b G + 6), .ref (oz_b G + 15), .ref (oz_b G + 30)]), .inl (oz_cs G 4, 14, .inr (.inr (.inr (.inr (fun j => some (oz_b G + (15 + 1 + j))))))), .inl (oz_cs G 0, 14, .inl (fun _ => 0)), .inl (oz_cs G 0, 14, .inl (fun _ => 0)), .inl (oz_cs G 0, 14, .inl (fun _ => 0)), .inl (oz_cs G 0, 14, .inl (fun _ => 0)), .inl (oz_cs G 0, 14, .inl (fun _ => 0)), .inl (oz_cs G 0, 14, .inl (fun _ => 0)), .inl (oz_cs G 0, 14, .inl (fun _ => 0)), .inl (oz_cs G 0, 14, .inl (fun _ => 0)), .inl (oz_cs G 0, 14, .inl (fun _ => 0)), .inl (oz_cs G 0, 14, .inl (fun _ => 0)), .inl (oz_cs G 0, 14, .inl (fun _ => 0)), .inl (oz_cs G 0, 14, .inl (fun _ => 0)), .inl (oz_cs G 0, 14, .inl (fun _ => 0)), .inl (oz_cs G 0, 14, .inl (fun _ => 0)), .inl (oz_cs G 4, 14, .inr (.inr (.inr (.inr (fun j => some (oz_b G + (30 + 1 + j))))))), .inl (oz_cs G 0, 14, .inl (fun _ => 0)), .inl (oz_cs G 0, 14, .inl (fun _ => 0)), .inl (oz_cs G 0, 14, .inl (fun _ => 0)), .inl (oz_cs G 0, 14, .inl (fun _ => 0)), .inl (oz_cs G 0, 14, .inl (fun _ => 0)), .inl (oz_cs G 0, 14, .inl (fun _ => 0)), .inl (oz_cs G 0, 14, .inl (fun _ => 0)), .inl (oz_cs G 0, 14, .inl (fun _ => 0)), .inl (oz_cs G 0, 14, .inl (fun _ => 0)), .inl (oz_cs G 0, 14, .inl (fun _ => 0)), .inl (oz_cs G 0, 14, .inl (fun _ => 0)), .inl (oz_cs G 0, 14, .inl (fun _ => 0)), .inl (oz_cs G 0, 14, .inl (fun _ => 0)), .inl (oz_cs G 0, 14, .inl (fun _ => 0)), .inr (5, [.int 0, .ref (oz_b G + 46), .ref (oz_b G + 49), .int 0, .int 0, .int 0, .ref (oz_b G + 6), .ref (oz_b G + 52)]), .inl (oz_cs G 4, 2, .inr (.inr (.inr (.inr (fun j => some (oz_b G + (46 + 1 + j))))))), .inl (oz_cs G 0, 15, .inl (fun _ => 0)), .inl (oz_cs G 0, 15, .inl (fun _ => 0)), .inl (oz_cs G 4, 2, .inr (.inr (.inr (.inr (fun j => some (oz_b G + (49 + 1 + j))))))), .inl (oz_cs G 0, 15, .inl (fun _ => 0)), .inl (oz_cs G 0, 15, .inl (fun _ => 0)), .inl (oz_cs G 1, 16384, .inl (fun _ => 0)), .inr (6, [.int 0, .int 0, .ref (oz_b G + 54), .ref (oz_b G + 6), .ref (oz_b G + 55)]), .inl (oz_cs G 0, 14, .inl (fun _ => 0)), .inl (oz_cs G 2, 16384, .inr (.inl (fun _ => 0))), .inr (7, [.ref (oz_b G + 6), .ref (oz_b G + 57), .int 0, .ref (oz_b G + 58), .ref (oz_b G + 59), .ref (oz_b G + 60), .ref (oz_b G + 61)]), .inl (oz_cs G 0, 14, .inl (fun _ => 0)), .inl (oz_cs G 0, 14, .inl (fun _ => 0)), .inl (oz_cs G 0, 14, .inl (fun _ => 0)), .inl (oz_cs G 0, 14, .inl (fun _ => 0)), .inl (oz_cs G 0, 15, .inl (fun _ => 0))]) (oz_b G + 0) [] 0 c_Hall_init ⟨tw_20, tw_21, tw_1⟩ tw_22 rfl (by decide +kernel) rfl (by rw [hRm]; decide) (by rw [hRm]; decide) (st := [.ref (oz_b G + 0)]) rfl (Nat.le_of_ble_eq_true rfl) d_Law_4 rfl ?_
  refine ok_astore_n (q := 8) cx d_Law_7 rfl rfl (by rw [hnL]; decide) (lv2 := [(1, .ref (oz_b G + 0)), (0, .ref b0)]) rfl ?_
  refine ok_new (q := 11) cx t_Model t_Model_ok tin_Model ⟨tw_780, tw_781, tw_9⟩ (ci := 8) rfl (fs := [.int 0, .int 0, .int 0, .null, .null, .null, .int 0, .null, .null, .null, .int 0, .null, .int 0, .null, .null, .null, .null]) (fun j hj => match j, hj with | 0, _ => rfl | 1, _ => rfl | 2, _ => rfl | 3, _ => rfl | 4, _ => rfl | 5, _ => rfl | 6, _ => rfl | 7, _ => rfl | 8, _ => rfl | 9, _ => rfl | 10, _ => rfl | 11, _ => rfl | 12, _ => rfl | 13, _ => rfl | 14, _ => rfl | 15, _ => rfl | 16, _ => rfl | n + 17, h => absurd h (by omega)) (by rw [hRm]; decide) (by rw [hRm]; decide) d_Law_8 rfl ?_
  refine ok_dup (q := 12) cx d_Law_11 rfl rfl ?_
  refine ok_init (q := 15) cx (es2 := [.inr (0, [.ref (oz_b G + 1), .ref (oz_b G + 3), .ref (oz_b G + 6), .ref (oz_b G + 14), .ref (oz_b G + 45), .ref (oz_b G + 53), .ref (oz_b G + 56), .int 0]), .inr (1, [.int 1, .ref (oz_b G + 2)]), .inl (oz_cs G 0, 14, .inl (fun _ => 0)), .inr (2, [.int 0, .ref (oz_b G + 4), .ref (oz_b G + 5)]), .inl (oz_cs G 0, 14, .inl (fun _ => 0)), .inl (oz_cs G 0, 15, .inl (fun _ => 0)), .inr (3, [.int 1, .ref (oz_b G + 7), .ref (oz_b G + 8), .ref (oz_b G + 9), .ref (oz_b G + 10), .ref (oz_b G + 11), .ref (oz_b G + 12), .ref (oz_b G + 13)]), .inl (oz_cs G 0, 14, .inl (fun _ => 0)), .inl (oz_cs G 0, 14, .inl (fun _ => 0)), .inl (oz_cs G 0, 14, .inl (fun _ => 0)), .inl (oz_cs G 0, 14, .inl (fun _ => 0)), .inl (oz_cs G 0, 14, .inl (fun _ => 0)), .inl (oz_cs G 0, 14, .inl (fun _ => 0)), .inl (oz_cs G 0, 14, .inl (fun _ => 0)), .inr (4, [.ref (oz_b G + 6), .ref (oz_b G + 15), .ref (oz_b G + 30)]), .inl (oz_cs G 4, 14, .inr (.inr (.inr (.inr (fun j => some (oz_b G + (15 + 1 + j))))))), .inl (oz_cs G 0, 14, .inl (fun _ => 0)), .inl (oz_cs G 0, 14, .inl (fun _ => 0)), .inl (oz_cs G 0, 14, .inl (fun _ => 0)), .inl (oz_cs G 0, 14, .inl (fun _ => 0)), .inl (oz_cs G 0, 14, .inl (fun _ => 0)), .inl (oz_cs G 0, 14, .inl (fun _ => 0)), .inl (oz_cs G 0, 14, .inl (fun _ => 0)), .inl (oz_cs G 0, 14, .inl (fun _ => 0)), .inl (oz_cs G 0, 14, .inl (fun _ => 0)), .inl (oz_cs G 0, 14, .inl (fun _ => 0)), .inl (oz_cs G 0, 14, .inl (fun _ => 0)), .inl (oz_cs G 0, 14, .inl (fun _ => 0)), .inl (oz_cs G 0, 14, .inl (fun _ => 0)), .inl (oz_cs G 0, 14, .inl (fun _ => 0)), .inl (oz_cs G 4, 14, .inr (.inr (.inr (.inr (fun j => some (oz_b G + (30 + 1 + j))))))), .inl (oz_cs G 0, 14, .inl (fun _ => 0)), .inl (oz_cs G 0, 14, .inl (fun _ => 0)), .inl (oz_cs G 0, 14, .inl (fun _ => 0)), .inl (oz_cs G 0, 14, .inl (fun _ => 0)), .inl (oz_cs G 0, 14, .inl (fun _ => 0)), .inl (oz_cs G 0, 14, .inl (fun _ => 0)), .inl (oz_cs G 0, 14, .inl (fun _ => 0)), .inl (oz_cs G 0, 14, .inl (fun _ => 0)), .inl (oz_cs G 0, 14, .inl (fun _ => 0)), .inl (oz_cs G 0, 14, .inl (fun _ => 0)), .inl (oz_cs G 0, 14, .inl (fun _ => 0)), .inl (oz_cs G 0, 14, .inl (fun _ => 0)), .inl (oz_cs G 0, 14, .inl (fun _ => 0)), .inl (oz_cs G 0, 14, .inl (fun _ => 0)), .inr (5, [.int 0, .ref (oz_b G + 46), .ref (oz_b G + 49), .int 0, .int 0, .int 0, .ref (oz_b G + 6), .ref (oz_b G + 52)]), .inl (oz_cs G 4, 2, .inr (.inr (.inr (.inr (fun j => some (oz_b G + (46 + 1 + j))))))), .inl (oz_cs G 0, 15, .inl (fun _ => 0)), .inl (oz_cs G 0, 15, .inl (fun _ => 0)), .inl (oz_cs G 4, 2, .inr (.inr (.inr (.inr (fun j => some (oz_b G + (49 + 1 + j))))))), .inl (oz_cs G 0, 15, .inl (fun _ => 0)), .inl (oz_cs G 0, 15, .inl (fun _ => 0)), .inl (oz_cs G 1, 16384, .inl (fun _ => 0)), .inr (6, [.int 0, .int 0, .ref (oz_b G + 54), .ref (oz_b G + 6), .ref (oz_b G + 55)]), .inl (oz_cs G 0, 14, .inl (fun _ => 0)), .inl (oz_cs G 2, 16384, .inr (.inl (fun _ => 0))), .inr (7, [.ref (oz_b G + 6), .ref (oz_b G + 57), .int 0, .ref (oz_b G + 58), .ref (oz_b G + 59), .ref (oz_b G + 60), .ref (oz_b G + 61)]), .inl (oz_cs G 0, 14, .inl (fun _ => 0)), .inl (oz_cs G 0, 14, .inl (fun _ => 0)), .inl (oz_cs G 0, 14, .inl (fun _ => 0)), .inl (oz_cs G 0, 14, .inl (fun _ => 0)), .inl (oz_cs G 0, 15, .inl (fun _ => 0)), .inr (8, [.int 0, .int 1, .int 0, .ref (oz_b G + 63), .ref (oz_b G + 64), .ref (oz_b G + 65), .int 0, .ref (oz_b G + 66), .ref (oz_b G + 67), .ref (oz_b G + 68), .int 0, .ref (oz_b G + 69), .int 0, .ref (oz_b G + 70), .ref (oz_b G + 71), .ref (oz_b G + 72), .ref (oz_b G + 73)]), .inl (oz_cs G 3, 196, .inl (fun _ => 0)), .inl (oz_cs G 3, 196, .inl (fun _ => 0)), .inl (oz_cs G 0, 14, .inl (fun _ => 0)), .inl (oz_cs G 1, 16384, .inl (fun _ => 0)), .inl (oz_cs G 1, 16384, .inl (fun _ => 0)), .inl (oz_cs G 2, 16384, .inr (.inl (fun _ => 0))), .inl (oz_cs G 0, 14, .inl (fun _ => 0)), .inl (oz_cs G 0, 15, .inl (fun _ => 0)), .inl (oz_cs G 0, 14, .inl (fun _ => 0)), .inl (oz_cs G 3, 14, .inl (fun _ => 0)), .inl (oz_cs G 0, 14, .inl (fun _ => 0))]) (oz_b G + 62) [] 0 (c_Model_init (pre := [.inr (0, [.ref (oz_b G + 1), .ref (oz_b G + 3), .ref (oz_b G + 6), .ref (oz_b G + 14), .ref (oz_b G + 45), .ref (oz_b G + 53), .ref (oz_b G + 56), .int 0]), .inr (1, [.int 1, .ref (oz_b G + 2)]), .inl (oz_cs G 0, 14, .inl (fun _ => 0)), .inr (2, [.int 0, .ref (oz_b G + 4), .ref (oz_b G + 5)]), .inl (oz_cs G 0, 14, .inl (fun _ => 0)), .inl (oz_cs G 0, 15, .inl (fun _ => 0)), .inr (3, [.int 1, .ref (oz_b G + 7), .ref (oz_b G + 8), .ref (oz_b G + 9), .ref (oz_b G + 10), .ref (oz_b G + 11), .ref (oz_b G + 12), .ref (oz_b G + 13)]), .inl (oz_cs G 0, 14, .inl (fun _ => 0)), .inl (oz_cs G 0, 14, .inl (fun _ => 0)), .inl (oz_cs G 0, 14, .inl (fun _ => 0)), .inl (oz_cs G 0, 14, .inl (fun _ => 0)), .inl (oz_cs G 0, 14, .inl (fun _ => 0)), .inl (oz_cs G 0, 14, .inl (fun _ => 0)), .inl (oz_cs G 0, 14, .inl (fun _ => 0)), .inr (4, [.ref (oz_b G + 6), .ref (oz_b G + 15), .ref (oz_b G + 30)]), .inl (oz_cs G 4, 14, .inr (.inr (.inr (.inr (fun j => some (oz_b G + (15 + 1 + j))))))), .inl (oz_cs G 0, 14, .inl (fun _ => 0)), .inl (oz_cs G 0, 14, .inl (fun _ => 0)), .inl (oz_cs G 0, 14, .inl (fun _ => 0)), .inl (oz_cs G 0, 14, .inl (fun _ => 0)), .inl (oz_cs G 0, 14, .inl (fun _ => 0)), .inl (oz_cs G 0, 14, .inl (fun _ => 0)), .inl (oz_cs G 0, 14, .inl (fun _ => 0)), .inl (oz_cs G 0, 14, .inl (fun _ => 0)), .inl (oz_cs G 0, 14, .inl (fun _ => 0)), .inl (oz_cs G 0, 14, .inl (fun _ => 0)), .inl (oz_cs G 0, 14, .inl (fun _ => 0)), .inl (oz_cs G 0, 14, .inl (fun _ => 0)), .inl (oz_cs G 0, 14, .inl (fun _ => 0)), .inl (oz_cs G 0, 14, .inl (fun _ => 0)), .inl (oz_cs G 4, 14, .inr (.inr (.inr (.inr (fun j => some (oz_b G + (30 + 1 + j))))))), .inl (oz_cs G 0, 14, .inl (fun _ => 0)), .inl (oz_cs G 0, 14, .inl (fun _ => 0)), .inl (oz_cs G 0, 14, .inl (fun _ => 0)), .inl (oz_cs G 0, 14, .inl (fun _ => 0)), .inl (oz_cs G 0, 14, .inl (fun _ => 0)), .inl (oz_cs G 0, 14, .inl (fun _ => 0)), .inl (oz_cs G 0, 14, .inl (fun _ => 0)), .inl (oz_cs G 0, 14, .inl (fun _ => 0)), .inl (oz_cs G 0, 14, .inl (fun _ => 0)), .inl (oz_cs G 0, 14, .inl (fun _ => 0)), .inl (oz_cs G 0, 14, .inl (fun _ => 0)), .inl (oz_cs G 0, 14, .inl (fun _ => 0)), .inl (oz_cs G 0, 14, .inl (fun _ => 0)), .inl (oz_cs G 0, 14, .inl (fun _ => 0)), .inr (5, [.int 0, .ref (oz_b G + 46), .ref (oz_b G + 49), .int 0, .int 0, .int 0, .ref (oz_b G + 6), .ref (oz_b G + 52)]), .inl (oz_cs G 4, 2, .inr (.inr (.inr (.inr (fun j => some (oz_b G + (46 + 1 + j))))))), .inl (oz_cs G 0, 15, .inl (fun _ => 0)), .inl (oz_cs G 0, 15, .inl (fun _ => 0)), .inl (oz_cs G 4, 2, .inr (.inr (.inr (.inr (fun j => some (oz_b G + (49 + 1 + j))))))), .inl (oz_cs G 0, 15, .inl (fun _ => 0)), .inl (oz_cs G 0, 15, .inl (fun _ => 0)), .inl (oz_cs G 1, 16384, .inl (fun _ => 0)), .inr (6, [.int 0, .int 0, .ref (oz_b G + 54), .ref (oz_b G + 6), .ref (oz_b G + 55)]), .inl (oz_cs G 0, 14, .inl (fun _ => 0)), .inl (oz_cs G 2, 16384, .inr (.inl (fun _ => 0))), .inr (7, [.ref (oz_b G + 6), .ref (oz_b G + 57), .int 0, .ref (oz_b G + 58), .ref (oz_b G + 59), .ref (oz_b G + 60), .ref (oz_b G + 61)]), .inl (oz_cs G 0, 14, .inl (fun _ => 0)), .inl (oz_cs G 0, 14, .inl (fun _ => 0)), .inl (oz_cs G 0, 14, .inl (fun _ => 0)), .inl (oz_cs G 0, 14, .inl (fun _ => 0)), .inl (oz_cs G 0, 15, .inl (fun _ => 0))])) ⟨tw_782, tw_783, tw_9⟩ tw_784 rfl (by decide +kernel) rfl (by rw [hRm]; decide) (by rw [hRm]; decide) (st := [.ref (oz_b G + 62)]) rfl (Nat.le_of_ble_eq_true rfl) d_Law_12 rfl ?_
  refine ok_astore_n (q := 16) cx d_Law_15 rfl rfl (by rw [hnL]; decide) (lv2 := [(2, .ref (oz_b G + 62)), (1, .ref (oz_b G + 0)), (0, .ref b0)]) rfl ?_
  refine ok_iconst (q := 17) cx d_Law_16 rfl (v := 1) rfl ?_
  refine ok_newa (q := 19) cx (atype := .long) (ty := .long) (ti := 2) (N' := 1) (a0 := (1, .inr (.inl (fun _ => 0)))) rfl tw_199 rfl (by intro C h; cases h) (fun _ => rfl) (by decide) (by decide) (by decide) (by rw [hRm]; decide) (by rw [hRm]; decide) d_Law_17 rfl ?_
  refine ok_astore_n (q := 20) cx d_Law_19 rfl rfl (by rw [hnL]; decide) (lv2 := [(3, .ref (oz_b G + 74)), (2, .ref (oz_b G + 62)), (1, .ref (oz_b G + 0)), (0, .ref b0)]) rfl ?_
  exact oz_KtoZ (M := oz_M0) rfl k
/-- the law comes to its end with true, if f_step keeps I -/
theorem law_start (I : oz_M → Prop) (hM0 : I oz_M0) (hI : ∀ (M : oz_M) (p0 p1 p2 p3 : Int32), I M → ∃ M1, f_step p0 p1 p2 p3 M = some M1 ∧ I M1) {p : Program} {e : Env} {s : State} {m : MethodId} {below : List Frame} {meth : Method} {c : Code} (l : Launch) (hfl : l.stackTraces = false) {b L : Nat} {xs : Nat → Int32} (hL : L ≤ 2048) (C0 : lw_At p s m meth c b L xs) : W p l e room_1 s m #[Value.ref b] below meth c s.heap [] 0 0 (lw_Z below #[Value.ref b] s) (entryFrame m ([Value.ref b] : List Value).toArray 8) := by
  obtain ⟨hx, hb, hr, hml, hown, hts, hX, hbl, hlk, hg⟩ := C0
  have hTW : ∀ w ∈ oz_TW, w.before #[Value.ref b] s = true := fun w hw => hts w (List.mem_filter.mp hw).1
  have htb : ∀ w ∈ tables_1, w.before #[Value.ref b] s = true := fun w hw => hts w (List.mem_append_right _ hw)
  have hAO := htb _ oz_ao_in
  obtain ⟨D, cs, hK⟩ := oz_knows hTW hAO
  have hEx : oz_Ex s.heap.size s := oz_first hts hg (hK.1 0 _ rfl).2.1
  have hNW : ∀ w ∈ oz_NW, va_Nw w s := fun w hw => va_Nw.of (oz_NW_tab w hw) (htb w (oz_NW_in w hw))
  have hfix : CallFix p m c code 8 s #[Value.ref b] oz_TW "OrderHallLaw" := ⟨hx, hb, hml, hown, hTW⟩
  have hcx : ∀ c1 n1, c1 ≤ room_1.cells → n1 ≤ room_1.slots → oz_C (((p, l, e, room_1, s), (m, #[Value.ref b], below, meth, c), (c1, n1, lw_Z below #[Value.ref b] s), (D, cs, s.heap.size), 8) : oz_G) code "OrderHallLaw" := fun c1 n1 h1 h2 => ⟨hfix, hK, hlk, hNW, h1, h2, hEx⟩
  have hend : ∀ c1 n1 i M, c1 ≤ room_1.cells → n1 ≤ room_1.slots → oz_Z (((p, l, e, room_1, s), (m, #[Value.ref b], below, meth, c), (c1, n1, lw_Z below #[Value.ref b] s), (D, cs, s.heap.size), 8) : oz_G) 1363 (oz_LV s.heap.size b i) [] M := by
    intro c1 n1 i M h1 h2 H locs ls hP hS hl
    refine lv_iconst hx hb d_Law_1363 (v := 1) rfl ?_
    exact va_forget (fun q hq => hS.2.2 q hq) (W.widen h1 h2 (lw_ret hx hb hr hlk d_Law_1364))
  have hloop := oz_lawloop (P1 := (p, l, e, room_1, s)) (P2 := (m, #[Value.ref b], below, meth, c)) (Z := lw_Z below #[Value.ref b] s) (P4 := ((D, cs, s.heap.size), 8)) (b0 := b) (xs := xs) I hI hL hcx hfl ⟨Nat.le_of_ble_eq_true rfl, Nat.le_of_ble_eq_true rfl⟩ rfl (fun _ _ => ⟨hX, hbl, Nat.not_le.mpr hbl⟩) hend 512 0 75 83169 oz_M0 hM0 (by omega) (by omega) (Nat.le_of_ble_eq_true rfl) (Nat.le_of_ble_eq_true rfl)
  have hZ : oz_Z (((p, l, e, room_1, s), (m, #[Value.ref b], below, meth, c), (75, 83169, lw_Z below #[Value.ref b] s), (D, cs, s.heap.size), 8) : oz_G) 20 [(3, .ref (s.heap.size + 74)), (2, .ref (s.heap.size + 62)), (1, .ref (s.heap.size + 0)), (0, .ref b)] [] oz_M0 := by
    have cx := hcx 75 83169 (by decide) (by decide)
    have R : oz_R (((p, l, e, room_1, s), (m, #[Value.ref b], below, meth, c), (75, 83169, lw_Z below #[Value.ref b] s), (D, cs, s.heap.size), 8) : oz_G) 20 [(3, .ref (s.heap.size + 74)), (2, .ref (s.heap.size + 62)), (1, .ref (s.heap.size + 0)), (0, .ref b)] [] oz_M0 (some ()) (fun _ => True) := by
      refine oz_iconst (q := 21) cx d_Law_20 rfl (v := 0) rfl ?_
      refine oz_istore (q := 23) cx d_Law_21 rfl (by show 4 < 8; decide) (lv2 := oz_LV s.heap.size b 0) rfl ?_
      exact oz_leaf (fun _ => hloop)
    exact R () rfl trivial
  have h := law_make (G := (((p, l, e, room_1, s), (m, #[Value.ref b], below, meth, c), (0, 0, lw_Z below #[Value.ref b] s), (D, cs, s.heap.size), 8) : oz_G)) (b0 := b) ⟨hfix, hK, hlk, hNW, hAO, Nat.le_refl _⟩ rfl rfl hZ s.heap [] _ (fun i x hx => by cases hx) rfl va_S.rf (lv_entry [Value.ref b] (n := 8) (Nat.le_of_ble_eq_true rfl))
  rw [lg_entry_eq]
  exact h
