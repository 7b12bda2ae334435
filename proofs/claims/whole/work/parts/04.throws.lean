/-! Methods that throw: what the walk gives where a method ends with an exception of the k-th kind. -/
def oz_QT (D : va_G) (cs : Nat → ClassId) (b k : Nat) (M2 : oz_M) : Array Value → State → Outcome → State → Prop := fun _ st oc t => ∃ (x : Addr) (cell : Cell), oc = .threw x ∧ t.heap[x]? = some cell ∧ cell.vm.isStatics = false ∧ st.vm.findClass (oz_exc k) = some cell.cls ∧ va_P D classes (oz_w cs b M2) t.heap ∧ va_F (fun q => b ≤ q) st t
def oz_MQT (below : List Frame) (Qc : Array Value → State → Outcome → State → Prop) (a : Array Value) (s : State) (mc ms : Nat) (free : Addr → Prop) : State → Prop := fun t => ∃ o, t.status = .running ∧ Ended t below o ∧ Qc a s o t ∧ ∃ L, Jvm.Free.FrameEndT s o t L mc ms ∧ ∀ q ∈ L, free q.base
def oz_rmT (k : Nat) : Room := { frames := k + 1, cells := 1, slots := 6, locals := 30 * (k + 1) }
def oz_MetT (l : Launch) (D : va_G) (cs : Nat → ClassId) (b : Nat) (y : MethodName) (cc : ByteArray) (nL : Nat) (ret : Option FieldType) (k : Nat) (av : List Value) (M : oz_M) (kx : Nat) (M2 : oz_M) : Prop :=
  MetFree l y (headSpec (.code y cc nL ret :: oz_TW) (oz_rmT k)) (oz_Pc D cs b av M) (fun _ _ _ _ _ => True) (fun a st o t => oz_QT D cs b kx M2 a st o t ∧ ∃ L, Jvm.Free.FrameEndT st o t L 1 6 ∧ ∀ q ∈ L, b ≤ q.base)
/-- what a walk knows of its goal where the method throws -/
def oz_RtT (G : oz_G) (k : Nat) (M2 : oz_M) : Prop := G.1.2.1.stackTraces = false ∧ G.2.1.2.2.2.2.exceptionTable.isEmpty = true ∧ G.2.2.1.1 + 1 ≤ G.1.2.2.2.1.cells ∧ G.2.2.1.2.1 + 6 ≤ G.1.2.2.2.1.slots ∧ ∀ t, oz_MQT G.2.1.2.2.1 (oz_QT (oz_D G) (oz_cs G) (oz_b G) k M2) G.2.1.2.1 (oz_St G) (G.2.2.1.1 + 1) (G.2.2.1.2.1 + 6) (fun q => oz_b G ≤ q) t → G.2.2.1.2.2 t
/-- the same of either end -/
def oz_RtX {V : Type} (G : oz_G) (ret : Option FieldType) (val : V → Option Value) (r : (Nat ⊕ V) × oz_M) : Prop := (∀ v, r.1 = .inr v → oz_Rt G ret (val v) r.2) ∧ ∀ k, r.1 = .inl k → oz_RtT G k r.2
theorem oz_enterT {l : Launch} {D : va_G} {cs : Nat → ClassId} {b : Nat} {y : MethodName} {cc : ByteArray} {nL : Nat} {ret : Option FieldType} {k : Nat} {av : List Value} {M : oz_M} {kx : Nat} {M2 : oz_M} (hfl : l.stackTraces = false) (hy : plainName y.cls = true) (hlen : (lg_sl av).length ≤ nL)
    (body : ∀ G : oz_G, oz_C G cc y.cls → oz_RtT G kx M2 → l = G.1.2.1 → oz_big G.1.2.2.2.1 k → D = oz_D G → cs = oz_cs G → b = oz_b G → oz_nL G = nL → oz_Z G 0 (lv_args 0 av) [] M) : oz_MetT l D cs b y cc nL ret k av M kx M2 := by
  refine MetFree.of_bodyS (code := cc) (maxLocals := nL) (ret := ret) hy ?_ ?_
  · intro args s m h hn
    obtain ⟨meth, c, h1, h2, h3, h4, h5, h6, -, -⟩ := Cond.code_spec hn (atoms_spec (ws := .code y cc nL ret :: oz_TW) h _ List.mem_cons_self)
    exact ⟨meth, c, h1, h2, h3, h4, h5, h6⟩
  · intro p e s m args below meth c s₁ B hml hv _
    obtain ⟨rfl, hP, hK, hN, hE⟩ := hv
    have hts := atoms_spec (ws := .code y cc nL ret :: oz_TW) B.pre
    have hh0 : s₁.heap = s.heap := by rw [B.state]; rfl
    have h := body ((p, l, e, oz_rmT k, s), (m, av.toArray, below, meth, c), (0, 0, oz_MQT below (oz_QT D cs b kx M2) av.toArray s 1 6 (fun q => b ≤ q)), (D, cs, b), nL)
      ⟨⟨B.exec, B.bytes, hml, findClass_of_methodNamed B.named, fun w hw => hts w (List.mem_cons_of_mem _ hw)⟩, hK, B.notSynchronized, hN, Nat.zero_le _, Nat.zero_le _, hE⟩ ⟨hfl, B.noHandlers (hts _ List.mem_cons_self), Nat.le_refl _, Nat.le_refl _, fun _ h => h⟩ rfl ⟨Nat.le_refl _, Nat.le_refl _⟩ rfl rfl rfl rfl s.heap [] _ hP va_S.rf (lv_entry av hlen)
    have h2 : W p l e (oz_rmT k) s m av.toArray below meth c s.heap [] 0 0 (oz_MQT below (oz_QT D cs b kx M2) av.toArray s 1 6 (fun q => b ≤ q)) (entryFrame m av.toArray nL) := by
      rw [lg_entry_eq]
      exact h
    obtain ⟨t, a1, o, b1, b2, b3⟩ := h2 s₁ hh0 (Stand.of_body B)
    exact ⟨t, o, a1, b1, b2, b3⟩
/-- the walk's root moved to where it stands -/
theorem oz_reroot {p : Program} {l : Launch} {e : Env} {R : Room} {s : State} {m : MethodId} {args : Array Value} {below : List Frame} {meth : Method} {c : Code} {T : State} {locs : List Loc} {cells slots : Nat}
    (X : Stand p l e R s m args below meth c T locs cells slots) (hc : cells ≤ R.cells) (hs : slots ≤ R.slots) : Stand p l e { R with cells := R.cells - cells, slots := R.slots - slots } ({ s with heap := T.heap, slotsUsed := T.slotsUsed } : State) m args below meth c T [] 0 0 := by
  obtain ⟨e1, e2, e3, e4, e5, e6⟩ := X.same
  have hbook := X.book
  have hnil : T.heap.toList.drop T.heap.size = [] := List.drop_eq_nil_of_le (by rw [Array.length_toList]; exact Nat.le_refl _)
  have hr := X.room
  refine ⟨X.admits, X.cas, X.clock, X.frames, ?_, X.hears, X.method, X.code, X.here, X.tail, X.warmed, X.limits, X.bytes, ?_⟩
  · have e2' : s.heap.size ≤ T.heap.size := e2
    have e3' : T.heap.size ≤ s.heap.size + cells := e3
    have e4' : T.slotsUsed ≤ s.slotsUsed + slots := by
      have h4 : T.slotsUsed = s.slotsUsed + ((T.heap.toList.drop s.heap.size).map (·.slots.size)).sum := e4
      have h5 : ((T.heap.toList.drop s.heap.size).map (·.slots.size)).sum ≤ slots := e5
      omega
    simp only [State.hasRoom, Bool.and_eq_true, decide_eq_true_eq] at hr ⊢
    obtain ⟨⟨⟨⟨r1, r2⟩, r3⟩, r4⟩, r5⟩ := hr
    refine ⟨⟨⟨⟨r1, r2⟩, ?_⟩, ?_⟩, hbook⟩
    · show T.heap.size + (R.cells - cells) ≤ _
      omega
    · show T.slotsUsed + (R.slots - slots) ≤ _
      omega
  · refine ⟨?_, Nat.le_refl _, Nat.le_refl _, ?_, ?_, fun a c h => ⟨c, h, rfl, rfl, fun _ _ => rfl⟩⟩
    · exact e1
    · show T.slotsUsed = T.slotsUsed + ((T.heap.toList.drop T.heap.size).map (·.slots.size)).sum
      rw [hnil]; rfl
    · show ((T.heap.toList.drop T.heap.size).map (·.slots.size)).sum ≤ 0
      rw [hnil]; exact Nat.le_refl _

theorem oz_admits_traces {l : Launch} {e : Env} (h : l.admits e) : e.platform.stackTraces = l.stackTraces := by
  have := h.2.2.2.2.1
  rw [this]
theorem oz_statics {n d : String} {b : Nat} {s : State} {args : Array Value} (hz : oz_Sf n d b s) : (Cond.isRef (.static oz_tN n d)).before args s = true ∧ (Cond.laysStatic oz_tN n d).before args s = true := by
  obtain ⟨u, c, i, a, k, f, cell, h1, h2, h3, h4, h5, h6, h7, h8, h9, h10, h11, h12⟩ := hz
  refine ⟨?_, Cond.laysStatic_of h2 h3 h4 h5 h6 h7 h8 h9 h10⟩
  have hev : (Term.static oz_tN n d).eval args s none [] s = some u := by
    simp [Term.eval, State.fieldNamed?, h3, h4, h5, h6, h7, h11]
  cases u <;> simp [Value.isRef] at h1 <;> simp [Cond.before, Cond.holds, Cond.value, hev]
def oz_four : List Cond := [.isRef (.static oz_tN "UNASSIGNED_STACK" oz_steD), .isRef (.static oz_tN "SUPPRESSED_SENTINEL" oz_listD), .laysStatic oz_tN "UNASSIGNED_STACK" oz_steD, .laysStatic oz_tN "SUPPRESSED_SENTINEL" oz_listD]
theorem oz_own_tab0 : ∀ w ∈ oz_own 0, w.onTables = true ∨ w ∈ oz_four := by decide +kernel
theorem oz_own_tab1 : ∀ w ∈ oz_own 1, w.onTables = true ∨ w ∈ oz_four := by decide +kernel
theorem oz_own_tab2 : ∀ w ∈ oz_own 2, w.onTables = true ∨ w ∈ oz_four := by decide +kernel
theorem oz_own_tab (k : Nat) : ∀ w ∈ oz_own k, w.onTables = true ∨ w ∈ oz_four := by
  match k with
  | 0 => exact oz_own_tab0
  | 1 => exact oz_own_tab1
  | _ + 2 => exact oz_own_tab2
theorem oz_own_of {b : Nat} {s : State} {args : Array Value} (h : oz_Ex b s) (k : Nat) : ∀ w ∈ oz_own k, w.before args s = true := by
  intro w hw
  obtain ⟨h1, -, -, z1, z2⟩ := h
  rcases oz_own_tab k w hw with ht | h4
  · refine va_Nw.use ht (h1 w (List.mem_filter.mpr ⟨?_, ht⟩))
    match k with
    | 0 => exact List.mem_append_left _ hw
    | 1 => exact List.mem_append_right _ (List.mem_append_left _ hw)
    | _ + 2 => exact List.mem_append_right _ (List.mem_append_right _ hw)
  · simp only [oz_four, List.mem_cons, List.not_mem_nil, or_false] at h4
    rcases h4 with rfl | rfl | rfl | rfl
    · exact (oz_statics z1).1
    · exact (oz_statics z2).1
    · exact (oz_statics z1).2
    · exact (oz_statics z2).2
theorem oz_same_old {s t : State} {cells slots : Nat} (h : s.sameButNew ({ t with vm := s.vm } : State) [] cells slots) : ∀ q, q < s.heap.size → t.heap[q]? = s.heap[q]? := by
  intro q hq
  obtain ⟨c, hc⟩ : ∃ c, s.heap[q]? = some c := ⟨_, Array.getElem?_eq_getElem hq⟩
  obtain ⟨c', h1, h2, h3, h4⟩ := h.2.2.2.2.2 q c hc
  have h1' : t.heap[q]? = some c' := h1
  rw [h1', hc]
  have hs : c'.slots = c.slots := by
    apply Array.ext_getElem?
    intro i
    exact h4 i (by simp)
  rw [h2, hs]
/-- new X("..."); athrow -/
theorem oz_throwZ {G : oz_G} {cc : ByteArray} {pc : Nat} {lv : List (Nat × Value)} {M : oz_M} (cx : oz_C G cc "OrderHall") (k : Nat) {ix is ki : Nat} {tx : String} (hR : oz_RtT G k M) (hk : k < 3) (hRm : oz_big G.1.2.2.2.1 5)
    (hw : Cond.classLink "OrderHall" ix (oz_exc k) ∈ oz_TW ∧ Cond.instantiable (oz_exc k) 6 ∈ oz_TW ∧ Cond.initialized (oz_exc k) ∈ oz_TW) (hs : (is, tx) ∈ oz_SR) (hki : oz_ic k = ki)
    (d0 : decode cc pc = .ok (.new ix, 3)) (d1 : decode cc (pc + 3) = .ok (.dup, 1)) (d2 : decode cc (pc + 4) = .ok (.ldc is, 2)) (d3 : decode cc (pc + 6) = .ok (.invokespecial ki, 3)) (d4 : decode cc (pc + 9) = .ok (.athrow, 1)) : oz_Z G pc lv [] M := by
  intro H locs ls hP hS hl T hT X
  obtain ⟨hfl, hnoh, hcells, hslots, hgoal⟩ := hR
  have X' := oz_reroot X (by omega) (by omega)
  generalize hs' : ({ oz_St G with heap := T.heap, slotsUsed := T.slotsUsed } : State) = s' at X'
  have hvm : s'.vm = (oz_St G).vm := by rw [← hs']
  have hheap : s'.heap = H := by rw [← hs']; exact hT
  have hW' : (oz_St G).WarmedH s'.vm := by rw [hvm]; exact State.WarmedH.refl _
  have hE' : oz_Ex (oz_b G) s' := cx.2.2.2.2.2.2.to hW' (fun q h1 h2 => by rw [hheap]; exact hS.2.1 q h1 h2)
  have hown' : s'.vm.findClass "OrderHall" = some G.2.1.1.cls := by rw [hvm]; exact cx.1.2.2.2.1
  have wt : ∀ w ∈ oz_TW, w.before G.2.1.2.1 s' = true := fun w hw => word_at (s := oz_St G) hW' (oz_TW_good w hw) (cx.1.2.2.2.2 w hw)
  obtain ⟨am, hstr⟩ := hE'.2.2.1 _ hs
  have hlsz : ls.size = oz_nL G := hl.1
  have key : W G.1.1 G.1.2.1 G.1.2.2.1 { G.1.2.2.2.1 with cells := G.1.2.2.2.1.cells - G.2.2.1.1, slots := G.1.2.2.2.1.slots - G.2.2.1.2.1 } s' G.2.1.1 G.2.1.2.1 G.2.1.2.2.1 G.2.1.2.2.2.1 G.2.1.2.2.2.2 H [] 0 0
      (fun t => ∃ (x : Addr) (cell : Cell), t.status = .running ∧ Ended t G.2.1.2.2.1 (.threw x) ∧ s'.WarmedH t.vm ∧ s'.sameButNew ({ t with vm := s'.vm } : State) [] 1 6 ∧ t.heap[x]? = some cell ∧ cell.vm.isStatics = false ∧ s'.vm.findClass (oz_exc k) = some cell.cls) (F0 G.2.1.1 pc ls []) := by
    refine W.newc cx.1.1 cx.1.2.1 hown' (wt _ hw.1) (wt _ hw.2.1) (wt _ hw.2.2) rfl d0 (by show 0 + 1 ≤ G.1.2.2.2.1.cells - G.2.2.1.1; omega) (by show 0 + 6 ≤ G.1.2.2.2.1.slots - G.2.2.1.2.1; omega) (fun cC kC hfc hkC hord hsz => ?_)
    refine lv_dup (pc := pc + 3) cx.1.1 cx.1.2.1 d1 rfl ?_
    refine va_ldcS (pc := pc + 3 + 1) cx.1.1 cx.1.2.1 hown' hstr d2 ?_
    intro T2 hT2 X2
    have hnew : s'.heap.size ≤ H.size := by rw [hheap]; exact Nat.le_refl _
    subst hki
    obtain ⟨U, st, hrun, hend, hWU, hsame, ce, hce, hOwn⟩ := X2.ctorThrowS cx.1.1 (by rw [oz_admits_traces X2.admits]; exact hfl) hown' (cls := oz_exc k) (names := oz_chain) (ic := oz_ic k) (by match k, hk with | 0, _ => decide +kernel | 1, _ => decide +kernel | 2, _ => decide +kernel) (by decide +kernel) (oz_own_of hE' k) (fun x hx => by cases hx)
      (a := H.size) hfc hkC (by rw [hT2]; simp [Jvm.freshCell]) hnew (msg := .ref am) rfl (g := F0 G.2.1.1 (pc + 3 + 1 + 2) ls [.ref am, .ref H.size, .ref H.size]) rfl (by rw [cx.1.2.2.1]; exact hlsz) rfl rfl (rest := []) rfl
      (by rw [cx.1.2.1]; exact d3) (by rw [cx.1.2.1]; exact d4) (fun x hx => by
        have h0 : G.2.1.2.2.2.2.exceptionTable.size = 0 := by simpa [Array.isEmpty] using hnoh
        have h1 : G.2.1.2.2.2.2.exceptionTable.toList = [] := List.eq_nil_of_length_eq_zero (by simpa using h0)
        rw [h1] at hx; cases hx) (by have := hRm.1; show 2 + 3 < G.1.2.2.2.1.frames; omega) (by have := hRm.2; show 2 * 0 + ((1 + 0)) + (13 * (2 + 1) + 42) ≤ G.1.2.2.2.1.locals; omega) cx.2.2.1
    exact ⟨U, st, H.size, ce, hrun, hend, hWU, hsame, hce, by rw [hOwn.vm]; rfl, hOwn.cls⟩
  obtain ⟨t, st, x, cell, hrun, hend, hWt, hsame, hx, hxs, hxc⟩ := key T hT X'
  have hold : ∀ q, q < H.size → t.heap[q]? = H[q]? := by
    intro q hq
    have := oz_same_old hsame q (by rw [hheap]; exact hq)
    rw [this, hheap]
  have hsz2 : H.size ≤ t.heap.size := by
    have := hsame.2.1
    rw [hheap] at this
    exact this
  refine ⟨t, st, hgoal t ⟨.threw x, hrun, hend, ⟨x, cell, rfl, hx, hxs, by rw [← hvm]; exact hxc, hP.kept (fun j q hq => hold q.1 ((hP j q hq).lt)), Nat.le_trans hS.1 hsz2, fun q h1 h2 => ?_⟩, locs ++ [], ⟨⟨x, rfl⟩, ?_, ?_⟩, ?_⟩⟩
  · rw [hold q (Nat.lt_of_lt_of_le h1 hS.1)]
    exact hS.2.1 q h1 h2
  · exact State.WarmedH.trans (t := s') hW' hWt
  · have h2 : (T.setVm (oz_St G).vm).sameButNew ({ t with vm := (oz_St G).vm } : State) [] 1 6 := by
      obtain ⟨e1, e2, e3, e4, e5, e6⟩ := X.same
      obtain ⟨f1, f2, f3, f4, f5, f6⟩ := hsame
      rw [← hs'] at f1 f2 f3 f4 f5 f6
      refine ⟨?_, f2, f3, f4, f5, f6⟩
      have e1' : T.setVm (oz_St G).vm = ({ oz_St G with heap := T.heap, slotsUsed := T.slotsUsed } : State).setFrames (T.setVm (oz_St G).vm).frames := e1
      generalize hfr : (T.setVm (oz_St G).vm).frames = FR at e1'
      have e7 : (T.setVm (oz_St G).vm).setFrames ({ t with vm := (oz_St G).vm } : State).frames = ({ oz_St G with heap := T.heap, slotsUsed := T.slotsUsed } : State).setFrames ({ t with vm := (oz_St G).vm } : State).frames := by
        rw [e1', State.setFrames_setFrames]
      rw [e7]
      exact f1
    exact X.same.trans h2
  · intro q hq
    rw [List.append_nil] at hq
    exact hS.2.2 q hq
/-- a call that throws: the machine comes to the note over the caller's frame -/
def oz_TRun (G : oz_G) (H : Heap) (locs : List Loc) (g : JFrame) (rest : List Value) (kx : Nat) (M2 : oz_M) : Prop :=
  ∀ T : State, T.heap = H → Stand G.1.1 G.1.2.1 G.1.2.2.1 G.1.2.2.2.1 G.1.2.2.2.2 G.2.1.1 G.2.1.2.1 G.2.1.2.2.1 G.2.1.2.2.2.1 G.2.1.2.2.2.2 T locs G.2.2.1.1 G.2.2.1.2.1 → ∃ (v : Addr) (B : State) (L : List Loc) (cell : Cell),
    Stand G.1.1 G.1.2.1 G.1.2.2.1 G.1.2.2.2.1 G.1.2.2.2.2 G.2.1.1 G.2.1.2.1 G.2.1.2.2.1 G.2.1.2.2.2.1 G.2.1.2.2.2.2 B (locs ++ L) (G.2.2.1.1 + 1) (G.2.2.1.2.1 + 6) ∧ (∀ q ∈ L, oz_b G ≤ q.base) ∧ B.heap[v]? = some cell ∧ cell.vm.isStatics = false ∧ (oz_St G).vm.findClass (oz_exc kx) = some cell.cls ∧ va_P (oz_D G) classes (oz_w (oz_cs G) (oz_b G) M2) B.heap ∧ H.size ≤ B.heap.size ∧ (∀ q, q < H.size → ¬ oz_b G ≤ q → B.heap[q]? = H[q]?) ∧
    Steps G.1.1.tables G.1.2.2.1 G.2.1.2.2.1 (T.setTop g) ((B.setTop { g with stack := rest }).pushFrame (.throwing v))
section OZT
variable {G : oz_G} {cc : ByteArray} {own : String} {X : Type} {pc q : Nat} {lv : List (Nat × Value)} {st : List Value} {M : oz_M}
theorem oz_backT (cx : oz_C G cc own) {y : MethodName} {bytes : ByteArray} {maxL : Nat} {ret : Option FieldType} {kc kx : Nat} {av : List Value} {M2 : oz_M} {H : Heap} {locs : List Loc} {T : State} (hT : T.heap = H) (hM : oz_MetT G.1.2.1 (oz_D G) (oz_cs G) (oz_b G) y bytes maxL ret kc av M kx M2) (hP : va_P (oz_D G) classes (oz_w (oz_cs G) (oz_b G) M) H) (hS : va_S (fun q => oz_b G ≤ q) (oz_St G).heap H locs)
    (hc : Cond.code y bytes maxL ret ∈ oz_TW) (hi : Cond.initialized y.cls ∈ oz_TW) (hR : kc + 2 ≤ G.1.2.2.2.1.frames ∧ 8 + (maxL + 11) + 30 * (kc + 1) ≤ G.1.2.2.2.1.locals) (h1 : G.2.2.1.1 + 1 ≤ G.1.2.2.2.1.cells) (h2 : G.2.2.1.2.1 + 6 ≤ G.1.2.2.2.1.slots) :
    Jvm.Free.BackT G.1.2.1 G.1.2.2.2.1 G.1.1 G.1.2.2.1 G.2.1.2.2.1 G.1.2.2.2.2 G.2.1.2.1 y 3 8 (fun A a => a = av.toArray ∧ A.U.heap = H ∧ A.locs = locs ∧ A.cells = G.2.2.1.1 ∧ A.slots = G.2.2.1.2.1 ∧ (oz_St G).WarmedH A.U.vm)
      (fun A _ x B => ∃ (cell : Cell) (L : List Loc), B.locs = locs ++ L ∧ B.cells = G.2.2.1.1 + 1 ∧ B.slots = G.2.2.1.2.1 + 6 ∧ (∀ q ∈ L, oz_b G ≤ q.base) ∧ B.U.heap[x]? = some cell ∧ cell.vm.isStatics = false ∧ (oz_St G).vm.findClass (oz_exc kx) = some cell.cls ∧ va_P (oz_D G) classes (oz_w (oz_cs G) (oz_b G) M2) B.U.heap ∧ H.size ≤ B.U.heap.size ∧ ∀ q, q < H.size → ¬ oz_b G ≤ q → B.U.heap[q]? = H[q]?) := by
  have hgood := oz_goodC hc
  refine Jvm.Free.BackT.of_free (bytes := bytes) (maxL := maxL) (ret := ret) (E := fun a st o t L k n => (∀ q ∈ L, oz_b G ≤ q.base) ∧ k = 1 ∧ n = 6) hM ?_ ?_ ?_ ?_ (fun _ _ _ _ _ _ _ _ _ => trivial) ?_ ?_
  · exact hR.1
  · exact hR.2
  · intro m meth c A a Xs ⟨ha, hh, hl, hcl, hsl, hW⟩
    have pay : ∀ w ∈ (.code y bytes maxL ret :: oz_TW : List Cond), w.before a A.U = true := fun w hw => pay_in cx.1.2.2.2.2 hgood w hw a A.U hW
    refine ⟨atoms_intro pay, pay _ List.mem_cons_self, pay _ (List.mem_cons_of_mem _ hi), ?_, ?_⟩
    · rw [hcl]; exact h1
    · rw [hsl]; exact h2
  · intro m meth c A a g mk Xs ⟨ha, hh, hl, hcl, hsl, hW⟩
    subst ha
    exact oz_blind _ _ _ _ _ _ _ _ _ (oz_pre cx hP hS A.U hh hW)
  · intro a first o t ⟨hq, L, hF, hL⟩
    exact ⟨L, 1, 6, hF, hL, rfl, rfl⟩
  · intro m meth c A a g mk v t L k n Xs ⟨ha, hh, hl, hcl, hsl, hW⟩ ⟨hq, _⟩ hF ⟨hL, hk, hn⟩
    subst hk; subst hn
    obtain ⟨x, cell, hx, g1, g2, g3, g4, g5, g6⟩ := hq
    cases hx
    have hh' : (A.U.calling g mk a).heap = H := hh
    refine ⟨cell, L, by show A.locs ++ L = _; rw [hl], by show A.cells + 1 = _; rw [hcl], by show A.slots + 6 = _; rw [hsl], hL, g1, g2, ?_, g4, ?_, ?_⟩
    · have g3' : A.U.vm.findClass (oz_exc kx) = some cell.cls := g3
      rw [hW.alike.findClass] at g3'
      exact g3'
    · rw [hh'] at g5; exact g5
    · intro q hq1 hq2
      have := g6 q (by rw [hh']; exact hq1) hq2
      rw [hh'] at this
      exact this
theorem oz_trunS (cx : oz_C G cc own) {y : MethodName} {bytes : ByteArray} {maxL index n : Nat} {ret : Option FieldType} {kc kx : Nat} {As rest : List Value} {M2 : oz_M} {H : Heap} {locs : List Loc} {g : JFrame} (hM : oz_MetT G.1.2.1 (oz_D G) (oz_cs G) (oz_b G) y bytes maxL ret kc As M kx M2) (hP : va_P (oz_D G) classes (oz_w (oz_cs G) (oz_b G) M) H) (hS : va_S (fun q => oz_b G ≤ q) (oz_St G).heap H locs)
    (hw : oz_wS own index y) (hc : Cond.code y bytes maxL ret ∈ oz_TW) (hy : y.cls ≠ "java/lang/invoke/MethodHandle" ∧ y.cls ≠ "java/lang/invoke/VarHandle" ∧ (parseMethodDescriptor y.desc).map (fun d => d.parameters.length) = some n) (hn : As.length = n) (hR : kc + 2 ≤ G.1.2.2.2.1.frames ∧ 8 + (maxL + 11) + 30 * (kc + 1) ≤ G.1.2.2.2.1.locals) (h1 : G.2.2.1.1 + 1 ≤ G.1.2.2.2.1.cells) (h2 : G.2.2.1.2.1 + 6 ≤ G.1.2.2.2.1.slots)
    (hg : g.method = G.2.1.1) (hsz : g.locals.size = oz_nL G) (hst : g.stack = As.reverse ++ rest) (hsm : 2 * g.monitorRoom + (rest.map fun v => v.category).sum ≤ 8) (hd : decode cc g.pc = .ok (.invokestatic index, 3)) : oz_TRun G H locs g rest kx M2 := by
  intro T hT Xs
  have hcode := cx.1.2.2.2.2 _ hc
  obtain ⟨mk, hnamed⟩ := Cond.code_named hcode
  obtain ⟨methM, cM, hmethM, -, -, -, -, -, -, hsigM⟩ := Cond.code_spec hnamed hcode
  obtain ⟨v, vm₁, ⟨U', l2, c2, s2⟩, hW₁, X', ⟨cell, L, e1, e2, e3, hL, g1, g2, g3, g4, g5, g6⟩, hst2⟩ := Xs.staticThrows cx.1.1 cx.1.2.2.2.1 (cx.1.2.2.2.2 _ hw.1) (cx.1.2.2.2.2 _ hw.2.1) (cx.1.2.2.2.2 _ hw.2.2) hnamed hmethM hsigM ⟨hy.1, hy.2.1⟩ (oz_backT cx hT hM hP hS hc hw.2.2 hR h1 h2) (g := g) hg (hsz.trans cx.1.2.2.1.symm) (Steps.refl _) (argsL := As) (rest := rest)
    (fun sig h => by have h3 := hy.2.2; rw [h] at h3; exact hn.trans (Option.some.inj h3).symm) hst hsm (by rw [cx.1.2.1]; exact hd) (fun vm₁ hW₁ => ⟨rfl, hT, rfl, rfl, rfl, hW₁⟩)
  dsimp only [Pt.U, Pt.locs, Pt.cells, Pt.slots] at X' e1 e2 e3 g1 g4 g5 g6 hst2
  subst e1; subst e2; subst e3
  exact ⟨v, U', L, cell, X', hL, g1, g2, g3, g4, g5, g6, hst2⟩
theorem oz_trunV (cx : oz_C G cc own) {y : MethodName} {bytes : ByteArray} {maxL index n i ci NN : Nat} {T0 : u_T} {fs : List Value} {C : String} {ret : Option FieldType} {kc kx : Nat} {As rest : List Value} {M2 : oz_M} {H : Heap} {locs : List Loc} {g : JFrame} (hM : oz_MetT G.1.2.1 (oz_D G) (oz_cs G) (oz_b G) y bytes maxL ret kc (.ref (oz_b G + i) :: As) M kx M2) (hP : va_P (oz_D G) classes (oz_w (oz_cs G) (oz_b G) M) H) (hS : va_S (fun q => oz_b G ≤ q) (oz_St G).heap H locs)
    (hw : oz_wV own index C y) (hyc : y.cls = C) (hc : Cond.code y bytes maxL ret ∈ oz_TW) (hy : y.cls ≠ "java/lang/invoke/MethodHandle" ∧ y.cls ≠ "java/lang/invoke/VarHandle" ∧ (parseMethodDescriptor y.desc).map (fun d => d.parameters.length) = some n) (hn : As.length = n) (hi : i < oz_N) (he : oz_E (oz_cs G) (oz_b G) i (M.1 i) (M.2 i) = .inr (ci, fs)) (hci : classes[ci]? = some (C, T0, NN)) (hR : kc + 2 ≤ G.1.2.2.2.1.frames ∧ 8 + (maxL + 11) + 30 * (kc + 1) ≤ G.1.2.2.2.1.locals) (h1 : G.2.2.1.1 + 1 ≤ G.1.2.2.2.1.cells) (h2 : G.2.2.1.2.1 + 6 ≤ G.1.2.2.2.1.slots)
    (hg : g.method = G.2.1.1) (hsz : g.locals.size = oz_nL G) (hst : g.stack = As.reverse ++ .ref (oz_b G + i) :: rest) (hsm : 2 * g.monitorRoom + (rest.map fun v => v.category).sum ≤ 8) (hd : decode cc g.pc = .ok (.invokevirtual index, 3)) : oz_TRun G H locs g rest kx M2 := by
  intro T hT Xs
  have hcode := cx.1.2.2.2.2 _ hc
  obtain ⟨mk, methM, hnamed, hmethM, hstM, habM⟩ := Cond.instanceMethod_spec (cx.1.2.2.2.2 _ hw.2.1)
  obtain ⟨methM', cM, hmethM', -, -, -, -, -, -, hsigM⟩ := Cond.code_spec hnamed hcode
  cases hmethM.symm.trans hmethM'
  obtain ⟨cellB, hcB, hoB, hclB⟩ := va_recv cx.2.1 hP hci (show (oz_w (oz_cs G) (oz_b G) M)[i]? = _ by rw [oz_w_at hi, he])
  obtain ⟨c2, r2, m2, q1, q2, q3, q4, kP, hkP, hkPi⟩ := Cond.selects_spec (cx.1.2.2.2.2 _ hw.2.2.1)
  cases hclB.symm.trans q1
  cases (State.methodFound?_of_named hnamed ⟨hy.1, hy.2.1⟩).symm.trans q2
  cases hnamed.symm.trans q3
  have hselP : selectMethod G.1.2.2.1.platform (oz_St G).vm cellB.cls mk = .method mk := by rw [Launch.admits_selectMethod Xs.admits]; exact q4
  obtain ⟨vm₁, X₁, hstep₁⟩ := Xs.invokevirtual cx.1.1 cx.1.2.2.2.1 (cx.1.2.2.2.2 _ hw.1) hnamed hmethM hstM hkP hkPi ⟨hy.1, hy.2.1⟩ (a := oz_b G + i) (cell := cellB) (by rw [hT]; exact hcB)
    (fun z h => by rw [h] at hoB; cases hoB) hselP hmethM habM hkP hkPi (g := g) hg (argsL := As) (rest := rest) (by have h3 := hy.2.2; rw [hsigM] at h3; exact hn.trans (Option.some.inj h3).symm) hst (by rw [cx.1.2.1]; exact hd)
  obtain ⟨v, ⟨U', l2, c2, s2⟩, X', ⟨cell, L, e1, e2, e3, hL, g1, g2, g3, g4, g5, g6⟩, hsteps⟩ := oz_backT cx hT hM hP hS hc (by rw [hyc]; exact hw.2.2.2) hR h1 h2 G.2.1.1 G.2.1.2.2.2.1 G.2.1.2.2.2.2 ⟨T.setVm vm₁, locs, G.2.2.1.1, G.2.2.1.2.1⟩ { g with stack := rest } (.invokevirtual index) mk (Value.ref (oz_b G + i) :: As).toArray X₁ hg (hsz.trans cx.1.2.2.1.symm) (by rw [cx.1.2.1]; exact hd) hsm (X₁.named hnamed) ⟨rfl, hT, rfl, rfl, rfl, X₁.warmed⟩
  dsimp only [Pt.U, Pt.locs, Pt.cells, Pt.slots] at X' e1 e2 e3 g1 g4 g5 g6 hsteps
  subst e1; subst e2; subst e3
  exact ⟨v, U', L, cell, X', hL, g1, g2, g3, g4, g5, g6, hstep₁ _ fun acts => by rw [doInvoke_state]; exact hsteps⟩
/-- the caller lets it through -/
theorem oz_through (cx : oz_C G cc own) {st0 rest : List Value} {kx : Nat} {M2 : oz_M} (hR : oz_RtT G kx M2) (hr : ∀ (H : Heap) (locs : List Loc) (ls : Array Slot), va_P (oz_D G) classes (oz_w (oz_cs G) (oz_b G) M) H → va_S (fun q => oz_b G ≤ q) (oz_St G).heap H locs → lv_has ls (oz_nL G) lv → oz_TRun G H locs (F0 G.2.1.1 pc ls st0) rest kx M2) : oz_Z G pc lv st0 M := by
  intro H locs ls hP hS hl T hT Xs
  obtain ⟨hfl, hnoh, hcells, hslots, hgoal⟩ := hR
  obtain ⟨v, B, L, cell, XB, hL, g1, g2, g3, g4, g5, g6, hst⟩ := hr H locs ls hP hS hl T hT Xs
  obtain ⟨hw, hrun, hend, hwarm, hsame⟩ := XB.leaveThrown v (g := F0 G.2.1.1 pc ls rest) rfl rfl rfl (fun x hx => by
    have h0 : G.2.1.2.2.2.2.exceptionTable.size = 0 := by simpa [Array.isEmpty] using hnoh
    have h1 : G.2.1.2.2.2.2.exceptionTable.toList = [] := List.eq_nil_of_length_eq_zero (by simpa using h0)
    rw [h1] at hx; cases hx) cx.2.2.1
  refine ⟨_, hst.trans hw, hgoal _ ⟨.threw v, hrun, hend, ⟨v, cell, rfl, g1, g2, g3, g4, Nat.le_trans hS.1 g5, fun q h1 h2 => ?_⟩, locs ++ L, ⟨⟨v, rfl⟩, hwarm, hsame⟩, fun q hq => ?_⟩⟩
  · show B.heap[q]? = _
    rw [g6 q (Nat.lt_of_lt_of_le h1 hS.1) h2]
    exact hS.2.1 q h1 h2
  · rcases List.mem_append.mp hq with h | h
    · exact hS.2.2 q h
    · exact hL q h
theorem oz_iretX (cx : oz_C G cc own) {r : (Nat ⊕ Int32) × oz_M} {a : Int32} (hR : oz_RtX G (some .int) (fun v => some (.int v)) r) (hd : decode cc pc = .ok (.ireturn, 1)) : oz_R G pc lv [.int a] M (some (.inr a, M)) (fun x => x = r) := by
  intro x hx hK
  cases hx
  have h1 := hR.1 a (by rw [← hK])
  rw [← hK] at h1
  exact oz_iret cx h1 hd (a, M) rfl rfl
theorem oz_lretX (cx : oz_C G cc own) {r : (Nat ⊕ Int64) × oz_M} {a : Int64} (hR : oz_RtX G (some .long) (fun v => some (.long v)) r) (hd : decode cc pc = .ok (.lreturn, 1)) : oz_R G pc lv [.long a] M (some (.inr a, M)) (fun x => x = r) := by
  intro x hx hK
  cases hx
  have h1 := hR.1 a (by rw [← hK])
  rw [← hK] at h1
  exact oz_lret cx h1 hd (a, M) rfl rfl
theorem oz_vretX (cx : oz_C G cc own) {r : (Nat ⊕ Unit) × oz_M} (hR : oz_RtX G none (fun _ => none) r) (hd : decode cc pc = .ok (.return_, 1)) : oz_R G pc lv [] M (some (.inr (), M)) (fun x => x = r) := by
  intro x hx hK
  cases hx
  have h1 := hR.1 () (by rw [← hK])
  rw [← hK] at h1
  exact oz_vret cx h1 hd ((), M) rfl rfl
theorem oz_up {R : Room} {j k : Nat} (h : oz_big R k) (hj : j ≤ k) : oz_big R j := by
  obtain ⟨h1, h2⟩ := h
  exact ⟨by omega, by omega⟩
theorem oz_throw (cx : oz_C G cc "OrderHall") {V : Type} {ret : Option FieldType} {val : V → Option Value} {r : (Nat ⊕ V) × oz_M} (k : Nat) {ix is ki : Nat} {tx : String} (hR : oz_RtX G ret val r) (hk : k < 3) (hRm : oz_big G.1.2.2.2.1 5)
    (hw : Cond.classLink "OrderHall" ix (oz_exc k) ∈ oz_TW ∧ Cond.instantiable (oz_exc k) 6 ∈ oz_TW ∧ Cond.initialized (oz_exc k) ∈ oz_TW) (hs : (is, tx) ∈ oz_SR) (hki : oz_ic k = ki)
    (d0 : decode cc pc = .ok (.new ix, 3)) (d1 : decode cc (pc + 3) = .ok (.dup, 1)) (d2 : decode cc (pc + 4) = .ok (.ldc is, 2)) (d3 : decode cc (pc + 6) = .ok (.invokespecial ki, 3)) (d4 : decode cc (pc + 9) = .ok (.athrow, 1)) : oz_R G pc lv [] M (some (.inl k, M)) (fun x => x = r) := by
  intro x hx hK
  cases hx
  have h1 := hR.2 k (by rw [← hK])
  rw [← hK] at h1
  exact oz_throwZ cx k h1 hk hRm hw hs hki d0 d1 d2 d3 d4
theorem oz_tS (cx : oz_C G cc own) {V : Type} {ret0 : Option FieldType} {val : V → Option Value} {r : (Nat ⊕ V) × oz_M} (hX : oz_RtX G ret0 val r) {oF : Option ((Nat ⊕ Unit) × oz_M)} {f : oz_M → Option ((Nat ⊕ V) × oz_M)} {k kc : Nat} {index : Nat} {y : MethodName} {bytes : ByteArray} {maxL : Nat} {ret : Option FieldType} {st0 : List Value} (As : List Value) (n : Nat)
    (hRm : oz_big G.1.2.2.2.1 k) (hk : kc < k) (hm : maxL ≤ 11)
    (hM : ∀ M2, oF = some (.inr (), M2) → oz_Met G.1.2.1 (oz_D G) (oz_cs G) (oz_b G) y bytes maxL ret (oz_rm kc) As M none M2)
    (hT : ∀ kx M2, G.1.2.1.stackTraces = false → oF = some (.inl kx, M2) → oz_MetT G.1.2.1 (oz_D G) (oz_cs G) (oz_b G) y bytes maxL ret kc As M kx M2)
    (hw : oz_wS own index y) (hc : Cond.code y bytes maxL ret ∈ oz_TW) (hy : y.cls ≠ "java/lang/invoke/MethodHandle" ∧ y.cls ≠ "java/lang/invoke/VarHandle" ∧ (parseMethodDescriptor y.desc).map (fun d => d.parameters.length) = some n) (hn : As.length = n)
    (hst : st0 = As.reverse ++ st) (hsm : (st.map fun v => v.category).sum ≤ 8) (hd : decode cc pc = .ok (.invokestatic index, 3)) (hq : pc + 3 = q)
    (kk : ∀ M2, oF = some (.inr (), M2) → oz_R G q lv st M2 (f M2) (fun x => x = r)) : oz_R G pc lv st0 M (oz_b2 oF fun w M2 => oz_el (fun kx => some (.inl kx, M2)) (fun _ => f M2) w) (fun x => x = r) := by
  intro z hz hK
  cases hF : oF with
  | none => rw [hF] at hz; cases hz
  | some w =>
    obtain ⟨w, M2⟩ := w
    rw [hF] at hz
    cases w with
    | inr u =>
      exact oz_cSv cx (oF := some ((), M2)) (f := fun _ M2 => f M2) As n hRm hk hm (fun _ _ h => by cases h; exact hM M2 hF) hw hc hy hn hst hsm hd hq (fun _ _ h => by cases h; exact kk M2 hF) z hz hK
    | inl kx =>
      have hzz : (.inl kx, M2) = z := Option.some.inj hz
      have h1 := hX.2 kx (by rw [← hK, ← hzz])
      rw [← hK, ← hzz] at h1
      refine oz_through cx h1 (rest := st) (fun H locs ls hP hS hl => ?_)
      have hb := oz_room hRm hk hm
      exact oz_trunS cx (hT kx M2 h1.1 hF) hP hS hw hc hy hn ⟨hb.1, hb.2⟩ h1.2.2.1 h1.2.2.2.1 rfl hl.1 hst (lv_room hsm) hd
theorem oz_tV (cx : oz_C G cc own) {V : Type} {ret0 : Option FieldType} {val : V → Option Value} {r : (Nat ⊕ V) × oz_M} (hX : oz_RtX G ret0 val r) {oF : Option ((Nat ⊕ Unit) × oz_M)} {f : oz_M → Option ((Nat ⊕ V) × oz_M)} {k kc : Nat} {C : String} {index : Nat} {y : MethodName} {bytes : ByteArray} {maxL : Nat} {ret : Option FieldType} {st0 : List Value} (i : Nat) (As : List Value) (n ci : Nat) {T : u_T} {NN : Nat} {fs : List Value}
    (hRm : oz_big G.1.2.2.2.1 k) (hk : kc < k) (hm : maxL ≤ 11)
    (hM : ∀ M2, oF = some (.inr (), M2) → oz_Met G.1.2.1 (oz_D G) (oz_cs G) (oz_b G) y bytes maxL ret (oz_rm kc) (.ref (oz_b G + i) :: As) M none M2)
    (hT : ∀ kx M2, G.1.2.1.stackTraces = false → oF = some (.inl kx, M2) → oz_MetT G.1.2.1 (oz_D G) (oz_cs G) (oz_b G) y bytes maxL ret kc (.ref (oz_b G + i) :: As) M kx M2)
    (hw : oz_wV own index C y) (hc : Cond.code y bytes maxL ret ∈ oz_TW) (hy : y.cls = C ∧ y.cls ≠ "java/lang/invoke/MethodHandle" ∧ y.cls ≠ "java/lang/invoke/VarHandle" ∧ (parseMethodDescriptor y.desc).map (fun d => d.parameters.length) = some n) (hn : As.length = n)
    (hi : i < oz_N) (he : oz_E (oz_cs G) (oz_b G) i (M.1 i) (M.2 i) = .inr (ci, fs)) (hci : classes[ci]? = some (C, T, NN))
    (hst : st0 = As.reverse ++ .ref (oz_b G + i) :: st) (hsm : (st.map fun v => v.category).sum ≤ 8) (hd : decode cc pc = .ok (.invokevirtual index, 3)) (hq : pc + 3 = q)
    (kk : ∀ M2, oF = some (.inr (), M2) → oz_R G q lv st M2 (f M2) (fun x => x = r)) : oz_R G pc lv st0 M (oz_b2 oF fun w M2 => oz_el (fun kx => some (.inl kx, M2)) (fun _ => f M2) w) (fun x => x = r) := by
  intro z hz hK
  cases hF : oF with
  | none => rw [hF] at hz; cases hz
  | some w =>
    obtain ⟨w, M2⟩ := w
    rw [hF] at hz
    cases w with
    | inr u =>
      exact oz_cVv cx (oF := some ((), M2)) (f := fun _ M2 => f M2) i As n ci hRm hk hm (fun _ _ h => by cases h; exact hM M2 hF) hw hc hy hn hi he hci hst hsm hd hq (fun _ _ h => by cases h; exact kk M2 hF) z hz hK
    | inl kx =>
      have hzz : (.inl kx, M2) = z := Option.some.inj hz
      have h1 := hX.2 kx (by rw [← hK, ← hzz])
      rw [← hK, ← hzz] at h1
      refine oz_through cx h1 (rest := st) (fun H locs ls hP hS hl => ?_)
      have hb := oz_room hRm hk hm
      exact oz_trunV cx (hT kx M2 h1.1 hF) hP hS hw hy.1 hc hy.2 hn hi he hci ⟨hb.1, hb.2⟩ h1.2.2.1 h1.2.2.2.1 rfl hl.1 hst (lv_room hsm) hd
/-! switches -/
theorem oz_ite {K : X → Prop} {c : Prop} {dc : Decidable c} {a a2 : Option X} (h1 : c → oz_R G pc lv st M a K) (h2 : ¬ c → oz_R G pc lv st M a2 K) : oz_R G pc lv st M (if c then a else a2) K := by
  by_cases h : c
  · rw [if_pos h]; exact h1 h
  · rw [if_neg h]; exact h2 h
theorem oz_tin (cx : oz_C G cc own) {K : X → Prop} {o : Option X} {x : Int32} (c0 : Int32) {dflt lo hi off : Int} {offs : Array Int} {len t : Nat} (hx : x = c0) (hd : decode cc pc = .ok (.tableswitch dflt lo hi offs, len)) (h1 : ¬ c0.toInt < lo) (h2 : ¬ hi < c0.toInt) (ho : offs[(c0.toInt - lo).toNat]? = some off) (ht : (pc : Int) + off = (t : Int)) (k : oz_R G t lv st M o K) : oz_R G pc lv (.int x :: st) M o K := by
  subst hx
  exact oz_lift (fun H locs ls hl w => lv_tableIn cx.1.1 cx.1.2.1 hd h1 h2 ho ht w) k
theorem oz_tout (cx : oz_C G cc own) {K : X → Prop} {o : Option X} {x : Int32} {dflt lo hi : Int} {offs : Array Int} {len t : Nat} (hd : decode cc pc = .ok (.tableswitch dflt lo hi offs, len)) (h : x.toInt < lo ∨ hi < x.toInt) (ht : (pc : Int) + dflt = (t : Int)) (k : oz_R G t lv st M o K) : oz_R G pc lv (.int x :: st) M o K :=
  oz_lift (fun H locs ls hl w => lv_tableOut cx.1.1 cx.1.2.1 hd h ht w) k
theorem oz_tno (n : Nat) {x : Int32} (hn : n < 2 ^ 31) (h : ∀ j, j < n → ¬ x = nI j) : x.toInt < 0 ∨ (n : Int) - 1 < x.toInt := by
  rcases pk_ix x hn with h0 | h0 | ⟨j, hj, rfl⟩
  · left
    simpa using Int32.lt_iff_toInt_lt.mp h0
  · right
    have := Int32.le_iff_toInt_le.mp h0
    rw [nI_toInt hn] at this
    omega
  · exact absurd rfl (h j hj)
end OZT
