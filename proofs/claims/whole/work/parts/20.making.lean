/-! Making the world: cells from b on, one behind the other; es: what they hold. -/
def oz_CP (D : va_G) (b : Nat) (es : List va_E) (H : Heap) : Prop := ∀ (i : Nat) (e : va_E), es[i]? = some e → va_at D classes (b + i, e) H
def oz_cw (b : Nat) (es : List va_E) : va_W := es.mapIdx fun i e => (b + i, e)
theorem oz_cw_at {b : Nat} {es : List va_E} {i : Nat} : (oz_cw b es)[i]? = es[i]?.map (fun e => (b + i, e)) := by
  simp [oz_cw, List.getElem?_mapIdx]
theorem oz_CP.P {D : va_G} {b : Nat} {es : List va_E} {H : Heap} (h : oz_CP D b es H) : va_P D classes (oz_cw b es) H := by
  intro k q hk
  rw [oz_cw_at] at hk
  obtain ⟨e, he, rfl⟩ := Option.map_eq_some_iff.mp hk
  exact h k e he
theorem oz_CP.of {D : va_G} {b : Nat} {es : List va_E} {H : Heap} (h : va_P D classes (oz_cw b es) H) : oz_CP D b es H := by
  intro i e he
  exact h i (b + i, e) (by rw [oz_cw_at, he]; rfl)
theorem oz_cw_D (b : Nat) (es : List va_E) : va_D (fun q => b ≤ q) (oz_cw b es) := by
  have key : ∀ (k : Nat) (q : Nat × va_E), (oz_cw b es)[k]? = some q → q.1 = b + k := by
    intro k q hk
    rw [oz_cw_at] at hk
    obtain ⟨e, he, rfl⟩ := Option.map_eq_some_iff.mp hk
    rfl
  refine ⟨fun i j x y hi hj hxy => ?_, fun k q hk => ?_⟩
  · have h1 := key i x hi
    have h2 := key j y hj
    omega
  · have h1 := key k q hk
    show b ≤ q.1
    omega
theorem oz_cw_set {b : Nat} {es : List va_E} {i : Nat} {e : va_E} : (oz_cw b es).set i (b + i, e) = oz_cw b (es.set i e) := by
  apply List.ext_getElem?
  intro j
  rw [oz_cw_at]
  by_cases hj : j = i
  · subst hj
    by_cases hl : j < es.length
    · rw [List.getElem?_set_self (by simp [oz_cw]; exact hl), List.getElem?_set_self hl]
      rfl
    · rw [List.getElem?_eq_none (by simp [oz_cw]; omega), List.getElem?_eq_none (by simp; omega)]
      rfl
  · rw [List.getElem?_set_ne (Ne.symm hj), List.getElem?_set_ne (Ne.symm hj), oz_cw_at]
theorem oz_CP.snoc {D : va_G} {b : Nat} {es : List va_E} {H H1 : Heap} {e : va_E} (h : oz_CP D b es H) (ho : ∀ q, q < b + es.length → H1[q]? = H[q]?) (he : va_at D classes (b + es.length, e) H1) : oz_CP D b (es ++ [e]) H1 := by
  intro i x hx
  by_cases hl : i < es.length
  · rw [List.getElem?_append_left hl] at hx
    exact (h i x hx).kept (ho _ (by show b + i < _; omega))
  · rw [List.getElem?_append_right (by omega)] at hx
    have h0 : i - es.length < 1 := (List.getElem?_eq_some_iff.mp hx).1
    have hi : i = es.length := by omega
    subst hi
    rw [Nat.sub_self] at hx
    cases hx
    exact he
theorem oz_arrV_ext {c : ClassId} {N : Nat} {f g : Nat → Value} (h : ∀ j, j < N → f j = g j) : arrV c N f = arrV c N g := by
  unfold arrV
  congr 2
  funext j
  exact h j.val j.isLt
theorem oz_outer (c : ClassId) (N h0 : Nat) (i : Nat) : Jvm.Free.Multi.outerC c N h0 i = arrV c N (fun j => va_rf (if j < i then some (h0 + 1 + j) else none)) := by
  induction i with
  | zero =>
    show ({ cls := c, slots := Array.replicate N .null, vm := .none } : Cell) = _
    rw [arrV_new]
    exact oz_arrV_ext (fun j _ => by simp [va_rf])
  | succ i ih =>
    show (Jvm.Free.Multi.outerC c N h0 i).setSlot i (.ref (h0 + 1 + i)) = _
    rw [ih, arrV_store]
    refine oz_arrV_ext (fun j _ => ?_)
    by_cases e : j = i
    · subst e
      simp [updV, va_rf]
    · by_cases h : j < i
      · simp [updV, e, h, Nat.lt_succ_of_lt h]
      · simp [updV, e, h, show ¬ j < i + 1 by omega]
def oz_KZ (G : oz_G) (cells slots pc : Nat) (lv : List (Nat × Value)) (st : List Value) (es : List va_E) : Prop :=
  ∀ (H : Heap) (locs : List Loc) (ls : Array Slot), oz_CP (oz_D G) (oz_b G) es H → H.size = oz_b G + es.length → va_S (fun q => oz_b G ≤ q) (oz_St G).heap H locs → lv_has ls (oz_nL G) lv → W G.1.1 G.1.2.1 G.1.2.2.1 G.1.2.2.2.1 G.1.2.2.2.2 G.2.1.1 G.2.1.2.1 G.2.1.2.2.1 G.2.1.2.2.2.1 G.2.1.2.2.2.2 H locs cells slots G.2.2.1.2.2 (F0 G.2.1.1 pc ls st)
def oz_KC (G : oz_G) (cc : ByteArray) (own : String) : Prop :=
  CallFix G.1.1 G.2.1.1 G.2.1.2.2.2.2 cc (oz_nL G) (oz_St G) G.2.1.2.1 oz_TW own ∧ va_K (oz_D G) classes (oz_ty (oz_cs G)) (oz_St G) ∧ G.2.1.2.2.2.1.locks = false ∧ (∀ w ∈ oz_NW, va_Nw w (oz_St G)) ∧ (Cond.arrayOver (.array .int)).before #[] (oz_St G) = true ∧ oz_b G ≤ (oz_St G).heap.size
section OZK
variable {G : oz_G} {cc : ByteArray} {own : String} {pc q cells slots : Nat} {lv : List (Nat × Value)} {st : List Value} {es : List va_E}
theorem ok_aload_n (cx : oz_KC G cc own) {k : Fin 4} {i : Nat} {x : Nat} (hd : decode cc pc = .ok (.aload_n k, 1)) (hq : pc + 1 = q) (hi : (k : Nat) = i) (z : Nat) (hz : lv[z]? = some (i, .ref x)) (kk : oz_KZ G cells slots q lv (.ref x :: st) es) : oz_KZ G cells slots pc lv st es := by
  subst hq
  exact fun H locs ls hP hn hS hl => lv_aload_n cx.1.1 cx.1.2.1 hd hi (lv_at hl z hz) (kk H locs ls hP hn hS hl)
theorem ok_iconst (cx : oz_KC G cc own) {n : Int} {v : Int32} (hd : decode cc pc = .ok (.iconst n, 1)) (hq : pc + 1 = q) (hv : Int32.ofInt n = v) (kk : oz_KZ G cells slots q lv (.int v :: st) es) : oz_KZ G cells slots pc lv st es := by
  subst hq
  exact fun H locs ls hP hn hS hl => lv_iconst cx.1.1 cx.1.2.1 hd hv (kk H locs ls hP hn hS hl)
theorem ok_bipush (cx : oz_KC G cc own) {n : Int} {v : Int32} (hd : decode cc pc = .ok (.bipush n, 2)) (hq : pc + 2 = q) (hv : (Int8.ofInt n).toInt32 = v) (kk : oz_KZ G cells slots q lv (.int v :: st) es) : oz_KZ G cells slots pc lv st es := by
  subst hq
  exact fun H locs ls hP hn hS hl => lv_bipush cx.1.1 cx.1.2.1 hd hv (kk H locs ls hP hn hS hl)
theorem ok_sipush (cx : oz_KC G cc own) {n : Int} {v : Int32} (hd : decode cc pc = .ok (.sipush n, 3)) (hq : pc + 3 = q) (hv : (Int16.ofInt n).toInt32 = v) (kk : oz_KZ G cells slots q lv (.int v :: st) es) : oz_KZ G cells slots pc lv st es := by
  subst hq
  exact fun H locs ls hP hn hS hl => lv_sipush cx.1.1 cx.1.2.1 hd hv (kk H locs ls hP hn hS hl)
theorem ok_dup (cx : oz_KC G cc own) {va : Value} (hd : decode cc pc = .ok (.dup, 1)) (hq : pc + 1 = q) (hva : va.category = 1) (kk : oz_KZ G cells slots q lv (va :: va :: st) es) : oz_KZ G cells slots pc lv (va :: st) es := by
  subst hq
  exact fun H locs ls hP hn hS hl => lv_dup cx.1.1 cx.1.2.1 hd hva (kk H locs ls hP hn hS hl)
theorem ok_astore_n (cx : oz_KC G cc own) {k : Fin 4} {i : Nat} {x : Nat} {lv2 : List (Nat × Value)} (hd : decode cc pc = .ok (.astore_n k, 1)) (hq : pc + 1 = q) (hi : (k : Nat) = i) (hn : i < oz_nL G) (hl2 : (i, Value.ref x) :: lv.filter (fun q => !(q.1 == i) && !(q.1 + 1 == i && q.2.category == 2)) = lv2) (kk : oz_KZ G cells slots q lv2 st es) : oz_KZ G cells slots pc lv (.ref x :: st) es := by
  subst hq
  exact fun H locs ls hP hz hS hl => lv_astore_n cx.1.1 cx.1.2.1 hd hi hl hn hl2 (fun ls' hl' => kk H locs ls' hP hz hS hl')
theorem ok_obj (cx : oz_KC G cc own) {idx a : Nat} (hw : Cond.methodLink own idx objectInit ∈ oz_TW) (hw2 : Cond.instanceMethod objectInit ∈ oz_TW) (hw3 : Cond.code objectInit ⟨#[0xb1]⟩ 1 none ∈ oz_TW) (hf : 1 ≤ G.1.2.2.2.1.frames) (hsm : (st.map fun v => v.category).sum ≤ 8) (hL : 20 ≤ G.1.2.2.2.1.locals) (hd : decode cc pc = .ok (.invokespecial idx, 3)) (hq : pc + 3 = q) (kk : oz_KZ G cells slots q lv st es) : oz_KZ G cells slots pc lv (.ref a :: st) es := by
  subst hq
  intro H locs ls hP hn hS hl
  exact W.objInit cx.1.1 cx.1.2.1 cx.1.2.2.2.1 (cx.1.2.2.2.2 _ hw) (cx.1.2.2.2.2 _ hw2) (cx.1.2.2.2.2 _ hw3) rfl (by rw [cx.1.2.2.1]; exact hl.1) rfl hd hf (by have := lv_room (m := G.2.1.1) (pc := pc) (ls := ls) (rest := .ref a :: st) hsm; omega) (kk H locs ls hP hn hS hl)
theorem ok_newa (cx : oz_KC G cc own) {n : Int32} {N' ti : Nat} {atype : ArrayType} {ty : FieldType} {a0 : vp_A} {cT : ClassId} (hty : newarray.typeOf atype = ty) (harr : Cond.arrayClass ty ∈ oz_TW) (hti : (oz_ty (oz_cs G))[ti]? = some (cT, ty)) (hprim : ∀ C, ty ≠ .object C) (ha : ∀ cA : ClassId, vp_cell cA a0 = arrV cA N' (fun _ => defaultValue ty)) (hn : ¬ n < 0) (hN : n.toNatClampNeg = N') (hbytes : N' * componentBytes ty ≤ 536870912) (hcells : cells + 1 ≤ G.1.2.2.2.1.cells) (hslots : slots + N' ≤ G.1.2.2.2.1.slots) (hd : decode cc pc = .ok (.newarray atype, 2)) (hq : pc + 2 = q)
    (kk : oz_KZ G (cells + 1) (slots + N') q lv (.ref (oz_b G + es.length) :: st) (es ++ [.inl (cT, a0)])) : oz_KZ G cells slots pc lv (.int n :: st) es := by
  subst hq; subst hty
  intro H locs ls hP hsz hS hl
  refine va_newaK cx.1.1 cx.1.2.1 (cx.1.2.2.2.2 _ harr) rfl hd rfl hn hN hbytes hcells hslots hsz fun H1 cA e1 z1 o1 hAr hNm => ?_
  have hRA := (cx.2.1.2 ti _ hti).2
  have hcc : cA = cT := by
    have h2 : (oz_St G).vm.findClass ("[" ++ (newarray.typeOf atype).toString) = some cT := by
      cases atype <;> exact hRA
    exact Option.some.inj (hNm.symm.trans h2)
  subst hcc
  refine kk H1 locs ls (hP.snoc o1 ?_) (by rw [z1, List.length_append]; rfl) ⟨Nat.le_trans hS.1 (by omega), fun x h1 h2 => (o1 x (by have := hS.1; omega)).trans (hS.2.1 x h1 h2), hS.2.2⟩ hl
  show H1[_]? = some (vp_cell _ _)
  rw [ha]
  exact e1
theorem ok_new (cx : oz_KC G cc own) {C : String} {T : u_T} {N ci index : Nat} (ty : Nat → FieldType) (hty : ∀ k, k < N → parseFieldDescriptor (T k).2.2.1 = some (ty k)) (hin : ∀ w ∈ u_ws C T N, w ∈ oz_TW) (hw : Cond.classLink own index C ∈ oz_TW ∧ Cond.instantiable C N ∈ oz_TW ∧ Cond.initialized C ∈ oz_TW) (hc : classes[ci]? = some (C, T, N)) {fs : List Value} (hfs : ∀ j, j < N → defaultValue (ty j) = vp_V fs j) (hcells : cells + 1 ≤ G.1.2.2.2.1.cells) (hslots : slots + N ≤ G.1.2.2.2.1.slots) (hd : decode cc pc = .ok (.new index, 3)) (hq : pc + 3 = q)
    (kk : oz_KZ G (cells + 1) (slots + N) q lv (.ref (oz_b G + es.length) :: st) (es ++ [.inr (ci, fs)])) : oz_KZ G cells slots pc lv st es := by
  subst hq
  intro H locs ls hP hsz hS hl
  have hKn := cx.2.1.1 ci _ hc
  refine W.newcK cx.1.1 cx.1.2.1 cx.1.2.2.2.1 (cx.1.2.2.2.2 _ hw.1) (cx.1.2.2.2.2 _ hw.2.1) (cx.1.2.2.2.2 _ hw.2.2) rfl hd hcells hslots hKn.2.1 hsz fun H1 kC hkC e1 z1 o1 => ?_
  refine kk H1 locs ls (hP.snoc o1 ?_) (by rw [z1, List.length_append]; rfl) ⟨Nat.le_trans hS.1 (by omega), fun x h1 h2 => (o1 x (by have := hS.1; omega)).trans (hS.2.1 x h1 h2), hS.2.2⟩ hl
  exact ⟨_, hc, (u_born ty cx.1.2.2.2.2 hin hKn hkC e1 hty).to hfs⟩
theorem ok_mna (cx : oz_KC G cc own) {n k : Int32} {N' K' index : Nat} (hw : Cond.classLink own index "[[I" ∈ oz_TW) (harr : Cond.arrayClass .int ∈ oz_TW) (hn : ¬ n < 0) (hk : ¬ k < 0) (hN : n.toNatClampNeg = N') (hK' : k.toNatClampNeg = K') (hb : N' ≤ 100 ∧ K' ≤ 100) (hcells : cells + (1 + N') ≤ G.1.2.2.2.1.cells) (hslots : slots + (N' + N' * K') ≤ G.1.2.2.2.1.slots) (hd : decode cc pc = .ok (.multianewarray index 2, 4)) (hq : pc + 4 = q)
    (kk : oz_KZ G (cells + 1 + N') (slots + N' + N' * K') q lv (.ref (oz_b G + es.length) :: st) (es ++ (.inl (oz_cs G 4, N', .inr (.inr (.inr (.inr (fun j => some (oz_b G + (es.length + 1 + j))))))) :: List.replicate N' (.inl (oz_cs G 0, K', .inl (fun _ => 0)))))) : oz_KZ G cells slots pc lv (.int k :: .int n :: st) es := by
  subst hq; subst hN; subst hK'
  intro H locs ls hP hsz hS hl T hT Xs
  obtain ⟨vm₁, cA, comp, -, fA, fC, hO, -, X', step⟩ := Xs.multianewarray2F cx.1.1 (ty := .int) cx.1.2.2.2.1 (cx.1.2.2.2.2 _ hw) cx.2.2.2.2.1 (cx.1.2.2.2.2 _ harr) (g := F0 G.2.1.1 pc ls (.int k :: .int n :: st)) rfl (by rw [cx.1.2.1]; exact hd) rfl hn hk (by omega) (by show k.toNatClampNeg * 4 ≤ 536870912; omega) (by omega) rfl rfl hcells hslots
  have hcomp : comp = oz_cs G 0 := Option.some.inj (fC.symm.trans (cx.2.1.2 0 _ rfl).2)
  have hcA : cA = oz_cs G 4 := Option.some.inj (fA.symm.trans (cx.2.1.2 4 _ rfl).2)
  subst hcomp; subst hcA
  have hTh : (T.setVm vm₁).heap = H := hT
  obtain ⟨f1, f2, -, -⟩ := Jvm.Free.Multi.fill_facts (T.setVm vm₁) (oz_cs G 4) (oz_cs G 0) n.toNatClampNeg k.toNatClampNeg (defaultValue .int) n.toNatClampNeg
  have f3 := fun x hx => Jvm.Free.Multi.fill_old (T.setVm vm₁) (oz_cs G 4) (oz_cs G 0) n.toNatClampNeg k.toNatClampNeg (defaultValue .int) (a := x) hx n.toNatClampNeg
  have f4 := fun j hj => Jvm.Free.Multi.fill_inner (T.setVm vm₁) (oz_cs G 4) (oz_cs G 0) n.toNatClampNeg k.toNatClampNeg (defaultValue .int) n.toNatClampNeg j hj
  generalize Jvm.Free.Multi.fill (T.setVm vm₁) (oz_cs G 4) (oz_cs G 0) n.toNatClampNeg k.toNatClampNeg (defaultValue .int) n.toNatClampNeg = F at X' step f1 f2 f3 f4
  rw [hTh] at f1 f2 f3 f4
  have hCP : oz_CP (oz_D G) (oz_b G) (es ++ (.inl (oz_cs G 4, n.toNatClampNeg, .inr (.inr (.inr (.inr (fun j => some (oz_b G + (es.length + 1 + j))))))) :: List.replicate n.toNatClampNeg (.inl (oz_cs G 0, k.toNatClampNeg, .inl (fun _ => 0))))) F.heap := by
    intro i x hx
    by_cases h1 : i < es.length
    · rw [List.getElem?_append_left h1] at hx
      exact (hP i x hx).kept (f3 _ (by show oz_b G + i < _; omega))
    · rw [List.getElem?_append_right (by omega)] at hx
      obtain ⟨j, rfl⟩ : ∃ j, i = es.length + j := ⟨i - es.length, by omega⟩
      rw [Nat.add_sub_cancel_left] at hx
      cases j with
      | zero =>
        rw [List.getElem?_cons_zero] at hx
        cases hx
        show F.heap[oz_b G + (es.length + 0)]? = some (vp_cell _ _)
        rw [Nat.add_zero, ← hsz, f2, vp_cell_q]
        rw [oz_outer]
        exact congrArg some (oz_arrV_ext (fun j hj => by
          rw [if_pos hj, show oz_b G + (es.length + 1 + j) = H.size + 1 + j by omega]))
      | succ j =>
        rw [List.getElem?_cons_succ] at hx
        have hj : j < n.toNatClampNeg := by
          have := (List.getElem?_eq_some_iff.mp hx).1
          simpa using this
        rw [List.getElem?_replicate, if_pos hj] at hx
        cases hx
        show F.heap[oz_b G + (es.length + (j + 1))]? = some (vp_cell _ _)
        rw [show oz_b G + (es.length + (j + 1)) = H.size + 1 + j by omega, f4 j hj, vp_cell_i, ← arrV_new]
        rfl
  obtain ⟨t, a1, b1⟩ := kk F.heap locs ls hCP (by rw [f1, hsz]; simp; omega) ⟨Nat.le_trans hS.1 (by rw [f1]; omega), fun x h1 h2 => (f3 x (Nat.lt_of_lt_of_le h1 hS.1)).trans (hS.2.1 x h1 h2), hS.2.2⟩ hl F rfl X'
  refine ⟨t, step t ?_, b1⟩
  have e : T.heap.size = oz_b G + es.length := by rw [hT]; exact hsz
  rw [e]
  exact a1
theorem ok_put (cx : oz_KC G cc own) {C ref : String} {T : u_T} {NN ci index : Nat} (i k : Nat) {fs : List Value} {v : Int32} (he : es[i]? = some (.inr (ci, fs))) (hc : classes[ci]? = some (C, T, NN)) (hin : ∀ w ∈ u_ws C T NN, w ∈ oz_TW) (ty0 : Nat → FieldType) (hty : ∀ k, k < NN → parseFieldDescriptor (T k).2.2.1 = some (ty0 k)) (hnm : ∀ a, a < NN → ∀ b, b < NN → a ≠ b → (T a).2.1 ≠ (T b).2.1) (hk : k < NN) (hkl : k < fs.length) (hr : (T k).1 = ref) (hlink : Cond.fieldLink own index ref (T k).2.1 (T k).2.2.1 ∈ oz_TW) (hfin : (T k).2.2.2 = false) (hn : narrow (ty0 k) (.int v) = .int v) (hfit : fits (ty0 k) (.int v) = true) (hd : decode cc pc = .ok (.putfield index, 3)) (hq : pc + 3 = q) (kk : oz_KZ G cells slots q lv st (es.set i (.inr (ci, fs.set k (.int v))))) : oz_KZ G cells slots pc lv (.int v :: .ref (oz_b G + i) :: st) es := by
  subst hq
  subst hr
  intro H locs ls hP hsz hS hl
  intro T1 hT1 X1
  have h2 : W G.1.1 G.1.2.1 G.1.2.2.1 G.1.2.2.2.1 G.1.2.2.2.2 G.2.1.1 G.2.1.2.1 G.2.1.2.2.1 G.2.1.2.2.2.1 G.2.1.2.2.2.2 H locs cells slots G.2.2.1.2.2 (F0 G.2.1.1 pc ls (.int v :: .ref (oz_b G + i) :: st)) := by
    obtain ⟨r0, h1, cell, q1, q2, q3, q4⟩ := hP i _ he
    have hr0 : r0 = (C, T, NN) := Option.some.inj (h1.symm.trans hc)
    subst hr0
    obtain ⟨hSl, hfc, kC, hkC, hkind⟩ := cx.2.1.1 ci _ hc
    obtain ⟨cf, kf, fi, f, hi, hsl⟩ := hSl k hk
    have hap := va_apart (own := own) cx.1.2.2.2.2 hin ty0 hty hnm cx.2.1 hc
    have hlay := cx.1.2.2.2.2 _ (hin _ (u_in_lay hk))
    unfold u_lay at hlay
    rw [if_neg (by rw [hfin]; decide)] at hlay
    have hst := (u_facts hfc hkC (u_lays cx.1.2.2.2.2 hin hk) hi).1
    have h6 := u_store hfc hkC hkind hlay hi (hty k hk) hn hfit
    refine W.putK cx.1.1 cx.1.2.1 (f := f) ⟨cx.1.2.2.2.1, cx.1.2.2.2.2 _ hlink, ⟨_, _, _, hi⟩, hst⟩ (by rw [q2]; exact h6) q1 q3 (by rw [hsl]; exact k2_hasslot (q4 k hk)) rfl rfl hd fun H' e1 e2 e3 => ?_
    rw [hsl] at e1
    refine kk H' _ ls (oz_CP.of ?_) (by rw [e2, hsz, List.length_set]) (hS.put e2 e3 (by show oz_b G ≤ oz_b G + i; omega)) hl
    rw [← oz_cw_set]
    exact hP.P.set (oz_cw_D _ _) (by rw [oz_cw_at, he]; rfl) ⟨_, hc, t_OB.to (V := updV (vp_V fs) k (.int v)) ⟨_, e1, q2, q3, t_set q4 hap hk (.int v)⟩ (fun j _ => vp_updV_set hkl (.int v) j)⟩ e3
  exact h2 T1 hT1 X1
theorem ok_putF (cx : oz_KC G cc own) {C : String} {T : u_T} {NN ci index a : Nat} (i k : Nat) {fs : List Value} (he : es[i]? = some (.inr (ci, fs))) (hc : classes[ci]? = some (C, T, NN)) (hin : ∀ w ∈ u_ws C T NN, w ∈ oz_TW) (ty0 : Nat → FieldType) (hty : ∀ k, k < NN → parseFieldDescriptor (T k).2.2.1 = some (ty0 k)) (hnm : ∀ a, a < NN → ∀ b, b < NN → a ≠ b → (T a).2.1 ≠ (T b).2.1) (hk : k < NN) (hkl : k < fs.length) (hr : (T k).1 = own) (hlink : Cond.fieldLink own index own (T k).2.1 (T k).2.2.1 ∈ oz_TW) (hfin : (T k).2.2.2 = true) (hin2 : G.2.1.2.2.2.1.name = "<init>") (hn : narrow (ty0 k) (.ref a) = .ref a) (hfit : fits (ty0 k) (.ref a) = true) (hd : decode cc pc = .ok (.putfield index, 3)) (hq : pc + 3 = q) (kk : oz_KZ G cells slots q lv st (es.set i (.inr (ci, fs.set k (.ref a))))) : oz_KZ G cells slots pc lv (.ref a :: .ref (oz_b G + i) :: st) es := by
  subst hq
  intro H locs ls hP hsz hS hl
  intro T1 hT1 X1
  have h2 : W G.1.1 G.1.2.1 G.1.2.2.1 G.1.2.2.2.1 G.1.2.2.2.2 G.2.1.1 G.2.1.2.1 G.2.1.2.2.1 G.2.1.2.2.2.1 G.2.1.2.2.2.2 H locs cells slots G.2.2.1.2.2 (F0 G.2.1.1 pc ls (.ref a :: .ref (oz_b G + i) :: st)) := by
    obtain ⟨r0, h1, cell, q1, q2, q3, q4⟩ := hP i _ he
    have hr0 : r0 = (C, T, NN) := Option.some.inj (h1.symm.trans hc)
    subst hr0
    obtain ⟨hSl, hfc, kC, hkC, hkind⟩ := cx.2.1.1 ci _ hc
    obtain ⟨cf, kf, fi, f, hi, hsl⟩ := hSl k hk
    have hap := va_apart (own := own) cx.1.2.2.2.2 hin ty0 hty hnm cx.2.1 hc
    have hlay := cx.1.2.2.2.2 _ (hin _ (u_in_lay hk))
    unfold u_lay at hlay
    rw [if_pos hfin] at hlay
    have hst := (u_facts hfc hkC (u_lays cx.1.2.2.2.2 hin hk) hi).1
    have hcf : G.2.1.1.cls = cf := by
      obtain ⟨_, _, c', _, _, _, -, -, hf', -, -, -, hown2, -⟩ := Cond.laysFinal_spec hlay
      have e1 : c' = cf := by have := hi.symm.trans hf'; simp at this; exact this.1.symm
      rw [hr] at hown2
      rw [← e1]; exact Option.some.inj (cx.1.2.2.2.1.symm.trans hown2)
    have h6 := u_fits hfc hkC hkind (Or.inr hlay) hi (hty k hk) hn hfit
    refine W.putFinK cx.1.1 cx.1.2.1 cx.1.2.2.2.1 (cx.1.2.2.2.2 _ hlink) (by rw [← hr]; exact hi) hst hcf hin2 (by rw [q2]; exact h6) q1 q3 (by rw [hsl]; exact k2_hasslot (q4 k hk)) rfl rfl hd fun H' e1 e2 e3 => ?_
    rw [hsl] at e1
    refine kk H' _ ls (oz_CP.of ?_) (by rw [e2, hsz, List.length_set]) (hS.put e2 e3 (by show oz_b G ≤ oz_b G + i; omega)) hl
    rw [← oz_cw_set]
    exact hP.P.set (oz_cw_D _ _) (by rw [oz_cw_at, he]; rfl) ⟨_, hc, t_OB.to (V := updV (vp_V fs) k (.ref a)) ⟨_, e1, q2, q3, t_set q4 hap hk (.ref a)⟩ (fun j _ => vp_updV_set hkl (.ref a) j)⟩ e3
  exact h2 T1 hT1 X1
theorem ok_get (cx : oz_KC G cc own) {C ref : String} {T : u_T} {NN ci index : Nat} (i k : Nat) {fs : List Value} {v : Value} (he : es[i]? = some (.inr (ci, fs))) (hc : classes[ci]? = some (C, T, NN)) (hin : ∀ w ∈ u_ws C T NN, w ∈ oz_TW) (hk : k < NN) (hv : fs[k]? = some v) (hr : (T k).1 = ref) (hlink : Cond.fieldLink own index ref (T k).2.1 (T k).2.2.1 ∈ oz_TW) (hd : decode cc pc = .ok (.getfield index, 3)) (hq : pc + 3 = q) (kk : oz_KZ G cells slots q lv (v :: st) es) : oz_KZ G cells slots pc lv (.ref (oz_b G + i) :: st) es := by
  subst hq
  subst hr
  intro H locs ls hP hsz hS hl
  exact va_get cx.1.1 cx.1.2.1 cx.1.2.2.2.2 hin cx.1.2.2.2.1 cx.2.1 hP.P i (by rw [oz_cw_at, he]; rfl) hc k hk (cx.1.2.2.2.2 _ hlink) (fun _ h => h) hv hd (kk H locs ls hP hsz hS hl)
/-! contracts of constructors -/
def oz_QK (D : va_G) (b : Nat) (es2 : List va_E) : Array Value → State → Outcome → State → Prop := fun _ st oc t => oc = .returned none ∧ oz_CP D b es2 t.heap ∧ t.heap.size = b + es2.length ∧ va_F (fun q => b ≤ q) st t
def oz_PK (D : va_G) (cs : Nat → ClassId) (b : Nat) (av : List Value) (es : List va_E) : Array Value → State → Prop := va_Pc av (fun U => oz_CP D b es U.heap ∧ U.heap.size = b + es.length ∧ va_K D classes (oz_ty cs) U ∧ (∀ w ∈ oz_NW, va_Nw w U) ∧ (Cond.arrayOver (.array .int)).before #[] U = true)
def oz_rmK (k mc ms : Nat) : Room := { frames := k + 1, cells := mc, slots := ms, locals := 30 * (k + 1) }
def oz_MetK (l : Launch) (D : va_G) (cs : Nat → ClassId) (b : Nat) (y : MethodName) (cc : ByteArray) (nL k : Nat) (av : List Value) (es es2 : List va_E) (mc ms : Nat) : Prop :=
  Met l y (.code y cc nL none :: oz_TW) (oz_rmK k mc ms) (oz_PK D cs b av es) (oz_QK D b es2) mc ms (fun q => b ≤ q)
theorem oz_over {s U : State} (hW : s.vm.Alike U.vm) (h : (Cond.arrayOver (.array .int)).before #[] s = true) : (Cond.arrayOver (.array .int)).before #[] U = true := by
  have := Jvm.Cond.arrayOver_setVmC (args := #[]) hW (.array .int)
  rw [h] at this
  exact this
theorem oz_blindK (D : va_G) (cs : Nat → ClassId) (b : Nat) (av : List Value) (es : List va_E) : FrameBlind (oz_PK D cs b av es) := by
  intro a U g mk h
  obtain ⟨h1, h2, h3, h4, h5, h6⟩ := h
  exact ⟨h1, h2, h3, va_K.moved (u := U) (U := U.calling g mk a) (Vm.Alike.refl U.vm) h4, fun w hw => va_Nw.same (u := U) (U := U.calling g mk a) (oz_NW_tab w hw) rfl (h5 w hw), oz_over (s := U) (U := U.calling g mk a) (Vm.Alike.refl U.vm) h6⟩
theorem oz_enterK {l : Launch} {D : va_G} {cs : Nat → ClassId} {b : Nat} {y : MethodName} {cc : ByteArray} {nL k : Nat} {av : List Value} {es es2 : List va_E} {mc ms : Nat} (hy : plainName y.cls = true) (hyn : y.name = "<init>") (hlen : (lg_sl av).length ≤ nL)
    (body : ∀ G : oz_G, oz_KC G cc y.cls → G.2.1.2.2.2.1.sig.returnType = none → G.2.1.2.2.2.1.name = "<init>" → (G.2.2.1.2.2 = MQ G.2.1.2.2.1 (oz_QK (oz_D G) (oz_b G) es2) G.2.1.2.1 (oz_St G) mc ms (fun q => oz_b G ≤ q)) → l = G.1.2.1 → G.1.2.2.2.1 = oz_rmK k mc ms → D = oz_D G → cs = oz_cs G → b = oz_b G → oz_nL G = nL → oz_KZ G 0 0 0 (lv_args 0 av) [] es) : oz_MetK l D cs b y cc nL k av es es2 mc ms := by
  refine Met.ofW (cc := cc) (maxL := nL) (ret := none) hy rfl ?_
  intro p e s m args below meth c s₁ B hml hv
  obtain ⟨rfl, hP, hsz, hK, hN, hO⟩ := hv
  have hts := atoms_spec (ws := .code y cc nL none :: oz_TW) B.pre
  have h := body ((p, l, e, oz_rmK k mc ms, s), (m, av.toArray, below, meth, c), (0, 0, MQ below (oz_QK D b es2) av.toArray s mc ms (fun q => b ≤ q)), (D, cs, b), nL)
    ⟨⟨B.exec, B.bytes, hml, findClass_of_methodNamed B.named, fun w hw => hts w (List.mem_cons_of_mem _ hw)⟩, hK, B.notSynchronized, hN, hO, by show b ≤ s.heap.size; omega⟩ B.returns ((name_of_methodNamed B.named B.method).1.trans hyn) rfl rfl rfl rfl rfl rfl rfl s.heap [] _ hP hsz va_S.rf (lv_entry av hlen)
  rw [lg_entry_eq]
  exact h
theorem ok_ret (cx : oz_KC G cc own) {mc ms : Nat} {es2 : List va_E} (hr : G.2.1.2.2.2.1.sig.returnType = none) (hQ : G.2.2.1.2.2 = MQ G.2.1.2.2.1 (oz_QK (oz_D G) (oz_b G) es2) G.2.1.2.1 (oz_St G) mc ms (fun q => oz_b G ≤ q)) (hc : cells = mc) (hs : slots = ms) (he : es = es2) (hd : decode cc pc = .ok (.return_, 1)) : oz_KZ G cells slots pc lv [] es := by
  subst hc; subst hs; subst he
  intro H locs ls hP hsz hS hl
  rw [hQ]
  exact W.vret cx.1.1 cx.1.2.1 hr (fun t ht _ => ⟨rfl, by rw [ht]; exact hP, by rw [ht]; exact hsz, hS.F ht⟩) hS.2.2 hd cx.2.2.1
theorem ok_back {av : Array Value} {es2 : List va_E} {mc ms : Nat} {st0 rest : List Value} (hr : ∀ (H : Heap) (locs : List Loc) (ls : Array Slot), oz_CP (oz_D G) (oz_b G) es H → H.size = oz_b G + es.length → va_S (fun q => oz_b G ≤ q) (oz_St G).heap H locs → lv_has ls (oz_nL G) lv → va_Run G.1.1 G.1.2.1 G.1.2.2.1 G.1.2.2.2.1 G.1.2.2.2.2 G.2.1.1 G.2.1.2.1 G.2.1.2.2.1 G.2.1.2.2.2.1 G.2.1.2.2.2.2 H locs cells slots mc ms (F0 G.2.1.1 pc ls st0) rest (oz_QK (oz_D G) (oz_b G) es2 av) (fun q => oz_b G ≤ q))
    (k : oz_KZ G (cells + mc) (slots + ms) (pc + 3) lv rest es2) : oz_KZ G cells slots pc lv st0 es := by
  intro H locs ls hP hsz hS hl T hT X
  obtain ⟨v', st₀, t, T', L, h0, X', hL, e1, e2, ⟨hv, hP2, hsz2, hz, hk⟩, st⟩ := hr H locs ls hP hsz hS hl T hT X
  cases hv
  rw [h0] at hz hk
  obtain ⟨t2, a1, b1⟩ := k T'.heap (locs ++ L) ls (by rw [e1]; exact hP2) (by rw [e1]; exact hsz2)
    ⟨Nat.le_trans hS.1 (by rw [e1]; exact hz), fun q h1 h2 => by rw [e1, hk q (Nat.lt_of_lt_of_le h1 hS.1) h2]; exact hS.2.1 q h1 h2, fun q hq => by
      rcases List.mem_append.mp hq with h | h
      · exact hS.2.2 q h
      · exact hL q h⟩ hl T' rfl X'
  exact ⟨t2, st t2 a1, b1⟩
theorem oz_preK (cx : oz_KC G cc own) {av : List Value} {H : Heap} (hP : oz_CP (oz_D G) (oz_b G) es H) (hsz : H.size = oz_b G + es.length) : ∀ U : State, U.heap = H → (oz_St G).WarmedH U.vm → oz_PK (oz_D G) (oz_cs G) (oz_b G) av es av.toArray U :=
  fun U hU hW => ⟨rfl, by rw [hU]; exact hP, by rw [hU]; exact hsz, va_K.moved hW.alike cx.2.1, fun w hw => oz_NW_warm w hw hW (cx.2.2.2.1 w hw), oz_over hW.alike cx.2.2.2.2.1⟩
theorem ok_init (cx : oz_KC G cc own) {es2 : List va_E} {mc ms kc index : Nat} {y : MethodName} {bytes : ByteArray} {maxL : Nat} {st0 : List Value} (a : Nat) (As : List Value) (n : Nat) (hM : oz_MetK G.1.2.1 (oz_D G) (oz_cs G) (oz_b G) y bytes maxL kc (.ref a :: As) es es2 mc ms) (hw : Cond.methodLink own index y ∈ oz_TW ∧ Cond.instanceMethod y ∈ oz_TW ∧ Cond.initialized y.cls ∈ oz_TW) (hc : Cond.code y bytes maxL none ∈ oz_TW) (hyn : y.name = "<init>") (hy : y.cls ≠ "java/lang/invoke/MethodHandle" ∧ y.cls ≠ "java/lang/invoke/VarHandle" ∧ (parseMethodDescriptor y.desc).map (fun d => d.parameters.length) = some n) (hn : As.length = n) (hR : kc + 2 ≤ G.1.2.2.2.1.frames ∧ 8 + (maxL + 11) + 30 * (kc + 1) ≤ G.1.2.2.2.1.locals) (hcs : cells + mc ≤ G.1.2.2.2.1.cells ∧ slots + ms ≤ G.1.2.2.2.1.slots) (hst : st0 = As.reverse ++ .ref a :: st) (hsm : (st.map fun v => v.category).sum ≤ 8) (hd : decode cc pc = .ok (.invokespecial index, 3)) (hq : pc + 3 = q)
    (kk : oz_KZ G (cells + mc) (slots + ms) q lv st es2) : oz_KZ G cells slots pc lv st0 es := by
  subst hq
  refine ok_back (av := (Value.ref a :: As).toArray) (fun H locs ls hP hsz hS hl => ?_) kk
  exact va_runI (As := As) (rest := st) (b := a) cx.1 hM (cwI n cx.1.2.2.2.2 (oz_goodC hc) rfl rfl rfl (cx.1.2.2.2.2 _ hw.2.2) (cx.1.2.2.2.2 _ hw.1) (cx.1.2.2.2.2 _ hw.2.1) hyn hy hR) ⟨oz_blindK _ _ _ _ _, oz_preK cx hP hsz⟩ rfl hn hl.1 hst (lv_room hsm) hd hcs
theorem ok_initN (cx : oz_KC G cc own) {es2 : List va_E} {mc ms kc index : Nat} {host : String} {y : MethodName} {bytes : ByteArray} {maxL : Nat} {st0 : List Value} (a : Nat) (As : List Value) (n : Nat) (hM : oz_MetK G.1.2.1 (oz_D G) (oz_cs G) (oz_b G) y bytes maxL kc (.ref a :: As) es es2 mc ms) (hw : Cond.methodLinkNest own index y host ∈ oz_NW) (hw2 : Cond.instanceMethod y ∈ oz_TW ∧ Cond.initialized y.cls ∈ oz_TW) (hc : Cond.code y bytes maxL none ∈ oz_TW) (hyn : y.name = "<init>") (hy : y.cls ≠ "java/lang/invoke/MethodHandle" ∧ y.cls ≠ "java/lang/invoke/VarHandle" ∧ (parseMethodDescriptor y.desc).map (fun d => d.parameters.length) = some n) (hn : As.length = n) (hR : kc + 2 ≤ G.1.2.2.2.1.frames ∧ 8 + (maxL + 11) + 30 * (kc + 1) ≤ G.1.2.2.2.1.locals) (hcs : cells + mc ≤ G.1.2.2.2.1.cells ∧ slots + ms ≤ G.1.2.2.2.1.slots) (hst : st0 = As.reverse ++ .ref a :: st) (hsm : (st.map fun v => v.category).sum ≤ 8) (hd : decode cc pc = .ok (.invokespecial index, 3)) (hq : pc + 3 = q)
    (kk : oz_KZ G (cells + mc) (slots + ms) q lv st es2) : oz_KZ G cells slots pc lv st0 es := by
  subst hq
  refine ok_back (av := (Value.ref a :: As).toArray) (fun H locs ls hP hsz hS hl => ?_) kk
  exact va_runIN (host := host) (As := As) (rest := st) (b := a) cx.1 hM ⟨va_cnB n cx.1.2.2.2.2 (oz_goodC hc) rfl rfl rfl (cx.2.2.2.1 _ hw) (cx.1.2.2.2.2 _ hw2.2) hy hR, hyn, cx.1.2.2.2.2 _ hw2.1⟩ ⟨oz_blindK _ _ _ _ _, oz_preK cx hP hsz⟩ rfl hn hl.1 hst (lv_room hsm) hd hcs
end OZK
