/-- the i-th cell that the law makes, by its contents -/
def oz_E (cs : Nat → ClassId) (b : Nat) (i : Nat) (f : Nat → Int32) (g : Nat → Int64) : va_E := match i with
  | 0 => .inr (0, [.ref (b + 1), .ref (b + 3), .ref (b + 6), .ref (b + 14), .ref (b + 45), .ref (b + 53), .ref (b + 56), .int (f 7)])
  | 1 => .inr (1, [.int (f 0), .ref (b + 2)])
  | 2 => .inl (cs 0, 14, .inl f)
  | 3 => .inr (2, [.int (f 0), .ref (b + 4), .ref (b + 5)])
  | 4 => .inl (cs 0, 14, .inl f)
  | 5 => .inl (cs 0, 15, .inl f)
  | 6 => .inr (3, [.int (f 0), .ref (b + 7), .ref (b + 8), .ref (b + 9), .ref (b + 10), .ref (b + 11), .ref (b + 12), .ref (b + 13)])
  | 7 => .inl (cs 0, 14, .inl f)
  | 8 => .inl (cs 0, 14, .inl f)
  | 9 => .inl (cs 0, 14, .inl f)
  | 10 => .inl (cs 0, 14, .inl f)
  | 11 => .inl (cs 0, 14, .inl f)
  | 12 => .inl (cs 0, 14, .inl f)
  | 13 => .inl (cs 0, 14, .inl f)
  | 14 => .inr (4, [.ref (b + 6), .ref (b + 15), .ref (b + 30)])
  | 15 => .inl (cs 4, 14, .inr (.inr (.inr (.inr (fun j => some (b + (16 + j)))))))
  | 16 => .inl (cs 0, 14, .inl f)
  | 17 => .inl (cs 0, 14, .inl f)
  | 18 => .inl (cs 0, 14, .inl f)
  | 19 => .inl (cs 0, 14, .inl f)
  | 20 => .inl (cs 0, 14, .inl f)
  | 21 => .inl (cs 0, 14, .inl f)
  | 22 => .inl (cs 0, 14, .inl f)
  | 23 => .inl (cs 0, 14, .inl f)
  | 24 => .inl (cs 0, 14, .inl f)
  | 25 => .inl (cs 0, 14, .inl f)
  | 26 => .inl (cs 0, 14, .inl f)
  | 27 => .inl (cs 0, 14, .inl f)
  | 28 => .inl (cs 0, 14, .inl f)
  | 29 => .inl (cs 0, 14, .inl f)
  | 30 => .inl (cs 4, 14, .inr (.inr (.inr (.inr (fun j => some (b + (31 + j)))))))
  | 31 => .inl (cs 0, 14, .inl f)
  | 32 => .inl (cs 0, 14, .inl f)
  | 33 => .inl (cs 0, 14, .inl f)
  | 34 => .inl (cs 0, 14, .inl f)
  | 35 => .inl (cs 0, 14, .inl f)
  | 36 => .inl (cs 0, 14, .inl f)
  | 37 => .inl (cs 0, 14, .inl f)
  | 38 => .inl (cs 0, 14, .inl f)
  | 39 => .inl (cs 0, 14, .inl f)
  | 40 => .inl (cs 0, 14, .inl f)
  | 41 => .inl (cs 0, 14, .inl f)
  | 42 => .inl (cs 0, 14, .inl f)
  | 43 => .inl (cs 0, 14, .inl f)
  | 44 => .inl (cs 0, 14, .inl f)
  | 45 => .inr (5, [.int (f 0), .ref (b + 46), .ref (b + 49), .int (f 3), .int (f 4), .int (f 5), .ref (b + 6), .ref (b + 52)])
  | 46 => .inl (cs 4, 2, .inr (.inr (.inr (.inr (fun j => some (b + (47 + j)))))))
  | 47 => .inl (cs 0, 15, .inl f)
  | 48 => .inl (cs 0, 15, .inl f)
  | 49 => .inl (cs 4, 2, .inr (.inr (.inr (.inr (fun j => some (b + (50 + j)))))))
  | 50 => .inl (cs 0, 15, .inl f)
  | 51 => .inl (cs 0, 15, .inl f)
  | 52 => .inl (cs 1, 16384, .inl f)
  | 53 => .inr (6, [.int (f 0), .int (f 1), .ref (b + 54), .ref (b + 6), .ref (b + 55)])
  | 54 => .inl (cs 0, 14, .inl f)
  | 55 => .inl (cs 2, 16384, .inr (.inl g))
  | 56 => .inr (7, [.ref (b + 6), .ref (b + 57), .int (f 2), .ref (b + 58), .ref (b + 59), .ref (b + 60), .ref (b + 61)])
  | 57 => .inl (cs 0, 14, .inl f)
  | 58 => .inl (cs 0, 14, .inl f)
  | 59 => .inl (cs 0, 14, .inl f)
  | 60 => .inl (cs 0, 14, .inl f)
  | 61 => .inl (cs 0, 15, .inl f)
  | 62 => .inr (8, [.int (f 0), .int (f 1), .int (f 2), .ref (b + 63), .ref (b + 64), .ref (b + 65), .int (f 6), .ref (b + 66), .ref (b + 67), .ref (b + 68), .int (f 10), .ref (b + 69), .int (f 12), .ref (b + 70), .ref (b + 71), .ref (b + 72), .ref (b + 73)])
  | 63 => .inl (cs 3, 196, .inl f)
  | 64 => .inl (cs 3, 196, .inl f)
  | 65 => .inl (cs 0, 14, .inl f)
  | 66 => .inl (cs 1, 16384, .inl f)
  | 67 => .inl (cs 1, 16384, .inl f)
  | 68 => .inl (cs 2, 16384, .inr (.inl g))
  | 69 => .inl (cs 0, 14, .inl f)
  | 70 => .inl (cs 0, 15, .inl f)
  | 71 => .inl (cs 0, 14, .inl f)
  | 72 => .inl (cs 3, 14, .inl f)
  | 73 => .inl (cs 0, 14, .inl f)
  | 74 => .inl (cs 2, 1, .inr (.inl g))
  | _ => .inl (cs 0, 0, .inl f)
def oz_N : Nat := 75
theorem oz_g15l {j : Nat} (h : j < 14) : 16 + j < oz_N := by
  unfold oz_N
  omega
theorem oz_g15 {cs : Nat → ClassId} {b : Nat} {f : Nat → Int32} {g : Nat → Int64} {j : Nat} (h : j < 14) : oz_E cs b (16 + j) f g = .inl (cs 0, 14, .inl f) := by
  match j, h with
  | 0, _ => rfl
  | 1, _ => rfl
  | 2, _ => rfl
  | 3, _ => rfl
  | 4, _ => rfl
  | 5, _ => rfl
  | 6, _ => rfl
  | 7, _ => rfl
  | 8, _ => rfl
  | 9, _ => rfl
  | 10, _ => rfl
  | 11, _ => rfl
  | 12, _ => rfl
  | 13, _ => rfl
  | j + 14, h => exact absurd h (by omega)
theorem oz_g30l {j : Nat} (h : j < 14) : 31 + j < oz_N := by
  unfold oz_N
  omega
theorem oz_g30 {cs : Nat → ClassId} {b : Nat} {f : Nat → Int32} {g : Nat → Int64} {j : Nat} (h : j < 14) : oz_E cs b (31 + j) f g = .inl (cs 0, 14, .inl f) := by
  match j, h with
  | 0, _ => rfl
  | 1, _ => rfl
  | 2, _ => rfl
  | 3, _ => rfl
  | 4, _ => rfl
  | 5, _ => rfl
  | 6, _ => rfl
  | 7, _ => rfl
  | 8, _ => rfl
  | 9, _ => rfl
  | 10, _ => rfl
  | 11, _ => rfl
  | 12, _ => rfl
  | 13, _ => rfl
  | j + 14, h => exact absurd h (by omega)
theorem oz_g46l {j : Nat} (h : j < 2) : 47 + j < oz_N := by
  unfold oz_N
  omega
theorem oz_g46 {cs : Nat → ClassId} {b : Nat} {f : Nat → Int32} {g : Nat → Int64} {j : Nat} (h : j < 2) : oz_E cs b (47 + j) f g = .inl (cs 0, 15, .inl f) := by
  match j, h with
  | 0, _ => rfl
  | 1, _ => rfl
  | j + 2, h => exact absurd h (by omega)
theorem oz_g49l {j : Nat} (h : j < 2) : 50 + j < oz_N := by
  unfold oz_N
  omega
theorem oz_g49 {cs : Nat → ClassId} {b : Nat} {f : Nat → Int32} {g : Nat → Int64} {j : Nat} (h : j < 2) : oz_E cs b (50 + j) f g = .inl (cs 0, 15, .inl f) := by
  match j, h with
  | 0, _ => rfl
  | 1, _ => rfl
  | j + 2, h => exact absurd h (by omega)
/-! My layer. A memory M: row i is the contents of the i-th cell that the law makes (ints, longs); references stand fixed.
oz_Z: the machine, from the frame at pc with locals lv, stack st and a heap that holds M, comes to Q. oz_R: the same once the pure program o has answered x and K x holds behind it. -/
abbrev oz_M : Type := (Nat → Nat → Int32) × (Nat → Nat → Int64)
def oz_s (M : oz_M) (i k : Nat) (v : Int32) : oz_M := (fun j => if j = i then upd (M.1 i) k v else M.1 j, M.2)
def oz_l (M : oz_M) (i k : Nat) (v : Int64) : oz_M := (M.1, fun j => if j = i then vp_updL (M.2 i) k v else M.2 j)
/-- a place of an array of n -/
def oz_in (i : Int32) (n : Nat) : Option Nat := if i < 0 ∨ n ≤ i.toNatClampNeg then none else some i.toNatClampNeg
theorem oz_in_some {i : Int32} {n j : Nat} (h : oz_in i n = some j) : vp_in i n ∧ i.toNatClampNeg = j := by
  unfold oz_in at h
  split at h
  · cases h
  · rename_i hn
    exact ⟨hn, Option.some.inj h⟩
theorem oz_in_nI {n j : Nat} (h : j < n) (hn : n < 2 ^ 31) : oz_in (nI j) n = some j := by
  unfold oz_in
  rw [if_neg (vp_in_nI h hn), nI_clamp (by omega)]
/-- a loop: f says where it goes on, or that it ends with y; n rounds at most -/
def oz_it {S Y : Type} (f : S → Option (S ⊕ Y)) : Nat → S → Option Y
  | 0, _ => none
  | n + 1, s => match f s with
    | none => none
    | some (.inl s') => oz_it f n s'
    | some (.inr y) => some y
theorem oz_it_more {S Y : Type} {f : S → Option (S ⊕ Y)} : ∀ (n : Nat) (s : S) (y : Y), oz_it f n s = some y → ∀ m, n ≤ m → oz_it f m s = some y := by
  intro n
  induction n with
  | zero => intro s y h; cases h
  | succ n ih =>
    intro s y h m hm
    obtain ⟨k, rfl⟩ : ∃ k, m = k + 1 := ⟨m - 1, by omega⟩
    simp only [oz_it] at h ⊢
    cases hf : f s with
    | none => rw [hf] at h; cases h
    | some z =>
      rw [hf] at h
      cases z with
      | inl s' => exact ih s' y h k (by omega)
      | inr y' => exact h
noncomputable def oz_lp {S Y : Type} (f : S → Option (S ⊕ Y)) (s : S) : Option Y := match Classical.propDecidable (∃ y n, oz_it f n s = some y) with
  | .isTrue h => some h.choose
  | .isFalse _ => none
theorem oz_lp_it {S Y : Type} {f : S → Option (S ⊕ Y)} {s : S} {y : Y} : oz_lp f s = some y ↔ ∃ n, oz_it f n s = some y := by
  unfold oz_lp
  cases Classical.propDecidable (∃ y n, oz_it f n s = some y) with
  | isFalse h => exact ⟨fun q => (by cases q), fun ⟨n, q⟩ => absurd ⟨y, n, q⟩ h⟩
  | isTrue h =>
    obtain ⟨n, hn⟩ := h.choose_spec
    refine ⟨fun q => ⟨n, ?_⟩, fun ⟨k, hk⟩ => ?_⟩
    · rw [hn]; exact q
    · have a := oz_it_more _ _ _ hn (n + k) (by omega)
      have b := oz_it_more _ _ _ hk (n + k) (by omega)
      show some h.choose = some y
      rw [← a, b]
theorem oz_lp_eq {S Y : Type} (f : S → Option (S ⊕ Y)) (s : S) : oz_lp f s = match f s with
    | none => none
    | some (.inl s') => oz_lp f s'
    | some (.inr y) => some y := by
  have key : ∀ y, oz_lp f s = some y ↔ (match f s with
    | none => none
    | some (.inl s') => oz_lp f s'
    | some (.inr y) => some y) = some y := by
    intro y
    rw [oz_lp_it]
    cases hf : f s with
    | none => exact ⟨fun ⟨n, q⟩ => by cases n <;> simp [oz_it, hf] at q, fun q => (by cases q)⟩
    | some z =>
      cases z with
      | inl s' =>
        show _ ↔ oz_lp f s' = some y
        rw [oz_lp_it]
        exact ⟨fun ⟨n, q⟩ => by
          cases n with
          | zero => cases q
          | succ n => exact ⟨n, by simpa [oz_it, hf] using q⟩, fun ⟨n, q⟩ => ⟨n + 1, by simpa [oz_it, hf] using q⟩⟩
      | inr y' => exact ⟨fun ⟨n, q⟩ => by cases n <;> simp [oz_it, hf] at q; exact congrArg some q, fun q => ⟨1, by simpa [oz_it, hf] using q⟩⟩
  cases h1 : oz_lp f s with
  | some y => exact ((key y).mp h1).symm
  | none =>
    cases h2 : (match f s with
    | none => none
    | some (.inl s') => oz_lp f s'
    | some (.inr y) => some y) with
    | none => rfl
    | some y => exact absurd (h1.symm.trans ((key y).mpr h2)) (by simp)
/-! the world: N cells from b on, the i-th with what oz_E says -/
abbrev oz_ty (cs : Nat → ClassId) : List (ClassId × FieldType) := [(cs 0, .int), (cs 1, .byte), (cs 2, .long), (cs 3, .boolean), (cs 4, .array .int)]
def oz_w (cs : Nat → ClassId) (b : Nat) (M : oz_M) : va_W := (List.range oz_N).map fun i => (b + i, oz_E cs b i (M.1 i) (M.2 i))
theorem oz_w_at {cs : Nat → ClassId} {b : Nat} {M : oz_M} {i : Nat} (h : i < oz_N) : (oz_w cs b M)[i]? = some (b + i, oz_E cs b i (M.1 i) (M.2 i)) := by
  simp [oz_w, h]
theorem oz_w_len {cs : Nat → ClassId} {b : Nat} {M : oz_M} : (oz_w cs b M).length = oz_N := by simp [oz_w]
theorem oz_w_D (cs : Nat → ClassId) (b : Nat) (M : oz_M) : va_D (fun q => b ≤ q) (oz_w cs b M) := by
  have key : ∀ (k : Nat) (q : Nat × va_E), (oz_w cs b M)[k]? = some q → q.1 = b + k := by
    intro k q hk
    have hl := (List.getElem?_eq_some_iff.mp hk).1
    rw [oz_w_len] at hl
    rw [oz_w_at hl] at hk
    exact (congrArg Prod.fst (Option.some.inj hk)).symm
  refine ⟨fun i j x y hi hj hxy => ?_, fun k q hk => ?_⟩
  · have h1 := key i x hi
    have h2 := key j y hj
    omega
  · have h1 := key k q hk
    show b ≤ q.1
    omega
theorem oz_w_set {cs : Nat → ClassId} {b : Nat} {M M' : oz_M} {i : Nat} {x : va_E} (hi : oz_E cs b i (M'.1 i) (M'.2 i) = x) (ho : ∀ j, j ≠ i → M'.1 j = M.1 j ∧ M'.2 j = M.2 j) : (oz_w cs b M).set i (b + i, x) = oz_w cs b M' := by
  apply List.ext_getElem?
  intro j
  by_cases hl : j < oz_N
  · by_cases hj : j = i
    · subst hj
      rw [List.getElem?_set_self (by rw [oz_w_len]; exact hl), oz_w_at hl, hi]
    · rw [List.getElem?_set_ne (Ne.symm hj), oz_w_at hl, oz_w_at hl, (ho j hj).1, (ho j hj).2]
  · rw [List.getElem?_eq_none (by rw [List.length_set, oz_w_len]; omega), List.getElem?_eq_none (by rw [oz_w_len]; omega)]
theorem oz_s_i {M : oz_M} {i k : Nat} {v : Int32} : (oz_s M i k v).1 i = upd (M.1 i) k v := by simp [oz_s]
theorem oz_s_o {M : oz_M} {i k : Nat} {v : Int32} : ∀ j, j ≠ i → (oz_s M i k v).1 j = M.1 j ∧ (oz_s M i k v).2 j = M.2 j := fun j h => by simp [oz_s, h]
theorem oz_s_l {M : oz_M} {i k : Nat} {v : Int32} : (oz_s M i k v).2 = M.2 := rfl
theorem oz_l_i {M : oz_M} {i k : Nat} {v : Int64} : (oz_l M i k v).2 i = vp_updL (M.2 i) k v := by simp [oz_l]
theorem oz_l_o {M : oz_M} {i k : Nat} {v : Int64} : ∀ j, j ≠ i → (oz_l M i k v).1 j = M.1 j ∧ (oz_l M i k v).2 j = M.2 j := fun j h => by simp [oz_l, h]
/-! what a throw needs of the state: words on tables, String constants, two statics of Throwable -/
def oz_exc (k : Nat) : String := match k with
  | 0 => "java/lang/IllegalStateException"
  | 1 => "java/lang/IndexOutOfBoundsException"
  | _ => "java/lang/IllegalArgumentException"
def oz_ic (k : Nat) : Nat := match k with
  | 0 => 229
  | 1 => 234
  | _ => 64
abbrev oz_chain : List String := ["java/lang/RuntimeException", "java/lang/Exception"]
def oz_own (k : Nat) : List Cond := Jvm.Bundle.ownAtoms "OrderHall" (oz_ic k) (oz_exc k) oz_chain
def oz_FW : List Cond := (oz_own 0 ++ (oz_own 1 ++ oz_own 2)).filter Cond.onTables
def oz_NC : List Cond := [.not (.castable "java/lang/IndexOutOfBoundsException" "java/lang/IllegalStateException"), .not (.castable "java/lang/IllegalArgumentException" "java/lang/IllegalStateException"), .not (.castable "java/lang/IllegalArgumentException" "java/lang/IndexOutOfBoundsException")]
def oz_SR : List (Nat × String) := [(62, "the elements are 1 to 14"), (169, "there is no sequence with this number"), (212, "not a set of one or more of the elements"), (227, "the order is not settled"), (232, "there is no such element"), (235, "not one of the numbers that have a meaning here")]
abbrev oz_steD : String := "[Ljava/lang/StackTraceElement;"
abbrev oz_listD : String := "Ljava/util/List;"
abbrev oz_tN : String := "java/lang/Throwable"
def oz_Sf (n d : String) (b : Nat) (U : State) : Prop := ∃ (u : Value) (c i a : Nat) (k : Class) (f : Field) (cell : Cell), u.isRef = true ∧ U.vm.findClass oz_tN = some c ∧ U.fieldFound? oz_tN n d = some (c, k, i, f) ∧ f.isStatic = true ∧ k.statics = some a ∧ U.heap[a]? = some cell ∧ cell.vm.isStatics = true ∧ cell.cls = c ∧ f.slot < cell.slots.size ∧ k.staticTypes[f.slot]? = some f.type ∧ cell.slots[f.slot]? = some u ∧ ¬ b ≤ a
theorem oz_Sf.to {n d : String} {b : Nat} {s U : State} (h : oz_Sf n d b s) (hal : s.vm.Alike U.vm) (hh : ∀ q, q < s.heap.size → ¬ b ≤ q → U.heap[q]? = s.heap[q]?) : oz_Sf n d b U := by
  obtain ⟨u, c, i, a, k, f, cell, h1, h2, h3, h4, h5, h6, h7, h8, h9, h10, h11, h12⟩ := h
  obtain ⟨k', hi', he⟩ := State.fieldFound?_setVm hal h3
  exact ⟨u, c, i, a, k', f, cell, h1, by rw [hal.findClass]; exact h2, hi', h4, by rw [he]; exact h5, by rw [hh a (Array.getElem?_eq_some_iff.mp h6).1 h12]; exact h6, h7, h8, h9, by rw [he]; exact h10, h11, h12⟩
def oz_Ex (b : Nat) (U : State) : Prop := (∀ w ∈ oz_FW, va_Nw w U) ∧ (∀ w ∈ oz_NC, va_Nw w U) ∧ (∀ kt ∈ oz_SR, ∃ a, vk_R "OrderHall" kt.1 kt.2 a U) ∧ oz_Sf "UNASSIGNED_STACK" oz_steD b U ∧ oz_Sf "SUPPRESSED_SENTINEL" oz_listD b U
theorem oz_FW_face : ∀ w ∈ oz_FW, w.onTables = true ∧ w.keepsFace = true := by
  intro w hw
  obtain ⟨h1, h2⟩ := List.mem_filter.mp hw
  refine ⟨h2, ?_⟩
  rcases List.mem_append.mp h1 with h | h
  · exact Jvm.Bundle.ownAtoms_keepsFace w h
  · rcases List.mem_append.mp h with h | h
    · exact Jvm.Bundle.ownAtoms_keepsFace w h
    · exact Jvm.Bundle.ownAtoms_keepsFace w h
theorem oz_FW_warm {s U : State} {w : Cond} (hw : w ∈ oz_FW) (hW : s.WarmedH U.vm) (h : va_Nw w s) : va_Nw w U := by
  obtain ⟨h1, h2⟩ := oz_FW_face w hw
  exact va_tabs h1 (rfl : (s.setVm U.vm).vm = U.vm) (Cond.before_shiftedFace (args := #[]) (State.Shifted.of_warmed hW) w h2 h)
theorem oz_NC_to {s U : State} {w : Cond} (hw : w ∈ oz_NC) (hal : s.vm.Alike U.vm) (h : va_Nw w s) : va_Nw w U := by
  simp only [oz_NC, List.mem_cons, List.not_mem_nil, or_false] at hw
  rcases hw with rfl | rfl | rfl <;> exact (Cond.castAtom_setVm (args := #[]) hal _ rfl h)
theorem oz_Ex.to {b : Nat} {s U : State} (h : oz_Ex b s) (hW : s.WarmedH U.vm) (hh : ∀ q, q < s.heap.size → ¬ b ≤ q → U.heap[q]? = s.heap[q]?) : oz_Ex b U := by
  obtain ⟨h1, h2, h3, z1, z2⟩ := h
  exact ⟨fun w hw => oz_FW_warm hw hW (h1 w hw), fun w hw => oz_NC_to hw hW.alike (h2 w hw), fun kt hkt => (h3 kt hkt).elim fun a ha => ⟨a, vk_R.warm hW ha⟩, z1.to hW.alike hh, z2.to hW.alike hh⟩
theorem oz_Ex.same {b : Nat} {u U : State} (h : oz_Ex b u) (hv : U.vm = u.vm) (hh : U.heap = u.heap) : oz_Ex b U := by
  obtain ⟨h1, h2, h3, z1, z2⟩ := h
  have hal : u.vm.Alike U.vm := by rw [hv]; exact Vm.Alike.refl u.vm
  exact ⟨fun w hw => va_Nw.same (oz_FW_face w hw).1 hv.symm (h1 w hw), fun w hw => oz_NC_to hw hal (h2 w hw), fun kt hkt => (h3 kt hkt).elim fun a ha => ⟨a, vk_R.same hv ha⟩, z1.to hal (fun _ _ _ => by rw [hh]), z2.to hal (fun _ _ _ => by rw [hh])⟩
/-- what stays fixed on a walk: machine and start; method; room used so far and goal; world; number of locals -/
abbrev oz_G := (Program × Launch × Env × Room × State) × (MethodId × Array Value × List Frame × Method × Code) × (Nat × Nat × (State → Prop)) × (va_G × (Nat → ClassId) × Nat) × Nat
abbrev oz_D (G : oz_G) : va_G := G.2.2.2.1.1
abbrev oz_cs (G : oz_G) : Nat → ClassId := G.2.2.2.1.2.1
abbrev oz_b (G : oz_G) : Nat := G.2.2.2.1.2.2
abbrev oz_nL (G : oz_G) : Nat := G.2.2.2.2
abbrev oz_St (G : oz_G) : State := G.1.2.2.2.2
def oz_W (G : oz_G) (H : Heap) (locs : List Loc) (g : JFrame) : Prop := W G.1.1 G.1.2.1 G.1.2.2.1 G.1.2.2.2.1 G.1.2.2.2.2 G.2.1.1 G.2.1.2.1 G.2.1.2.2.1 G.2.1.2.2.2.1 G.2.1.2.2.2.2 H locs G.2.2.1.1 G.2.2.1.2.1 G.2.2.1.2.2 g
def oz_Z (G : oz_G) (pc : Nat) (lv : List (Nat × Value)) (st : List Value) (M : oz_M) : Prop :=
  ∀ (H : Heap) (locs : List Loc) (ls : Array Slot), va_P (oz_D G) classes (oz_w (oz_cs G) (oz_b G) M) H → va_S (fun q => oz_b G ≤ q) (oz_St G).heap H locs → lv_has ls (oz_nL G) lv → oz_W G H locs (F0 G.2.1.1 pc ls st)
def oz_R {X : Type} (G : oz_G) (pc : Nat) (lv : List (Nat × Value)) (st : List Value) (M : oz_M) (o : Option X) (K : X → Prop) : Prop := ∀ x, o = some x → K x → oz_Z G pc lv st M
/-- what is known on a walk -/
def oz_C (G : oz_G) (cc : ByteArray) (own : String) : Prop :=
  CallFix G.1.1 G.2.1.1 G.2.1.2.2.2.2 cc (oz_nL G) (oz_St G) G.2.1.2.1 oz_TW own ∧ va_K (oz_D G) classes (oz_ty (oz_cs G)) (oz_St G) ∧ G.2.1.2.2.2.1.locks = false ∧ (∀ w ∈ oz_NW, va_Nw w (oz_St G)) ∧ G.2.2.1.1 ≤ G.1.2.2.2.1.cells ∧ G.2.2.1.2.1 ≤ G.1.2.2.2.1.slots ∧ oz_Ex (oz_b G) (oz_St G)
section OZR
variable {G : oz_G} {cc : ByteArray} {own : String} {X : Type} {pc q : Nat} {lv : List (Nat × Value)} {st : List Value} {M : oz_M} {o : Option X} {K : X → Prop}
theorem oz_lift {st2 : List Value} (h : ∀ (H : Heap) (locs : List Loc) (ls : Array Slot), lv_has ls (oz_nL G) lv → oz_W G H locs (F0 G.2.1.1 q ls st2) → oz_W G H locs (F0 G.2.1.1 pc ls st)) (k : oz_R G q lv st2 M o K) : oz_R G pc lv st M o K :=
  fun x hx hK H locs ls hP hS hl => h H locs ls hl (k x hx hK H locs ls hP hS hl)
/-- leaf: the machine stands where K says -/
theorem oz_leaf {x : X} (h : K x → oz_Z G pc lv st M) : oz_R G pc lv st M (some x) K := fun y hy hK => h (by cases hy; exact hK)
/-- where branches meet again, and behind a loop -/
theorem oz_seq {Y : Type} {a : Option Y} {f : Y → Option X} {p2 : Nat} {lv2 : Y → List (Nat × Value)} {st2 : Y → List Value} {M2 : Y → oz_M} (h1 : oz_R G pc lv st M a (fun y => oz_Z G p2 (lv2 y) (st2 y) (M2 y))) (h2 : ∀ y, oz_R G p2 (lv2 y) (st2 y) (M2 y) (f y) K) : oz_R G pc lv st M (a.bind f) K := by
  intro x hx hK
  cases ha : a with
  | none => rw [ha] at hx; cases hx
  | some y => rw [ha] at hx; exact h1 y ha (h2 y x hx hK)
def oz_el {A B C : Type _} (f : A → C) (g : B → C) : A ⊕ B → C
  | .inl a => f a
  | .inr b => g b
def oz_b2 {V : Type} (a : Option (V × oz_M)) (f : V → oz_M → Option X) : Option X := a.bind fun w => f w.1 w.2
theorem oz_seqE {Y Z : Type} {a : Option (Y ⊕ Z)} {f : Y → Option X} {g : Z → Option X} {p2 : Nat} {lv2 : Y → List (Nat × Value)} {M2 : Y → oz_M} (Kr : Z → Prop) (h1 : oz_R G pc lv st M a (oz_el (fun y => oz_Z G p2 (lv2 y) [] (M2 y)) Kr)) (h2 : ∀ y, oz_R G p2 (lv2 y) [] (M2 y) (f y) K) (h3 : ∀ z x, g z = some x → K x → Kr z) : oz_R G pc lv st M (a.bind (oz_el f g)) K := by
  intro x hx hK
  cases ha : a with
  | none => rw [ha] at hx; cases hx
  | some e =>
    rw [ha] at hx
    cases e with
    | inl y => exact h1 _ ha (h2 y x hx hK)
    | inr z => exact h1 _ ha (h3 z x hx hK)
theorem oz_wrap {Y : Type} {a : Y} {Kr : Y → Prop} {x : X} (h : oz_R G pc lv st M (some a) Kr) (hk : K x → Kr a) : oz_R G pc lv st M (some x) K := fun y hy hK => h a rfl (hk (by cases hy; exact hK))
theorem oz_wrapz {Y : Type} {a : Option Y} {Kr : Y → Prop} {w : Y → X} (h : oz_R G pc lv st M a Kr) (hk : ∀ y, K (w y) → Kr y) : oz_R G pc lv st M (a.bind fun y => some (w y)) K := by
  intro x hx hK
  cases ha : a with
  | none => rw [ha] at hx; cases hx
  | some y => rw [ha] at hx; exact h y ha (hk y (by cases hx; exact hK))
/-- a loop with head p0 -/
theorem oz_loop {S Y : Type} {f : S → Option (S ⊕ Y)} {L : Y → Prop} (p0 : Nat) (lv0 : S → List (Nat × Value)) (M0 : S → oz_M) (s0 : S) (hs : ∀ s, oz_R G p0 (lv0 s) [] (M0 s) (f s) (oz_el (fun s' => oz_Z G p0 (lv0 s') [] (M0 s')) L)) : oz_R G p0 (lv0 s0) [] (M0 s0) (oz_lp f s0) L := by
  intro y hy hL
  obtain ⟨n, hn⟩ := oz_lp_it.mp hy
  clear hy
  induction n generalizing s0 with
  | zero => cases hn
  | succ n ih =>
    simp only [oz_it] at hn
    cases hf : f s0 with
    | none => rw [hf] at hn; cases hn
    | some z =>
      rw [hf] at hn
      cases z with
      | inl s' => exact hs s0 _ hf (ih s' hn)
      | inr y' => exact hs s0 _ hf (by cases hn; exact hL)
theorem oz_lv {lv2 : List (Nat × Value)} (ks : List Nat) (hk : lv_pick lv ks = lv2) (k : oz_R G pc lv2 st M o K) : oz_R G pc lv st M o K :=
  fun x hx hK H locs ls hP hS hl => k x hx hK H locs ls hP hS (lv_sub hl ks hk)

theorem oz_iconst (cx : oz_C G cc own) {n : Int} {v : Int32} (hd : decode cc pc = .ok (.iconst n, 1)) (hq : pc + 1 = q) (hv : Int32.ofInt n = v) (k : oz_R G q lv (.int v :: st) M o K) : oz_R G pc lv (st) M o K := by
  subst hq
  exact oz_lift (fun H locs ls hl w => lv_iconst cx.1.1 cx.1.2.1 hd hv w) k
theorem oz_bipush (cx : oz_C G cc own) {n : Int} {v : Int32} (hd : decode cc pc = .ok (.bipush n, 2)) (hq : pc + 2 = q) (hv : (Int8.ofInt n).toInt32 = v) (k : oz_R G q lv (.int v :: st) M o K) : oz_R G pc lv (st) M o K := by
  subst hq
  exact oz_lift (fun H locs ls hl w => lv_bipush cx.1.1 cx.1.2.1 hd hv w) k
theorem oz_sipush (cx : oz_C G cc own) {n : Int} {v : Int32} (hd : decode cc pc = .ok (.sipush n, 3)) (hq : pc + 3 = q) (hv : (Int16.ofInt n).toInt32 = v) (k : oz_R G q lv (.int v :: st) M o K) : oz_R G pc lv (st) M o K := by
  subst hq
  exact oz_lift (fun H locs ls hl w => lv_sipush cx.1.1 cx.1.2.1 hd hv w) k
theorem oz_lconst (cx : oz_C G cc own) {n : Fin 2} {v : Int64} (hd : decode cc pc = .ok (.lconst n, 1)) (hq : pc + 1 = q) (hv : Int64.ofNat (n : Nat) = v) (k : oz_R G q lv (.long v :: st) M o K) : oz_R G pc lv (st) M o K := by
  subst hq
  exact oz_lift (fun H locs ls hl w => lv_lconst cx.1.1 cx.1.2.1 hd hv w) k
theorem oz_iload_n (cx : oz_C G cc own) {k : Fin 4} {i : Nat} {x : Int32} (hd : decode cc pc = .ok (.iload_n k, 1)) (hq : pc + 1 = q) (hi : (k : Nat) = i) (z : Nat) (hz : lv[z]? = some (i, .int x)) (k : oz_R G q lv (.int x :: st) M o K) : oz_R G pc lv (st) M o K := by
  subst hq
  exact oz_lift (fun H locs ls hl w => lv_iload_n cx.1.1 cx.1.2.1 hd hi (lv_at hl z hz) w) k
theorem oz_iload (cx : oz_C G cc own) {i : Nat} {x : Int32} (hd : decode cc pc = .ok (.iload i, 2)) (hq : pc + 2 = q) (z : Nat) (hz : lv[z]? = some (i, .int x)) (k : oz_R G q lv (.int x :: st) M o K) : oz_R G pc lv (st) M o K := by
  subst hq
  exact oz_lift (fun H locs ls hl w => lv_iload cx.1.1 cx.1.2.1 hd (lv_at hl z hz) w) k
theorem oz_lload_n (cx : oz_C G cc own) {k : Fin 4} {i : Nat} {x : Int64} (hd : decode cc pc = .ok (.lload_n k, 1)) (hq : pc + 1 = q) (hi : (k : Nat) = i) (z : Nat) (hz : lv[z]? = some (i, .long x)) (k : oz_R G q lv (.long x :: st) M o K) : oz_R G pc lv (st) M o K := by
  subst hq
  exact oz_lift (fun H locs ls hl w => lv_lload_n cx.1.1 cx.1.2.1 hd hi (lv_at hl z hz) w) k
theorem oz_lload (cx : oz_C G cc own) {i : Nat} {x : Int64} (hd : decode cc pc = .ok (.lload i, 2)) (hq : pc + 2 = q) (z : Nat) (hz : lv[z]? = some (i, .long x)) (k : oz_R G q lv (.long x :: st) M o K) : oz_R G pc lv (st) M o K := by
  subst hq
  exact oz_lift (fun H locs ls hl w => lv_lload cx.1.1 cx.1.2.1 hd (lv_at hl z hz) w) k
theorem oz_aload_n (cx : oz_C G cc own) {k : Fin 4} {i : Nat} {x : Nat} (hd : decode cc pc = .ok (.aload_n k, 1)) (hq : pc + 1 = q) (hi : (k : Nat) = i) (z : Nat) (hz : lv[z]? = some (i, .ref x)) (k : oz_R G q lv (.ref x :: st) M o K) : oz_R G pc lv (st) M o K := by
  subst hq
  exact oz_lift (fun H locs ls hl w => lv_aload_n cx.1.1 cx.1.2.1 hd hi (lv_at hl z hz) w) k
theorem oz_aload (cx : oz_C G cc own) {i : Nat} {x : Nat} (hd : decode cc pc = .ok (.aload i, 2)) (hq : pc + 2 = q) (z : Nat) (hz : lv[z]? = some (i, .ref x)) (k : oz_R G q lv (.ref x :: st) M o K) : oz_R G pc lv (st) M o K := by
  subst hq
  exact oz_lift (fun H locs ls hl w => lv_aload cx.1.1 cx.1.2.1 hd (lv_at hl z hz) w) k
theorem oz_iadd (cx : oz_C G cc own) {x y : Int32} (hd : decode cc pc = .ok (.iadd, 1)) (hq : pc + 1 = q) (k : oz_R G q lv (.int (x + y) :: st) M o K) : oz_R G pc lv (.int y :: .int x :: st) M o K := by
  subst hq
  exact oz_lift (fun H locs ls hl w => lv_iadd cx.1.1 cx.1.2.1 hd w) k
theorem oz_isub (cx : oz_C G cc own) {x y : Int32} (hd : decode cc pc = .ok (.isub, 1)) (hq : pc + 1 = q) (k : oz_R G q lv (.int (x - y) :: st) M o K) : oz_R G pc lv (.int y :: .int x :: st) M o K := by
  subst hq
  exact oz_lift (fun H locs ls hl w => lv_isub cx.1.1 cx.1.2.1 hd w) k
theorem oz_imul (cx : oz_C G cc own) {x y : Int32} (hd : decode cc pc = .ok (.imul, 1)) (hq : pc + 1 = q) (k : oz_R G q lv (.int (x * y) :: st) M o K) : oz_R G pc lv (.int y :: .int x :: st) M o K := by
  subst hq
  exact oz_lift (fun H locs ls hl w => lv_imul cx.1.1 cx.1.2.1 hd w) k
theorem oz_iand (cx : oz_C G cc own) {x y : Int32} (hd : decode cc pc = .ok (.iand, 1)) (hq : pc + 1 = q) (k : oz_R G q lv (.int (x &&& y) :: st) M o K) : oz_R G pc lv (.int y :: .int x :: st) M o K := by
  subst hq
  exact oz_lift (fun H locs ls hl w => lv_iand cx.1.1 cx.1.2.1 hd w) k
theorem oz_ior (cx : oz_C G cc own) {x y : Int32} (hd : decode cc pc = .ok (.ior, 1)) (hq : pc + 1 = q) (k : oz_R G q lv (.int (x ||| y) :: st) M o K) : oz_R G pc lv (.int y :: .int x :: st) M o K := by
  subst hq
  exact oz_lift (fun H locs ls hl w => lv_ior cx.1.1 cx.1.2.1 hd w) k
theorem oz_ixor (cx : oz_C G cc own) {x y : Int32} (hd : decode cc pc = .ok (.ixor, 1)) (hq : pc + 1 = q) (k : oz_R G q lv (.int (x ^^^ y) :: st) M o K) : oz_R G pc lv (.int y :: .int x :: st) M o K := by
  subst hq
  exact oz_lift (fun H locs ls hl w => lv_ixor cx.1.1 cx.1.2.1 hd w) k
theorem oz_ishl (cx : oz_C G cc own) {x y : Int32} (hd : decode cc pc = .ok (.ishl, 1)) (hq : pc + 1 = q) (k : oz_R G q lv (.int (x <<< (y &&& 31)) :: st) M o K) : oz_R G pc lv (.int y :: .int x :: st) M o K := by
  subst hq
  exact oz_lift (fun H locs ls hl w => lv_ishl cx.1.1 cx.1.2.1 hd w) k
theorem oz_ishr (cx : oz_C G cc own) {x y : Int32} (hd : decode cc pc = .ok (.ishr, 1)) (hq : pc + 1 = q) (k : oz_R G q lv (.int (x >>> (y &&& 31)) :: st) M o K) : oz_R G pc lv (.int y :: .int x :: st) M o K := by
  subst hq
  exact oz_lift (fun H locs ls hl w => lv_ishr cx.1.1 cx.1.2.1 hd w) k
theorem oz_ladd (cx : oz_C G cc own) {x y : Int64} (hd : decode cc pc = .ok (.ladd, 1)) (hq : pc + 1 = q) (k : oz_R G q lv (.long (x + y) :: st) M o K) : oz_R G pc lv (.long y :: .long x :: st) M o K := by
  subst hq
  exact oz_lift (fun H locs ls hl w => lv_ladd cx.1.1 cx.1.2.1 hd w) k
theorem oz_lsub (cx : oz_C G cc own) {x y : Int64} (hd : decode cc pc = .ok (.lsub, 1)) (hq : pc + 1 = q) (k : oz_R G q lv (.long (x - y) :: st) M o K) : oz_R G pc lv (.long y :: .long x :: st) M o K := by
  subst hq
  exact oz_lift (fun H locs ls hl w => lv_lsub cx.1.1 cx.1.2.1 hd w) k
theorem oz_land (cx : oz_C G cc own) {x y : Int64} (hd : decode cc pc = .ok (.land, 1)) (hq : pc + 1 = q) (k : oz_R G q lv (.long (x &&& y) :: st) M o K) : oz_R G pc lv (.long y :: .long x :: st) M o K := by
  subst hq
  exact oz_lift (fun H locs ls hl w => lv_land cx.1.1 cx.1.2.1 hd w) k
theorem oz_lor (cx : oz_C G cc own) {x y : Int64} (hd : decode cc pc = .ok (.lor, 1)) (hq : pc + 1 = q) (k : oz_R G q lv (.long (x ||| y) :: st) M o K) : oz_R G pc lv (.long y :: .long x :: st) M o K := by
  subst hq
  exact oz_lift (fun H locs ls hl w => lv_lor cx.1.1 cx.1.2.1 hd w) k
theorem oz_ineg (cx : oz_C G cc own) {x : Int32} (hd : decode cc pc = .ok (.ineg, 1)) (hq : pc + 1 = q) (k : oz_R G q lv (.int (-x) :: st) M o K) : oz_R G pc lv (.int x :: st) M o K := by
  subst hq
  exact oz_lift (fun H locs ls hl w => lv_ineg cx.1.1 cx.1.2.1 hd w) k
theorem oz_i2l (cx : oz_C G cc own) {x : Int32} (hd : decode cc pc = .ok (.i2l, 1)) (hq : pc + 1 = q) (k : oz_R G q lv (.long x.toInt64 :: st) M o K) : oz_R G pc lv (.int x :: st) M o K := by
  subst hq
  exact oz_lift (fun H locs ls hl w => lv_i2l cx.1.1 cx.1.2.1 hd rfl w) k
theorem oz_l2i (cx : oz_C G cc own) {x : Int64} (hd : decode cc pc = .ok (.l2i, 1)) (hq : pc + 1 = q) (k : oz_R G q lv (.int x.toInt32 :: st) M o K) : oz_R G pc lv (.long x :: st) M o K := by
  subst hq
  exact oz_lift (fun H locs ls hl w => lv_l2i cx.1.1 cx.1.2.1 hd rfl w) k
theorem oz_i2b (cx : oz_C G cc own) {x : Int32} (hd : decode cc pc = .ok (.i2b, 1)) (hq : pc + 1 = q) (k : oz_R G q lv (.int x.toInt8.toInt32 :: st) M o K) : oz_R G pc lv (.int x :: st) M o K := by
  subst hq
  exact oz_lift (fun H locs ls hl w => lv_i2b cx.1.1 cx.1.2.1 hd rfl w) k
theorem oz_iushr (cx : oz_C G cc own) {x y : Int32} (hd : decode cc pc = .ok (.iushr, 1)) (hq : pc + 1 = q) (k : oz_R G q lv (.int (x.toUInt32 >>> (y.toUInt32 &&& Int32.toUInt32 31)).toInt32 :: st) M o K) : oz_R G pc lv (.int y :: .int x :: st) M o K := by
  subst hq
  exact oz_lift (fun H locs ls hl w => lv_iushr cx.1.1 cx.1.2.1 hd rfl w) k
theorem oz_lshl (cx : oz_C G cc own) {x : Int64} {y : Int32} (hd : decode cc pc = .ok (.lshl, 1)) (hq : pc + 1 = q) (k : oz_R G q lv (.long (x <<< (y.toInt64 &&& 63)) :: st) M o K) : oz_R G pc lv (.int y :: .long x :: st) M o K := by
  subst hq
  exact oz_lift (fun H locs ls hl w => lv_lshl cx.1.1 cx.1.2.1 hd rfl w) k
theorem oz_lcmp (cx : oz_C G cc own) {x y : Int64} (hd : decode cc pc = .ok (.lcmp, 1)) (hq : pc + 1 = q) (k : oz_R G q lv (.int (lg_cmp x y) :: st) M o K) : oz_R G pc lv (.long y :: .long x :: st) M o K := by
  subst hq
  exact oz_lift (fun H locs ls hl w => W.lcmp cx.1.1 cx.1.2.1 hd w) k
theorem oz_dup (cx : oz_C G cc own) {va : Value} (hd : decode cc pc = .ok (.dup, 1)) (hq : pc + 1 = q) (hva : va.category = 1) (k : oz_R G q lv (va :: va :: st) M o K) : oz_R G pc lv (va :: st) M o K := by
  subst hq
  exact oz_lift (fun H locs ls hl w => lv_dup cx.1.1 cx.1.2.1 hd hva w) k
theorem oz_pop (cx : oz_C G cc own) {va : Value} (hd : decode cc pc = .ok (.pop, 1)) (hq : pc + 1 = q) (hva : va.category = 1) (k : oz_R G q lv (st) M o K) : oz_R G pc lv (va :: st) M o K := by
  subst hq
  exact oz_lift (fun H locs ls hl w => lv_pop cx.1.1 cx.1.2.1 hd hva w) k
theorem oz_dup2 (cx : oz_C G cc own) {va vb : Value} (hd : decode cc pc = .ok (.dup2, 1)) (hq : pc + 1 = q) (hva : va.category = 1) (hvb : vb.category = 1) (k : oz_R G q lv (va :: vb :: va :: vb :: st) M o K) : oz_R G pc lv (va :: vb :: st) M o K := by
  subst hq
  exact oz_lift (fun H locs ls hl w => lv_dup2_11 cx.1.1 cx.1.2.1 hd hva hvb w) k
theorem oz_dup_x1 (cx : oz_C G cc own) {va vb : Value} (hd : decode cc pc = .ok (.dup_x1, 1)) (hq : pc + 1 = q) (hva : va.category = 1) (hvb : vb.category = 1) (k : oz_R G q lv (va :: vb :: va :: st) M o K) : oz_R G pc lv (va :: vb :: st) M o K := by
  subst hq
  exact oz_lift (fun H locs ls hl w => lv_dup_x1 cx.1.1 cx.1.2.1 hd hva hvb w) k
theorem oz_ldc_w (cx : oz_C G cc own) {index : Nat} {v : Int32} (hw : Cond.constant own index v ∈ oz_TW) (hd : decode cc pc = .ok (.ldc_w index, 3)) (hq : pc + 3 = q) (k : oz_R G q lv (.int v :: st) M o K) : oz_R G pc lv st M o K := by
  subst hq
  exact oz_lift (fun H locs ls hl w => lv_ldcw cx.1.1 cx.1.2.1 cx.1.2.2.2.1 (cx.1.2.2.2.2 _ hw) hd w) k
theorem oz_ldc2_w (cx : oz_C G cc own) {index : Nat} {v : Int64} (hw : Cond.constantLong own index v ∈ oz_TW) (hd : decode cc pc = .ok (.ldc2_w index, 3)) (hq : pc + 3 = q) (k : oz_R G q lv (.long v :: st) M o K) : oz_R G pc lv st M o K := by
  subst hq
  exact oz_lift (fun H locs ls hl w => lv_ldc2 cx.1.1 cx.1.2.1 cx.1.2.2.2.1 (cx.1.2.2.2.2 _ hw) hd w) k
theorem oz_goto (cx : oz_C G cc own) {off : Int} (hd : decode cc pc = .ok (.goto off, 3)) (ht : (pc : Int) + off = (q : Int)) (k : oz_R G q lv st M o K) : oz_R G pc lv st M o K :=
  oz_lift (fun H locs ls hl w => lv_goto cx.1.1 cx.1.2.1 hd ht w) k
theorem oz_istore_n (cx : oz_C G cc own) {k : Fin 4} {i : Nat} {x : Int32} {lv2 : List (Nat × Value)} (hd : decode cc pc = .ok (.istore_n k, 1)) (hq : pc + 1 = q) (hi : (k : Nat) = i) (hn : i < oz_nL G) (hl2 : (i, Value.int x) :: lv.filter (fun q => !(q.1 == i) && !(q.1 + 1 == i && q.2.category == 2)) = lv2) (k : oz_R G q lv2 st M o K) : oz_R G pc lv (.int x :: st) M o K := by
  subst hq
  exact fun x hx hK H locs ls hP hS hl => lv_istore_n cx.1.1 cx.1.2.1 hd hi hl hn hl2 (fun ls' hl' => k x hx hK H locs ls' hP hS hl')
theorem oz_istore (cx : oz_C G cc own) {i : Nat} {x : Int32} {lv2 : List (Nat × Value)} (hd : decode cc pc = .ok (.istore i, 2)) (hq : pc + 2 = q) (hn : i < oz_nL G) (hl2 : (i, Value.int x) :: lv.filter (fun q => !(q.1 == i) && !(q.1 + 1 == i && q.2.category == 2)) = lv2) (k : oz_R G q lv2 st M o K) : oz_R G pc lv (.int x :: st) M o K := by
  subst hq
  exact fun x hx hK H locs ls hP hS hl => lv_istore cx.1.1 cx.1.2.1 hd hl hn hl2 (fun ls' hl' => k x hx hK H locs ls' hP hS hl')
theorem oz_astore_n (cx : oz_C G cc own) {k : Fin 4} {i : Nat} {x : Nat} {lv2 : List (Nat × Value)} (hd : decode cc pc = .ok (.astore_n k, 1)) (hq : pc + 1 = q) (hi : (k : Nat) = i) (hn : i < oz_nL G) (hl2 : (i, Value.ref x) :: lv.filter (fun q => !(q.1 == i) && !(q.1 + 1 == i && q.2.category == 2)) = lv2) (k : oz_R G q lv2 st M o K) : oz_R G pc lv (.ref x :: st) M o K := by
  subst hq
  exact fun x hx hK H locs ls hP hS hl => lv_astore_n cx.1.1 cx.1.2.1 hd hi hl hn hl2 (fun ls' hl' => k x hx hK H locs ls' hP hS hl')
theorem oz_astore (cx : oz_C G cc own) {i : Nat} {x : Nat} {lv2 : List (Nat × Value)} (hd : decode cc pc = .ok (.astore i, 2)) (hq : pc + 2 = q) (hn : i < oz_nL G) (hl2 : (i, Value.ref x) :: lv.filter (fun q => !(q.1 == i) && !(q.1 + 1 == i && q.2.category == 2)) = lv2) (k : oz_R G q lv2 st M o K) : oz_R G pc lv (.ref x :: st) M o K := by
  subst hq
  exact fun x hx hK H locs ls hP hS hl => lv_astore cx.1.1 cx.1.2.1 hd hl hn hl2 (fun ls' hl' => k x hx hK H locs ls' hP hS hl')
theorem oz_istore_nN (cx : oz_C G cc own) {k : Fin 4} {i : Nat} {x : Int32} {lv2 : Int32 → List (Nat × Value)} {f : Int32 → Option X} (hd : decode cc pc = .ok (.istore_n k, 1)) (hq : pc + 1 = q) (hi : (k : Nat) = i) (hn : i < oz_nL G) (hl2 : ∀ x : Int32, (i, Value.int x) :: lv.filter (fun q => !(q.1 == i) && !(q.1 + 1 == i && q.2.category == 2)) = lv2 x) (k : ∀ x2, x2 = x → oz_R G q (lv2 x2) st M (f x2) K) : oz_R G pc lv (.int x :: st) M ((some x).bind f) K := by
  subst hq
  exact fun z hx hK H locs ls hP hS hl => lv_istore_n cx.1.1 cx.1.2.1 hd hi hl hn (hl2 x) (fun ls' hl' => k x rfl z hx hK H locs ls' hP hS hl')
theorem oz_istoreN (cx : oz_C G cc own) {i : Nat} {x : Int32} {lv2 : Int32 → List (Nat × Value)} {f : Int32 → Option X} (hd : decode cc pc = .ok (.istore i, 2)) (hq : pc + 2 = q) (hn : i < oz_nL G) (hl2 : ∀ x : Int32, (i, Value.int x) :: lv.filter (fun q => !(q.1 == i) && !(q.1 + 1 == i && q.2.category == 2)) = lv2 x) (k : ∀ x2, x2 = x → oz_R G q (lv2 x2) st M (f x2) K) : oz_R G pc lv (.int x :: st) M ((some x).bind f) K := by
  subst hq
  exact fun z hx hK H locs ls hP hS hl => lv_istore cx.1.1 cx.1.2.1 hd hl hn (hl2 x) (fun ls' hl' => k x rfl z hx hK H locs ls' hP hS hl')
theorem oz_lstore_n (cx : oz_C G cc own) {k : Fin 4} {i : Nat} {x : Int64} {lv2 : List (Nat × Value)} (hd : decode cc pc = .ok (.lstore_n k, 1)) (hq : pc + 1 = q) (hi : (k : Nat) = i) (hn : i + 1 < oz_nL G) (hl2 : (i, Value.long x) :: lv.filter (fun q => !(q.1 == i) && (!(q.1 == i + 1) && !(q.1 + 1 == i && q.2.category == 2))) = lv2) (k : oz_R G q lv2 st M o K) : oz_R G pc lv (.long x :: st) M o K := by
  subst hq
  exact fun x hx hK H locs ls hP hS hl => lv_lstore_n cx.1.1 cx.1.2.1 hd hi hl hn hl2 (fun ls' hl' => k x hx hK H locs ls' hP hS hl')
theorem oz_lstore (cx : oz_C G cc own) {i : Nat} {x : Int64} {lv2 : List (Nat × Value)} (hd : decode cc pc = .ok (.lstore i, 2)) (hq : pc + 2 = q) (hn : i + 1 < oz_nL G) (hl2 : (i, Value.long x) :: lv.filter (fun q => !(q.1 == i) && (!(q.1 == i + 1) && !(q.1 + 1 == i && q.2.category == 2))) = lv2) (k : oz_R G q lv2 st M o K) : oz_R G pc lv (.long x :: st) M o K := by
  subst hq
  exact fun x hx hK H locs ls hP hS hl => lv_lstore cx.1.1 cx.1.2.1 hd hl hn hl2 (fun ls' hl' => k x hx hK H locs ls' hP hS hl')
theorem oz_iinc (cx : oz_C G cc own) {i : Nat} {n : Int} {x : Int32} (v : Int32) {lv2 : List (Nat × Value)} (hd : decode cc pc = .ok (.iinc i n, 3)) (hq : pc + 3 = q) (z : Nat) (hz : lv[z]? = some (i, .int x)) (hv : x + Int32.ofInt n = v) (hn : i < oz_nL G) (hl2 : (i, Value.int v) :: lv.filter (fun q => !(q.1 == i) && !(q.1 + 1 == i && q.2.category == 2)) = lv2) (k : oz_R G q lv2 st M o K) : oz_R G pc lv st M o K := by
  subst hq
  exact fun x hx hK H locs ls hP hS hl => lv_iinc cx.1.1 cx.1.2.1 hd hl hz hv hn hl2 (fun ls' hl' => k x hx hK H locs ls' hP hS hl')
theorem oz_if_eq (cx : oz_C G cc own) {x : Int32} {off : Int} {t : Nat} {a a2 : Option X} (hd : decode cc pc = .ok (.ifCond .eq off, 3)) (ht : (pc : Int) + off = (t : Int)) (hq : pc + 3 = q) (kt : x = 0 → oz_R G t lv st M a K) (kf : ¬ x = 0 → oz_R G q lv st M a2 K) : oz_R G pc lv (.int x :: st) M (if x = 0 then a else a2) K := by
  subst hq
  intro z hz hK H locs ls hP hS hl
  refine lv_if_eq cx.1.1 cx.1.2.1 hd ht (fun h => ?_) (fun h => ?_)
  · exact kt h z (by rw [if_pos h] at hz; exact hz) hK H locs ls hP hS hl
  · exact kf h z (by rw [if_neg h] at hz; exact hz) hK H locs ls hP hS hl
theorem oz_icmp_eq (cx : oz_C G cc own) {x y : Int32} {off : Int} {t : Nat} {a a2 : Option X} (hd : decode cc pc = .ok (.if_icmp .eq off, 3)) (ht : (pc : Int) + off = (t : Int)) (hq : pc + 3 = q) (kt : x = y → oz_R G t lv st M a K) (kf : ¬ x = y → oz_R G q lv st M a2 K) : oz_R G pc lv (.int y :: .int x :: st) M (if x = y then a else a2) K := by
  subst hq
  intro z hz hK H locs ls hP hS hl
  refine lv_icmp_eq cx.1.1 cx.1.2.1 hd ht (fun h => ?_) (fun h => ?_)
  · exact kt h z (by rw [if_pos h] at hz; exact hz) hK H locs ls hP hS hl
  · exact kf h z (by rw [if_neg h] at hz; exact hz) hK H locs ls hP hS hl
theorem oz_if_ne (cx : oz_C G cc own) {x : Int32} {off : Int} {t : Nat} {a a2 : Option X} (hd : decode cc pc = .ok (.ifCond .ne off, 3)) (ht : (pc : Int) + off = (t : Int)) (hq : pc + 3 = q) (kt : ¬ x = 0 → oz_R G t lv st M a2 K) (kf : x = 0 → oz_R G q lv st M a K) : oz_R G pc lv (.int x :: st) M (if x = 0 then a else a2) K := by
  subst hq
  intro z hz hK H locs ls hP hS hl
  refine lv_if_ne cx.1.1 cx.1.2.1 hd ht (fun h => ?_) (fun h => ?_)
  · exact kt h z (by rw [if_neg h] at hz; exact hz) hK H locs ls hP hS hl
  · exact kf h z (by rw [if_pos h] at hz; exact hz) hK H locs ls hP hS hl
theorem oz_icmp_ne (cx : oz_C G cc own) {x y : Int32} {off : Int} {t : Nat} {a a2 : Option X} (hd : decode cc pc = .ok (.if_icmp .ne off, 3)) (ht : (pc : Int) + off = (t : Int)) (hq : pc + 3 = q) (kt : ¬ x = y → oz_R G t lv st M a2 K) (kf : x = y → oz_R G q lv st M a K) : oz_R G pc lv (.int y :: .int x :: st) M (if x = y then a else a2) K := by
  subst hq
  intro z hz hK H locs ls hP hS hl
  refine lv_icmp_ne cx.1.1 cx.1.2.1 hd ht (fun h => ?_) (fun h => ?_)
  · exact kt h z (by rw [if_neg h] at hz; exact hz) hK H locs ls hP hS hl
  · exact kf h z (by rw [if_pos h] at hz; exact hz) hK H locs ls hP hS hl
theorem oz_if_lt (cx : oz_C G cc own) {x : Int32} {off : Int} {t : Nat} {a a2 : Option X} (hd : decode cc pc = .ok (.ifCond .lt off, 3)) (ht : (pc : Int) + off = (t : Int)) (hq : pc + 3 = q) (kt : x < 0 → oz_R G t lv st M a K) (kf : ¬ x < 0 → oz_R G q lv st M a2 K) : oz_R G pc lv (.int x :: st) M (if x < 0 then a else a2) K := by
  subst hq
  intro z hz hK H locs ls hP hS hl
  refine lv_if_lt cx.1.1 cx.1.2.1 hd ht (fun h => ?_) (fun h => ?_)
  · exact kt h z (by rw [if_pos h] at hz; exact hz) hK H locs ls hP hS hl
  · exact kf h z (by rw [if_neg h] at hz; exact hz) hK H locs ls hP hS hl
theorem oz_icmp_lt (cx : oz_C G cc own) {x y : Int32} {off : Int} {t : Nat} {a a2 : Option X} (hd : decode cc pc = .ok (.if_icmp .lt off, 3)) (ht : (pc : Int) + off = (t : Int)) (hq : pc + 3 = q) (kt : x < y → oz_R G t lv st M a K) (kf : ¬ x < y → oz_R G q lv st M a2 K) : oz_R G pc lv (.int y :: .int x :: st) M (if x < y then a else a2) K := by
  subst hq
  intro z hz hK H locs ls hP hS hl
  refine lv_icmp_lt cx.1.1 cx.1.2.1 hd ht (fun h => ?_) (fun h => ?_)
  · exact kt h z (by rw [if_pos h] at hz; exact hz) hK H locs ls hP hS hl
  · exact kf h z (by rw [if_neg h] at hz; exact hz) hK H locs ls hP hS hl
theorem oz_if_ge (cx : oz_C G cc own) {x : Int32} {off : Int} {t : Nat} {a a2 : Option X} (hd : decode cc pc = .ok (.ifCond .ge off, 3)) (ht : (pc : Int) + off = (t : Int)) (hq : pc + 3 = q) (kt : ¬ x < 0 → oz_R G t lv st M a2 K) (kf : x < 0 → oz_R G q lv st M a K) : oz_R G pc lv (.int x :: st) M (if x < 0 then a else a2) K := by
  subst hq
  intro z hz hK H locs ls hP hS hl
  refine lv_if_ge cx.1.1 cx.1.2.1 hd ht (fun h => ?_) (fun h => ?_)
  · exact kt (Int32.not_lt.mpr h) z (by rw [if_neg (Int32.not_lt.mpr h)] at hz; exact hz) hK H locs ls hP hS hl
  · exact kf (Int32.not_le.mp h) z (by rw [if_pos (Int32.not_le.mp h)] at hz; exact hz) hK H locs ls hP hS hl
theorem oz_icmp_ge (cx : oz_C G cc own) {x y : Int32} {off : Int} {t : Nat} {a a2 : Option X} (hd : decode cc pc = .ok (.if_icmp .ge off, 3)) (ht : (pc : Int) + off = (t : Int)) (hq : pc + 3 = q) (kt : ¬ x < y → oz_R G t lv st M a2 K) (kf : x < y → oz_R G q lv st M a K) : oz_R G pc lv (.int y :: .int x :: st) M (if x < y then a else a2) K := by
  subst hq
  intro z hz hK H locs ls hP hS hl
  refine lv_icmp_ge cx.1.1 cx.1.2.1 hd ht (fun h => ?_) (fun h => ?_)
  · exact kt (Int32.not_lt.mpr h) z (by rw [if_neg (Int32.not_lt.mpr h)] at hz; exact hz) hK H locs ls hP hS hl
  · exact kf (Int32.not_le.mp h) z (by rw [if_pos (Int32.not_le.mp h)] at hz; exact hz) hK H locs ls hP hS hl
theorem oz_if_gt (cx : oz_C G cc own) {x : Int32} {off : Int} {t : Nat} {a a2 : Option X} (hd : decode cc pc = .ok (.ifCond .gt off, 3)) (ht : (pc : Int) + off = (t : Int)) (hq : pc + 3 = q) (kt : 0 < x → oz_R G t lv st M a K) (kf : ¬ 0 < x → oz_R G q lv st M a2 K) : oz_R G pc lv (.int x :: st) M (if 0 < x then a else a2) K := by
  subst hq
  intro z hz hK H locs ls hP hS hl
  refine lv_if_gt cx.1.1 cx.1.2.1 hd ht (fun h => ?_) (fun h => ?_)
  · exact kt h z (by rw [if_pos h] at hz; exact hz) hK H locs ls hP hS hl
  · exact kf h z (by rw [if_neg h] at hz; exact hz) hK H locs ls hP hS hl
theorem oz_icmp_gt (cx : oz_C G cc own) {x y : Int32} {off : Int} {t : Nat} {a a2 : Option X} (hd : decode cc pc = .ok (.if_icmp .gt off, 3)) (ht : (pc : Int) + off = (t : Int)) (hq : pc + 3 = q) (kt : y < x → oz_R G t lv st M a K) (kf : ¬ y < x → oz_R G q lv st M a2 K) : oz_R G pc lv (.int y :: .int x :: st) M (if y < x then a else a2) K := by
  subst hq
  intro z hz hK H locs ls hP hS hl
  refine lv_icmp_gt cx.1.1 cx.1.2.1 hd ht (fun h => ?_) (fun h => ?_)
  · exact kt h z (by rw [if_pos h] at hz; exact hz) hK H locs ls hP hS hl
  · exact kf h z (by rw [if_neg h] at hz; exact hz) hK H locs ls hP hS hl
theorem oz_if_le (cx : oz_C G cc own) {x : Int32} {off : Int} {t : Nat} {a a2 : Option X} (hd : decode cc pc = .ok (.ifCond .le off, 3)) (ht : (pc : Int) + off = (t : Int)) (hq : pc + 3 = q) (kt : ¬ 0 < x → oz_R G t lv st M a2 K) (kf : 0 < x → oz_R G q lv st M a K) : oz_R G pc lv (.int x :: st) M (if 0 < x then a else a2) K := by
  subst hq
  intro z hz hK H locs ls hP hS hl
  refine lv_if_le cx.1.1 cx.1.2.1 hd ht (fun h => ?_) (fun h => ?_)
  · exact kt (Int32.not_lt.mpr h) z (by rw [if_neg (Int32.not_lt.mpr h)] at hz; exact hz) hK H locs ls hP hS hl
  · exact kf (Int32.not_le.mp h) z (by rw [if_pos (Int32.not_le.mp h)] at hz; exact hz) hK H locs ls hP hS hl
theorem oz_icmp_le (cx : oz_C G cc own) {x y : Int32} {off : Int} {t : Nat} {a a2 : Option X} (hd : decode cc pc = .ok (.if_icmp .le off, 3)) (ht : (pc : Int) + off = (t : Int)) (hq : pc + 3 = q) (kt : ¬ y < x → oz_R G t lv st M a2 K) (kf : y < x → oz_R G q lv st M a K) : oz_R G pc lv (.int y :: .int x :: st) M (if y < x then a else a2) K := by
  subst hq
  intro z hz hK H locs ls hP hS hl
  refine lv_icmp_le cx.1.1 cx.1.2.1 hd ht (fun h => ?_) (fun h => ?_)
  · exact kt (Int32.not_lt.mpr h) z (by rw [if_neg (Int32.not_lt.mpr h)] at hz; exact hz) hK H locs ls hP hS hl
  · exact kf (Int32.not_le.mp h) z (by rw [if_pos (Int32.not_le.mp h)] at hz; exact hz) hK H locs ls hP hS hl
theorem oz_get (cx : oz_C G cc own) {C ref : String} {T : u_T} {NN ci index : Nat} (i k : Nat) {fs : List Value} {v : Value} (hi : i < oz_N) (he : oz_E (oz_cs G) (oz_b G) i (M.1 i) (M.2 i) = .inr (ci, fs)) (hc : classes[ci]? = some (C, T, NN)) (hin : ∀ w ∈ u_ws C T NN, w ∈ oz_TW) (hk : k < NN) (hv : fs[k]? = some v) (hr : (T k).1 = ref) (hlink : Cond.fieldLink own index ref (T k).2.1 (T k).2.2.1 ∈ oz_TW) (hd : decode cc pc = .ok (.getfield index, 3)) (hq : pc + 3 = q) (kk : oz_R G q lv (v :: st) M o K) : oz_R G pc lv (.ref (oz_b G + i) :: st) M o K := by
  subst hq
  subst hr
  intro x hx hK H locs ls hP hS hl
  exact va_get cx.1.1 cx.1.2.1 cx.1.2.2.2.2 hin cx.1.2.2.2.1 cx.2.1 hP i (by rw [oz_w_at hi, he]) hc k hk (cx.1.2.2.2.2 _ hlink) (fun _ h => h) hv hd (kk x hx hK H locs ls hP hS hl)
theorem oz_put (cx : oz_C G cc own) {C ref : String} {T : u_T} {NN ci index : Nat} (i k : Nat) {fs : List Value} {v : Int32} (hi : i < oz_N) (he : oz_E (oz_cs G) (oz_b G) i (M.1 i) (M.2 i) = .inr (ci, fs)) (he2 : oz_E (oz_cs G) (oz_b G) i (upd (M.1 i) k v) (M.2 i) = .inr (ci, fs.set k (.int v))) (hc : classes[ci]? = some (C, T, NN)) (hin : ∀ w ∈ u_ws C T NN, w ∈ oz_TW) (ty0 : Nat → FieldType) (hty : ∀ k, k < NN → parseFieldDescriptor (T k).2.2.1 = some (ty0 k)) (hnm : ∀ a, a < NN → ∀ b, b < NN → a ≠ b → (T a).2.1 ≠ (T b).2.1) (hk : k < NN) (hkl : k < fs.length) (hr : (T k).1 = ref) (hlink : Cond.fieldLink own index ref (T k).2.1 (T k).2.2.1 ∈ oz_TW) (hfin : (T k).2.2.2 = false) (hn : narrow (ty0 k) (.int v) = .int v) (hfit : fits (ty0 k) (.int v) = true) (hd : decode cc pc = .ok (.putfield index, 3)) (hq : pc + 3 = q) (kk : oz_R G q lv st (oz_s M i k v) o K) : oz_R G pc lv (.int v :: .ref (oz_b G + i) :: st) M o K := by
  subst hq
  subst hr
  intro x hx hK H locs ls hP hS hl
  refine va_put cx.1.1 cx.1.2.1 cx.1.2.2.2.2 hin ty0 hty hnm cx.1.2.2.2.1 cx.2.1 hP (oz_w_D _ _ _) hS i (fs := fs) (by rw [oz_w_at hi, he]) hc k hk (cx.1.2.2.2.2 _ hlink) (fun _ h => h) hfin (hty k hk) hn hfit hkl hd (fun H1 locs1 hP1 _ hS1 => ?_)
  refine kk x hx hK H1 locs1 ls ?_ hS1 hl
  rw [← oz_w_set (M := M) (i := i) (x := .inr (ci, fs.set k (.int v))) (by rw [oz_s_i, oz_s_l]; exact he2) oz_s_o]
  exact hP1
theorem oz_iald (cx : oz_C G cc own) (i n : Nat) {x : Int32} {f : Nat → Option X} (hi : i < oz_N) (he : oz_E (oz_cs G) (oz_b G) i (M.1 i) (M.2 i) = .inl (oz_cs G 0, n, .inl (M.1 i))) (hd : decode cc pc = .ok (.iaload, 1)) (hq : pc + 1 = q) (kk : ∀ j, oz_in x n = some j → oz_R G q lv (.int (M.1 i j) :: st) M (f j) K) : oz_R G pc lv (.int x :: .ref (oz_b G + i) :: st) M ((oz_in x n).bind f) K := by
  subst hq
  intro z hz hK H locs ls hP hS hl
  cases hj : oz_in x n with
  | none => rw [hj] at hz; cases hz
  | some j =>
    rw [hj] at hz
    obtain ⟨h1, h2⟩ := oz_in_some hj
    refine va_iald cx.1.1 cx.1.2.1 cx.2.1 hP i 0 (by rw [oz_w_at hi, he]) rfl h1 hd ?_
    rw [h2]
    exact kk j hj z hz hK H locs ls hP hS hl
theorem oz_bald (cx : oz_C G cc own) (i n : Nat) {x : Int32} {f : Nat → Option X} (hi : i < oz_N) (he : oz_E (oz_cs G) (oz_b G) i (M.1 i) (M.2 i) = .inl (oz_cs G 1, n, .inl (M.1 i))) (hd : decode cc pc = .ok (.baload, 1)) (hq : pc + 1 = q) (kk : ∀ j, oz_in x n = some j → oz_R G q lv (.int (M.1 i j) :: st) M (f j) K) : oz_R G pc lv (.int x :: .ref (oz_b G + i) :: st) M ((oz_in x n).bind f) K := by
  subst hq
  intro z hz hK H locs ls hP hS hl
  cases hj : oz_in x n with
  | none => rw [hj] at hz; cases hz
  | some j =>
    rw [hj] at hz
    obtain ⟨h1, h2⟩ := oz_in_some hj
    refine va_bald cx.1.1 cx.1.2.1 cx.2.1 hP i 1 (by rw [oz_w_at hi, he]) rfl h1 hd ?_
    rw [h2]
    exact kk j hj z hz hK H locs ls hP hS hl
theorem oz_zald (cx : oz_C G cc own) (i n : Nat) {x : Int32} {f : Nat → Option X} (hi : i < oz_N) (he : oz_E (oz_cs G) (oz_b G) i (M.1 i) (M.2 i) = .inl (oz_cs G 3, n, .inl (M.1 i))) (hd : decode cc pc = .ok (.baload, 1)) (hq : pc + 1 = q) (kk : ∀ j, oz_in x n = some j → oz_R G q lv (.int (M.1 i j) :: st) M (f j) K) : oz_R G pc lv (.int x :: .ref (oz_b G + i) :: st) M ((oz_in x n).bind f) K := by
  subst hq
  intro z hz hK H locs ls hP hS hl
  cases hj : oz_in x n with
  | none => rw [hj] at hz; cases hz
  | some j =>
    rw [hj] at hz
    obtain ⟨h1, h2⟩ := oz_in_some hj
    refine va_zald cx.1.1 cx.1.2.1 cx.2.1 hP i 3 (by rw [oz_w_at hi, he]) rfl h1 hd ?_
    rw [h2]
    exact kk j hj z hz hK H locs ls hP hS hl
theorem oz_lald (cx : oz_C G cc own) (i n : Nat) {x : Int32} {f : Nat → Option X} (hi : i < oz_N) (he : oz_E (oz_cs G) (oz_b G) i (M.1 i) (M.2 i) = .inl (oz_cs G 2, n, .inr (.inl (M.2 i)))) (hd : decode cc pc = .ok (.laload, 1)) (hq : pc + 1 = q) (kk : ∀ j, oz_in x n = some j → oz_R G q lv (.long (M.2 i j) :: st) M (f j) K) : oz_R G pc lv (.int x :: .ref (oz_b G + i) :: st) M ((oz_in x n).bind f) K := by
  subst hq
  intro z hz hK H locs ls hP hS hl
  cases hj : oz_in x n with
  | none => rw [hj] at hz; cases hz
  | some j =>
    rw [hj] at hz
    obtain ⟨h1, h2⟩ := oz_in_some hj
    refine va_lald cx.1.1 cx.1.2.1 cx.2.1 hP i 2 (by rw [oz_w_at hi, he]) rfl h1 hd ?_
    rw [h2]
    exact kk j hj z hz hK H locs ls hP hS hl
theorem oz_aald (cx : oz_C G cc own) (i n i0 : Nat) {x : Int32} {f : Nat → Option X} (hi : i < oz_N) (he : oz_E (oz_cs G) (oz_b G) i (M.1 i) (M.2 i) = .inl (oz_cs G 4, n, .inr (.inr (.inr (.inr (fun j => some (oz_b G + (i0 + j)))))))) (hd : decode cc pc = .ok (.aaload, 1)) (hq : pc + 1 = q) (kk : ∀ j, oz_in x n = some j → oz_R G q lv (.ref (oz_b G + (i0 + j)) :: st) M (f j) K) : oz_R G pc lv (.int x :: .ref (oz_b G + i) :: st) M ((oz_in x n).bind f) K := by
  subst hq
  intro z hz hK H locs ls hP hS hl
  cases hj : oz_in x n with
  | none => rw [hj] at hz; cases hz
  | some j =>
    rw [hj] at hz
    obtain ⟨h1, h2⟩ := oz_in_some hj
    have hlt : x.toNatClampNeg < n := Nat.not_le.mp fun q => h1 (Or.inr q)
    have hc := hP i _ (show (oz_w (oz_cs G) (oz_b G) M)[i]? = some (oz_b G + i, .inl (oz_cs G 4, n, .inr (.inr (.inr (.inr (fun j => some (oz_b G + (i0 + j)))))))) by rw [oz_w_at hi, he])
    refine W.aald (v := .ref (oz_b G + (i0 + j))) (ty := .array .int) cx.1.1 cx.1.2.1 hc ((cx.2.1.2 4 _ rfl).1 n (fun j => va_rf (some (oz_b G + (i0 + j))))) rfl (fun q => by cases q) (by show ¬ (x < 0 ∨ (arrV _ _ _).slots.size ≤ _); rw [arrV_size]; exact h1) (by show (arrV _ _ _).slots[_]? = _; rw [arrV_read _ _ hlt, h2]; rfl) rfl rfl hd ?_
    exact kk j hj z hz hK H locs ls hP hS hl
theorem oz_iast (cx : oz_C G cc own) (i n : Nat) {x v : Int32} {f : Nat → Option X} (hi : i < oz_N) (he : ∀ g, oz_E (oz_cs G) (oz_b G) i g (M.2 i) = .inl (oz_cs G 0, n, .inl g)) (hd : decode cc pc = .ok (.iastore, 1)) (hq : pc + 1 = q) (kk : ∀ j, oz_in x n = some j → oz_R G q lv st (oz_s M i j (v)) (f j) K) : oz_R G pc lv (.int v :: .int x :: .ref (oz_b G + i) :: st) M ((oz_in x n).bind f) K := by
  subst hq
  intro z hz hK H locs ls hP hS hl
  cases hj : oz_in x n with
  | none => rw [hj] at hz; cases hz
  | some j =>
    rw [hj] at hz
    obtain ⟨h1, h2⟩ := oz_in_some hj
    refine va_iast cx.1.1 cx.1.2.1 cx.2.1 hP (oz_w_D _ _ _) hS i 0 (f := M.1 i) (n := n) (by rw [oz_w_at hi, he]) rfl h1 hd (fun H1 locs1 hP1 _ hS1 => ?_)
    refine kk j hj z hz hK H1 locs1 ls ?_ hS1 hl
    rw [h2, oz_w_set (M' := oz_s M i j (v)) (by rw [oz_s_i, oz_s_l]; exact he _) oz_s_o] at hP1
    exact hP1
theorem oz_bast (cx : oz_C G cc own) (i n : Nat) {x v : Int32} {f : Nat → Option X} (hi : i < oz_N) (he : ∀ g, oz_E (oz_cs G) (oz_b G) i g (M.2 i) = .inl (oz_cs G 1, n, .inl g)) (hd : decode cc pc = .ok (.bastore, 1)) (hq : pc + 1 = q) (kk : ∀ j, oz_in x n = some j → oz_R G q lv st (oz_s M i j (vp_nar .byte v)) (f j) K) : oz_R G pc lv (.int v :: .int x :: .ref (oz_b G + i) :: st) M ((oz_in x n).bind f) K := by
  subst hq
  intro z hz hK H locs ls hP hS hl
  cases hj : oz_in x n with
  | none => rw [hj] at hz; cases hz
  | some j =>
    rw [hj] at hz
    obtain ⟨h1, h2⟩ := oz_in_some hj
    refine va_bast cx.1.1 cx.1.2.1 cx.2.1 hP (oz_w_D _ _ _) hS i 1 (f := M.1 i) (n := n) (by rw [oz_w_at hi, he]) rfl h1 hd (fun H1 locs1 hP1 _ hS1 => ?_)
    refine kk j hj z hz hK H1 locs1 ls ?_ hS1 hl
    rw [h2, oz_w_set (M' := oz_s M i j (vp_nar .byte v)) (by rw [oz_s_i, oz_s_l]; exact he _) oz_s_o] at hP1
    exact hP1
theorem oz_zast (cx : oz_C G cc own) (i n : Nat) {x v : Int32} {f : Nat → Option X} (hi : i < oz_N) (he : ∀ g, oz_E (oz_cs G) (oz_b G) i g (M.2 i) = .inl (oz_cs G 3, n, .inl g)) (hd : decode cc pc = .ok (.bastore, 1)) (hq : pc + 1 = q) (kk : ∀ j, oz_in x n = some j → oz_R G q lv st (oz_s M i j (vp_nar .boolean v)) (f j) K) : oz_R G pc lv (.int v :: .int x :: .ref (oz_b G + i) :: st) M ((oz_in x n).bind f) K := by
  subst hq
  intro z hz hK H locs ls hP hS hl
  cases hj : oz_in x n with
  | none => rw [hj] at hz; cases hz
  | some j =>
    rw [hj] at hz
    obtain ⟨h1, h2⟩ := oz_in_some hj
    refine va_zast cx.1.1 cx.1.2.1 cx.2.1 hP (oz_w_D _ _ _) hS i 3 (f := M.1 i) (n := n) (by rw [oz_w_at hi, he]) rfl h1 hd (fun H1 locs1 hP1 _ hS1 => ?_)
    refine kk j hj z hz hK H1 locs1 ls ?_ hS1 hl
    rw [h2, oz_w_set (M' := oz_s M i j (vp_nar .boolean v)) (by rw [oz_s_i, oz_s_l]; exact he _) oz_s_o] at hP1
    exact hP1
theorem oz_last (cx : oz_C G cc own) (i n : Nat) {x : Int32} {v : Int64} {f : Nat → Option X} (hi : i < oz_N) (he : ∀ g, oz_E (oz_cs G) (oz_b G) i (M.1 i) g = .inl (oz_cs G 2, n, .inr (.inl g))) (hd : decode cc pc = .ok (.lastore, 1)) (hq : pc + 1 = q) (kk : ∀ j, oz_in x n = some j → oz_R G q lv st (oz_l M i j v) (f j) K) : oz_R G pc lv (.long v :: .int x :: .ref (oz_b G + i) :: st) M ((oz_in x n).bind f) K := by
  subst hq
  intro z hz hK H locs ls hP hS hl
  cases hj : oz_in x n with
  | none => rw [hj] at hz; cases hz
  | some j =>
    rw [hj] at hz
    obtain ⟨h1, h2⟩ := oz_in_some hj
    refine va_last cx.1.1 cx.1.2.1 cx.2.1 hP (oz_w_D _ _ _) hS i 2 (f := M.2 i) (n := n) (by rw [oz_w_at hi, he]) rfl h1 hd (fun H1 locs1 hP1 _ hS1 => ?_)
    refine kk j hj z hz hK H1 locs1 ls ?_ hS1 hl
    rw [h2, oz_w_set (M' := oz_l M i j v) (by rw [oz_l_i]; exact he _) oz_l_o] at hP1
    exact hP1
/-- a memory gets a name -/
theorem oz_nm {f : oz_M → Option X} (k : ∀ M1, M1 = M → oz_R G pc lv st M1 (f M1) K) : oz_R G pc lv st M ((some M).bind f) K := k M rfl
/-! contracts: from a memory M the method answers v and leaves M2 -/
def oz_Q (D : va_G) (cs : Nat → ClassId) (b : Nat) (v : Option Value) (M2 : oz_M) : Array Value → State → Outcome → State → Prop := fun _ st oc t => oc = .returned v ∧ va_P D classes (oz_w cs b M2) t.heap ∧ va_F (fun q => b ≤ q) st t
def oz_Pc (D : va_G) (cs : Nat → ClassId) (b : Nat) (av : List Value) (M : oz_M) : Array Value → State → Prop := va_Pc av (fun U => va_P D classes (oz_w cs b M) U.heap ∧ va_K D classes (oz_ty cs) U ∧ (∀ w ∈ oz_NW, va_Nw w U) ∧ oz_Ex b U)
def oz_Met (l : Launch) (D : va_G) (cs : Nat → ClassId) (b : Nat) (y : MethodName) (cc : ByteArray) (nL : Nat) (ret : Option FieldType) (rm : Room) (av : List Value) (M : oz_M) (v : Option Value) (M2 : oz_M) : Prop :=
  Met l y (.code y cc nL ret :: oz_TW) rm (oz_Pc D cs b av M) (oz_Q D cs b v M2) 0 0 (fun q => b ≤ q)
/-- rooms by rank -/
def oz_rm (k : Nat) : Room := { frames := k + 1, cells := 0, slots := 0, locals := 30 * (k + 1) }
/-- a room that holds rank k -/
def oz_big (R : Room) (k : Nat) : Prop := k + 1 ≤ R.frames ∧ 30 * (k + 1) ≤ R.locals
/-- what a method's walk knows of its goal -/
def oz_Rt (G : oz_G) (ret : Option FieldType) (v : Option Value) (M2 : oz_M) : Prop := G.2.1.2.2.2.1.sig.returnType = ret ∧ ∀ t, MQ G.2.1.2.2.1 (oz_Q (oz_D G) (oz_cs G) (oz_b G) v M2) G.2.1.2.1 (oz_St G) G.2.2.1.1 G.2.2.1.2.1 (fun q => oz_b G ≤ q) t → G.2.2.1.2.2 t
theorem oz_blind (D : va_G) (cs : Nat → ClassId) (b : Nat) (av : List Value) (M : oz_M) : FrameBlind (oz_Pc D cs b av M) := by
  intro a U g mk h
  obtain ⟨h1, h2, h3, h4, h5⟩ := h
  exact ⟨h1, h2, va_K.moved (u := U) (U := U.calling g mk a) (Vm.Alike.refl U.vm) h3, fun w hw => va_Nw.same (u := U) (U := U.calling g mk a) (oz_NW_tab w hw) rfl (h4 w hw), h5.same rfl rfl⟩
theorem oz_enter {l : Launch} {D : va_G} {cs : Nat → ClassId} {b : Nat} {y : MethodName} {cc : ByteArray} {nL : Nat} {ret : Option FieldType} {k : Nat} {av : List Value} {M : oz_M} {v : Option Value} {M2 : oz_M} (hy : plainName y.cls = true) (hlen : (lg_sl av).length ≤ nL)
    (body : ∀ G : oz_G, oz_C G cc y.cls → oz_Rt G ret v M2 → l = G.1.2.1 → oz_big G.1.2.2.2.1 k → D = oz_D G → cs = oz_cs G → b = oz_b G → oz_nL G = nL → oz_Z G 0 (lv_args 0 av) [] M) : oz_Met l D cs b y cc nL ret (oz_rm k) av M v M2 := by
  refine Met.ofW (cc := cc) (maxL := nL) (ret := ret) hy rfl ?_
  intro p e s m args below meth c s₁ B hml hv
  obtain ⟨rfl, hP, hK, hN, hE⟩ := hv
  have hts := atoms_spec (ws := .code y cc nL ret :: oz_TW) B.pre
  have h := body ((p, l, e, oz_rm k, s), (m, av.toArray, below, meth, c), (0, 0, MQ below (oz_Q D cs b v M2) av.toArray s 0 0 (fun q => b ≤ q)), (D, cs, b), nL)
    ⟨⟨B.exec, B.bytes, hml, findClass_of_methodNamed B.named, fun w hw => hts w (List.mem_cons_of_mem _ hw)⟩, hK, B.notSynchronized, hN, Nat.zero_le _, Nat.zero_le _, hE⟩ ⟨B.returns, fun _ h => h⟩ rfl ⟨Nat.le_refl _, Nat.le_refl _⟩ rfl rfl rfl rfl s.heap [] _ hP va_S.rf (lv_entry av hlen)
  rw [lg_entry_eq]
  exact h
theorem oz_mono {G : oz_G} {Q : State → Prop} {H : Heap} {locs : List Loc} {g : JFrame} (hQ : ∀ t, Q t → G.2.2.1.2.2 t) (h : W G.1.1 G.1.2.1 G.1.2.2.1 G.1.2.2.2.1 G.1.2.2.2.2 G.2.1.1 G.2.1.2.1 G.2.1.2.2.1 G.2.1.2.2.2.1 G.2.1.2.2.2.2 H locs G.2.2.1.1 G.2.2.1.2.1 Q g) : oz_W G H locs g := by
  intro T hT X
  obtain ⟨t, a, b⟩ := h T hT X
  exact ⟨t, a, hQ t b⟩
theorem oz_iret (cx : oz_C G cc own) {v a : Int32} {M2 : oz_M} (hR : oz_Rt G (some .int) (some (.int v)) M2) (hd : decode cc pc = .ok (.ireturn, 1)) : oz_R G pc lv [.int a] M (some (a, M)) (fun x => x = (v, M2)) := by
  intro x hx hK H locs ls hP hS hl
  cases hx
  obtain ⟨e1, e2⟩ : a = v ∧ M = M2 := ⟨congrArg Prod.fst hK, congrArg Prod.snd hK⟩
  rw [e2] at hP
  rw [e1]
  have h := W.iret (p := G.1.1) (l := G.1.2.1) (e := G.1.2.2.1) (R := G.1.2.2.2.1) (s := oz_St G) (m := G.2.1.1) (args := G.2.1.2.1) (below := G.2.1.2.2.1) (c := G.2.1.2.2.2.2) (locs := locs) (cells := G.2.2.1.1) (slots := G.2.2.1.2.1) (Qc := oz_Q (oz_D G) (oz_cs G) (oz_b G) (some (.int v)) M2) (free := fun q => oz_b G ≤ q) (ls := ls) cx.1.1 cx.1.2.1 hR.1 (H := H) (v := v) (fun t ht _ => ⟨rfl, by rw [ht]; exact hP, hS.F ht⟩) hS.2.2 hd cx.2.2.1
  exact oz_mono hR.2 h
/-- a boolean -/
def oz_z (v : Int32) : Option Int32 := if v = 0 ∨ v = 1 then some v else none
theorem oz_zret (cx : oz_C G cc own) {v a : Int32} {M2 : oz_M} (hR : oz_Rt G (some .boolean) (some (.int v)) M2) (hd : decode cc pc = .ok (.ireturn, 1)) : oz_R G pc lv [.int a] M ((oz_z a).bind fun z => some (z, M)) (fun x => x = (v, M2)) := by
  intro x hx hK H locs ls hP hS hl
  unfold oz_z at hx
  split at hx
  case isFalse => cases hx
  case isTrue ha =>
  cases hx
  obtain ⟨e1, e2⟩ : a = v ∧ M = M2 := ⟨congrArg Prod.fst hK, congrArg Prod.snd hK⟩
  rw [e2] at hP
  rw [e1] at ha ⊢
  have h := W.zret (p := G.1.1) (l := G.1.2.1) (e := G.1.2.2.1) (R := G.1.2.2.2.1) (s := oz_St G) (m := G.2.1.1) (args := G.2.1.2.1) (below := G.2.1.2.2.1) (c := G.2.1.2.2.2.2) (locs := locs) (cells := G.2.2.1.1) (slots := G.2.2.1.2.1) (Qc := oz_Q (oz_D G) (oz_cs G) (oz_b G) (some (.int v)) M2) (free := fun q => oz_b G ≤ q) (ls := ls) cx.1.1 cx.1.2.1 hR.1 (by rcases ha with rfl | rfl <;> rfl) (H := H) (v := v) (fun t ht _ => ⟨rfl, by rw [ht]; exact hP, hS.F ht⟩) hS.2.2 hd cx.2.2.1
  exact oz_mono hR.2 h
theorem oz_lret (cx : oz_C G cc own) {v a : Int64} {M2 : oz_M} (hR : oz_Rt G (some .long) (some (.long v)) M2) (hd : decode cc pc = .ok (.lreturn, 1)) : oz_R G pc lv [.long a] M (some (a, M)) (fun x => x = (v, M2)) := by
  intro x hx hK H locs ls hP hS hl
  cases hx
  obtain ⟨e1, e2⟩ : a = v ∧ M = M2 := ⟨congrArg Prod.fst hK, congrArg Prod.snd hK⟩
  rw [e2] at hP
  rw [e1]
  have h := W.lret (p := G.1.1) (l := G.1.2.1) (e := G.1.2.2.1) (R := G.1.2.2.2.1) (s := oz_St G) (m := G.2.1.1) (args := G.2.1.2.1) (below := G.2.1.2.2.1) (c := G.2.1.2.2.2.2) (locs := locs) (cells := G.2.2.1.1) (slots := G.2.2.1.2.1) (Qc := oz_Q (oz_D G) (oz_cs G) (oz_b G) (some (.long v)) M2) (free := fun q => oz_b G ≤ q) (ls := ls) cx.1.1 cx.1.2.1 hR.1 (H := H) (v := v) (fun t ht _ => ⟨rfl, by rw [ht]; exact hP, hS.F ht⟩) hS.2.2 hd cx.2.2.1
  exact oz_mono hR.2 h
theorem oz_vret (cx : oz_C G cc own) {u : Unit} {M2 : oz_M} (hR : oz_Rt G none none M2) (hd : decode cc pc = .ok (.return_, 1)) : oz_R G pc lv [] M (some ((), M)) (fun x => x = (u, M2)) := by
  intro x hx hK H locs ls hP hS hl
  cases hx
  have e2 : M = M2 := congrArg Prod.snd hK
  rw [e2] at hP
  have h := W.vret (p := G.1.1) (l := G.1.2.1) (e := G.1.2.2.1) (R := G.1.2.2.2.1) (s := oz_St G) (m := G.2.1.1) (args := G.2.1.2.1) (below := G.2.1.2.2.1) (c := G.2.1.2.2.2.2) (locs := locs) (cells := G.2.2.1.1) (slots := G.2.2.1.2.1) (Qc := oz_Q (oz_D G) (oz_cs G) (oz_b G) none M2) (free := fun q => oz_b G ≤ q) (ls := ls) cx.1.1 cx.1.2.1 hR.1 (H := H) (fun t ht _ => ⟨rfl, by rw [ht]; exact hP, hS.F ht⟩) hS.2.2 hd cx.2.2.1
  exact oz_mono hR.2 h
/-- behind a call -/
theorem oz_back {v : Option Value} {M2 : oz_M} {st0 rest : List Value} {av : Array Value} (hr : ∀ (H : Heap) (locs : List Loc) (ls : Array Slot), va_P (oz_D G) classes (oz_w (oz_cs G) (oz_b G) M) H → va_S (fun q => oz_b G ≤ q) (oz_St G).heap H locs → lv_has ls (oz_nL G) lv → va_Run G.1.1 G.1.2.1 G.1.2.2.1 G.1.2.2.2.1 G.1.2.2.2.2 G.2.1.1 G.2.1.2.1 G.2.1.2.2.1 G.2.1.2.2.2.1 G.2.1.2.2.2.2 H locs G.2.2.1.1 G.2.2.1.2.1 0 0 (F0 G.2.1.1 pc ls st0) rest (oz_Q (oz_D G) (oz_cs G) (oz_b G) v M2 av) (fun q => oz_b G ≤ q))
    (k : oz_Z G (pc + 3) lv (v.toList ++ rest) M2) : oz_Z G pc lv st0 M := by
  intro H locs ls hP hS hl T hT X
  obtain ⟨v', st₀, t, T', L, h0, X', hL, e1, e2, ⟨hv, hP2, hz, hk⟩, st⟩ := hr H locs ls hP hS hl T hT X
  cases hv
  rw [h0] at hz hk
  obtain ⟨t2, a1, b1⟩ := k T'.heap (locs ++ L) ls (by rw [e1]; exact hP2)
    ⟨Nat.le_trans hS.1 (by rw [e1]; exact hz), fun q h1 h2 => by rw [e1, hk q (Nat.lt_of_lt_of_le h1 hS.1) h2]; exact hS.2.1 q h1 h2, fun q hq => by
      rcases List.mem_append.mp hq with h | h
      · exact hS.2.2 q h
      · exact hL q h⟩ hl T' rfl X'
  exact ⟨t2, st t2 a1, b1⟩
theorem oz_pre (cx : oz_C G cc own) {av : List Value} {H : Heap} (hP : va_P (oz_D G) classes (oz_w (oz_cs G) (oz_b G) M) H) {locs : List Loc} (hS : va_S (fun q => oz_b G ≤ q) (oz_St G).heap H locs) : ∀ U : State, U.heap = H → (oz_St G).WarmedH U.vm → oz_Pc (oz_D G) (oz_cs G) (oz_b G) av M av.toArray U :=
  fun U hU hW => ⟨rfl, by rw [hU]; exact hP, va_K.moved hW.alike cx.2.1, fun w hw => oz_NW_warm w hw hW (cx.2.2.2.1 w hw), cx.2.2.2.2.2.2.to hW (fun q h1 h2 => by rw [hU]; exact hS.2.1 q h1 h2)⟩
/-- the words of a call -/
def oz_wV (own : String) (idx : Nat) (C : String) (y : MethodName) : Prop := Cond.methodLink own idx y ∈ oz_TW ∧ Cond.instanceMethod y ∈ oz_TW ∧ Cond.selects C y y ∈ oz_TW ∧ Cond.initialized C ∈ oz_TW
def oz_wS (own : String) (idx : Nat) (y : MethodName) : Prop := Cond.methodLink own idx y ∈ oz_TW ∧ Cond.static y ∈ oz_TW ∧ Cond.initialized y.cls ∈ oz_TW
theorem oz_goodT {x : Cond} (h : x ∈ oz_TW) : x ∈ oz_TW ∧ ((x.onTables && x.keeps) = true ∨ ∃ ty, x = .arrayClass ty) := ⟨h, oz_TW_good x h⟩
theorem oz_goodV {own : String} {idx : Nat} {C : String} {y : MethodName} {cc : ByteArray} {nL : Nat} {ret : Option FieldType} (h : oz_wV own idx C y) (hc : Cond.code y cc nL ret ∈ oz_TW) : GoodIn oz_TW (wsV own idx C y (.code y cc nL ret :: oz_TW)) := by
  intro w hw
  simp only [wsV, List.cons_append, List.nil_append, List.mem_cons] at hw
  rcases hw with rfl | rfl | rfl | rfl | rfl | hw
  · exact oz_goodT h.1
  · exact oz_goodT h.2.1
  · exact oz_goodT h.2.2.1
  · exact oz_goodT h.2.2.2
  · exact oz_goodT hc
  · exact oz_goodT hw
theorem oz_goodC {y : MethodName} {cc : ByteArray} {nL : Nat} {ret : Option FieldType} (hc : Cond.code y cc nL ret ∈ oz_TW) : GoodIn oz_TW (.code y cc nL ret :: oz_TW) := by
  intro w hw
  rcases List.mem_cons.mp hw with rfl | hw
  · exact oz_goodT hc
  · exact oz_goodT hw
theorem oz_room {R : Room} {k kc maxL : Nat} (hR : oz_big R k) (hk : kc < k) (hm : maxL ≤ 11) : (oz_rm kc).frames + 1 ≤ R.frames ∧ 8 + (maxL + 11) + (oz_rm kc).locals ≤ R.locals := by
  obtain ⟨h1, h2⟩ := hR
  simp only [oz_rm]
  omega

theorem oz_cVi (cx : oz_C G cc own) {oF : Option (Int32 × oz_M)} {f : Int32 → oz_M → Option X} {k kc : Nat} {C : String} {index : Nat} {y : MethodName} {bytes : ByteArray} {maxL : Nat} {ret : Option FieldType} {st0 : List Value} (i : Nat) (As : List Value) (n ci : Nat) {T : u_T} {NN : Nat} {fs : List Value}
    (hRm : oz_big G.1.2.2.2.1 k) (hk : kc < k) (hm : maxL ≤ 11)
    (hM : ∀ v M2, oF = some (v, M2) → oz_Met G.1.2.1 (oz_D G) (oz_cs G) (oz_b G) y bytes maxL ret (oz_rm kc) (.ref (oz_b G + i) :: As) M (some (.int v)) M2)
    (hw : oz_wV own index C y) (hc : Cond.code y bytes maxL ret ∈ oz_TW) (hy : y.cls = C ∧ y.cls ≠ "java/lang/invoke/MethodHandle" ∧ y.cls ≠ "java/lang/invoke/VarHandle" ∧ (parseMethodDescriptor y.desc).map (fun d => d.parameters.length) = some n) (hn : As.length = n)
    (hi : i < oz_N) (he : oz_E (oz_cs G) (oz_b G) i (M.1 i) (M.2 i) = .inr (ci, fs)) (hci : classes[ci]? = some (C, T, NN)) (hst : st0 = As.reverse ++ .ref (oz_b G + i) :: st) (hsm : (st.map fun v => v.category).sum ≤ 8) (hd : decode cc pc = .ok (.invokevirtual index, 3)) (hq : pc + 3 = q)
    (kk : ∀ v M2, oF = some (v, M2) → oz_R G q lv (.int v :: st) M2 (f v M2) K) : oz_R G pc lv st0 M (oz_b2 oF f) K := by
  subst hq
  intro z hz hK
  cases hF : oF with
  | none => rw [hF] at hz; cases hz
  | some w =>
    obtain ⟨v, M2⟩ := w
    rw [hF] at hz
    refine oz_back (v := some (.int v)) (M2 := M2) (rest := st) (av := (Value.ref (oz_b G + i) :: As).toArray) (fun H locs ls hP hS hl => ?_) (kk v M2 hF z hz hK)
    exact va_runV (As := As) (rest := st) (b := oz_b G + i) cx.1 (hM v M2 hF) (cwV n cx.1.2.2.2.2 (oz_goodV hw hc) rfl rfl rfl hy (oz_room hRm hk hm)) ⟨oz_blind _ _ _ _ _, va_recv cx.2.1 hP hci (by rw [oz_w_at hi, he]), oz_pre cx hP hS⟩ rfl hn hl.1 hst (lv_room hsm) hd ⟨cx.2.2.2.2.1, cx.2.2.2.2.2.1⟩
theorem oz_cSi (cx : oz_C G cc own) {oF : Option (Int32 × oz_M)} {f : Int32 → oz_M → Option X} {k kc : Nat} {index : Nat} {y : MethodName} {bytes : ByteArray} {maxL : Nat} {ret : Option FieldType} {st0 : List Value} (As : List Value) (n : Nat)
    (hRm : oz_big G.1.2.2.2.1 k) (hk : kc < k) (hm : maxL ≤ 11)
    (hM : ∀ v M2, oF = some (v, M2) → oz_Met G.1.2.1 (oz_D G) (oz_cs G) (oz_b G) y bytes maxL ret (oz_rm kc) As M (some (.int v)) M2)
    (hw : oz_wS own index y) (hc : Cond.code y bytes maxL ret ∈ oz_TW) (hy : y.cls ≠ "java/lang/invoke/MethodHandle" ∧ y.cls ≠ "java/lang/invoke/VarHandle" ∧ (parseMethodDescriptor y.desc).map (fun d => d.parameters.length) = some n) (hn : As.length = n)
    (hst : st0 = As.reverse ++ st) (hsm : (st.map fun v => v.category).sum ≤ 8) (hd : decode cc pc = .ok (.invokestatic index, 3)) (hq : pc + 3 = q)
    (kk : ∀ v M2, oF = some (v, M2) → oz_R G q lv (.int v :: st) M2 (f v M2) K) : oz_R G pc lv st0 M (oz_b2 oF f) K := by
  subst hq
  intro z hz hK
  cases hF : oF with
  | none => rw [hF] at hz; cases hz
  | some w =>
    obtain ⟨v, M2⟩ := w
    rw [hF] at hz
    refine oz_back (v := some (.int v)) (M2 := M2) (rest := st) (av := As.toArray) (fun H locs ls hP hS hl => ?_) (kk v M2 hF z hz hK)
    exact va_runS (As := As) (rest := st) cx.1 (hM v M2 hF) ⟨callB_of n cx.1.2.2.2.2 (oz_goodC hc) rfl rfl rfl (cx.1.2.2.2.2 _ hw.2.2) (cx.1.2.2.2.2 _ hw.1) hy (oz_room hRm hk hm), cx.1.2.2.2.2 _ hw.2.1⟩ ⟨oz_blind _ _ _ _ _, oz_pre cx hP hS⟩ rfl hn hl.1 hst (lv_room hsm) hd ⟨cx.2.2.2.2.1, cx.2.2.2.2.2.1⟩
theorem oz_cVNi (cx : oz_C G cc own) {oF : Option (Int32 × oz_M)} {f : Int32 → oz_M → Option X} {k kc : Nat} {C : String} {host : String} {index : Nat} {y : MethodName} {bytes : ByteArray} {maxL : Nat} {ret : Option FieldType} {st0 : List Value} (i : Nat) (As : List Value) (n ci : Nat) {T : u_T} {NN : Nat} {fs : List Value}
    (hRm : oz_big G.1.2.2.2.1 k) (hk : kc < k) (hm : maxL ≤ 11)
    (hM : ∀ v M2, oF = some (v, M2) → oz_Met G.1.2.1 (oz_D G) (oz_cs G) (oz_b G) y bytes maxL ret (oz_rm kc) (.ref (oz_b G + i) :: As) M (some (.int v)) M2)
    (hw : Cond.methodLinkNest own index y host ∈ oz_NW) (hw2 : Cond.instanceMethod y ∈ oz_TW ∧ Cond.selects C y y ∈ oz_TW ∧ Cond.initialized y.cls ∈ oz_TW) (hc : Cond.code y bytes maxL ret ∈ oz_TW) (hy : y.cls ≠ "java/lang/invoke/MethodHandle" ∧ y.cls ≠ "java/lang/invoke/VarHandle" ∧ (parseMethodDescriptor y.desc).map (fun d => d.parameters.length) = some n) (hn : As.length = n)
    (hi : i < oz_N) (he : oz_E (oz_cs G) (oz_b G) i (M.1 i) (M.2 i) = .inr (ci, fs)) (hci : classes[ci]? = some (C, T, NN)) (hst : st0 = As.reverse ++ .ref (oz_b G + i) :: st) (hsm : (st.map fun v => v.category).sum ≤ 8) (hd : decode cc pc = .ok (.invokevirtual index, 3)) (hq : pc + 3 = q)
    (kk : ∀ v M2, oF = some (v, M2) → oz_R G q lv (.int v :: st) M2 (f v M2) K) : oz_R G pc lv st0 M (oz_b2 oF f) K := by
  subst hq
  intro z hz hK
  cases hF : oF with
  | none => rw [hF] at hz; cases hz
  | some w =>
    obtain ⟨v, M2⟩ := w
    rw [hF] at hz
    refine oz_back (v := some (.int v)) (M2 := M2) (rest := st) (av := (Value.ref (oz_b G + i) :: As).toArray) (fun H locs ls hP hS hl => ?_) (kk v M2 hF z hz hK)
    exact va_runVN (C := C) (host := host) (As := As) (rest := st) (b := oz_b G + i) cx.1 (hM v M2 hF) ⟨va_cnB n cx.1.2.2.2.2 (oz_goodC hc) rfl rfl rfl (cx.2.2.2.1 _ hw) (cx.1.2.2.2.2 _ hw2.2.2) hy (oz_room hRm hk hm), cx.1.2.2.2.2 _ hw2.1, cx.1.2.2.2.2 _ hw2.2.1⟩ ⟨oz_blind _ _ _ _ _, va_recv cx.2.1 hP hci (by rw [oz_w_at hi, he]), oz_pre cx hP hS⟩ rfl hn hl.1 hst (lv_room hsm) hd ⟨cx.2.2.2.2.1, cx.2.2.2.2.2.1⟩
theorem oz_cSNi (cx : oz_C G cc own) {oF : Option (Int32 × oz_M)} {f : Int32 → oz_M → Option X} {k kc : Nat} {host : String} {index : Nat} {y : MethodName} {bytes : ByteArray} {maxL : Nat} {ret : Option FieldType} {st0 : List Value} (As : List Value) (n : Nat)
    (hRm : oz_big G.1.2.2.2.1 k) (hk : kc < k) (hm : maxL ≤ 11)
    (hM : ∀ v M2, oF = some (v, M2) → oz_Met G.1.2.1 (oz_D G) (oz_cs G) (oz_b G) y bytes maxL ret (oz_rm kc) As M (some (.int v)) M2)
    (hw : Cond.methodLinkNest own index y host ∈ oz_NW) (hw2 : Cond.static y ∈ oz_TW ∧ Cond.initialized y.cls ∈ oz_TW) (hc : Cond.code y bytes maxL ret ∈ oz_TW) (hy : y.cls ≠ "java/lang/invoke/MethodHandle" ∧ y.cls ≠ "java/lang/invoke/VarHandle" ∧ (parseMethodDescriptor y.desc).map (fun d => d.parameters.length) = some n) (hn : As.length = n)
    (hst : st0 = As.reverse ++ st) (hsm : (st.map fun v => v.category).sum ≤ 8) (hd : decode cc pc = .ok (.invokestatic index, 3)) (hq : pc + 3 = q)
    (kk : ∀ v M2, oF = some (v, M2) → oz_R G q lv (.int v :: st) M2 (f v M2) K) : oz_R G pc lv st0 M (oz_b2 oF f) K := by
  subst hq
  intro z hz hK
  cases hF : oF with
  | none => rw [hF] at hz; cases hz
  | some w =>
    obtain ⟨v, M2⟩ := w
    rw [hF] at hz
    refine oz_back (v := some (.int v)) (M2 := M2) (rest := st) (av := As.toArray) (fun H locs ls hP hS hl => ?_) (kk v M2 hF z hz hK)
    exact va_runSN (host := host) (As := As) (rest := st) cx.1 (hM v M2 hF) ⟨va_cnB n cx.1.2.2.2.2 (oz_goodC hc) rfl rfl rfl (cx.2.2.2.1 _ hw) (cx.1.2.2.2.2 _ hw2.2) hy (oz_room hRm hk hm), cx.1.2.2.2.2 _ hw2.1, trivial⟩ ⟨oz_blind _ _ _ _ _, oz_pre cx hP hS⟩ rfl hn hl.1 hst (lv_room hsm) hd ⟨cx.2.2.2.2.1, cx.2.2.2.2.2.1⟩
theorem oz_cVip (cx : oz_C G cc own) {oF : Option Int32} {f : Int32 → Option X} {k kc : Nat} {C : String} {index : Nat} {y : MethodName} {bytes : ByteArray} {maxL : Nat} {ret : Option FieldType} {st0 : List Value} (i : Nat) (As : List Value) (n ci : Nat) {T : u_T} {NN : Nat} {fs : List Value}
    (hRm : oz_big G.1.2.2.2.1 k) (hk : kc < k) (hm : maxL ≤ 11)
    (hM : ∀ v, oF = some v → oz_Met G.1.2.1 (oz_D G) (oz_cs G) (oz_b G) y bytes maxL ret (oz_rm kc) (.ref (oz_b G + i) :: As) M (some (.int v)) M)
    (hw : oz_wV own index C y) (hc : Cond.code y bytes maxL ret ∈ oz_TW) (hy : y.cls = C ∧ y.cls ≠ "java/lang/invoke/MethodHandle" ∧ y.cls ≠ "java/lang/invoke/VarHandle" ∧ (parseMethodDescriptor y.desc).map (fun d => d.parameters.length) = some n) (hn : As.length = n)
    (hi : i < oz_N) (he : oz_E (oz_cs G) (oz_b G) i (M.1 i) (M.2 i) = .inr (ci, fs)) (hci : classes[ci]? = some (C, T, NN)) (hst : st0 = As.reverse ++ .ref (oz_b G + i) :: st) (hsm : (st.map fun v => v.category).sum ≤ 8) (hd : decode cc pc = .ok (.invokevirtual index, 3)) (hq : pc + 3 = q)
    (kk : ∀ v, oF = some v → oz_R G q lv (.int v :: st) M (f v) K) : oz_R G pc lv st0 M (oF.bind f) K := by
  subst hq
  intro z hz hK
  cases hF : oF with
  | none => rw [hF] at hz; cases hz
  | some v =>
    rw [hF] at hz
    refine oz_back (v := some (.int v)) (M2 := M) (rest := st) (av := (Value.ref (oz_b G + i) :: As).toArray) (fun H locs ls hP hS hl => ?_) (kk v hF z hz hK)
    exact va_runV (As := As) (rest := st) (b := oz_b G + i) cx.1 (hM v hF) (cwV n cx.1.2.2.2.2 (oz_goodV hw hc) rfl rfl rfl hy (oz_room hRm hk hm)) ⟨oz_blind _ _ _ _ _, va_recv cx.2.1 hP hci (by rw [oz_w_at hi, he]), oz_pre cx hP hS⟩ rfl hn hl.1 hst (lv_room hsm) hd ⟨cx.2.2.2.2.1, cx.2.2.2.2.2.1⟩
theorem oz_cSip (cx : oz_C G cc own) {oF : Option Int32} {f : Int32 → Option X} {k kc : Nat} {index : Nat} {y : MethodName} {bytes : ByteArray} {maxL : Nat} {ret : Option FieldType} {st0 : List Value} (As : List Value) (n : Nat)
    (hRm : oz_big G.1.2.2.2.1 k) (hk : kc < k) (hm : maxL ≤ 11)
    (hM : ∀ v, oF = some v → oz_Met G.1.2.1 (oz_D G) (oz_cs G) (oz_b G) y bytes maxL ret (oz_rm kc) As M (some (.int v)) M)
    (hw : oz_wS own index y) (hc : Cond.code y bytes maxL ret ∈ oz_TW) (hy : y.cls ≠ "java/lang/invoke/MethodHandle" ∧ y.cls ≠ "java/lang/invoke/VarHandle" ∧ (parseMethodDescriptor y.desc).map (fun d => d.parameters.length) = some n) (hn : As.length = n)
    (hst : st0 = As.reverse ++ st) (hsm : (st.map fun v => v.category).sum ≤ 8) (hd : decode cc pc = .ok (.invokestatic index, 3)) (hq : pc + 3 = q)
    (kk : ∀ v, oF = some v → oz_R G q lv (.int v :: st) M (f v) K) : oz_R G pc lv st0 M (oF.bind f) K := by
  subst hq
  intro z hz hK
  cases hF : oF with
  | none => rw [hF] at hz; cases hz
  | some v =>
    rw [hF] at hz
    refine oz_back (v := some (.int v)) (M2 := M) (rest := st) (av := As.toArray) (fun H locs ls hP hS hl => ?_) (kk v hF z hz hK)
    exact va_runS (As := As) (rest := st) cx.1 (hM v hF) ⟨callB_of n cx.1.2.2.2.2 (oz_goodC hc) rfl rfl rfl (cx.1.2.2.2.2 _ hw.2.2) (cx.1.2.2.2.2 _ hw.1) hy (oz_room hRm hk hm), cx.1.2.2.2.2 _ hw.2.1⟩ ⟨oz_blind _ _ _ _ _, oz_pre cx hP hS⟩ rfl hn hl.1 hst (lv_room hsm) hd ⟨cx.2.2.2.2.1, cx.2.2.2.2.2.1⟩
theorem oz_cVNip (cx : oz_C G cc own) {oF : Option Int32} {f : Int32 → Option X} {k kc : Nat} {C : String} {host : String} {index : Nat} {y : MethodName} {bytes : ByteArray} {maxL : Nat} {ret : Option FieldType} {st0 : List Value} (i : Nat) (As : List Value) (n ci : Nat) {T : u_T} {NN : Nat} {fs : List Value}
    (hRm : oz_big G.1.2.2.2.1 k) (hk : kc < k) (hm : maxL ≤ 11)
    (hM : ∀ v, oF = some v → oz_Met G.1.2.1 (oz_D G) (oz_cs G) (oz_b G) y bytes maxL ret (oz_rm kc) (.ref (oz_b G + i) :: As) M (some (.int v)) M)
    (hw : Cond.methodLinkNest own index y host ∈ oz_NW) (hw2 : Cond.instanceMethod y ∈ oz_TW ∧ Cond.selects C y y ∈ oz_TW ∧ Cond.initialized y.cls ∈ oz_TW) (hc : Cond.code y bytes maxL ret ∈ oz_TW) (hy : y.cls ≠ "java/lang/invoke/MethodHandle" ∧ y.cls ≠ "java/lang/invoke/VarHandle" ∧ (parseMethodDescriptor y.desc).map (fun d => d.parameters.length) = some n) (hn : As.length = n)
    (hi : i < oz_N) (he : oz_E (oz_cs G) (oz_b G) i (M.1 i) (M.2 i) = .inr (ci, fs)) (hci : classes[ci]? = some (C, T, NN)) (hst : st0 = As.reverse ++ .ref (oz_b G + i) :: st) (hsm : (st.map fun v => v.category).sum ≤ 8) (hd : decode cc pc = .ok (.invokevirtual index, 3)) (hq : pc + 3 = q)
    (kk : ∀ v, oF = some v → oz_R G q lv (.int v :: st) M (f v) K) : oz_R G pc lv st0 M (oF.bind f) K := by
  subst hq
  intro z hz hK
  cases hF : oF with
  | none => rw [hF] at hz; cases hz
  | some v =>
    rw [hF] at hz
    refine oz_back (v := some (.int v)) (M2 := M) (rest := st) (av := (Value.ref (oz_b G + i) :: As).toArray) (fun H locs ls hP hS hl => ?_) (kk v hF z hz hK)
    exact va_runVN (C := C) (host := host) (As := As) (rest := st) (b := oz_b G + i) cx.1 (hM v hF) ⟨va_cnB n cx.1.2.2.2.2 (oz_goodC hc) rfl rfl rfl (cx.2.2.2.1 _ hw) (cx.1.2.2.2.2 _ hw2.2.2) hy (oz_room hRm hk hm), cx.1.2.2.2.2 _ hw2.1, cx.1.2.2.2.2 _ hw2.2.1⟩ ⟨oz_blind _ _ _ _ _, va_recv cx.2.1 hP hci (by rw [oz_w_at hi, he]), oz_pre cx hP hS⟩ rfl hn hl.1 hst (lv_room hsm) hd ⟨cx.2.2.2.2.1, cx.2.2.2.2.2.1⟩
theorem oz_cSNip (cx : oz_C G cc own) {oF : Option Int32} {f : Int32 → Option X} {k kc : Nat} {host : String} {index : Nat} {y : MethodName} {bytes : ByteArray} {maxL : Nat} {ret : Option FieldType} {st0 : List Value} (As : List Value) (n : Nat)
    (hRm : oz_big G.1.2.2.2.1 k) (hk : kc < k) (hm : maxL ≤ 11)
    (hM : ∀ v, oF = some v → oz_Met G.1.2.1 (oz_D G) (oz_cs G) (oz_b G) y bytes maxL ret (oz_rm kc) As M (some (.int v)) M)
    (hw : Cond.methodLinkNest own index y host ∈ oz_NW) (hw2 : Cond.static y ∈ oz_TW ∧ Cond.initialized y.cls ∈ oz_TW) (hc : Cond.code y bytes maxL ret ∈ oz_TW) (hy : y.cls ≠ "java/lang/invoke/MethodHandle" ∧ y.cls ≠ "java/lang/invoke/VarHandle" ∧ (parseMethodDescriptor y.desc).map (fun d => d.parameters.length) = some n) (hn : As.length = n)
    (hst : st0 = As.reverse ++ st) (hsm : (st.map fun v => v.category).sum ≤ 8) (hd : decode cc pc = .ok (.invokestatic index, 3)) (hq : pc + 3 = q)
    (kk : ∀ v, oF = some v → oz_R G q lv (.int v :: st) M (f v) K) : oz_R G pc lv st0 M (oF.bind f) K := by
  subst hq
  intro z hz hK
  cases hF : oF with
  | none => rw [hF] at hz; cases hz
  | some v =>
    rw [hF] at hz
    refine oz_back (v := some (.int v)) (M2 := M) (rest := st) (av := As.toArray) (fun H locs ls hP hS hl => ?_) (kk v hF z hz hK)
    exact va_runSN (host := host) (As := As) (rest := st) cx.1 (hM v hF) ⟨va_cnB n cx.1.2.2.2.2 (oz_goodC hc) rfl rfl rfl (cx.2.2.2.1 _ hw) (cx.1.2.2.2.2 _ hw2.2) hy (oz_room hRm hk hm), cx.1.2.2.2.2 _ hw2.1, trivial⟩ ⟨oz_blind _ _ _ _ _, oz_pre cx hP hS⟩ rfl hn hl.1 hst (lv_room hsm) hd ⟨cx.2.2.2.2.1, cx.2.2.2.2.2.1⟩
theorem oz_cVl (cx : oz_C G cc own) {oF : Option (Int64 × oz_M)} {f : Int64 → oz_M → Option X} {k kc : Nat} {C : String} {index : Nat} {y : MethodName} {bytes : ByteArray} {maxL : Nat} {ret : Option FieldType} {st0 : List Value} (i : Nat) (As : List Value) (n ci : Nat) {T : u_T} {NN : Nat} {fs : List Value}
    (hRm : oz_big G.1.2.2.2.1 k) (hk : kc < k) (hm : maxL ≤ 11)
    (hM : ∀ v M2, oF = some (v, M2) → oz_Met G.1.2.1 (oz_D G) (oz_cs G) (oz_b G) y bytes maxL ret (oz_rm kc) (.ref (oz_b G + i) :: As) M (some (.long v)) M2)
    (hw : oz_wV own index C y) (hc : Cond.code y bytes maxL ret ∈ oz_TW) (hy : y.cls = C ∧ y.cls ≠ "java/lang/invoke/MethodHandle" ∧ y.cls ≠ "java/lang/invoke/VarHandle" ∧ (parseMethodDescriptor y.desc).map (fun d => d.parameters.length) = some n) (hn : As.length = n)
    (hi : i < oz_N) (he : oz_E (oz_cs G) (oz_b G) i (M.1 i) (M.2 i) = .inr (ci, fs)) (hci : classes[ci]? = some (C, T, NN)) (hst : st0 = As.reverse ++ .ref (oz_b G + i) :: st) (hsm : (st.map fun v => v.category).sum ≤ 8) (hd : decode cc pc = .ok (.invokevirtual index, 3)) (hq : pc + 3 = q)
    (kk : ∀ v M2, oF = some (v, M2) → oz_R G q lv (.long v :: st) M2 (f v M2) K) : oz_R G pc lv st0 M (oz_b2 oF f) K := by
  subst hq
  intro z hz hK
  cases hF : oF with
  | none => rw [hF] at hz; cases hz
  | some w =>
    obtain ⟨v, M2⟩ := w
    rw [hF] at hz
    refine oz_back (v := some (.long v)) (M2 := M2) (rest := st) (av := (Value.ref (oz_b G + i) :: As).toArray) (fun H locs ls hP hS hl => ?_) (kk v M2 hF z hz hK)
    exact va_runV (As := As) (rest := st) (b := oz_b G + i) cx.1 (hM v M2 hF) (cwV n cx.1.2.2.2.2 (oz_goodV hw hc) rfl rfl rfl hy (oz_room hRm hk hm)) ⟨oz_blind _ _ _ _ _, va_recv cx.2.1 hP hci (by rw [oz_w_at hi, he]), oz_pre cx hP hS⟩ rfl hn hl.1 hst (lv_room hsm) hd ⟨cx.2.2.2.2.1, cx.2.2.2.2.2.1⟩
theorem oz_cSl (cx : oz_C G cc own) {oF : Option (Int64 × oz_M)} {f : Int64 → oz_M → Option X} {k kc : Nat} {index : Nat} {y : MethodName} {bytes : ByteArray} {maxL : Nat} {ret : Option FieldType} {st0 : List Value} (As : List Value) (n : Nat)
    (hRm : oz_big G.1.2.2.2.1 k) (hk : kc < k) (hm : maxL ≤ 11)
    (hM : ∀ v M2, oF = some (v, M2) → oz_Met G.1.2.1 (oz_D G) (oz_cs G) (oz_b G) y bytes maxL ret (oz_rm kc) As M (some (.long v)) M2)
    (hw : oz_wS own index y) (hc : Cond.code y bytes maxL ret ∈ oz_TW) (hy : y.cls ≠ "java/lang/invoke/MethodHandle" ∧ y.cls ≠ "java/lang/invoke/VarHandle" ∧ (parseMethodDescriptor y.desc).map (fun d => d.parameters.length) = some n) (hn : As.length = n)
    (hst : st0 = As.reverse ++ st) (hsm : (st.map fun v => v.category).sum ≤ 8) (hd : decode cc pc = .ok (.invokestatic index, 3)) (hq : pc + 3 = q)
    (kk : ∀ v M2, oF = some (v, M2) → oz_R G q lv (.long v :: st) M2 (f v M2) K) : oz_R G pc lv st0 M (oz_b2 oF f) K := by
  subst hq
  intro z hz hK
  cases hF : oF with
  | none => rw [hF] at hz; cases hz
  | some w =>
    obtain ⟨v, M2⟩ := w
    rw [hF] at hz
    refine oz_back (v := some (.long v)) (M2 := M2) (rest := st) (av := As.toArray) (fun H locs ls hP hS hl => ?_) (kk v M2 hF z hz hK)
    exact va_runS (As := As) (rest := st) cx.1 (hM v M2 hF) ⟨callB_of n cx.1.2.2.2.2 (oz_goodC hc) rfl rfl rfl (cx.1.2.2.2.2 _ hw.2.2) (cx.1.2.2.2.2 _ hw.1) hy (oz_room hRm hk hm), cx.1.2.2.2.2 _ hw.2.1⟩ ⟨oz_blind _ _ _ _ _, oz_pre cx hP hS⟩ rfl hn hl.1 hst (lv_room hsm) hd ⟨cx.2.2.2.2.1, cx.2.2.2.2.2.1⟩
theorem oz_cVNl (cx : oz_C G cc own) {oF : Option (Int64 × oz_M)} {f : Int64 → oz_M → Option X} {k kc : Nat} {C : String} {host : String} {index : Nat} {y : MethodName} {bytes : ByteArray} {maxL : Nat} {ret : Option FieldType} {st0 : List Value} (i : Nat) (As : List Value) (n ci : Nat) {T : u_T} {NN : Nat} {fs : List Value}
    (hRm : oz_big G.1.2.2.2.1 k) (hk : kc < k) (hm : maxL ≤ 11)
    (hM : ∀ v M2, oF = some (v, M2) → oz_Met G.1.2.1 (oz_D G) (oz_cs G) (oz_b G) y bytes maxL ret (oz_rm kc) (.ref (oz_b G + i) :: As) M (some (.long v)) M2)
    (hw : Cond.methodLinkNest own index y host ∈ oz_NW) (hw2 : Cond.instanceMethod y ∈ oz_TW ∧ Cond.selects C y y ∈ oz_TW ∧ Cond.initialized y.cls ∈ oz_TW) (hc : Cond.code y bytes maxL ret ∈ oz_TW) (hy : y.cls ≠ "java/lang/invoke/MethodHandle" ∧ y.cls ≠ "java/lang/invoke/VarHandle" ∧ (parseMethodDescriptor y.desc).map (fun d => d.parameters.length) = some n) (hn : As.length = n)
    (hi : i < oz_N) (he : oz_E (oz_cs G) (oz_b G) i (M.1 i) (M.2 i) = .inr (ci, fs)) (hci : classes[ci]? = some (C, T, NN)) (hst : st0 = As.reverse ++ .ref (oz_b G + i) :: st) (hsm : (st.map fun v => v.category).sum ≤ 8) (hd : decode cc pc = .ok (.invokevirtual index, 3)) (hq : pc + 3 = q)
    (kk : ∀ v M2, oF = some (v, M2) → oz_R G q lv (.long v :: st) M2 (f v M2) K) : oz_R G pc lv st0 M (oz_b2 oF f) K := by
  subst hq
  intro z hz hK
  cases hF : oF with
  | none => rw [hF] at hz; cases hz
  | some w =>
    obtain ⟨v, M2⟩ := w
    rw [hF] at hz
    refine oz_back (v := some (.long v)) (M2 := M2) (rest := st) (av := (Value.ref (oz_b G + i) :: As).toArray) (fun H locs ls hP hS hl => ?_) (kk v M2 hF z hz hK)
    exact va_runVN (C := C) (host := host) (As := As) (rest := st) (b := oz_b G + i) cx.1 (hM v M2 hF) ⟨va_cnB n cx.1.2.2.2.2 (oz_goodC hc) rfl rfl rfl (cx.2.2.2.1 _ hw) (cx.1.2.2.2.2 _ hw2.2.2) hy (oz_room hRm hk hm), cx.1.2.2.2.2 _ hw2.1, cx.1.2.2.2.2 _ hw2.2.1⟩ ⟨oz_blind _ _ _ _ _, va_recv cx.2.1 hP hci (by rw [oz_w_at hi, he]), oz_pre cx hP hS⟩ rfl hn hl.1 hst (lv_room hsm) hd ⟨cx.2.2.2.2.1, cx.2.2.2.2.2.1⟩
theorem oz_cSNl (cx : oz_C G cc own) {oF : Option (Int64 × oz_M)} {f : Int64 → oz_M → Option X} {k kc : Nat} {host : String} {index : Nat} {y : MethodName} {bytes : ByteArray} {maxL : Nat} {ret : Option FieldType} {st0 : List Value} (As : List Value) (n : Nat)
    (hRm : oz_big G.1.2.2.2.1 k) (hk : kc < k) (hm : maxL ≤ 11)
    (hM : ∀ v M2, oF = some (v, M2) → oz_Met G.1.2.1 (oz_D G) (oz_cs G) (oz_b G) y bytes maxL ret (oz_rm kc) As M (some (.long v)) M2)
    (hw : Cond.methodLinkNest own index y host ∈ oz_NW) (hw2 : Cond.static y ∈ oz_TW ∧ Cond.initialized y.cls ∈ oz_TW) (hc : Cond.code y bytes maxL ret ∈ oz_TW) (hy : y.cls ≠ "java/lang/invoke/MethodHandle" ∧ y.cls ≠ "java/lang/invoke/VarHandle" ∧ (parseMethodDescriptor y.desc).map (fun d => d.parameters.length) = some n) (hn : As.length = n)
    (hst : st0 = As.reverse ++ st) (hsm : (st.map fun v => v.category).sum ≤ 8) (hd : decode cc pc = .ok (.invokestatic index, 3)) (hq : pc + 3 = q)
    (kk : ∀ v M2, oF = some (v, M2) → oz_R G q lv (.long v :: st) M2 (f v M2) K) : oz_R G pc lv st0 M (oz_b2 oF f) K := by
  subst hq
  intro z hz hK
  cases hF : oF with
  | none => rw [hF] at hz; cases hz
  | some w =>
    obtain ⟨v, M2⟩ := w
    rw [hF] at hz
    refine oz_back (v := some (.long v)) (M2 := M2) (rest := st) (av := As.toArray) (fun H locs ls hP hS hl => ?_) (kk v M2 hF z hz hK)
    exact va_runSN (host := host) (As := As) (rest := st) cx.1 (hM v M2 hF) ⟨va_cnB n cx.1.2.2.2.2 (oz_goodC hc) rfl rfl rfl (cx.2.2.2.1 _ hw) (cx.1.2.2.2.2 _ hw2.2) hy (oz_room hRm hk hm), cx.1.2.2.2.2 _ hw2.1, trivial⟩ ⟨oz_blind _ _ _ _ _, oz_pre cx hP hS⟩ rfl hn hl.1 hst (lv_room hsm) hd ⟨cx.2.2.2.2.1, cx.2.2.2.2.2.1⟩
theorem oz_cVlp (cx : oz_C G cc own) {oF : Option Int64} {f : Int64 → Option X} {k kc : Nat} {C : String} {index : Nat} {y : MethodName} {bytes : ByteArray} {maxL : Nat} {ret : Option FieldType} {st0 : List Value} (i : Nat) (As : List Value) (n ci : Nat) {T : u_T} {NN : Nat} {fs : List Value}
    (hRm : oz_big G.1.2.2.2.1 k) (hk : kc < k) (hm : maxL ≤ 11)
    (hM : ∀ v, oF = some v → oz_Met G.1.2.1 (oz_D G) (oz_cs G) (oz_b G) y bytes maxL ret (oz_rm kc) (.ref (oz_b G + i) :: As) M (some (.long v)) M)
    (hw : oz_wV own index C y) (hc : Cond.code y bytes maxL ret ∈ oz_TW) (hy : y.cls = C ∧ y.cls ≠ "java/lang/invoke/MethodHandle" ∧ y.cls ≠ "java/lang/invoke/VarHandle" ∧ (parseMethodDescriptor y.desc).map (fun d => d.parameters.length) = some n) (hn : As.length = n)
    (hi : i < oz_N) (he : oz_E (oz_cs G) (oz_b G) i (M.1 i) (M.2 i) = .inr (ci, fs)) (hci : classes[ci]? = some (C, T, NN)) (hst : st0 = As.reverse ++ .ref (oz_b G + i) :: st) (hsm : (st.map fun v => v.category).sum ≤ 8) (hd : decode cc pc = .ok (.invokevirtual index, 3)) (hq : pc + 3 = q)
    (kk : ∀ v, oF = some v → oz_R G q lv (.long v :: st) M (f v) K) : oz_R G pc lv st0 M (oF.bind f) K := by
  subst hq
  intro z hz hK
  cases hF : oF with
  | none => rw [hF] at hz; cases hz
  | some v =>
    rw [hF] at hz
    refine oz_back (v := some (.long v)) (M2 := M) (rest := st) (av := (Value.ref (oz_b G + i) :: As).toArray) (fun H locs ls hP hS hl => ?_) (kk v hF z hz hK)
    exact va_runV (As := As) (rest := st) (b := oz_b G + i) cx.1 (hM v hF) (cwV n cx.1.2.2.2.2 (oz_goodV hw hc) rfl rfl rfl hy (oz_room hRm hk hm)) ⟨oz_blind _ _ _ _ _, va_recv cx.2.1 hP hci (by rw [oz_w_at hi, he]), oz_pre cx hP hS⟩ rfl hn hl.1 hst (lv_room hsm) hd ⟨cx.2.2.2.2.1, cx.2.2.2.2.2.1⟩
theorem oz_cSlp (cx : oz_C G cc own) {oF : Option Int64} {f : Int64 → Option X} {k kc : Nat} {index : Nat} {y : MethodName} {bytes : ByteArray} {maxL : Nat} {ret : Option FieldType} {st0 : List Value} (As : List Value) (n : Nat)
    (hRm : oz_big G.1.2.2.2.1 k) (hk : kc < k) (hm : maxL ≤ 11)
    (hM : ∀ v, oF = some v → oz_Met G.1.2.1 (oz_D G) (oz_cs G) (oz_b G) y bytes maxL ret (oz_rm kc) As M (some (.long v)) M)
    (hw : oz_wS own index y) (hc : Cond.code y bytes maxL ret ∈ oz_TW) (hy : y.cls ≠ "java/lang/invoke/MethodHandle" ∧ y.cls ≠ "java/lang/invoke/VarHandle" ∧ (parseMethodDescriptor y.desc).map (fun d => d.parameters.length) = some n) (hn : As.length = n)
    (hst : st0 = As.reverse ++ st) (hsm : (st.map fun v => v.category).sum ≤ 8) (hd : decode cc pc = .ok (.invokestatic index, 3)) (hq : pc + 3 = q)
    (kk : ∀ v, oF = some v → oz_R G q lv (.long v :: st) M (f v) K) : oz_R G pc lv st0 M (oF.bind f) K := by
  subst hq
  intro z hz hK
  cases hF : oF with
  | none => rw [hF] at hz; cases hz
  | some v =>
    rw [hF] at hz
    refine oz_back (v := some (.long v)) (M2 := M) (rest := st) (av := As.toArray) (fun H locs ls hP hS hl => ?_) (kk v hF z hz hK)
    exact va_runS (As := As) (rest := st) cx.1 (hM v hF) ⟨callB_of n cx.1.2.2.2.2 (oz_goodC hc) rfl rfl rfl (cx.1.2.2.2.2 _ hw.2.2) (cx.1.2.2.2.2 _ hw.1) hy (oz_room hRm hk hm), cx.1.2.2.2.2 _ hw.2.1⟩ ⟨oz_blind _ _ _ _ _, oz_pre cx hP hS⟩ rfl hn hl.1 hst (lv_room hsm) hd ⟨cx.2.2.2.2.1, cx.2.2.2.2.2.1⟩
theorem oz_cVNlp (cx : oz_C G cc own) {oF : Option Int64} {f : Int64 → Option X} {k kc : Nat} {C : String} {host : String} {index : Nat} {y : MethodName} {bytes : ByteArray} {maxL : Nat} {ret : Option FieldType} {st0 : List Value} (i : Nat) (As : List Value) (n ci : Nat) {T : u_T} {NN : Nat} {fs : List Value}
    (hRm : oz_big G.1.2.2.2.1 k) (hk : kc < k) (hm : maxL ≤ 11)
    (hM : ∀ v, oF = some v → oz_Met G.1.2.1 (oz_D G) (oz_cs G) (oz_b G) y bytes maxL ret (oz_rm kc) (.ref (oz_b G + i) :: As) M (some (.long v)) M)
    (hw : Cond.methodLinkNest own index y host ∈ oz_NW) (hw2 : Cond.instanceMethod y ∈ oz_TW ∧ Cond.selects C y y ∈ oz_TW ∧ Cond.initialized y.cls ∈ oz_TW) (hc : Cond.code y bytes maxL ret ∈ oz_TW) (hy : y.cls ≠ "java/lang/invoke/MethodHandle" ∧ y.cls ≠ "java/lang/invoke/VarHandle" ∧ (parseMethodDescriptor y.desc).map (fun d => d.parameters.length) = some n) (hn : As.length = n)
    (hi : i < oz_N) (he : oz_E (oz_cs G) (oz_b G) i (M.1 i) (M.2 i) = .inr (ci, fs)) (hci : classes[ci]? = some (C, T, NN)) (hst : st0 = As.reverse ++ .ref (oz_b G + i) :: st) (hsm : (st.map fun v => v.category).sum ≤ 8) (hd : decode cc pc = .ok (.invokevirtual index, 3)) (hq : pc + 3 = q)
    (kk : ∀ v, oF = some v → oz_R G q lv (.long v :: st) M (f v) K) : oz_R G pc lv st0 M (oF.bind f) K := by
  subst hq
  intro z hz hK
  cases hF : oF with
  | none => rw [hF] at hz; cases hz
  | some v =>
    rw [hF] at hz
    refine oz_back (v := some (.long v)) (M2 := M) (rest := st) (av := (Value.ref (oz_b G + i) :: As).toArray) (fun H locs ls hP hS hl => ?_) (kk v hF z hz hK)
    exact va_runVN (C := C) (host := host) (As := As) (rest := st) (b := oz_b G + i) cx.1 (hM v hF) ⟨va_cnB n cx.1.2.2.2.2 (oz_goodC hc) rfl rfl rfl (cx.2.2.2.1 _ hw) (cx.1.2.2.2.2 _ hw2.2.2) hy (oz_room hRm hk hm), cx.1.2.2.2.2 _ hw2.1, cx.1.2.2.2.2 _ hw2.2.1⟩ ⟨oz_blind _ _ _ _ _, va_recv cx.2.1 hP hci (by rw [oz_w_at hi, he]), oz_pre cx hP hS⟩ rfl hn hl.1 hst (lv_room hsm) hd ⟨cx.2.2.2.2.1, cx.2.2.2.2.2.1⟩
theorem oz_cSNlp (cx : oz_C G cc own) {oF : Option Int64} {f : Int64 → Option X} {k kc : Nat} {host : String} {index : Nat} {y : MethodName} {bytes : ByteArray} {maxL : Nat} {ret : Option FieldType} {st0 : List Value} (As : List Value) (n : Nat)
    (hRm : oz_big G.1.2.2.2.1 k) (hk : kc < k) (hm : maxL ≤ 11)
    (hM : ∀ v, oF = some v → oz_Met G.1.2.1 (oz_D G) (oz_cs G) (oz_b G) y bytes maxL ret (oz_rm kc) As M (some (.long v)) M)
    (hw : Cond.methodLinkNest own index y host ∈ oz_NW) (hw2 : Cond.static y ∈ oz_TW ∧ Cond.initialized y.cls ∈ oz_TW) (hc : Cond.code y bytes maxL ret ∈ oz_TW) (hy : y.cls ≠ "java/lang/invoke/MethodHandle" ∧ y.cls ≠ "java/lang/invoke/VarHandle" ∧ (parseMethodDescriptor y.desc).map (fun d => d.parameters.length) = some n) (hn : As.length = n)
    (hst : st0 = As.reverse ++ st) (hsm : (st.map fun v => v.category).sum ≤ 8) (hd : decode cc pc = .ok (.invokestatic index, 3)) (hq : pc + 3 = q)
    (kk : ∀ v, oF = some v → oz_R G q lv (.long v :: st) M (f v) K) : oz_R G pc lv st0 M (oF.bind f) K := by
  subst hq
  intro z hz hK
  cases hF : oF with
  | none => rw [hF] at hz; cases hz
  | some v =>
    rw [hF] at hz
    refine oz_back (v := some (.long v)) (M2 := M) (rest := st) (av := As.toArray) (fun H locs ls hP hS hl => ?_) (kk v hF z hz hK)
    exact va_runSN (host := host) (As := As) (rest := st) cx.1 (hM v hF) ⟨va_cnB n cx.1.2.2.2.2 (oz_goodC hc) rfl rfl rfl (cx.2.2.2.1 _ hw) (cx.1.2.2.2.2 _ hw2.2) hy (oz_room hRm hk hm), cx.1.2.2.2.2 _ hw2.1, trivial⟩ ⟨oz_blind _ _ _ _ _, oz_pre cx hP hS⟩ rfl hn hl.1 hst (lv_room hsm) hd ⟨cx.2.2.2.2.1, cx.2.2.2.2.2.1⟩
theorem oz_cVv (cx : oz_C G cc own) {oF : Option (Unit × oz_M)} {f : Unit → oz_M → Option X} {k kc : Nat} {C : String} {index : Nat} {y : MethodName} {bytes : ByteArray} {maxL : Nat} {ret : Option FieldType} {st0 : List Value} (i : Nat) (As : List Value) (n ci : Nat) {T : u_T} {NN : Nat} {fs : List Value}
    (hRm : oz_big G.1.2.2.2.1 k) (hk : kc < k) (hm : maxL ≤ 11)
    (hM : ∀ v M2, oF = some (v, M2) → oz_Met G.1.2.1 (oz_D G) (oz_cs G) (oz_b G) y bytes maxL ret (oz_rm kc) (.ref (oz_b G + i) :: As) M (none) M2)
    (hw : oz_wV own index C y) (hc : Cond.code y bytes maxL ret ∈ oz_TW) (hy : y.cls = C ∧ y.cls ≠ "java/lang/invoke/MethodHandle" ∧ y.cls ≠ "java/lang/invoke/VarHandle" ∧ (parseMethodDescriptor y.desc).map (fun d => d.parameters.length) = some n) (hn : As.length = n)
    (hi : i < oz_N) (he : oz_E (oz_cs G) (oz_b G) i (M.1 i) (M.2 i) = .inr (ci, fs)) (hci : classes[ci]? = some (C, T, NN)) (hst : st0 = As.reverse ++ .ref (oz_b G + i) :: st) (hsm : (st.map fun v => v.category).sum ≤ 8) (hd : decode cc pc = .ok (.invokevirtual index, 3)) (hq : pc + 3 = q)
    (kk : ∀ v M2, oF = some (v, M2) → oz_R G q lv (st) M2 (f v M2) K) : oz_R G pc lv st0 M (oz_b2 oF f) K := by
  subst hq
  intro z hz hK
  cases hF : oF with
  | none => rw [hF] at hz; cases hz
  | some w =>
    obtain ⟨v, M2⟩ := w
    rw [hF] at hz
    refine oz_back (v := none) (M2 := M2) (rest := st) (av := (Value.ref (oz_b G + i) :: As).toArray) (fun H locs ls hP hS hl => ?_) (kk v M2 hF z hz hK)
    exact va_runV (As := As) (rest := st) (b := oz_b G + i) cx.1 (hM v M2 hF) (cwV n cx.1.2.2.2.2 (oz_goodV hw hc) rfl rfl rfl hy (oz_room hRm hk hm)) ⟨oz_blind _ _ _ _ _, va_recv cx.2.1 hP hci (by rw [oz_w_at hi, he]), oz_pre cx hP hS⟩ rfl hn hl.1 hst (lv_room hsm) hd ⟨cx.2.2.2.2.1, cx.2.2.2.2.2.1⟩
theorem oz_cSv (cx : oz_C G cc own) {oF : Option (Unit × oz_M)} {f : Unit → oz_M → Option X} {k kc : Nat} {index : Nat} {y : MethodName} {bytes : ByteArray} {maxL : Nat} {ret : Option FieldType} {st0 : List Value} (As : List Value) (n : Nat)
    (hRm : oz_big G.1.2.2.2.1 k) (hk : kc < k) (hm : maxL ≤ 11)
    (hM : ∀ v M2, oF = some (v, M2) → oz_Met G.1.2.1 (oz_D G) (oz_cs G) (oz_b G) y bytes maxL ret (oz_rm kc) As M (none) M2)
    (hw : oz_wS own index y) (hc : Cond.code y bytes maxL ret ∈ oz_TW) (hy : y.cls ≠ "java/lang/invoke/MethodHandle" ∧ y.cls ≠ "java/lang/invoke/VarHandle" ∧ (parseMethodDescriptor y.desc).map (fun d => d.parameters.length) = some n) (hn : As.length = n)
    (hst : st0 = As.reverse ++ st) (hsm : (st.map fun v => v.category).sum ≤ 8) (hd : decode cc pc = .ok (.invokestatic index, 3)) (hq : pc + 3 = q)
    (kk : ∀ v M2, oF = some (v, M2) → oz_R G q lv (st) M2 (f v M2) K) : oz_R G pc lv st0 M (oz_b2 oF f) K := by
  subst hq
  intro z hz hK
  cases hF : oF with
  | none => rw [hF] at hz; cases hz
  | some w =>
    obtain ⟨v, M2⟩ := w
    rw [hF] at hz
    refine oz_back (v := none) (M2 := M2) (rest := st) (av := As.toArray) (fun H locs ls hP hS hl => ?_) (kk v M2 hF z hz hK)
    exact va_runS (As := As) (rest := st) cx.1 (hM v M2 hF) ⟨callB_of n cx.1.2.2.2.2 (oz_goodC hc) rfl rfl rfl (cx.1.2.2.2.2 _ hw.2.2) (cx.1.2.2.2.2 _ hw.1) hy (oz_room hRm hk hm), cx.1.2.2.2.2 _ hw.2.1⟩ ⟨oz_blind _ _ _ _ _, oz_pre cx hP hS⟩ rfl hn hl.1 hst (lv_room hsm) hd ⟨cx.2.2.2.2.1, cx.2.2.2.2.2.1⟩
theorem oz_cVNv (cx : oz_C G cc own) {oF : Option (Unit × oz_M)} {f : Unit → oz_M → Option X} {k kc : Nat} {C : String} {host : String} {index : Nat} {y : MethodName} {bytes : ByteArray} {maxL : Nat} {ret : Option FieldType} {st0 : List Value} (i : Nat) (As : List Value) (n ci : Nat) {T : u_T} {NN : Nat} {fs : List Value}
    (hRm : oz_big G.1.2.2.2.1 k) (hk : kc < k) (hm : maxL ≤ 11)
    (hM : ∀ v M2, oF = some (v, M2) → oz_Met G.1.2.1 (oz_D G) (oz_cs G) (oz_b G) y bytes maxL ret (oz_rm kc) (.ref (oz_b G + i) :: As) M (none) M2)
    (hw : Cond.methodLinkNest own index y host ∈ oz_NW) (hw2 : Cond.instanceMethod y ∈ oz_TW ∧ Cond.selects C y y ∈ oz_TW ∧ Cond.initialized y.cls ∈ oz_TW) (hc : Cond.code y bytes maxL ret ∈ oz_TW) (hy : y.cls ≠ "java/lang/invoke/MethodHandle" ∧ y.cls ≠ "java/lang/invoke/VarHandle" ∧ (parseMethodDescriptor y.desc).map (fun d => d.parameters.length) = some n) (hn : As.length = n)
    (hi : i < oz_N) (he : oz_E (oz_cs G) (oz_b G) i (M.1 i) (M.2 i) = .inr (ci, fs)) (hci : classes[ci]? = some (C, T, NN)) (hst : st0 = As.reverse ++ .ref (oz_b G + i) :: st) (hsm : (st.map fun v => v.category).sum ≤ 8) (hd : decode cc pc = .ok (.invokevirtual index, 3)) (hq : pc + 3 = q)
    (kk : ∀ v M2, oF = some (v, M2) → oz_R G q lv (st) M2 (f v M2) K) : oz_R G pc lv st0 M (oz_b2 oF f) K := by
  subst hq
  intro z hz hK
  cases hF : oF with
  | none => rw [hF] at hz; cases hz
  | some w =>
    obtain ⟨v, M2⟩ := w
    rw [hF] at hz
    refine oz_back (v := none) (M2 := M2) (rest := st) (av := (Value.ref (oz_b G + i) :: As).toArray) (fun H locs ls hP hS hl => ?_) (kk v M2 hF z hz hK)
    exact va_runVN (C := C) (host := host) (As := As) (rest := st) (b := oz_b G + i) cx.1 (hM v M2 hF) ⟨va_cnB n cx.1.2.2.2.2 (oz_goodC hc) rfl rfl rfl (cx.2.2.2.1 _ hw) (cx.1.2.2.2.2 _ hw2.2.2) hy (oz_room hRm hk hm), cx.1.2.2.2.2 _ hw2.1, cx.1.2.2.2.2 _ hw2.2.1⟩ ⟨oz_blind _ _ _ _ _, va_recv cx.2.1 hP hci (by rw [oz_w_at hi, he]), oz_pre cx hP hS⟩ rfl hn hl.1 hst (lv_room hsm) hd ⟨cx.2.2.2.2.1, cx.2.2.2.2.2.1⟩
theorem oz_cSNv (cx : oz_C G cc own) {oF : Option (Unit × oz_M)} {f : Unit → oz_M → Option X} {k kc : Nat} {host : String} {index : Nat} {y : MethodName} {bytes : ByteArray} {maxL : Nat} {ret : Option FieldType} {st0 : List Value} (As : List Value) (n : Nat)
    (hRm : oz_big G.1.2.2.2.1 k) (hk : kc < k) (hm : maxL ≤ 11)
    (hM : ∀ v M2, oF = some (v, M2) → oz_Met G.1.2.1 (oz_D G) (oz_cs G) (oz_b G) y bytes maxL ret (oz_rm kc) As M (none) M2)
    (hw : Cond.methodLinkNest own index y host ∈ oz_NW) (hw2 : Cond.static y ∈ oz_TW ∧ Cond.initialized y.cls ∈ oz_TW) (hc : Cond.code y bytes maxL ret ∈ oz_TW) (hy : y.cls ≠ "java/lang/invoke/MethodHandle" ∧ y.cls ≠ "java/lang/invoke/VarHandle" ∧ (parseMethodDescriptor y.desc).map (fun d => d.parameters.length) = some n) (hn : As.length = n)
    (hst : st0 = As.reverse ++ st) (hsm : (st.map fun v => v.category).sum ≤ 8) (hd : decode cc pc = .ok (.invokestatic index, 3)) (hq : pc + 3 = q)
    (kk : ∀ v M2, oF = some (v, M2) → oz_R G q lv (st) M2 (f v M2) K) : oz_R G pc lv st0 M (oz_b2 oF f) K := by
  subst hq
  intro z hz hK
  cases hF : oF with
  | none => rw [hF] at hz; cases hz
  | some w =>
    obtain ⟨v, M2⟩ := w
    rw [hF] at hz
    refine oz_back (v := none) (M2 := M2) (rest := st) (av := As.toArray) (fun H locs ls hP hS hl => ?_) (kk v M2 hF z hz hK)
    exact va_runSN (host := host) (As := As) (rest := st) cx.1 (hM v M2 hF) ⟨va_cnB n cx.1.2.2.2.2 (oz_goodC hc) rfl rfl rfl (cx.2.2.2.1 _ hw) (cx.1.2.2.2.2 _ hw2.2) hy (oz_room hRm hk hm), cx.1.2.2.2.2 _ hw2.1, trivial⟩ ⟨oz_blind _ _ _ _ _, oz_pre cx hP hS⟩ rfl hn hl.1 hst (lv_room hsm) hd ⟨cx.2.2.2.2.1, cx.2.2.2.2.2.1⟩
theorem oz_cVvp (cx : oz_C G cc own) {oF : Option Unit} {f : Unit → Option X} {k kc : Nat} {C : String} {index : Nat} {y : MethodName} {bytes : ByteArray} {maxL : Nat} {ret : Option FieldType} {st0 : List Value} (i : Nat) (As : List Value) (n ci : Nat) {T : u_T} {NN : Nat} {fs : List Value}
    (hRm : oz_big G.1.2.2.2.1 k) (hk : kc < k) (hm : maxL ≤ 11)
    (hM : ∀ v, oF = some v → oz_Met G.1.2.1 (oz_D G) (oz_cs G) (oz_b G) y bytes maxL ret (oz_rm kc) (.ref (oz_b G + i) :: As) M (none) M)
    (hw : oz_wV own index C y) (hc : Cond.code y bytes maxL ret ∈ oz_TW) (hy : y.cls = C ∧ y.cls ≠ "java/lang/invoke/MethodHandle" ∧ y.cls ≠ "java/lang/invoke/VarHandle" ∧ (parseMethodDescriptor y.desc).map (fun d => d.parameters.length) = some n) (hn : As.length = n)
    (hi : i < oz_N) (he : oz_E (oz_cs G) (oz_b G) i (M.1 i) (M.2 i) = .inr (ci, fs)) (hci : classes[ci]? = some (C, T, NN)) (hst : st0 = As.reverse ++ .ref (oz_b G + i) :: st) (hsm : (st.map fun v => v.category).sum ≤ 8) (hd : decode cc pc = .ok (.invokevirtual index, 3)) (hq : pc + 3 = q)
    (kk : ∀ v, oF = some v → oz_R G q lv (st) M (f v) K) : oz_R G pc lv st0 M (oF.bind f) K := by
  subst hq
  intro z hz hK
  cases hF : oF with
  | none => rw [hF] at hz; cases hz
  | some v =>
    rw [hF] at hz
    refine oz_back (v := none) (M2 := M) (rest := st) (av := (Value.ref (oz_b G + i) :: As).toArray) (fun H locs ls hP hS hl => ?_) (kk v hF z hz hK)
    exact va_runV (As := As) (rest := st) (b := oz_b G + i) cx.1 (hM v hF) (cwV n cx.1.2.2.2.2 (oz_goodV hw hc) rfl rfl rfl hy (oz_room hRm hk hm)) ⟨oz_blind _ _ _ _ _, va_recv cx.2.1 hP hci (by rw [oz_w_at hi, he]), oz_pre cx hP hS⟩ rfl hn hl.1 hst (lv_room hsm) hd ⟨cx.2.2.2.2.1, cx.2.2.2.2.2.1⟩
theorem oz_cSvp (cx : oz_C G cc own) {oF : Option Unit} {f : Unit → Option X} {k kc : Nat} {index : Nat} {y : MethodName} {bytes : ByteArray} {maxL : Nat} {ret : Option FieldType} {st0 : List Value} (As : List Value) (n : Nat)
    (hRm : oz_big G.1.2.2.2.1 k) (hk : kc < k) (hm : maxL ≤ 11)
    (hM : ∀ v, oF = some v → oz_Met G.1.2.1 (oz_D G) (oz_cs G) (oz_b G) y bytes maxL ret (oz_rm kc) As M (none) M)
    (hw : oz_wS own index y) (hc : Cond.code y bytes maxL ret ∈ oz_TW) (hy : y.cls ≠ "java/lang/invoke/MethodHandle" ∧ y.cls ≠ "java/lang/invoke/VarHandle" ∧ (parseMethodDescriptor y.desc).map (fun d => d.parameters.length) = some n) (hn : As.length = n)
    (hst : st0 = As.reverse ++ st) (hsm : (st.map fun v => v.category).sum ≤ 8) (hd : decode cc pc = .ok (.invokestatic index, 3)) (hq : pc + 3 = q)
    (kk : ∀ v, oF = some v → oz_R G q lv (st) M (f v) K) : oz_R G pc lv st0 M (oF.bind f) K := by
  subst hq
  intro z hz hK
  cases hF : oF with
  | none => rw [hF] at hz; cases hz
  | some v =>
    rw [hF] at hz
    refine oz_back (v := none) (M2 := M) (rest := st) (av := As.toArray) (fun H locs ls hP hS hl => ?_) (kk v hF z hz hK)
    exact va_runS (As := As) (rest := st) cx.1 (hM v hF) ⟨callB_of n cx.1.2.2.2.2 (oz_goodC hc) rfl rfl rfl (cx.1.2.2.2.2 _ hw.2.2) (cx.1.2.2.2.2 _ hw.1) hy (oz_room hRm hk hm), cx.1.2.2.2.2 _ hw.2.1⟩ ⟨oz_blind _ _ _ _ _, oz_pre cx hP hS⟩ rfl hn hl.1 hst (lv_room hsm) hd ⟨cx.2.2.2.2.1, cx.2.2.2.2.2.1⟩
theorem oz_cVNvp (cx : oz_C G cc own) {oF : Option Unit} {f : Unit → Option X} {k kc : Nat} {C : String} {host : String} {index : Nat} {y : MethodName} {bytes : ByteArray} {maxL : Nat} {ret : Option FieldType} {st0 : List Value} (i : Nat) (As : List Value) (n ci : Nat) {T : u_T} {NN : Nat} {fs : List Value}
    (hRm : oz_big G.1.2.2.2.1 k) (hk : kc < k) (hm : maxL ≤ 11)
    (hM : ∀ v, oF = some v → oz_Met G.1.2.1 (oz_D G) (oz_cs G) (oz_b G) y bytes maxL ret (oz_rm kc) (.ref (oz_b G + i) :: As) M (none) M)
    (hw : Cond.methodLinkNest own index y host ∈ oz_NW) (hw2 : Cond.instanceMethod y ∈ oz_TW ∧ Cond.selects C y y ∈ oz_TW ∧ Cond.initialized y.cls ∈ oz_TW) (hc : Cond.code y bytes maxL ret ∈ oz_TW) (hy : y.cls ≠ "java/lang/invoke/MethodHandle" ∧ y.cls ≠ "java/lang/invoke/VarHandle" ∧ (parseMethodDescriptor y.desc).map (fun d => d.parameters.length) = some n) (hn : As.length = n)
    (hi : i < oz_N) (he : oz_E (oz_cs G) (oz_b G) i (M.1 i) (M.2 i) = .inr (ci, fs)) (hci : classes[ci]? = some (C, T, NN)) (hst : st0 = As.reverse ++ .ref (oz_b G + i) :: st) (hsm : (st.map fun v => v.category).sum ≤ 8) (hd : decode cc pc = .ok (.invokevirtual index, 3)) (hq : pc + 3 = q)
    (kk : ∀ v, oF = some v → oz_R G q lv (st) M (f v) K) : oz_R G pc lv st0 M (oF.bind f) K := by
  subst hq
  intro z hz hK
  cases hF : oF with
  | none => rw [hF] at hz; cases hz
  | some v =>
    rw [hF] at hz
    refine oz_back (v := none) (M2 := M) (rest := st) (av := (Value.ref (oz_b G + i) :: As).toArray) (fun H locs ls hP hS hl => ?_) (kk v hF z hz hK)
    exact va_runVN (C := C) (host := host) (As := As) (rest := st) (b := oz_b G + i) cx.1 (hM v hF) ⟨va_cnB n cx.1.2.2.2.2 (oz_goodC hc) rfl rfl rfl (cx.2.2.2.1 _ hw) (cx.1.2.2.2.2 _ hw2.2.2) hy (oz_room hRm hk hm), cx.1.2.2.2.2 _ hw2.1, cx.1.2.2.2.2 _ hw2.2.1⟩ ⟨oz_blind _ _ _ _ _, va_recv cx.2.1 hP hci (by rw [oz_w_at hi, he]), oz_pre cx hP hS⟩ rfl hn hl.1 hst (lv_room hsm) hd ⟨cx.2.2.2.2.1, cx.2.2.2.2.2.1⟩
theorem oz_cSNvp (cx : oz_C G cc own) {oF : Option Unit} {f : Unit → Option X} {k kc : Nat} {host : String} {index : Nat} {y : MethodName} {bytes : ByteArray} {maxL : Nat} {ret : Option FieldType} {st0 : List Value} (As : List Value) (n : Nat)
    (hRm : oz_big G.1.2.2.2.1 k) (hk : kc < k) (hm : maxL ≤ 11)
    (hM : ∀ v, oF = some v → oz_Met G.1.2.1 (oz_D G) (oz_cs G) (oz_b G) y bytes maxL ret (oz_rm kc) As M (none) M)
    (hw : Cond.methodLinkNest own index y host ∈ oz_NW) (hw2 : Cond.static y ∈ oz_TW ∧ Cond.initialized y.cls ∈ oz_TW) (hc : Cond.code y bytes maxL ret ∈ oz_TW) (hy : y.cls ≠ "java/lang/invoke/MethodHandle" ∧ y.cls ≠ "java/lang/invoke/VarHandle" ∧ (parseMethodDescriptor y.desc).map (fun d => d.parameters.length) = some n) (hn : As.length = n)
    (hst : st0 = As.reverse ++ st) (hsm : (st.map fun v => v.category).sum ≤ 8) (hd : decode cc pc = .ok (.invokestatic index, 3)) (hq : pc + 3 = q)
    (kk : ∀ v, oF = some v → oz_R G q lv (st) M (f v) K) : oz_R G pc lv st0 M (oF.bind f) K := by
  subst hq
  intro z hz hK
  cases hF : oF with
  | none => rw [hF] at hz; cases hz
  | some v =>
    rw [hF] at hz
    refine oz_back (v := none) (M2 := M) (rest := st) (av := As.toArray) (fun H locs ls hP hS hl => ?_) (kk v hF z hz hK)
    exact va_runSN (host := host) (As := As) (rest := st) cx.1 (hM v hF) ⟨va_cnB n cx.1.2.2.2.2 (oz_goodC hc) rfl rfl rfl (cx.2.2.2.1 _ hw) (cx.1.2.2.2.2 _ hw2.2) hy (oz_room hRm hk hm), cx.1.2.2.2.2 _ hw2.1, trivial⟩ ⟨oz_blind _ _ _ _ _, oz_pre cx hP hS⟩ rfl hn hl.1 hst (lv_room hsm) hd ⟨cx.2.2.2.2.1, cx.2.2.2.2.2.1⟩
theorem oz_iretp (cx : oz_C G cc own) {v a : Int32} (hR : oz_Rt G (some .int) (some (.int v)) M) (hd : decode cc pc = .ok (.ireturn, 1)) : oz_R G pc lv [.int a] M (some a) (fun x => x = v) :=
  fun x hx hK => oz_iret cx hR hd (x, M) (by cases hx; rfl) (by rw [hK])
theorem oz_lretp (cx : oz_C G cc own) {v a : Int64} (hR : oz_Rt G (some .long) (some (.long v)) M) (hd : decode cc pc = .ok (.lreturn, 1)) : oz_R G pc lv [.long a] M (some a) (fun x => x = v) :=
  fun x hx hK => oz_lret cx hR hd (x, M) (by cases hx; rfl) (by rw [hK])
theorem oz_zretp (cx : oz_C G cc own) {v a : Int32} (hR : oz_Rt G (some .boolean) (some (.int v)) M) (hd : decode cc pc = .ok (.ireturn, 1)) : oz_R G pc lv [.int a] M (oz_z a) (fun x => x = v) :=
  fun x hx hK => oz_zret cx hR hd (x, M) (by rw [hx]; rfl) (by rw [hK])
theorem oz_mmax (cx : oz_C G cc own) {k index : Nat} {x y : Int32} (hRm : oz_big G.1.2.2.2.1 k) (hk : 0 < k) (hw : Cond.methodLink own index Lib.Math.max.name ∈ oz_TW ∧ Cond.static Lib.Math.max.name ∈ oz_TW ∧ Cond.initialized "java/lang/Math" ∈ oz_TW ∧ Cond.code Lib.Math.max.name Lib.Math.max.code 2 (some .int) ∈ oz_TW) (hsm : (st.map fun v => v.category).sum ≤ 8) (hd : decode cc pc = .ok (.invokestatic index, 3)) (hq : pc + 3 = q) (kk : oz_R G q lv (.int (if x < y then y else x) :: st) M o K) : oz_R G pc lv (.int y :: .int x :: st) M o K := by
  subst hq
  intro z hz hK H locs ls hP hS hl
  exact va_mmax cx.1.1 cx.1.2.1 (by rw [hl.1]; exact cx.1.2.2.1) cx.1.2.2.2.1 (cx.1.2.2.2.2 _ hw.1) (cx.1.2.2.2.2 _ hw.2.1) (cx.1.2.2.2.2 _ hw.2.2.1) (cx.1.2.2.2.2 _ hw.2.2.2) (by have := hRm.1; omega) (by have := hRm.2; omega) cx.2.2.2.2.1 cx.2.2.2.2.2.1 hd (kk z hz hK H locs ls hP hS hl)
theorem oz_mmin (cx : oz_C G cc own) {k index : Nat} {x y : Int32} (hRm : oz_big G.1.2.2.2.1 k) (hk : 0 < k) (hw : Cond.methodLink own index Lib.Math.min.name ∈ oz_TW ∧ Cond.static Lib.Math.min.name ∈ oz_TW ∧ Cond.initialized "java/lang/Math" ∈ oz_TW ∧ Cond.code Lib.Math.min.name Lib.Math.min.code 2 (some .int) ∈ oz_TW) (hsm : (st.map fun v => v.category).sum ≤ 8) (hd : decode cc pc = .ok (.invokestatic index, 3)) (hq : pc + 3 = q) (kk : oz_R G q lv (.int (if y < x then y else x) :: st) M o K) : oz_R G pc lv (.int y :: .int x :: st) M o K := by
  subst hq
  intro z hz hK H locs ls hP hS hl
  exact va_mmin cx.1.1 cx.1.2.1 (by rw [hl.1]; exact cx.1.2.2.1) cx.1.2.2.2.1 (cx.1.2.2.2.2 _ hw.1) (cx.1.2.2.2.2 _ hw.2.1) (cx.1.2.2.2.2 _ hw.2.2.1) (cx.1.2.2.2.2 _ hw.2.2.2) (by have := hRm.1; omega) (by have := hRm.2; omega) cx.2.2.2.2.1 cx.2.2.2.2.2.1 hd (kk z hz hK H locs ls hP hS hl)
theorem oz_lt {x : Int32} {n j : Nat} (h : oz_in x n = some j) : j < n := by
  obtain ⟨h1, h2⟩ := oz_in_some h
  rw [← h2]
  exact Nat.not_le.mp fun q => h1 (Or.inr q)
/-- an int array of n, whichever -/
def oz_A (n i : Nat) : Prop := i < oz_N ∧ ∀ (cs : Nat → ClassId) (b : Nat) (f : Nat → Int32) (g : Nat → Int64), oz_E cs b i f g = .inl (cs 0, n, .inl f)
end OZR
