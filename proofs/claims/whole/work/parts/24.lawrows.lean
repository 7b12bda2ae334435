/-! The law's own rows: the script, its small methods, one cell and six slots for each turn of the loop. -/
def oz_Len (G : oz_G) (b0 L : Nat) (xs : Nat → Int32) : Prop := va_X b0 L xs (oz_St G) (oz_St G).heap ∧ b0 < (oz_St G).heap.size ∧ ¬ oz_b G ≤ b0
def oz_Scr (G : oz_G) (b0 : Nat) (x v : Int32) : Prop := ∃ (L : Nat) (xs : Nat → Int32), oz_Len G b0 L xs ∧ vp_in x L ∧ xs x.toNatClampNeg = v
theorem oz_wide {G : oz_G} {pc : Nat} {lv : List (Nat × Value)} {st : List Value} {M : oz_M} (h : oz_Z (oz_G1 G) pc lv st M) : oz_Z G pc lv st M :=
  fun H locs ls hP hS hl => W.widen (Nat.le_add_right _ _) (Nat.le_add_right _ _) (h H locs ls hP hS hl)
section OZL
variable {G : oz_G} {cc : ByteArray} {own : String} {X : Type} {pc q : Nat} {lv : List (Nat × Value)} {st : List Value} {M : oz_M} {o : Option X} {K : X → Prop}
theorem oz_sld (cx : oz_C G cc own) {b0 : Nat} {x v : Int32} (h : oz_Scr G b0 x v) (hd : decode cc pc = .ok (.iaload, 1)) (hq : pc + 1 = q) (k : oz_R G q lv (.int v :: st) M o K) : oz_R G pc lv (.int x :: .ref b0 :: st) M o K := by
  subst hq
  intro z hz hK H locs ls hP hS hl
  obtain ⟨L, xs, ⟨h1, h2, h3⟩, h4, rfl⟩ := h
  exact va_sld (A := fun q => oz_b G ≤ q) cx.1.1 cx.1.2.1 h1 h2 h3 hS h4 hd (k z hz hK H locs ls hP hS hl)
theorem oz_slen (cx : oz_C G cc own) {b0 L : Nat} {xs : Nat → Int32} (h : oz_Len G b0 L xs) (hd : decode cc pc = .ok (.arraylength, 1)) (hq : pc + 1 = q) (k : oz_R G q lv (.int (Int32.ofNat L) :: st) M o K) : oz_R G pc lv (.ref b0 :: st) M o K := by
  subst hq
  intro z hz hK H locs ls hP hS hl
  exact va_slen (A := fun q => oz_b G ≤ q) cx.1.1 cx.1.2.1 h.1 h.2.1 h.2.2 hS hd (k z hz hK H locs ls hP hS hl)
theorem oz_cW (cx : oz_C G cc own) {oF : Option (Int32 × oz_M)} {f : Int32 → oz_M → Option X} {k kc : Nat} {index : Nat} {y : MethodName} {bytes : ByteArray} {maxL : Nat} {hh : List (Nat × Nat × Nat × Nat)} {st0 : List Value} (As : List Value) (n : Nat)
    (hRm : oz_big G.1.2.2.2.1 k) (hk : kc < k) (hm : maxL ≤ 11) (hcs : G.2.2.1.1 + 1 ≤ G.1.2.2.2.1.cells ∧ G.2.2.1.2.1 + 6 ≤ G.1.2.2.2.1.slots)
    (hM : ∀ v M2, oF = some (v, M2) → oz_MetW G.1.2.1 (oz_D G) (oz_cs G) (oz_b G) y bytes maxL hh kc As M v M2)
    (hw : oz_wS own index y) (hc : Cond.codeWith y bytes maxL (some .int) hh ∈ oz_TW) (hy : y.cls ≠ "java/lang/invoke/MethodHandle" ∧ y.cls ≠ "java/lang/invoke/VarHandle" ∧ (parseMethodDescriptor y.desc).map (fun d => d.parameters.length) = some n) (hn : As.length = n)
    (hst : st0 = As.reverse ++ st) (hsm : (st.map fun v => v.category).sum ≤ 8) (hd : decode cc pc = .ok (.invokestatic index, 3)) (hq : pc + 3 = q)
    (kk : ∀ v M2, oF = some (v, M2) → oz_R (oz_G1 G) q lv (.int v :: st) M2 (f v M2) K) : oz_R G pc lv st0 M (oz_b2 oF f) K := by
  subst hq
  intro z hz hK
  cases hF : oF with
  | none => rw [hF] at hz; cases hz
  | some w =>
    obtain ⟨v, M2⟩ := w
    rw [hF] at hz
    have kz := kk v M2 hF z hz hK
    intro H locs ls hP hS hl T hT Xs
    have hws : ∀ w ∈ (.codeWith y bytes maxL (some .int) hh :: oz_TW), w ∈ oz_TW := fun w hw => by
      rcases List.mem_cons.mp hw with rfl | h
      · exact hc
      · exact h
    have hroom := oz_roomT hRm hk hm
    have hB : Back G.1.2.1 G.1.2.2.2.1 G.1.1 G.1.2.2.1 G.2.1.2.2.1 (oz_St G) G.2.1.2.1 y 3 8 (PreOf G.1.2.2.2.1 1 6 (oz_Pc (oz_D G) (oz_cs G) (oz_b G) As M)) (PostOf (oz_Q (oz_D G) (oz_cs G) (oz_b G) (some (.int v)) M2) 1 6 (fun q => oz_b G ≤ q)) :=
      va_backW (hh := hh) (bytes := bytes) (maxL := maxL) (ret := some .int) (hM v M2 hF) (oz_blind _ _ _ _ _) rfl rfl hroom.1 hroom.2 (fun w hw a' U hW => word_at hW (oz_TW_good _ (hws w hw)) (cx.1.2.2.2.2 _ (hws w hw))) List.mem_cons_self (fun a' U hW => word_at hW (oz_TW_good _ hw.2.2) (cx.1.2.2.2.2 _ hw.2.2))
    obtain ⟨mk, methM, cM, hnamed, hmethM, -, -, -, -, -, hsx⟩ := Cond.codeWith_spec (cx.1.2.2.2.2 _ hc)
    have hsigM : parseMethodDescriptor y.desc = some methM.sig := hsx.2
    have hstatic : methM.isStatic = true := Cond.static_spec hnamed hmethM (cx.1.2.2.2.2 _ hw.2.1)
    obtain ⟨kP, hkP, -⟩ := className_of_methodNamed hnamed
    have hinitP : kP.init = .initialized := Cond.initialized_spec (findClass_of_methodNamed hnamed) hkP (cx.1.2.2.2.2 _ hw.2.2)
    have hlen : As.length = methM.sig.parameters.length := by
      have h2 := hy.2.2
      rw [hsigM] at h2
      rw [hn]
      exact (Option.some.inj h2).symm
    obtain ⟨vm₁, X₁, hstep₁⟩ := Xs.invokestatic cx.1.1 cx.1.2.2.2.1 (cx.1.2.2.2.2 _ hw.1) hnamed hmethM hstatic hkP hinitP ⟨hy.1, hy.2.1⟩ (g := F0 G.2.1.1 pc ls st0) rfl (argsL := As) (rest := st) hlen hst (by rw [cx.1.2.1]; exact hd)
    obtain ⟨v', ⟨U', l2, c2, s2⟩, X', ⟨g', mk', t, L, e1, e2, hq, h1, hL, h2, h3⟩, hsteps⟩ := hB G.2.1.1 G.2.1.2.2.2.1 G.2.1.2.2.2.2 ⟨T.setVm vm₁, locs, G.2.2.1.1, G.2.2.1.2.1⟩ (F0 G.2.1.1 pc ls st) (.invokestatic index) mk As.toArray X₁ rfl (by rw [cx.1.2.2.1]; exact hl.1) (by rw [cx.1.2.1]; exact hd) (lv_room hsm) (X₁.named hnamed) ⟨hcs.1, hcs.2, oz_pre cx hP hS (T.setVm vm₁) hT X₁.warmed⟩
    dsimp only [Pt.U, Pt.locs, Pt.cells, Pt.slots] at X' e1 e2 h1 h2 h3 hsteps
    subst h1; subst h2; subst h3
    obtain ⟨hv, hP2, hz2, hk2⟩ := hq
    cases hv
    have h0 : ((T.setVm vm₁).calling g' mk' As.toArray).heap = H := hT
    rw [h0] at hz2 hk2
    obtain ⟨t2, a1, b1⟩ := kz U'.heap (locs ++ L) ls (by rw [e1]; exact hP2)
      ⟨Nat.le_trans hS.1 (by rw [e1]; exact hz2), fun q h1 h2 => by rw [e1, hk2 q (Nat.lt_of_lt_of_le h1 hS.1) h2]; exact hS.2.1 q h1 h2, fun q hq => by
        rcases List.mem_append.mp hq with h | h
        · exact hS.2.2 q h
        · exact hL q h⟩ hl U' rfl X'
    exact ⟨t2, hstep₁ _ fun acts => by rw [doInvoke_state]; exact hsteps.trans a1, b1⟩
end OZL
