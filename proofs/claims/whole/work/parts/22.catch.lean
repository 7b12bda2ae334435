/-! The law's own small methods: they call the class and catch what it throws. -/
abbrev oz_G1 (G : oz_G) : oz_G := (G.1, G.2.1, (G.2.2.1.1 + 1, G.2.2.1.2.1 + 6, G.2.2.1.2.2), G.2.2.2)
def oz_tab (c : Code) : List (Nat × Nat × Nat × Nat) := c.exceptionTable.toList.map (fun h => (h.startPc, h.endPc, h.handlerPc, h.catchType))
def oz_MetW (l : Launch) (D : va_G) (cs : Nat → ClassId) (b : Nat) (y : MethodName) (cc : ByteArray) (nL : Nat) (hh : List (Nat × Nat × Nat × Nat)) (k : Nat) (av : List Value) (M : oz_M) (v : Int32) (M2 : oz_M) : Prop :=
  Met l y (.codeWith y cc nL (some .int) hh :: oz_TW) (oz_rmT k) (oz_Pc D cs b av M) (oz_Q D cs b (some (.int v)) M2) 1 6 (fun q => b ≤ q)
theorem oz_MQ_up {below : List Frame} {Qc : Array Value → State → Outcome → State → Prop} {a : Array Value} {s t : State} {free : Addr → Prop} {c1 n1 c2 n2 : Nat} (hc : c1 ≤ c2) (hn : n1 ≤ n2) (h : MQ below Qc a s c1 n1 free t) : MQ below Qc a s c2 n2 free t := by
  obtain ⟨o, h1, h2, h3, L, ⟨h4, h5, h6⟩, h7⟩ := h
  exact ⟨o, h1, h2, h3, L, ⟨h4, h5, h6.mono hc hn⟩, h7⟩
theorem oz_enterW {l : Launch} {D : va_G} {cs : Nat → ClassId} {b : Nat} {y : MethodName} {cc : ByteArray} {nL : Nat} {hh : List (Nat × Nat × Nat × Nat)} {k : Nat} {av : List Value} {M : oz_M} {v : Int32} {M2 : oz_M} (hy : plainName y.cls = true) (hlen : (lg_sl av).length ≤ nL)
    (body : ∀ G : oz_G, oz_C G cc y.cls → oz_C (oz_G1 G) cc y.cls → oz_Rt G (some .int) (some (.int v)) M2 → oz_Rt (oz_G1 G) (some .int) (some (.int v)) M2 → oz_tab G.2.1.2.2.2.2 = hh → l = G.1.2.1 → oz_big G.1.2.2.2.1 k → (G.2.2.1.1 + 1 ≤ G.1.2.2.2.1.cells ∧ G.2.2.1.2.1 + 6 ≤ G.1.2.2.2.1.slots) → D = oz_D G → cs = oz_cs G → b = oz_b G → oz_nL G = nL → oz_Z G 0 (lv_args 0 av) [] M) : oz_MetW l D cs b y cc nL hh k av M v M2 := by
  refine va_MetW (cc := cc) (maxL := nL) (ret := some .int) (hh := hh) hy rfl ?_
  intro p e s m args below meth c s₁ B hml hv
  obtain ⟨rfl, hP, hK, hN, hE⟩ := hv
  have hts := atoms_spec (ws := .codeWith y cc nL (some .int) hh :: oz_TW) B.pre
  obtain ⟨m9, meth9, c9, hn9, hm9, hc9, -, -, hx9, -⟩ := Cond.codeWith_spec (hts _ List.mem_cons_self)
  cases B.named.symm.trans hn9
  cases B.method.symm.trans hm9
  cases (Stand.of_body B).code.symm.trans hc9
  have hcx : ∀ c1 n1, c1 ≤ 1 → n1 ≤ 6 → oz_C (((p, l, e, oz_rmT k, s), (m, av.toArray, below, meth, c), (c1, n1, MQ below (oz_Q D cs b (some (.int v)) M2) av.toArray s 1 6 (fun q => b ≤ q)), (D, cs, b), nL) : oz_G) cc y.cls := fun c1 n1 h1 h2 =>
    ⟨⟨B.exec, B.bytes, hml, findClass_of_methodNamed B.named, fun w hw => hts w (List.mem_cons_of_mem _ hw)⟩, hK, B.notSynchronized, hN, h1, h2, hE⟩
  have h := body ((p, l, e, oz_rmT k, s), (m, av.toArray, below, meth, c), (0, 0, MQ below (oz_Q D cs b (some (.int v)) M2) av.toArray s 1 6 (fun q => b ≤ q)), (D, cs, b), nL)
    (hcx 0 0 (by decide) (by decide)) (hcx 1 6 (by decide) (by decide)) ⟨B.returns, fun _ h => oz_MQ_up (Nat.zero_le _) (Nat.zero_le _) h⟩ ⟨B.returns, fun _ h => h⟩ hx9 rfl ⟨Nat.le_refl _, Nat.le_refl _⟩ ⟨Nat.le_refl _, Nat.le_refl _⟩ rfl rfl rfl rfl s.heap [] _ hP va_S.rf (lv_entry av hlen)
  rw [lg_entry_eq]
  exact h
section OZW
variable {G : oz_G} {cc : ByteArray} {own : String} {Y : Type} {pc q : Nat} {lv : List (Nat × Value)} {st : List Value} {M : oz_M} {K : Y → Prop}
theorem oz_case {V : Type} {st0 : List Value} {oF : Option ((Nat ⊕ V) × oz_M)} {h : Nat → oz_M → Option Y} {f : V → oz_M → Option Y} (h1 : ∀ v M2, oF = some (.inr v, M2) → oz_R G pc lv st0 M (f v M2) K) (h2 : ∀ kx M2, oF = some (.inl kx, M2) → oz_R G pc lv st0 M (h kx M2) K) : oz_R G pc lv st0 M (oz_b2 oF fun w M2 => oz_el (fun kx => h kx M2) (fun v => f v M2) w) K := by
  intro z hz hK
  cases hF : oF with
  | none => rw [hF] at hz; cases hz
  | some w =>
    obtain ⟨w, M2⟩ := w
    rw [hF] at hz
    cases w with
    | inr v => exact h1 v M2 hF z hz hK
    | inl kx => exact h2 kx M2 hF z hz hK
theorem oz_none : oz_R G pc lv st M (none : Option Y) K := fun _ h => by cases h
theorem oz_caught (cx : oz_C G cc "OrderHallLaw") {o : Option Y} {kx : Nat} {M2 : oz_M} {rest st0 : List Value} {hh ps rs : List (Nat × Nat × Nat × Nat)} {s0 e0 hp ct : Nat} (hEx : oz_tab G.2.1.2.2.2.2 = hh) (hsp : hh = ps ++ (s0, e0, hp, ct) :: rs) (hcov : s0 ≤ pc ∧ pc < e0) (hct : ct ≠ 0) (hlk : Cond.classLink "OrderHallLaw" ct (oz_exc kx) ∈ oz_TW) (hcast : Cond.castable (oz_exc kx) (oz_exc kx) ∈ oz_FW)
    (hps : ∀ p ∈ ps, p.2.2.2 ≠ 0 ∧ ∃ k', Cond.classLink "OrderHallLaw" p.2.2.2 (oz_exc k') ∈ oz_TW ∧ Cond.not (.castable (oz_exc kx) (oz_exc k')) ∈ oz_NC)
    (hr : ∀ (H : Heap) (locs : List Loc) (ls : Array Slot), va_P (oz_D G) classes (oz_w (oz_cs G) (oz_b G) M) H → va_S (fun q => oz_b G ≤ q) (oz_St G).heap H locs → lv_has ls (oz_nL G) lv → oz_TRun G H locs (F0 G.2.1.1 pc ls st0) rest kx M2)
    (kk : ∀ v, oz_R (oz_G1 G) hp lv [.ref v] M2 o K) : oz_R G pc lv st0 M o K := by
  intro z hz hK H locs ls hP hS hl T hT Xs
  obtain ⟨v, B, L, cell, XB, hL, g1, g2, g3, g4, g5, g6, hst⟩ := hr H locs ls hP hS hl T hT Xs
  rw [hsp] at hEx
  unfold oz_tab at hEx
  obtain ⟨l1, l2, e1, e2, e3⟩ := List.map_eq_append_iff.mp hEx
  obtain ⟨x, l3, rfl, e4, e5⟩ := List.map_eq_cons_iff.mp e3
  simp only [Prod.mk.injEq] at e4
  obtain ⟨x1, x2, x3, x4⟩ := e4
  have hpl : G.1.2.2.1.platform.magicAccessors = ({} : Platform).magicAccessors := by rw [XB.admits.platform]
  obtain ⟨c3, c4, hc3, hc4, hasg⟩ := Cond.castable_spec (va_Nw.use (A := G.2.1.2.1) rfl (cx.2.2.2.2.2.2.1 _ hcast))
  cases Option.some.inj (hc3.symm.trans g3)
  cases Option.some.inj (hc4.symm.trans g3)
  obtain ⟨hend, hk0⟩ := XB.catches_of_link (x := x) cx.1.2.2.2.1 (by rw [x4]; exact hct) (by rw [x4]; exact cx.1.2.2.2.2 _ hlk) g3 hasg
  obtain ⟨vm', XV, stV⟩ := XB.caughtThrough v (g := F0 G.2.1.1 pc ls rest) rfl g1 g2 hk0 l1 x l3 e1 (fun y hy => by
      have hy2 : (y.startPc, y.endPc, y.handlerPc, y.catchType) ∈ ps := by rw [← e2]; exact List.mem_map.mpr ⟨y, hy, rfl⟩
      obtain ⟨n0, k', n1, n2⟩ := hps _ hy2
      exact Jvm.RowPassed.of_words (args := #[]) hpl cx.1.2.2.2.1 n0 (word_at (s := oz_St G) (State.WarmedH.refl _) (oz_TW_good _ n1) (cx.1.2.2.2.2 _ n1)) g3 (cx.2.2.2.2.2.2.2.1 _ n2))
    (by simp only [covers, x1, x2, Bool.and_eq_true, decide_eq_true_eq]; exact hcov) hend
  obtain ⟨t, a1, b1⟩ := kk v z hz hK B.heap (locs ++ L) ls g4 ⟨Nat.le_trans hS.1 g5, fun q h1 h2 => by rw [g6 q (Nat.lt_of_lt_of_le h1 hS.1) h2]; exact hS.2.1 q h1 h2, fun q hq => by
      rcases List.mem_append.mp hq with h | h
      · exact hS.2.2 q h
      · exact hL q h⟩ hl (B.setVm vm') rfl XV
  refine ⟨t, hst.trans ?_, b1⟩
  rw [XB.pushThrowing_eq]
  rw [x3] at stV
  exact stV t a1
end OZW
