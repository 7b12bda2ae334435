/-! The largest antichains: the greatest of them. -/
def wide (lt : Nat → Nat → Bool) (n w T : Nat) : Prop := T < 2 ^ n ∧ anti lt T ∧ sz T = w
theorem wide_op {lt : Nat → Nat → Bool} {n w T : Nat} : wide (op lt) n w T ↔ wide lt n w T := by
  unfold wide; rw [anti_op]
theorem or_lt {a b n : Nat} (ha : a < 2 ^ n) (hb : b < 2 ^ n) : a ||| b < 2 ^ n := Nat.or_lt_two_pow ha hb
theorem bor {a b i : Nat} : (a ||| b).testBit i = true ↔ a.testBit i = true ∨ b.testBit i = true := by
  rw [Nat.testBit_or, Bool.or_eq_true]
theorem wide_two {lt : Nat → Nat → Bool} {n w A B : Nat} (ho : ord n lt) (hw : ∀ T, T < 2 ^ n → anti lt T → sz T ≤ w) (hA : wide lt n w A) (hB : wide lt n w B) : wide lt n w (mxs lt n (A ||| B)) := by
  have hAB := or_lt hA.1 hB.1
  refine ⟨mxs_lt, mxs_anti hAB, Nat.le_antisymm (hw _ mxs_lt (mxs_anti hAB)) ?_⟩
  have hmin : sz (mxs (op lt) n (A ||| B)) ≤ w := hw _ mxs_lt (anti_op.mp (mxs_anti hAB))
  have e1 := cnt_or (mxs lt n (A ||| B)).testBit (mxs (op lt) n (A ||| B)).testBit 14
  have e2 := cnt_or A.testBit B.testBit 14
  have l1 : cnt (fun i => A.testBit i || B.testBit i) 14 ≤ cnt (fun i => (mxs lt n (A ||| B)).testBit i || (mxs (op lt) n (A ||| B)).testBit i) 14 := by
    refine cnt_mono (fun i _ hi => ?_)
    rw [Bool.or_eq_true] at hi ⊢
    rw [mxs_bit hAB, mxs_bit hAB]
    by_cases hmx : ∀ j, (A ||| B).testBit j = true → lt i j = false
    · exact Or.inl ⟨bor.mpr hi, hmx⟩
    · refine Or.inr ⟨bor.mpr hi, fun l hl => ?_⟩
      have : ∃ j, (A ||| B).testBit j = true ∧ lt i j = true := by
        refine Classical.byContradiction (fun hno => hmx (fun j hj => ?_))
        cases h : lt i j with
        | false => rfl
        | true => exact absurd ⟨j, hj, h⟩ hno
      obtain ⟨j, hj, hij⟩ := this
      show lt l i = false
      cases hli : lt l i with
      | false => rfl
      | true =>
        exfalso
        have hlj := ho.2.1 l i j hli hij
        rw [bor] at hj hl
        rcases hi with hi | hi
        · rcases hj with hj | hj
          · have := hA.2.1 i j hi hj; rw [hij] at this; cases this
          · rcases hl with hl | hl
            · have := hA.2.1 l i hl hi; rw [hli] at this; cases this
            · have := hB.2.1 l j hl hj; rw [hlj] at this; cases this
        · rcases hj with hj | hj
          · rcases hl with hl | hl
            · have := hA.2.1 l j hl hj; rw [hlj] at this; cases this
            · have := hB.2.1 l i hl hi; rw [hli] at this; cases this
          · have := hB.2.1 i j hi hj; rw [hij] at this; cases this
  have l2 : cnt (fun i => A.testBit i && B.testBit i) 14 ≤ cnt (fun i => (mxs lt n (A ||| B)).testBit i && (mxs (op lt) n (A ||| B)).testBit i) 14 := by
    refine cnt_mono (fun i _ hi => ?_)
    rw [Bool.and_eq_true] at hi ⊢
    rw [mxs_bit hAB, mxs_bit hAB]
    refine ⟨⟨bor.mpr (Or.inl hi.1), fun j hj => ?_⟩, bor.mpr (Or.inl hi.1), fun j hj => ?_⟩
    · exact (bor.mp hj).elim (fun q => hA.2.1 i j hi.1 q) (fun q => hB.2.1 i j hi.2 q)
    · exact (bor.mp hj).elim (fun q => hA.2.1 j i q hi.1) (fun q => hB.2.1 j i q hi.2)
  have a1 := hA.2.2
  have b1 := hB.2.2
  unfold sz at a1 b1 hmin ⊢
  omega
/-- the union of those before s -/
noncomputable def wun (lt : Nat → Nat → Bool) (n w : Nat) : Nat → Nat
  | 0 => 0
  | s + 1 => if tb (wide lt n w s) = true then wun lt n w s ||| s else wun lt n w s
theorem wun_lt {lt : Nat → Nat → Bool} {n w : Nat} : ∀ s, wun lt n w s < 2 ^ n
  | 0 => Nat.pow_pos (by omega)
  | s + 1 => by
    simp only [wun]
    by_cases h : wide lt n w s
    · rw [if_pos (tb_iff.mpr h)]; exact or_lt (wun_lt s) h.1
    · rw [if_neg (fun q => h (tb_iff.mp q))]; exact wun_lt s
theorem wun_in {lt : Nat → Nat → Bool} {n w : Nat} : ∀ s T, T < s → wide lt n w T → sub T (wun lt n w s)
  | 0, T, h, _ => by omega
  | s + 1, T, h, hT => fun i hi => by
    simp only [wun]
    by_cases e : T = s
    · subst e
      rw [if_pos (tb_iff.mpr hT)]; exact bor.mpr (Or.inr hi)
    · have := wun_in s T (by omega) hT i hi
      by_cases h : wide lt n w s
      · rw [if_pos (tb_iff.mpr h)]; exact bor.mpr (Or.inl this)
      · rw [if_neg (fun q => h (tb_iff.mp q))]; exact this
theorem wun_wide {lt : Nat → Nat → Bool} {n w : Nat} (ho : ord n lt) (hw : ∀ T, T < 2 ^ n → anti lt T → sz T ≤ w) : ∀ s, (wun lt n w s = 0 ∧ ∀ T, T < s → ¬ wide lt n w T) ∨ wide lt n w (mxs lt n (wun lt n w s))
  | 0 => Or.inl ⟨rfl, fun T h => by omega⟩
  | s + 1 => by
    have ih := wun_wide ho hw s
    simp only [wun]
    by_cases h : wide lt n w s
    · right
      rw [if_pos (tb_iff.mpr h)]
      rcases ih with ⟨h0, _⟩ | ih
      · rw [h0, Nat.zero_or]
        have : mxs lt n s = s := bit_ext' mxs_lt h.1 (fun i hi => by
          rw [mxs_bit h.1]
          exact ⟨fun q => q.1, fun q => ⟨q, fun j hj => h.2.1 i j q hj⟩⟩)
        rw [this]; exact h
      · have e : mxs lt n (wun lt n w s ||| s) = mxs lt n (mxs lt n (wun lt n w s) ||| s) := by
          have hl1 := or_lt (wun_lt (lt := lt) (n := n) (w := w) s) h.1
          have hl2 := or_lt (mxs_lt (lt := lt) (n := n) (S := wun lt n w s)) h.1
          refine bit_ext' mxs_lt mxs_lt (fun i hi => ?_)
          rw [mxs_bit hl1, mxs_bit hl2]
          constructor
          · rintro ⟨h1, h2⟩
            refine ⟨?_, fun j hj => h2 j ?_⟩
            · rw [bor] at h1 ⊢
              exact h1.imp (fun q => (mxs_bit (wun_lt s) i).mpr ⟨q, fun j hj => h2 j (bor.mpr (Or.inl hj))⟩) id
            · rw [bor] at hj ⊢
              exact hj.imp (fun q => ((mxs_bit (wun_lt s) j).mp q).1) id
          · rintro ⟨h1, h2⟩
            refine ⟨?_, fun j hj => ?_⟩
            · rw [bor] at h1 ⊢
              exact h1.imp (fun q => ((mxs_bit (wun_lt s) i).mp q).1) id
            · rw [bor] at hj
              rcases hj with hj | hj
              · obtain ⟨y, k1, k2, k3⟩ := ord_max ho (fun y => (wun lt n w s).testBit y = true) _ j (Nat.le_refl _) hj
                have := h2 y (bor.mpr (Or.inl ((mxs_bit (wun_lt s) y).mpr ⟨k1, k3⟩)))
                cases hl : lt i j with
                | false => rfl
                | true =>
                  have : lt i y = true := k2.elim (fun e => e ▸ hl) (fun q => ho.2.1 i j y hl q)
                  rw [h2 y (bor.mpr (Or.inl ((mxs_bit (wun_lt s) y).mpr ⟨k1, k3⟩)))] at this; cases this
              · exact h2 j (bor.mpr (Or.inr hj))
        rw [e]
        exact wide_two ho hw ih h
    · rw [if_neg (fun q => h (tb_iff.mp q))]
      rcases ih with ⟨h0, h1⟩ | ih
      · left
        refine ⟨h0, fun T hT hw => ?_⟩
        by_cases e : T = s
        · exact h (e ▸ hw)
        · exact h1 T (by omega) hw
      · exact Or.inr ih
def und (lt : Nat → Nat → Bool) (S T : Nat) : Prop := ∀ x, S.testBit x = true → ∃ y, T.testBit y = true ∧ (x = y ∨ lt x y = true)
/-- those on top of the union stand above each one -/
theorem wun_und {lt : Nat → Nat → Bool} {n w : Nat} (ho : ord n lt) {s T : Nat} (hT : T < s) (h : wide lt n w T) : und lt T (mxs lt n (wun lt n w s)) := fun x hx => by
  have := wun_in s T hT h x hx
  obtain ⟨y, k1, k2, k3⟩ := ord_max ho (fun y => (wun lt n w s).testBit y = true) _ x (Nat.le_refl _) this
  exact ⟨y, (mxs_bit (wun_lt s) y).mpr ⟨k1, k3⟩, k2⟩
theorem und_anti {lt : Nat → Nat → Bool} {n w S T : Nat} (hn : n ≤ 14) (ho : ord n lt) (hS : wide lt n w S) (hT : wide lt n w T) (h1 : und lt S T) (h2 : und lt T S) : S = T := by
  refine sub_eq hn hT.1 (fun x hx => ?_) (by rw [hS.2.2, hT.2.2]; exact Nat.le_refl _)
  obtain ⟨y, k1, k2⟩ := h1 x hx
  obtain ⟨z, k3, k4⟩ := h2 y k1
  rcases k2 with rfl | k2
  · exact k1
  · exfalso
    have : lt x z = true := k4.elim (fun e => e ▸ k2) (fun q => ho.2.1 x y z k2 q)
    rw [hS.2.1 x z hx k3] at this; cases this
/-- the reference's scan -/
noncomputable def wsc (lt : Nat → Nat → Bool) (n w : Nat) : Nat → Option Nat
  | 0 => none
  | s + 1 => if tb (wide lt n w s ∧ ∀ b, wsc lt n w s = some b → und lt b s) = true then some s else wsc lt n w s
theorem wsc_is {lt : Nat → Nat → Bool} {n w : Nat} (hn : n ≤ 14) (ho : ord n lt) (hw : ∀ T, T < 2 ^ n → anti lt T → sz T ≤ w) (hex : ∃ T, wide lt n w T) : wsc lt n w (2 ^ n) = some (mxs lt n (wun lt n w (2 ^ n))) ∧ wide lt n w (mxs lt n (wun lt n w (2 ^ n))) ∧ ∀ s b, s ≤ 2 ^ n → wsc lt n w s = some b → wide lt n w b := by
  have hZ : wide lt n w (mxs lt n (wun lt n w (2 ^ n))) := by
    rcases wun_wide ho hw (2 ^ n) with ⟨_, h⟩ | h
    · obtain ⟨T, hT⟩ := hex
      exact absurd hT (h T hT.1)
    · exact h
  have hU : ∀ T, wide lt n w T → und lt T (mxs lt n (wun lt n w (2 ^ n))) := fun T hT => wun_und ho hT.1 hT
  generalize mxs lt n (wun lt n w (2 ^ n)) = Z at hZ hU
  have key : ∀ s, s ≤ 2 ^ n → (∀ b, wsc lt n w s = some b → wide lt n w b) ∧ (Z < s → wsc lt n w s = some Z) := by
    intro s
    induction s with
    | zero => exact fun _ => ⟨fun b h => by simp [wsc] at h, fun h => by omega⟩
    | succ s ih =>
      intro hs
      obtain ⟨i1, i2⟩ := ih (by omega)
      simp only [wsc]
      by_cases hc : wide lt n w s ∧ ∀ b, wsc lt n w s = some b → und lt b s
      · rw [if_pos (tb_iff.mpr hc)]
        refine ⟨fun b h => by cases h; exact hc.1, fun hz => ?_⟩
        by_cases e : Z = s
        · rw [e]
        · have := hc.2 Z (i2 (by omega))
          exact absurd (und_anti hn ho hZ hc.1 this (hU s hc.1)) e
      · rw [if_neg (fun q => hc (tb_iff.mp q))]
        refine ⟨i1, fun hz => ?_⟩
        by_cases e : Z = s
        · exact absurd ⟨e ▸ hZ, fun b hb => e ▸ hU b (i1 b hb)⟩ hc
        · exact i2 (by omega)
  exact ⟨(key (2 ^ n) (Nat.le_refl _)).2 hZ.1, hZ, fun s b hs h => (key s hs).1 b h⟩
