/-! Levels: the largest chain in a set, by its top. -/
theorem cmp_op (lt : Nat → Nat → Bool) : cmp (op lt) = cmp lt := by
  funext a b
  unfold cmp op
  exact Bool.or_comm _ _
theorem cmp_sym (lt : Nat → Nat → Bool) : ∀ a b, cmp lt a b = true → cmp lt b a = true := fun a b h => by
  unfold cmp at h ⊢
  rw [Bool.or_comm]; exact h
theorem apt_sym (lt : Nat → Nat → Bool) : ∀ a b, apt lt a b = true → apt lt b a = true := fun a b h => by
  unfold apt at h ⊢
  simp only [Bool.and_eq_true, Bool.not_eq_true', decide_eq_false_iff_not] at h ⊢
  exact ⟨⟨fun e => h.1.1 e.symm, h.2⟩, h.1.2⟩
def blw (lt : Nat → Nat → Bool) (n x : Nat) : Nat := mk (fun y => lt y x) n
theorem blw_bit {lt : Nat → Nat → Bool} {n : Nat} (ho : ord n lt) (x y : Nat) : (blw lt n x).testBit y = lt y x := by
  unfold blw
  rw [mk_bit]
  cases h : lt y x with
  | false => simp
  | true => simp; exact (ho.2.2 y x h).1
theorem blw_lt {lt : Nat → Nat → Bool} {n x : Nat} : blw lt n x < 2 ^ n := mk_lt _ _
theorem lt14 {s n : Nat} (hn : n ≤ 14) (h : s < 2 ^ n) : s < 2 ^ 14 := Nat.lt_of_lt_of_le h (Nat.pow_le_pow_right (by omega) (by omega))
theorem om_top {lt : Nat → Nat → Bool} {n S : Nat} (ho : ord n lt) (hn : n ≤ 14) (hS : S < 2 ^ n) (hc : ∀ y, S.testBit y = true → sub (blw lt n y) S) : om (cmp lt) S = zmx (fun y => 1 + om (cmp lt) (blw lt n y)) S.testBit n := by
  apply Nat.le_antisymm
  · refine om_le (fun T h1 h2 => ?_)
    have hT := sub_lt h1 hS
    by_cases h0 : 1 ≤ sz T
    · obtain ⟨y, hy, ht⟩ := top_ex ho hn hT h2 h0
      have e := sz_del (lt14 hn hT) (show y < 14 by omega) ht.1
      have : sz (del T y) ≤ om (cmp lt) (blw lt n y) := om_ge (lt14 hn blw_lt) (fun i hi => by
        rw [del_bit (lt14 hn hT) (by omega)] at hi
        simp only [Bool.and_eq_true, Bool.not_eq_true', decide_eq_false_iff_not] at hi
        rw [blw_bit ho]
        exact ht.2 i hi.1 hi.2) (clq_sub h2 del_sub)
      have := zmx_ge (f := fun y => 1 + om (cmp lt) (blw lt n y)) (P := S.testBit) n hy (h1 y ht.1)
      omega
    · omega
  · refine zmx_le n (fun y hy hSy => ?_)
    obtain ⟨T, h1, h2, h3⟩ := om_ex (cmp lt) (blw lt n y)
    have hTy : T.testBit y = false := by
      cases h : T.testBit y with
      | false => rfl
      | true => have := h1 y h; rw [blw_bit ho, ho.1] at this; cases this
    rw [← h3, Nat.add_comm, ← sz_ins (show y < 14 by omega) hTy]
    have hb : ∀ z, T.testBit z = true → lt z y = true := fun z hz => by
      have := h1 z hz; rwa [blw_bit ho] at this
    refine om_ge (lt14 hn hS) (fun i hi => ?_) (fun a b ha hb' hne => ?_)
    · rw [ins_bit] at hi
      simp only [Bool.or_eq_true, decide_eq_true_eq] at hi
      exact hi.elim (fun q => hc y hSy i (h1 i q)) (fun q => q ▸ hSy)
    · rw [ins_bit] at ha hb'
      simp only [Bool.or_eq_true, decide_eq_true_eq] at ha hb'
      unfold cmp
      rcases ha with ha | ha
      · rcases hb' with hb' | hb'
        · exact h2 a b ha hb' hne
        · rw [hb', hb a ha]; rfl
      · rcases hb' with hb' | hb'
        · rw [ha, hb b hb']; simp
        · exact absurd (ha.trans hb'.symm) hne
/-- the level of x -/
noncomputable def lev (lt : Nat → Nat → Bool) (n x : Nat) : Nat := 1 + om (cmp lt) (blw lt n x)
theorem lev_S {lt : Nat → Nat → Bool} {n x : Nat} (ho : ord n lt) (hn : n ≤ 14) : lev lt n x = 1 + zmx (lev lt n) (fun y => lt y x) n := by
  unfold lev
  rw [om_top ho hn blw_lt (fun y hy i hi => ?_)]
  · have : (blw lt n x).testBit = fun y => lt y x := funext (fun y => blw_bit ho x y)
    rw [this]
  · rw [blw_bit ho] at hy hi ⊢
    exact ho.2.1 i y x hi hy
theorem lev_le {lt : Nat → Nat → Bool} {n x : Nat} (hn : n ≤ 14) : lev lt n x ≤ 15 := by
  have h1 := om_sz (G := cmp lt) (blw lt n x)
  have h2 := sz_le (blw_lt (lt := lt) (n := n) (x := x)) hn
  unfold lev; omega
theorem lev_all {lt : Nat → Nat → Bool} {n : Nat} (ho : ord n lt) (hn : n ≤ 14) : om (cmp lt) (2 ^ n - 1) = zmx (lev lt n) (fun y => decide (y < n)) n := by
  have hlt : 2 ^ n - 1 < 2 ^ n := by have := Nat.pow_pos (n := n) (show 0 < 2 by omega); omega
  have hf : ∀ i, (2 ^ n - 1).testBit i = decide (i < n) := fun i => Nat.testBit_two_pow_sub_one n i
  rw [om_top ho hn hlt (fun y hy i hi => ?_)]
  · have : (2 ^ n - 1).testBit = fun y => decide (y < n) := funext hf
    rw [this]; rfl
  · rw [hf, decide_eq_true_eq]; exact bit_in blw_lt hi
