/-! Few chains: what bars more links is an antichain. -/
theorem dil_cert {lt : Nat → Nat → Bool} {n S : Nat} {f : Nat → Option Nat} {A : Nat → Prop} (hn : n ≤ 14) (hS : S < 2 ^ n) (h1 : ∀ p, p < n → S.testBit p = true → f p = none → A p) (h2 : ∀ p, A p → S.testBit p = true) (h3 : ∀ p q, A p → S.testBit q = true → lt p q = true → ∃ p', p' < n ∧ f p' = some q ∧ A p') : cnt (fun p => S.testBit p && (f p).isNone) n ≤ om (apt lt) S := by
  have hN : ∀ q, ∃ p, (S.testBit q = true ∧ ∃ a, A a ∧ lt a q = true) → p < n ∧ f p = some q ∧ A p := fun q => by
    by_cases h : S.testBit q = true ∧ ∃ a, A a ∧ lt a q = true
    · obtain ⟨k1, a, k2, k3⟩ := h
      obtain ⟨p, hp⟩ := h3 a q k2 k1 k3
      exact ⟨p, fun _ => hp⟩
    · exact ⟨0, fun q => absurd q h⟩
  let g : Nat → Nat := fun q => Classical.choose (hN q)
  have hg : ∀ q, (S.testBit q = true ∧ ∃ a, A a ∧ lt a q = true) → g q < n ∧ f (g q) = some q ∧ A (g q) := fun q => Classical.choose_spec (hN q)
  have e1 := cnt_split (fun p => tb (A p)) (fun p => (f p).isNone) n
  have e2 := cnt_split (fun p => tb (A p)) (fun p => tb (∃ a, A a ∧ lt a p = true)) n
  have l1 : cnt (fun p => S.testBit p && (f p).isNone) n ≤ cnt (fun p => tb (A p) && (f p).isNone) n := cnt_mono (fun p hp h => by
    simp only [Bool.and_eq_true] at h ⊢
    exact ⟨tb_iff.mpr (h1 p hp h.1 (Option.isNone_iff_eq_none.mp h.2)), h.2⟩)
  have l2 : cnt (fun p => tb (A p) && tb (∃ a, A a ∧ lt a p = true)) n ≤ cnt (fun p => tb (A p) && !(f p).isNone) n := by
    have hq : ∀ q, (tb (A q) && tb (∃ a, A a ∧ lt a q = true)) = true → S.testBit q = true ∧ ∃ a, A a ∧ lt a q = true := fun q h => by
      simp only [Bool.and_eq_true, tb_iff] at h
      exact ⟨h2 q h.1, h.2⟩
    refine cnt_inj g (fun q _ h => ?_) (fun q q' _ _ h h' e => ?_)
    · obtain ⟨k1, k2, k3⟩ := hg q (hq q h)
      exact ⟨k1, by rw [tb_iff.mpr k3, k2]; rfl⟩
    · have k := (hg q (hq q h)).2.1
      rw [e, (hg q' (hq q' h')).2.1] at k
      cases k; rfl
  have l3 : cnt (fun p => tb (A p) && !tb (∃ a, A a ∧ lt a p = true)) n ≤ om (apt lt) S := by
    rw [← sz_mk hn]
    have hb : ∀ i, (mk (fun p => tb (A p) && !tb (∃ a, A a ∧ lt a p = true)) n).testBit i = true → A i ∧ ¬ ∃ a, A a ∧ lt a i = true := fun i hi => by
      rw [mk_bit] at hi
      simp only [Bool.and_eq_true, tb_iff, Bool.not_eq_true', tb_no] at hi
      exact hi.2
    refine om_ge (lt14 hn hS) (fun i hi => h2 i (hb i hi).1) (fun x y hx hy hne => ?_)
    obtain ⟨a1, a2⟩ := hb x hx
    obtain ⟨b1, b2⟩ := hb y hy
    unfold apt
    have c1 : lt x y = false := by
      cases h : lt x y with
      | false => rfl
      | true => exact absurd ⟨x, a1, h⟩ b2
    have c2 : lt y x = false := by
      cases h : lt y x with
      | false => rfl
      | true => exact absurd ⟨y, b1, h⟩ a2
    rw [c1, c2]
    simp [hne]
  omega
/-- the most that k chains hold, and that k antichains hold -/
noncomputable def most (G : Nat → Nat → Bool) (n k : Nat) : Nat := sz (fo (fun s => decide (om G s ≤ k)) (2 ^ n))
theorem most_ge {G : Nat → Nat → Bool} {n k S : Nat} (hS : S < 2 ^ n) (h : om G S ≤ k) : sz S ≤ most G n k :=
  (fo_is (fun s => decide (om G s ≤ k)) (2 ^ n)).2.1 S hS (by simpa using h)
theorem fo_om {G : Nat → Nat → Bool} {n k : Nat} : fo (fun s => decide (om G s ≤ k)) (2 ^ n) < 2 ^ n ∧ om G (fo (fun s => decide (om G s ≤ k)) (2 ^ n)) ≤ k := by
  rcases (fo_is (fun s => decide (om G s ≤ k)) (2 ^ n)).1 with e | ⟨h1, h2⟩
  · rw [e, om_0]; exact ⟨Nat.pow_pos (by omega), Nat.zero_le _⟩
  · exact ⟨h2, by simpa using h1⟩
theorem gk_of {lt : Nat → Nat → Bool} {n k m : Nat} (ho : ord n lt) (hn : n ≤ 14) (h : gS n lt k m) : n + k * m ≤ most (apt lt) n m + most (cmp lt) n k := by
  obtain ⟨S, Q, h1, h2, h3⟩ := gS_sum h ho.1 ho.2.1
  have a1 : om (apt lt) (mk S n) ≤ m := om_le (fun T hT hc => by
    have hTn := sub_lt hT (mk_lt S n)
    rw [sz_n hTn hn]
    refine h1 T.testBit (fun x hx ht => ?_) (fun x y hx hy tx ty => (anti_clq ho).mp hc x y tx ty)
    have := hT x ht
    rw [mk_bit] at this
    simp only [Bool.and_eq_true] at this
    exact this.2)
  have a2 : om (cmp lt) (mk Q n) ≤ k := om_le (fun T hT hc => by
    have hTn := sub_lt hT (mk_lt Q n)
    rw [sz_n hTn hn]
    refine h2 T.testBit (fun x hx ht => ?_) (fun x y hx hy tx ty hne => ?_)
    · have := hT x ht
      rw [mk_bit] at this
      simp only [Bool.and_eq_true] at this
      exact this.2
    · have := hc x y tx ty hne
      unfold cmp at this
      simpa using this)
  have b1 := most_ge (mk_lt S n) a1
  have b2 := most_ge (mk_lt Q n) a2
  rw [sz_mk hn] at b1 b2
  omega
theorem gk_k {lt : Nat → Nat → Bool} {n : Nat} (ho : ord n lt) (hn : n ≤ 14) (k : Nat) : ∃ m, m ≤ n ∧ n + k * m ≤ most (apt lt) n m + most (cmp lt) n k := by
  obtain ⟨m, h1, h2⟩ := gS_k (n := n) (lt := lt) k
  exact ⟨m, h1, gk_of ho hn h2⟩
theorem gk_m {lt : Nat → Nat → Bool} {n m : Nat} (ho : ord n lt) (hn : n ≤ 14) (hm : m ≤ n) : ∃ k, k ≤ n ∧ n + k * m ≤ most (apt lt) n m + most (cmp lt) n k := by
  obtain ⟨k, h1, h2⟩ := gS_m (n := n) (lt := lt) ho.1 ho.2.1 (n - m) m (by omega)
  exact ⟨k, h1, gk_of ho hn h2⟩
/-- without its lowest elements a set is one level less high -/
theorem om_low {lt : Nat → Nat → Bool} {n S : Nat} (ho : ord n lt) (hn : n ≤ 14) (hS : S < 2 ^ n) (h0 : S ≠ 0) {U : Nat} (hU : ∀ i, U.testBit i = true ↔ S.testBit i = true ∧ ∃ j, S.testBit j = true ∧ lt j i = true) : om (cmp lt) U + 1 ≤ om (cmp lt) S := by
  obtain ⟨T, h1, h2, h3⟩ := om_ex (cmp lt) U
  rw [← h3]
  have hUS : sub U S := fun i hi => ((hU i).mp hi).1
  have hT := sub_lt h1 (sub_lt hUS hS)
  by_cases hz : 1 ≤ sz T
  · obtain ⟨y, hy, ht⟩ := top_ex (ord_op ho) hn hT (by rw [cmp_op]; exact h2) hz
    obtain ⟨_, z, hz1, hz2⟩ := (hU y).mp (h1 y ht.1)
    have hb : ∀ i, T.testBit i = true → lt z i = true := fun i hi => by
      by_cases e : i = y
      · rw [e]; exact hz2
      · exact ho.2.1 z y i hz2 (ht.2 i hi e)
    have hzT : T.testBit z = false := by
      cases h : T.testBit z with
      | false => rfl
      | true => have := hb z h; rw [ho.1] at this; cases this
    rw [← sz_ins (show z < 14 by have := bit_in hS hz1; omega) hzT]
    refine om_ge (lt14 hn hS) (fun i hi => ?_) (fun a b ha hb' hne => ?_)
    · rw [ins_bit] at hi
      simp only [Bool.or_eq_true, decide_eq_true_eq] at hi
      exact hi.elim (fun q => hUS i (h1 i q)) (fun q => q ▸ hz1)
    · rw [ins_bit] at ha hb'
      simp only [Bool.or_eq_true, decide_eq_true_eq] at ha hb'
      unfold cmp
      rcases ha with ha | ha
      · rcases hb' with hb' | hb'
        · exact h2 a b ha hb' hne
        · rw [hb', hb a ha]; simp
      · rcases hb' with hb' | hb'
        · rw [ha, hb b hb']; rfl
        · exact absurd (ha.trans hb'.symm) hne
  · have hx : ∃ x, S.testBit x = true := by
      refine Classical.byContradiction (fun hno => h0 (bit_ext (fun i => ?_)))
      rw [Nat.zero_testBit]
      cases h : S.testBit i with
      | false => rfl
      | true => exact absurd ⟨i, h⟩ hno
    obtain ⟨x, hx⟩ := hx
    have hx14 : x < 14 := by have := bit_in hS hx; omega
    have : sz (ins 0 x) ≤ om (cmp lt) S := om_ge (lt14 hn hS) (fun i hi => by
      rw [ins_bit] at hi
      simp at hi
      rw [hi]; exact hx) (fun a b ha hb hne => by
      rw [ins_bit] at ha hb
      simp at ha hb
      exact absurd (ha.trans hb.symm) hne)
    rw [sz_ins hx14 (Nat.zero_testBit x), sz_0] at this
    omega
