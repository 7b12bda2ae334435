/-! The largest clique in a set, for a relation G of fellows. -/
theorem zmx_ex {f : Nat → Nat} {P : Nat → Bool} : ∀ (k : Nat), 0 < zmx f P k → ∃ x, x < k ∧ P x = true ∧ f x = zmx f P k
  | 0, h => by simp [zmx] at h
  | k + 1, h => by
    simp only [zmx] at h ⊢
    cases hp : P k with
    | false =>
      rw [hp] at h
      simp only [Bool.false_eq_true, if_false] at h ⊢
      obtain ⟨x, h1, h2, h3⟩ := zmx_ex k h
      exact ⟨x, by omega, h2, h3⟩
    | true =>
      rw [hp] at h
      simp only [if_true] at h ⊢
      by_cases hle : zmx f P k ≤ f k
      · exact ⟨k, by omega, hp, by omega⟩
      · obtain ⟨x, h1, h2, h3⟩ := zmx_ex (f := f) (P := P) k (by omega)
        exact ⟨x, by omega, h2, by omega⟩
def clq (G : Nat → Nat → Bool) (T : Nat) : Prop := ∀ x y, T.testBit x = true → T.testBit y = true → x ≠ y → G x y = true
theorem clq_sub {G : Nat → Nat → Bool} {S T : Nat} (h : clq G T) (hs : sub S T) : clq G S := fun x y hx hy => h x y (hs x hx) (hs y hy)
theorem clq_0 {G : Nat → Nat → Bool} : clq G 0 := fun x y h => by rw [Nat.zero_testBit] at h; cases h
noncomputable def om (G : Nat → Nat → Bool) (S : Nat) : Nat := zmx sz (fun T => tb (sub T S ∧ clq G T)) (2 ^ 14)
theorem om_ge {G : Nat → Nat → Bool} {S T : Nat} (hS : S < 2 ^ 14) (h1 : sub T S) (h2 : clq G T) : sz T ≤ om G S :=
  zmx_ge (2 ^ 14) (sub_lt h1 hS) (tb_iff.mpr ⟨h1, h2⟩)
theorem om_le {G : Nat → Nat → Bool} {S c : Nat} (h : ∀ T, sub T S → clq G T → sz T ≤ c) : om G S ≤ c :=
  zmx_le (2 ^ 14) (fun T _ hT => h T (tb_iff.mp hT).1 (tb_iff.mp hT).2)
theorem om_ex (G : Nat → Nat → Bool) (S : Nat) : ∃ T, sub T S ∧ clq G T ∧ sz T = om G S := by
  by_cases h : 0 < om G S
  · obtain ⟨T, _, h2, h3⟩ := zmx_ex (2 ^ 14) h
    exact ⟨T, (tb_iff.mp h2).1, (tb_iff.mp h2).2, h3⟩
  · exact ⟨0, fun i hi => (by rw [Nat.zero_testBit] at hi; cases hi), clq_0, by rw [sz_0]; omega⟩
theorem om_mono {G : Nat → Nat → Bool} {S T : Nat} (hT : T < 2 ^ 14) (h : sub S T) : om G S ≤ om G T :=
  om_le (fun _ h1 h2 => om_ge hT (fun i hi => h i (h1 i hi)) h2)
theorem om_sz {G : Nat → Nat → Bool} (S : Nat) : om G S ≤ sz S := om_le (fun _ h1 _ => sz_sub h1)
theorem om_clq {G : Nat → Nat → Bool} {S : Nat} (hS : S < 2 ^ 14) (h : clq G S) : om G S = sz S :=
  Nat.le_antisymm (om_sz S) (om_ge hS (fun _ h => h) h)
theorem om_0 {G : Nat → Nat → Bool} : om G 0 = 0 := by
  have := om_sz (G := G) 0
  rw [sz_0] at this; omega
/-- as the class reckons: the sets with x as their greatest number -/
theorem om_ins {G : Nat → Nat → Bool} (hsym : ∀ a b, G a b = true → G b a = true) {S F x : Nat} (hx : x < 14) (hS : S < 2 ^ x) (hF : ∀ i, i < x → F.testBit i = G x i) : om G (ins S x) = max (om G S) (1 + om G (S &&& F)) := by
  have hS14 : S < 2 ^ 14 := Nat.lt_of_lt_of_le hS (Nat.pow_le_pow_right (by omega) (by omega))
  have hnx : S.testBit x = false := Nat.testBit_lt_two_pow hS
  apply Nat.le_antisymm
  · refine om_le (fun T h1 h2 => ?_)
    cases hT : T.testBit x with
    | false =>
      refine Nat.le_trans (om_ge hS14 (fun i hi => ?_) h2) (Nat.le_max_left _ _)
      have := h1 i hi
      rw [ins_bit] at this
      simp only [Bool.or_eq_true, decide_eq_true_eq] at this
      exact this.resolve_right (fun e => by rw [e, hT] at hi; cases hi)
    | true =>
      have hT14 : T < 2 ^ 14 := sub_lt h1 (ins_lt hS14 hx)
      have e := sz_del hT14 hx hT
      have : sz (del T x) ≤ om G (S &&& F) := by
        refine om_ge (Nat.lt_of_le_of_lt Nat.and_le_left hS14) (fun i hi => ?_) (clq_sub h2 del_sub)
        rw [del_bit hT14 hx] at hi
        simp only [Bool.and_eq_true, Bool.not_eq_true', decide_eq_false_iff_not] at hi
        have h3 := h1 i hi.1
        rw [ins_bit] at h3
        simp only [Bool.or_eq_true, decide_eq_true_eq] at h3
        have h4 := h3.resolve_right hi.2
        rw [Nat.testBit_and, h4, hF i (bit_in hS h4), h2 x i hT hi.1 (fun e => hi.2 e.symm)]
        rfl
      omega
  · refine Nat.max_le.mpr ⟨om_mono (ins_lt hS14 hx) (fun i hi => by rw [ins_bit, hi]; rfl), ?_⟩
    obtain ⟨T, h1, h2, h3⟩ := om_ex G (S &&& F)
    have hTS : ∀ i, T.testBit i = true → S.testBit i = true ∧ F.testBit i = true := fun i hi => by
      have := h1 i hi
      rw [Nat.testBit_and] at this
      simpa using this
    have hTx : T.testBit x = false := by
      cases h : T.testBit x with
      | false => rfl
      | true => rw [(hTS x h).1] at hnx; cases hnx
    rw [← h3, Nat.add_comm, ← sz_ins hx hTx]
    refine om_ge (ins_lt hS14 hx) (fun i hi => ?_) (fun a b ha hb hne => ?_)
    · rw [ins_bit] at hi ⊢
      simp only [Bool.or_eq_true, decide_eq_true_eq] at hi ⊢
      exact hi.elim (fun q => Or.inl (hTS i q).1) Or.inr
    · rw [ins_bit] at ha hb
      simp only [Bool.or_eq_true, decide_eq_true_eq] at ha hb
      rcases ha with ha | ha
      · rcases hb with hb | hb
        · exact h2 a b ha hb hne
        · subst hb
          have hq := hTS a ha
          exact hsym _ _ (by rw [← hF a (bit_in hS hq.1)]; exact hq.2)
      · subst ha
        rcases hb with hb | hb
        · have hq := hTS b hb
          rw [← hF b (bit_in hS hq.1)]; exact hq.2
        · exact absurd hb.symm hne
/-- as the reference reckons: all of it, or one element less -/
theorem om_del {G : Nat → Nat → Bool} {S n : Nat} (hn : n ≤ 14) (hS : S < 2 ^ n) : om G S = max (if tb (clq G S) = true then sz S else 0) (zmx (fun x => om G (del S x)) S.testBit n) := by
  have hS14 : S < 2 ^ 14 := Nat.lt_of_lt_of_le hS (Nat.pow_le_pow_right (by omega) (by omega))
  apply Nat.le_antisymm
  · obtain ⟨T, h1, h2, h3⟩ := om_ex G S
    by_cases e : T = S
    · subst e
      rw [if_pos (tb_iff.mpr h2), om_clq hS14 h2]
      exact Nat.le_max_left _ _
    · have : ∃ x, x < n ∧ S.testBit x = true ∧ T.testBit x = false := by
        refine Classical.byContradiction (fun hno => e ?_)
        refine bit_ext' (sub_lt h1 hS) hS (fun i hi => ⟨h1 i, fun hSi => ?_⟩)
        cases hTi : T.testBit i with
        | true => rfl
        | false => exact absurd ⟨i, hi, hSi, hTi⟩ hno
      obtain ⟨x, hx, hSx, hTx⟩ := this
      refine Nat.le_trans ?_ (Nat.le_trans (zmx_ge (f := fun x => om G (del S x)) (P := S.testBit) n hx hSx) (Nat.le_max_right _ _))
      rw [← h3]
      refine om_ge (Nat.lt_of_le_of_lt (sub_le del_sub) hS14) (fun i hi => ?_) h2
      rw [del_bit hS14 (by omega), h1 i hi]
      have : i ≠ x := fun e => by rw [e, hTx] at hi; cases hi
      simp [this]
  · refine Nat.max_le.mpr ⟨?_, zmx_le n (fun x _ _ => om_mono hS14 del_sub)⟩
    by_cases hc : clq G S
    · rw [if_pos (tb_iff.mpr hc), om_clq hS14 hc]; exact Nat.le_refl _
    · rw [if_neg (fun h => hc (tb_iff.mp h))]; exact Nat.zero_le _
/-- one element more: at most one more -/
theorem om_one {G : Nat → Nat → Bool} {S x : Nat} (hx : x < 14) (hS : S < 2 ^ 14) : om G (ins S x) ≤ om G S + 1 := by
  refine om_le (fun T h1 h2 => ?_)
  have hT14 : T < 2 ^ 14 := sub_lt h1 (ins_lt hS hx)
  have hs : sub (del T x) S := fun i hi => by
    rw [del_bit hT14 hx] at hi
    simp only [Bool.and_eq_true, Bool.not_eq_true', decide_eq_false_iff_not] at hi
    have h3 := h1 i hi.1
    rw [ins_bit] at h3
    simp only [Bool.or_eq_true, decide_eq_true_eq] at h3
    exact h3.resolve_right hi.2
  have h4 := om_ge hS hs (clq_sub h2 del_sub)
  cases hT : T.testBit x with
  | true => have := sz_del hT14 hx hT; omega
  | false =>
    have : sub T S := fun i hi => by
      refine hs i ?_
      rw [del_bit hT14 hx, hi]
      have : i ≠ x := fun e => by rw [e, hT] at hi; cases hi
      simp [this]
    have := om_ge hS this h2
    omega
