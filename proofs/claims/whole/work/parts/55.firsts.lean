/-! The first of the largest sets of a kind. -/
def fo (P : Nat → Bool) : Nat → Nat
  | 0 => 0
  | s + 1 => if P s = true ∧ sz (fo P s) < sz s then s else fo P s
theorem fo_is (P : Nat → Bool) : ∀ N, (fo P N = 0 ∨ P (fo P N) = true ∧ fo P N < N) ∧ (∀ s, s < N → P s = true → sz s ≤ sz (fo P N)) ∧ ∀ s, s < fo P N → P s = true → sz s < sz (fo P N)
  | 0 => ⟨Or.inl rfl, fun s h => by omega, fun s h => by simp [fo] at h⟩
  | N + 1 => by
    obtain ⟨h1, h2, h3⟩ := fo_is P N
    simp only [fo]
    by_cases hc : P N = true ∧ sz (fo P N) < sz N
    · rw [if_pos hc]
      refine ⟨Or.inr ⟨hc.1, by omega⟩, fun s hs hp => ?_, fun s hs hp => ?_⟩
      · by_cases e : s = N
        · rw [e]; exact Nat.le_refl _
        · have := h2 s (by omega) hp; omega
      · have := h2 s hs hp; omega
    · rw [if_neg hc]
      refine ⟨h1.imp id (fun q => ⟨q.1, by omega⟩), fun s hs hp => ?_, h3⟩
      by_cases e : s = N
      · subst e
        by_cases hlt : sz (fo P s) < sz s
        · exact absurd ⟨hp, hlt⟩ hc
        · omega
      · exact h2 s (by omega) hp
theorem fo_uni {P : Nat → Bool} {N b : Nat} (h0 : P 0 = true) (hN : 0 < N) (h1 : P b = true) (hb : b < N) (h2 : ∀ s, s < N → P s = true → sz s ≤ sz b) (h3 : ∀ s, s < b → P s = true → sz s < sz b) : b = fo P N := by
  obtain ⟨k1, k2, k3⟩ := fo_is P N
  have p1 : P (fo P N) = true ∧ fo P N < N := k1.elim (fun e => by rw [e]; exact ⟨h0, hN⟩) id
  have e : sz b = sz (fo P N) := Nat.le_antisymm (k2 b hb h1) (h2 _ p1.2 p1.1)
  by_cases hlt : b < fo P N
  · have := k3 b hlt h1; omega
  · by_cases hgt : fo P N < b
    · have := h3 _ hgt p1.1; omega
    · omega
/-- for each k by itself, then what fewer hold -/
noncomputable def spr (G : Nat → Nat → Bool) (n : Nat) : Nat → Nat
  | 0 => fo (fun s => decide (om G s = 0)) (2 ^ n)
  | k + 1 => if sz (fo (fun s => decide (om G s = k + 1)) (2 ^ n)) < sz (spr G n k) then spr G n k else fo (fun s => decide (om G s = k + 1)) (2 ^ n)
theorem full_sz {n b : Nat} (hn : n ≤ 14) (hb : b < 2 ^ n) (h : n ≤ sz b) : ∀ i, i < n → b.testBit i = true := by
  intro i hi
  cases hbi : b.testBit i with
  | true => rfl
  | false =>
    have := cnt_lt (p := b.testBit) (q := fun i => decide (i < n)) (fun j hj => by simp; exact bit_in hb hj) hbi (by simp; exact hi) n hi
    have := cnt_leN (fun i => decide (i < n)) n
    rw [sz_n hb hn] at h
    omega
theorem spr_is {G : Nat → Nat → Bool} {n : Nat} (hn : n ≤ 14) (hn1 : 1 ≤ n) : ∀ k, spr G n k = fo (fun s => decide (om G s ≤ k)) (2 ^ n)
  | 0 => by
    show fo _ _ = fo _ _
    congr 1
    funext s
    by_cases h : om G s = 0 <;> simp [h]
  | k + 1 => by
    have ih := spr_is (G := G) hn hn1 k
    obtain ⟨b1, b2, b3⟩ := fo_is (fun s => decide (om G s ≤ k)) (2 ^ n)
    obtain ⟨e1, e2, e3⟩ := fo_is (fun s => decide (om G s = k + 1)) (2 ^ n)
    simp only [spr]
    rw [ih]
    generalize fo (fun s => decide (om G s ≤ k)) (2 ^ n) = b at b1 b2 b3
    generalize fo (fun s => decide (om G s = k + 1)) (2 ^ n) = e at e1 e2 e3
    simp only [decide_eq_true_eq] at b1 b2 b3 e1 e2 e3
    have hN : 0 < 2 ^ n := Nat.pow_pos (by omega)
    have p1 : om G b ≤ k ∧ b < 2 ^ n := b1.elim (fun q => by rw [q, om_0]; exact ⟨by omega, hN⟩) id
    by_cases hc : sz e < sz b
    · rw [if_pos hc]
      refine fo_uni (by simp [om_0]) hN (by simp; omega) p1.2 (fun s hs hp => ?_) (fun s hs hp => ?_)
      · simp only [decide_eq_true_eq] at hp
        by_cases hk : om G s ≤ k
        · exact b2 s hs hk
        · have := e2 s hs (by omega); omega
      · simp only [decide_eq_true_eq] at hp
        by_cases hk : om G s ≤ k
        · exact b3 s hs hk
        · have := e2 s (by omega) (by omega); omega
    · rw [if_neg hc]
      have hlt : sz b < sz e := by
        by_cases hfull : n ≤ sz b
        · exfalso
          have hen : e ≠ 0 := fun q => by rw [q, sz_0] at hc; omega
          obtain ⟨g1, g2⟩ := e1.resolve_left hen
          have heq : e = b := bit_ext' g2 p1.2 (fun i hi => by
            rw [full_sz hn p1.2 hfull i hi, full_sz hn g2 (by omega) i hi])
          rw [heq] at g1
          omega
        · have : ∃ x, x < n ∧ b.testBit x = false := by
            refine Classical.byContradiction (fun hno => hfull ?_)
            rw [sz_n p1.2 hn]
            have : cnt b.testBit n = cnt (fun _ => true) n := cnt_eq (fun q hq => by
              cases hb : b.testBit q with
              | true => simp
              | false => exact absurd ⟨q, hq, hb⟩ hno)
            rw [this, cnt_all]; exact Nat.le_refl _
          obtain ⟨x, hx, hbx⟩ := this
          have hb14 : b < 2 ^ 14 := Nat.lt_of_lt_of_le p1.2 (Nat.pow_le_pow_right (by omega) (by omega))
          have s1 := sz_ins (show x < 14 by omega) hbx
          have s2 := om_one (G := G) (show x < 14 by omega) hb14
          have s3 : ¬ om G (ins b x) ≤ k := fun q => by
            have := b2 _ (ins_lt p1.2 hx) q; omega
          have := e2 _ (ins_lt p1.2 hx) (by omega)
          omega
      have p2 : om G e ≤ k + 1 ∧ e < 2 ^ n := e1.elim (fun q => by rw [q, om_0]; exact ⟨by omega, hN⟩) (fun q => ⟨by omega, q.2⟩)
      refine fo_uni (by simp [om_0]) hN (by simp; exact p2.1) p2.2 (fun s hs hp => ?_) (fun s hs hp => ?_)
      · simp only [decide_eq_true_eq] at hp
        by_cases hk : om G s ≤ k
        · have := b2 s hs hk; omega
        · exact e2 s hs (by omega)
      · simp only [decide_eq_true_eq] at hp
        by_cases hk : om G s ≤ k
        · have := b2 s (by omega) hk; omega
        · exact e3 s hs (by omega)
