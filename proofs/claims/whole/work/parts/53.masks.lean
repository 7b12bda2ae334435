/-! Sets of elements as numbers below 2^14. -/
def mk (P : Nat → Bool) : Nat → Nat
  | 0 => 0
  | n + 1 => mk P n ||| (if P n then 2 ^ n else 0)
theorem mk_bit (P : Nat → Bool) (i : Nat) : ∀ n, (mk P n).testBit i = (decide (i < n) && P i)
  | 0 => by simp [mk]
  | n + 1 => by
    simp only [mk]
    rw [Nat.testBit_or, mk_bit P i n]
    by_cases e : i = n
    · subst e
      cases hp : P i with
      | false => simp
      | true => simp
    · have : (if P n = true then 2 ^ n else 0).testBit i = false := by
        cases P n with
        | false => simp
        | true => rw [if_pos rfl, Nat.testBit_two_pow]; simp; omega
      rw [this]
      by_cases e2 : i < n
      · simp [e2, show i < n + 1 by omega]
      · simp [e2, show ¬ i < n + 1 by omega]
theorem bit_lt {m n : Nat} (h : ∀ i, m.testBit i = true → i < n) : m < 2 ^ n := by
  refine Nat.lt_pow_two_of_testBit m (fun i hi => ?_)
  cases hb : m.testBit i with
  | false => rfl
  | true => have := h i hb; omega
theorem mk_lt (P : Nat → Bool) (n : Nat) : mk P n < 2 ^ n := bit_lt (fun i h => by
  rw [mk_bit] at h
  simp only [Bool.and_eq_true, decide_eq_true_eq] at h
  exact h.1)
theorem bit_in {m n i : Nat} (h : m < 2 ^ n) (hb : m.testBit i = true) : i < n := by
  by_cases e : i < n
  · exact e
  · have := Nat.testBit_lt_two_pow (x := m) (i := i) (Nat.lt_of_lt_of_le h (Nat.pow_le_pow_right (by omega) (by omega)))
    rw [this] at hb; cases hb
theorem bit_ext {a b : Nat} (h : ∀ i, a.testBit i = b.testBit i) : a = b := Nat.eq_of_testBit_eq h
theorem bit_ext' {a b n : Nat} (ha : a < 2 ^ n) (hb : b < 2 ^ n) (h : ∀ i, i < n → (a.testBit i = true ↔ b.testBit i = true)) : a = b := by
  refine bit_ext (fun i => ?_)
  by_cases hi : i < n
  · have := h i hi
    cases h1 : a.testBit i <;> cases h2 : b.testBit i <;> simp [h1, h2] at this ⊢
  · cases h1 : a.testBit i with
    | true => exact absurd (bit_in ha h1) hi
    | false =>
      cases h2 : b.testBit i with
      | true => exact absurd (bit_in hb h2) hi
      | false => rfl
def sz (m : Nat) : Nat := cnt m.testBit 14
theorem cnt_cut {P : Nat → Bool} {n : Nat} : ∀ (d : Nat), (∀ i, n ≤ i → P i = false) → cnt P (n + d) = cnt P n
  | 0, _ => rfl
  | d + 1, h => by
    show cnt P (n + d) + _ = _
    rw [cnt_cut d h, show P (n.add d) = false from h (n + d) (Nat.le_add_right n d)]; rfl
theorem sz_n {m n : Nat} (h : m < 2 ^ n) (hn : n ≤ 14) : sz m = cnt m.testBit n := by
  unfold sz
  have := cnt_cut (P := m.testBit) (n := n) (14 - n) (fun i hi => by
    cases hb : m.testBit i with
    | false => rfl
    | true => have := bit_in h hb; omega)
  rwa [show n + (14 - n) = 14 by omega] at this
theorem sz_mk {P : Nat → Bool} {n : Nat} (hn : n ≤ 14) : sz (mk P n) = cnt P n := by
  rw [sz_n (mk_lt P n) hn]
  exact cnt_eq (fun q hq => by rw [mk_bit]; simp [hq])
theorem sz_le {m n : Nat} (h : m < 2 ^ n) (hn : n ≤ 14) : sz m ≤ n := by
  rw [sz_n h hn]; exact cnt_leN _ _
theorem sz_0 : sz 0 = 0 := cnt_zero (fun p _ => Nat.zero_testBit p)
/-- part of -/
def sub (a b : Nat) : Prop := ∀ i, a.testBit i = true → b.testBit i = true
theorem sub_lt {a b n : Nat} (h : sub a b) (hb : b < 2 ^ n) : a < 2 ^ n := bit_lt (fun i hi => bit_in hb (h i hi))
theorem sz_sub {a b : Nat} (h : sub a b) : sz a ≤ sz b := cnt_mono (fun i _ hi => h i hi)
theorem sub_eq {a b n : Nat} (hn : n ≤ 14) (hb : b < 2 ^ n) (h : sub a b) (hs : sz b ≤ sz a) : a = b := by
  refine bit_ext' (sub_lt h hb) hb (fun i hi => ⟨h i, fun hbi => ?_⟩)
  cases hai : a.testBit i with
  | true => rfl
  | false =>
    exfalso
    have := cnt_lt (p := a.testBit) (q := b.testBit) h hai hbi 14 (by omega)
    unfold sz at hs
    omega
theorem sub_le {a b : Nat} (h : sub a b) : a ≤ b := by
  have : a &&& b = a := bit_ext (fun i => by
    rw [Nat.testBit_and]
    cases ha : a.testBit i with
    | false => rfl
    | true => rw [h i ha]; rfl)
  rw [← this]; exact Nat.and_le_right
/-- one element more -/
def ins (a x : Nat) : Nat := a ||| 2 ^ x
theorem ins_bit (a x i : Nat) : (ins a x).testBit i = (a.testBit i || decide (i = x)) := by
  unfold ins
  rw [Nat.testBit_or, Nat.testBit_two_pow]
  congr 1
  by_cases h : x = i <;> simp [h, eq_comm]
theorem ins_lt {a x n : Nat} (ha : a < 2 ^ n) (hx : x < n) : ins a x < 2 ^ n := bit_lt (fun i h => by
  rw [ins_bit] at h
  simp only [Bool.or_eq_true, decide_eq_true_eq] at h
  exact h.elim (fun q => bit_in ha q) (fun q => q ▸ hx))
theorem sz_ins {a x : Nat} (hx : x < 14) (h : a.testBit x = false) : sz (ins a x) = sz a + 1 := by
  refine cnt_out hx (by rw [ins_bit]; simp) (fun q _ => ?_)
  rw [ins_bit]
  by_cases e : q = x
  · subst e; simp [h]
  · simp [e]
/-- one element less -/
def del (a x : Nat) : Nat := a &&& (2 ^ 14 - 1 - 2 ^ x)
theorem del_bit {a x : Nat} (ha : a < 2 ^ 14) (hx : x < 14) (i : Nat) : (del a x).testBit i = (a.testBit i && !decide (i = x)) := by
  unfold del
  rw [Nat.testBit_and]
  by_cases hi : i < 14
  · congr 1
    revert hi hx
    have : ∀ i, i < 14 → ∀ x, x < 14 → (2 ^ 14 - 1 - 2 ^ x).testBit i = !decide (i = x) := by decide
    exact fun hx hi => this i hi x hx
  · cases hb : a.testBit i with
    | false => rfl
    | true => exact absurd (bit_in ha hb) hi
theorem del_sub {a x : Nat} : sub (del a x) a := fun i h => by
  unfold del at h
  rw [Nat.testBit_and] at h
  simp only [Bool.and_eq_true] at h
  exact h.1
theorem sz_del {a x : Nat} (ha : a < 2 ^ 14) (hx : x < 14) (h : a.testBit x = true) : sz a = sz (del a x) + 1 := by
  refine cnt_out hx h (fun q _ => ?_)
  rw [del_bit ha hx]
  by_cases e : q = x <;> simp [e]
theorem del_lt {a x : Nat} (ha : a < 2 ^ 14) (hx : x < 14) (h : a.testBit x = true) : del a x < a := by
  have h1 := sub_le (del_sub (a := a) (x := x))
  have h2 := sz_del ha hx h
  by_cases e : del a x = a
  · rw [e] at h2; omega
  · omega
theorem sz_pos {a n : Nat} (ha : a < 2 ^ n) (hn : n ≤ 14) (h : 1 ≤ sz a) : ∃ x, x < n ∧ a.testBit x = true := by
  rw [sz_n ha hn] at h
  exact cnt_ex h
