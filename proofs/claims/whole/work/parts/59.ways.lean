/-! The sequences that keep the order, counted. -/
def may (lt : Nat → Nat → Bool) (S x : Nat) : Prop := S.testBit x = false ∧ ∀ y, lt y x = true → S.testBit y = true
noncomputable def wf (lt : Nat → Nat → Bool) (n : Nat) : Nat → Nat → Nat
  | 0, _ => 1
  | d + 1, S => sm (fun x => if tb (may lt S x) = true then wf lt n d (ins S x) else 0) n
noncomputable def wy (lt : Nat → Nat → Bool) (n S : Nat) : Nat := wf lt n (n - sz S) S
theorem full_n {n S : Nat} (hn : n ≤ 14) (hS : S < 2 ^ n) : sz S = n ↔ S = 2 ^ n - 1 := by
  have hf : ∀ i, (2 ^ n - 1).testBit i = decide (i < n) := fun i => Nat.testBit_two_pow_sub_one n i
  have hlt : 2 ^ n - 1 < 2 ^ n := by have := Nat.pow_pos (n := n) (show 0 < 2 by omega); omega
  constructor
  · intro h
    exact bit_ext' hS hlt (fun i hi => by rw [full_sz hn hS (by omega) i hi, hf]; simp [hi])
  · intro h
    rw [h, sz_n hlt hn]
    have : cnt (2 ^ n - 1).testBit n = cnt (fun _ => true) n := cnt_eq (fun q hq => by rw [hf]; simp [hq])
    rw [this, cnt_all]
theorem wy_full {lt : Nat → Nat → Bool} {n : Nat} (hn : n ≤ 14) : wy lt n (2 ^ n - 1) = 1 := by
  have hlt : 2 ^ n - 1 < 2 ^ n := by have := Nat.pow_pos (n := n) (show 0 < 2 by omega); omega
  unfold wy
  rw [(full_n hn hlt).mpr rfl, Nat.sub_self]; rfl
theorem wy_S {lt : Nat → Nat → Bool} {n S : Nat} (hn : n ≤ 14) (hS : S < 2 ^ n) (h : S ≠ 2 ^ n - 1) : wy lt n S = sm (fun x => if tb (may lt S x) = true then wy lt n (ins S x) else 0) n := by
  have h1 := sz_le hS hn
  have h2 : sz S ≠ n := fun e => h ((full_n hn hS).mp e)
  unfold wy
  have e : n - sz S = (n - (sz S + 1)) + 1 := by omega
  rw [e]
  show sm _ n = _
  refine sm_eq n (fun x hx => ?_)
  by_cases hm : may lt S x
  · rw [if_pos (tb_iff.mpr hm), if_pos (tb_iff.mpr hm), sz_ins (by omega) hm.1]
  · rw [if_neg (fun q => hm (tb_iff.mp q)), if_neg (fun q => hm (tb_iff.mp q))]
def fac : Nat → Nat
  | 0 => 1
  | d + 1 => (d + 1) * fac d
theorem fac_14 : ∀ d, d < 15 → fac d ≤ 87178291200 := by decide
theorem wf_le {lt : Nat → Nat → Bool} {n : Nat} (hn : n ≤ 14) : ∀ d S, S < 2 ^ n → sz S + d = n → wf lt n d S ≤ fac d
  | 0, _, _, _ => Nat.le_refl _
  | d + 1, S, hS, he => by
    simp only [wf, fac]
    have h1 : sm (fun x => if tb (may lt S x) = true then wf lt n d (ins S x) else 0) n ≤ sm (fun x => fac d * (if (!S.testBit x) = true then 1 else 0)) n := by
      refine sm_le n (fun x hx => ?_)
      by_cases hm : may lt S x
      · rw [if_pos (tb_iff.mpr hm), hm.1]
        have := wf_le (lt := lt) hn d (ins S x) (ins_lt hS hx) (by rw [sz_ins (by omega) hm.1]; omega)
        simp; exact this
      · rw [if_neg (fun q => hm (tb_iff.mp q))]; exact Nat.zero_le _
    rw [sm_mul, ← cnt_sm] at h1
    have h2 : cnt (fun x => !S.testBit x) n = d + 1 := by
      have := cnt_split (fun _ => true) S.testBit n
      rw [cnt_all] at this
      simp only [Bool.true_and] at this
      rw [sz_n hS hn] at he
      have e : cnt (fun i => S.testBit i) n = cnt S.testBit n := rfl
      omega
    rw [h2] at h1
    rw [Nat.mul_comm]; exact h1
theorem wy_le {lt : Nat → Nat → Bool} {n S : Nat} (hn : n ≤ 14) (hS : S < 2 ^ n) : wy lt n S ≤ 87178291200 := by
  have := sz_le hS hn
  exact Nat.le_trans (wf_le hn _ S hS (by omega)) (fac_14 _ (by omega))
/-- the ways that go on with the elements before x -/
noncomputable def wb (lt : Nat → Nat → Bool) (n S : Nat) (x : Nat) : Nat := if tb (may lt S x) = true then wy lt n (ins S x) else 0
theorem wy_S' {lt : Nat → Nat → Bool} {n S : Nat} (hn : n ≤ 14) (hS : S < 2 ^ n) (h : S ≠ 2 ^ n - 1) : wy lt n S = sm (wb lt n S) n := wy_S hn hS h
theorem clo_may {n : Nat} {lt : Nat → Nat → Bool} (ho : ord n lt) {S x : Nat} (h : clo lt S) (hx : S.testBit x = false) : clo lt (ins S x) ↔ may lt S x := by
  constructor
  · intro hc
    refine ⟨hx, fun y hy => ?_⟩
    have := hc y x (by rw [ins_bit]; simp) hy
    rw [ins_bit] at this
    simp only [Bool.or_eq_true, decide_eq_true_eq] at this
    exact this.resolve_right (fun e => by rw [e, ho.1] at hy; cases hy)
  · intro hm a b hb hl
    rw [ins_bit] at hb ⊢
    simp only [Bool.or_eq_true, decide_eq_true_eq] at hb ⊢
    exact Or.inl (hb.elim (fun q => h a b q hl) (fun q => hm.2 a (q ▸ hl)))
theorem clo_0 {lt : Nat → Nat → Bool} : clo lt 0 := fun a b h => by rw [Nat.zero_testBit] at h; cases h
/-- where the number falls -/
theorem sm_find {f : Nat → Nat} : ∀ (N left : Nat), left < sm f N → ∃ x, x < N ∧ sm f x ≤ left ∧ left - sm f x < f x
  | 0, left, h => by simp [sm] at h
  | N + 1, left, h => by
    simp only [sm] at h
    by_cases hl : left < sm f N
    · obtain ⟨x, h1, h2⟩ := sm_find N left hl
      exact ⟨x, by omega, h2⟩
    · exact ⟨N, by omega, by omega, by omega⟩
