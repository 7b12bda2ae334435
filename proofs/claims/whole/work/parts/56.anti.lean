/-! Antichains and the sets that hold all below them. -/
def cmp (lt : Nat → Nat → Bool) (a b : Nat) : Bool := lt a b || lt b a
def apt (lt : Nat → Nat → Bool) (a b : Nat) : Bool := !decide (a = b) && !lt a b && !lt b a
def ord (n : Nat) (lt : Nat → Nat → Bool) : Prop := (∀ a, lt a a = false) ∧ (∀ a b c, lt a b = true → lt b c = true → lt a c = true) ∧ ∀ a b, lt a b = true → a < n ∧ b < n
def op (lt : Nat → Nat → Bool) : Nat → Nat → Bool := fun a b => lt b a
theorem ord_op {n : Nat} {lt : Nat → Nat → Bool} (h : ord n lt) : ord n (op lt) := ⟨h.1, fun a b c h1 h2 => h.2.1 c b a h2 h1, fun a b q => (h.2.2 b a q).symm⟩
def anti (lt : Nat → Nat → Bool) (T : Nat) : Prop := ∀ x y, T.testBit x = true → T.testBit y = true → lt x y = false
theorem anti_op {lt : Nat → Nat → Bool} {T : Nat} : anti (op lt) T ↔ anti lt T := ⟨fun h x y hx hy => h y x hy hx, fun h x y hx hy => h y x hy hx⟩
theorem anti_clq {n : Nat} {lt : Nat → Nat → Bool} (ho : ord n lt) {T : Nat} : clq (apt lt) T ↔ anti lt T := by
  constructor
  · intro h x y hx hy
    by_cases e : x = y
    · subst e; exact ho.1 x
    · have := h x y hx hy e
      unfold apt at this
      simp only [Bool.and_eq_true, Bool.not_eq_true'] at this
      exact this.1.2
  · intro h x y hx hy e
    unfold apt
    rw [h x y hx hy, h y x hy hx]
    simp [e]
/-- an antichain is a set without chains of two -/
theorem om_anti {n : Nat} {lt : Nat → Nat → Bool} (ho : ord n lt) {S : Nat} (hS : S < 2 ^ 14) : om (cmp lt) S ≤ 1 ↔ anti lt S := by
  constructor
  · intro h x y hx hy
    cases hl : lt x y with
    | false => rfl
    | true =>
      exfalso
      have hne : x ≠ y := fun e => by rw [e, ho.1] at hl; cases hl
      have hx14 := bit_in hS hx
      have hy14 := bit_in hS hy
      have h0 : (0 : Nat).testBit x = false := Nat.zero_testBit x
      have h1 : (ins 0 x).testBit y = false := by rw [ins_bit]; simp; exact fun e => hne e.symm
      have e1 := sz_ins hx14 h0
      have e2 := sz_ins hy14 h1
      rw [sz_0] at e1
      have := om_ge (G := cmp lt) (S := S) (T := ins (ins 0 x) y) hS (fun i hi => by
        rw [ins_bit, ins_bit] at hi
        simp only [Nat.zero_testBit, Bool.false_or, Bool.or_eq_true, decide_eq_true_eq] at hi
        exact hi.elim (fun q => q ▸ hx) (fun q => q ▸ hy)) (fun a b ha hb hab => by
        rw [ins_bit, ins_bit] at ha hb
        simp only [Nat.zero_testBit, Bool.false_or, Bool.or_eq_true, decide_eq_true_eq] at ha hb
        unfold cmp
        rcases ha with rfl | rfl
        · rcases hb with rfl | rfl
          · exact absurd rfl hab
          · rw [hl]; rfl
        · rcases hb with rfl | rfl
          · rw [hl]; simp
          · exact absurd rfl hab)
      omega
  · intro h
    refine om_le (fun T h1 h2 => ?_)
    refine Nat.le_of_not_lt (fun h3 => ?_)
    obtain ⟨x, hx, hTx⟩ := sz_pos (n := 14) (sub_lt h1 hS) (by omega) (show 1 ≤ sz T by omega)
    have hT14 := sub_lt h1 hS
    have e := sz_del hT14 hx hTx
    obtain ⟨y, hy, hTy⟩ := sz_pos (n := 14) (a := del T x) (sub_lt del_sub hT14) (by omega) (by omega)
    rw [del_bit hT14 hx] at hTy
    simp only [Bool.and_eq_true, Bool.not_eq_true', decide_eq_false_iff_not] at hTy
    have := h2 x y hTx hTy.1 (fun e => hTy.2 e.symm)
    unfold cmp at this
    rw [h x y (h1 x hTx) (h1 y hTy.1), h y x (h1 y hTy.1) (h1 x hTx)] at this
    cases this
/-- up from x: a greatest one of the set -/
theorem ord_max {n : Nat} {lt : Nat → Nat → Bool} (ho : ord n lt) (D : Nat → Prop) : ∀ (c x : Nat), cnt (fun y => lt x y) n ≤ c → D x → ∃ y, D y ∧ (x = y ∨ lt x y = true) ∧ ∀ z, D z → lt y z = false := by
  intro c
  induction c with
  | zero =>
    intro x hc hD
    refine ⟨x, hD, Or.inl rfl, fun z _ => ?_⟩
    cases h : lt x z with
    | false => rfl
    | true => have := cnt_pos (P := fun y => lt x y) (ho.2.2 x z h).2 h; omega
  | succ c ih =>
    intro x hc hD
    by_cases hz : ∃ z, D z ∧ lt x z = true
    · obtain ⟨z, hz1, hz2⟩ := hz
      have : cnt (fun y => lt z y) n < cnt (fun y => lt x y) n := cnt_lt (fun j hj => ho.2.1 x z j hz2 hj) (ho.1 z) hz2 n (ho.2.2 x z hz2).2
      obtain ⟨y, h1, h2, h3⟩ := ih z (by omega) hz1
      refine ⟨y, h1, Or.inr (h2.elim (fun e => e ▸ hz2) (fun q => ho.2.1 x z y hz2 q)), h3⟩
    · refine ⟨x, hD, Or.inl rfl, fun z h => ?_⟩
      cases hl : lt x z with
      | false => rfl
      | true => exact absurd ⟨z, h, hl⟩ hz
noncomputable def mxs (lt : Nat → Nat → Bool) (n S : Nat) : Nat := mk (fun i => S.testBit i && tb (∀ j, S.testBit j = true → lt i j = false)) n
theorem mxs_bit {lt : Nat → Nat → Bool} {n S : Nat} (hS : S < 2 ^ n) (i : Nat) : (mxs lt n S).testBit i = true ↔ S.testBit i = true ∧ ∀ j, S.testBit j = true → lt i j = false := by
  unfold mxs
  rw [mk_bit]
  simp only [Bool.and_eq_true, decide_eq_true_eq, tb_iff]
  exact ⟨fun h => h.2, fun h => ⟨bit_in hS h.1, h⟩⟩
theorem mxs_lt {lt : Nat → Nat → Bool} {n S : Nat} : mxs lt n S < 2 ^ n := mk_lt _ _
theorem mxs_anti {lt : Nat → Nat → Bool} {n S : Nat} (hS : S < 2 ^ n) : anti lt (mxs lt n S) := fun x y hx hy => ((mxs_bit hS x).mp hx).2 y ((mxs_bit hS y).mp hy).1
noncomputable def dns (lt : Nat → Nat → Bool) (n S : Nat) : Nat := mk (fun i => tb (∃ a, S.testBit a = true ∧ (i = a ∨ lt i a = true))) n
theorem dns_bit {lt : Nat → Nat → Bool} {n S : Nat} (ho : ord n lt) (hS : S < 2 ^ n) (i : Nat) : (dns lt n S).testBit i = true ↔ ∃ a, S.testBit a = true ∧ (i = a ∨ lt i a = true) := by
  unfold dns
  rw [mk_bit]
  simp only [Bool.and_eq_true, decide_eq_true_eq, tb_iff]
  refine ⟨fun h => h.2, fun h => ⟨?_, h⟩⟩
  obtain ⟨a, h1, h2⟩ := h
  exact h2.elim (fun e => e ▸ bit_in hS h1) (fun q => (ho.2.2 i a q).1)
def clo (lt : Nat → Nat → Bool) (D : Nat) : Prop := ∀ a b, D.testBit b = true → lt a b = true → D.testBit a = true
theorem anti_clo {n : Nat} {lt : Nat → Nat → Bool} (ho : ord n lt) : cnt (fun T => tb (anti lt T)) (2 ^ n) = cnt (fun D => tb (clo lt D)) (2 ^ n) := by
  have up : ∀ A, A < 2 ^ n → anti lt A → mxs lt n (dns lt n A) = A := fun A hA h => by
    have hd : dns lt n A < 2 ^ n := mk_lt _ _
    refine bit_ext' mxs_lt hA (fun i hi => ?_)
    rw [mxs_bit hd]
    constructor
    · rintro ⟨h1, h2⟩
      obtain ⟨a, k1, k2⟩ := (dns_bit ho hA i).mp h1
      rcases k2 with rfl | k2
      · exact k1
      · have := h2 a ((dns_bit ho hA a).mpr ⟨a, k1, Or.inl rfl⟩)
        rw [k2] at this; cases this
    · intro h1
      refine ⟨(dns_bit ho hA i).mpr ⟨i, h1, Or.inl rfl⟩, fun j hj => ?_⟩
      obtain ⟨a, k1, k2⟩ := (dns_bit ho hA j).mp hj
      cases hl : lt i j with
      | false => rfl
      | true =>
        have : lt i a = true := k2.elim (fun e => e ▸ hl) (fun q => ho.2.1 i j a hl q)
        rw [h i a h1 k1] at this; cases this
  have dn : ∀ D, D < 2 ^ n → clo lt D → dns lt n (mxs lt n D) = D := fun D hD h => by
    refine bit_ext' (mk_lt _ _) hD (fun i hi => ?_)
    rw [dns_bit ho mxs_lt]
    constructor
    · rintro ⟨a, h1, h2⟩
      have := ((mxs_bit hD a).mp h1).1
      exact h2.elim (fun e => e ▸ this) (fun q => h i a this q)
    · intro h1
      obtain ⟨y, k1, k2, k3⟩ := ord_max ho (fun y => D.testBit y = true) _ i (Nat.le_refl _) h1
      exact ⟨y, (mxs_bit hD y).mpr ⟨k1, k3⟩, k2⟩
  apply Nat.le_antisymm
  · refine cnt_inj (dns lt n) (fun A hA h => ⟨mk_lt _ _, tb_iff.mpr (fun a b hb hl => ?_)⟩) (fun A B hA hB h1 h2 e => ?_)
    · obtain ⟨c, h1, h2⟩ := (dns_bit ho hA b).mp hb
      exact (dns_bit ho hA a).mpr ⟨c, h1, Or.inr (h2.elim (fun e => e ▸ hl) (fun q => ho.2.1 a b c hl q))⟩
    · rw [← up A hA (tb_iff.mp h1), ← up B hB (tb_iff.mp h2), e]
  · refine cnt_inj (mxs lt n) (fun D hD h => ⟨mxs_lt, tb_iff.mpr (mxs_anti hD)⟩) (fun A B hA hB h1 h2 e => ?_)
    rw [← dn A hA (tb_iff.mp h1), ← dn B hB (tb_iff.mp h2), e]
