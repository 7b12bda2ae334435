/-! The numbers and the sets that they tell. -/
theorem zb_nI (m : Nat) {i : Nat} (hi : i < 32) : zb (nI m) i = m.testBit i := by
  unfold zb nI
  show (BitVec.ofNat 32 m).getLsbD i = _
  rw [BitVec.getLsbD_ofNat]
  simp [hi]
theorem zb_high {m i : Nat} (hm : m < 2 ^ 14) (hi : 14 ≤ i) : m.testBit i = false := by
  cases h : m.testBit i with
  | false => rfl
  | true => have := bit_in hm h; omega
theorem zb_mask {x : Int32} {m : Nat} (h : ∀ i, i < 32 → zb x i = m.testBit i) : x = nI m := zb_ext (fun i hi => by rw [h i hi, zb_nI m hi])
theorem nI_or (a b : Nat) : nI a ||| nI b = nI (a ||| b) := zb_mask (fun i hi => by rw [zb_or, zb_nI a hi, zb_nI b hi, Nat.testBit_or])
theorem nI_and (a b : Nat) : nI a &&& nI b = nI (a &&& b) := zb_mask (fun i hi => by rw [zb_and, zb_nI a hi, zb_nI b hi, Nat.testBit_and])
theorem nI_shl {k : Nat} (hk : k < 32) : 1 <<< (nI k &&& 31) = nI (2 ^ k) := zb_mask (fun i hi => by
  rw [zb_one k hk i hi, Nat.testBit_two_pow]
  by_cases h : i = k
  · simp [h]
  · simp [h, show ¬ k = i from fun e => h e.symm])
theorem nI_ins {a k : Nat} (hk : k < 32) : nI a ||| (1 <<< (nI k &&& 31)) = nI (ins a k) := by rw [nI_shl hk, nI_or]; rfl
theorem nI_del {a k : Nat} (ha : a < 2 ^ 14) (hk : k < 14) : nI a &&& ((1 <<< (nI k &&& 31)) ^^^ (-1)) = nI (del a k) := zb_mask (fun i hi => by
  rw [zb_and, zb_nI a hi, zb_xor, zb_one k (by omega) i hi, zb_m1 i hi, del_bit ha hk]
  by_cases h : i = k <;> simp [h])
theorem nI_bc {m : Nat} (h : m < 2 ^ 14) : bcv (nI m) = nI (sz m) := bcv_of h
theorem nI_all {n : Nat} (hn : n < 15) : (1 <<< (nI n &&& 31)) - 1 = nI (2 ^ n - 1) := zb_mask (fun i hi => by
  rw [zb_all n hn i hi, Nat.testBit_two_pow_sub_one])
theorem p2_14 {n : Nat} (hn : n ≤ 14) : 2 ^ n ≤ 16384 := show 2 ^ n ≤ 2 ^ 14 from Nat.pow_le_pow_right (by omega) hn
theorem p2_pos (n : Nat) : 0 < 2 ^ n := Nat.pow_pos (by omega)
theorem p2_m1 (n : Nat) : 2 ^ n - 1 < 2 ^ n := by have := p2_pos n; omega
theorem ztb_no {R : Nat → Nat → Bool} {a b : Nat} : ztb R a b = false ↔ ¬ zT R a b := by
  rw [← ztb_iff]; cases ztb R a b <;> simp
/-- the order's three rows as sets -/
theorem zord {n : Nat} {R : Nat → Nat → Bool} (hW : zW n R) (hac : ∀ a, ¬ zT R a a) : ord n (ztb R) := by
  refine ⟨fun a => ?_, fun a b c h1 h2 => ztb_iff.mpr ((ztb_iff.mp h1).trans (ztb_iff.mp h2)), fun a b h => zT_in hW (ztb_iff.mp h)⟩
  cases h : ztb R a a with
  | false => rfl
  | true => exact absurd (ztb_iff.mp h) (hac a)
def aprt (lt : Nat → Nat → Bool) (n x : Nat) : Nat := mk (fun y => apt lt x y) n
theorem aprt_lt {lt : Nat → Nat → Bool} {n x : Nat} : aprt lt n x < 2 ^ n := mk_lt _ _
theorem zO_rows {M : oz_M} {n : Nat} {R : Nat → Nat → Bool} (hW : zW n R) (hac : ∀ a, ¬ zT R a a) (h : zO M n R) {x : Nat} (hx : x < n) : M.1 7 x = nI (blw (ztb R) n x) ∧ M.1 8 x = nI (blw (op (ztb R)) n x) ∧ M.1 9 x = nI (aprt (ztb R) n x) := by
  have ho := zord hW hac
  refine ⟨zb_mask (fun i hi => ?_), zb_mask (fun i hi => ?_), zb_mask (fun i hi => ?_)⟩
  · rw [blw_bit ho]
    exact bool_of (h.2 x hx i hi).1
  · rw [blw_bit (ord_op ho)]
    exact bool_of (h.1.2 x hx i hi)
  · unfold aprt
    rw [mk_bit]
    refine bool_and ?_
    rw [(h.2 x hx i hi).2]
    unfold apt
    simp only [Bool.and_eq_true, Bool.not_eq_true', decide_eq_false_iff_not, ztb_no]
    constructor
    · rintro ⟨a, b, c, d⟩; exact ⟨a, ⟨fun e => b e.symm, c⟩, d⟩
    · rintro ⟨a, ⟨b, c⟩, d⟩; exact ⟨a, fun e => b e.symm, c, d⟩
theorem zmx_cong {f g : Nat → Nat} {P Q : Nat → Bool} : ∀ (k : Nat), (∀ x, x < k → P x = Q x ∧ (P x = true → f x = g x)) → zmx f P k = zmx g Q k
  | 0, _ => rfl
  | k + 1, h => by
    simp only [zmx]
    rw [zmx_cong k (fun x hx => h x (by omega)), ← (h k (by omega)).1]
    cases hp : P k with
    | false => rfl
    | true => rw [(h k (by omega)).2 hp]
