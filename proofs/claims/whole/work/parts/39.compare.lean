/-! Settled: what both sides hold; compare. -/
noncomputable def ztb (R : Nat → Nat → Bool) (a b : Nat) : Bool := @decide (zT R a b) (Classical.propDecidable _)
theorem ztb_iff {R : Nat → Nat → Bool} {a b : Nat} : ztb R a b = true ↔ zT R a b := by
  unfold ztb
  exact @decide_eq_true_iff _ (Classical.propDecidable _)
theorem bool_of {x : Bool} {R : Nat → Nat → Bool} {a b : Nat} (h : x = true ↔ zT R a b) : x = ztb R a b := by
  rw [← ztb_iff] at h
  cases x <;> cases hq : ztb R a b
  · rfl
  · exact absurd (h.mpr hq) (by decide)
  · exact absurd (h.mp rfl) (by rw [hq]; decide)
  · rfl
/-- only what the last call threw, and the law's own cell, differ -/
def zk (M N : oz_M) : Prop := (∀ i k, ¬ (i = 62 ∧ k = 0) → N.1 i k = M.1 i k) ∧ ∀ i, i ≠ 74 → N.2 i = M.2 i
theorem zk.refl {M : oz_M} : zk M M := ⟨fun _ _ _ => rfl, fun _ _ => rfl⟩
theorem zk.trans {M N P : oz_M} (h : zk M N) (k : zk N P) : zk M P := ⟨fun i j q => (k.1 i j q).trans (h.1 i j q), fun i q => (k.2 i q).trans (h.2 i q)⟩
theorem zk_s {M : oz_M} {v : Int32} : zk M (oz_s M 62 0 v) := ⟨fun i k q => by rw [rd_s, if_neg q], fun _ _ => rfl⟩
theorem zk_l {M : oz_M} {k : Nat} {v : Int64} : zk M (oz_l M 74 k v) := ⟨fun _ _ _ => rfl, fun _ q => (oz_l_o _ q).2⟩
/-- the class's and the reference's rows speak of the order that the arcs R tell -/
def zG (M : oz_M) (n : Nat) (R : Nat → Nat → Bool) : Prop := zW n R ∧ (∀ a, ¬ zT R a a) ∧ M.1 0 7 = 1 ∧ zO M n R ∧ M.1 62 2 = 1 ∧ zR M n R ∧ zLt M n R
theorem zG.zk {M N : oz_M} {n : Nat} {R : Nat → Nat → Bool} (h : zG M n R) (k : zk M N) : zG N n R := by
  obtain ⟨h1, h2, h3, ⟨⟨h4, h5⟩, h6⟩, h7, ⟨h8, h9⟩, h10, h11⟩ := h
  refine ⟨h1, h2, by rw [k.1 _ _ (by simp)]; exact h3, ⟨⟨by rw [k.1 _ _ (by simp)]; exact h4, fun x hx b hb => by rw [k.1 _ _ (by simp)]; exact h5 x hx b hb⟩, fun x hx b hb => ?_⟩, by rw [k.1 _ _ (by simp)]; exact h7, ⟨by rw [k.1 _ _ (by simp)]; exact h8, fun a ha b hb => by rw [k.1 _ _ (by simp)]; exact h9 a ha b hb⟩, fun j hj => by rw [k.1 _ _ (by simp)]; exact h10 j hj, fun a b ha hb => ?_⟩
  · rw [k.1 _ _ (by simp), k.1 _ _ (by simp)]
    exact h6 x hx b hb
  · have := h11 a b ha hb
    unfold zl at this ⊢
    rw [k.1 _ _ (by simp)]
    exact this
noncomputable def zcv (R : Nat → Nat → Bool) (a b : Nat) : Int32 := if a = b then 0 else if ztb R a b then -1 else if ztb R b a then 1 else 2
theorem s_less {M : oz_M} {n : Nat} {R : Nat → Nat → Bool} (h : zLt M n R) {a b : Nat} (ha : a < 14) (hb : b < 14) : f_Model_isLess (nI a) (nI b) M = some (if ztb R a b then 1 else 0) := by
  rw [s_isLess h.1 ha hb]
  have h1 := h.2 a b ha hb
  rw [← ztb_iff] at h1
  unfold zl at h1
  rcases h.1 (14 * a + b) (by omega) with e | e
  · rw [e] at h1 ⊢
    cases hq : ztb R a b with
    | false => rfl
    | true => exact absurd (h1.mpr hq) (by decide)
  · rw [e] at h1 ⊢
    rw [h1.mp rfl]
    rfl
theorem s_Hall_compare {M : oz_M} {n : Nat} {R : Nat → Nat → Bool} (h : zG M n R) {a b : Nat} (ha : a < n) (hb : b < n) : f_Hall_compare (nI a) (nI b) M = some (.inr (zcv R a b), M) := by
  obtain ⟨h1, h2, h3, ⟨⟨h4, h5⟩, h6⟩, h7, h8, h9⟩ := h
  have hn := h1.2.1
  unfold f_Hall_compare
  simp only [s_wants (show ¬ M.1 0 7 = 0 by rw [h3]; decide), b2_some, el_inr, h4, s_want ha hn, s_want hb hn]
  unfold zcv
  by_cases e : a = b
  · rw [if_pos (by rw [e]), if_pos e]
  · rw [if_neg (fun q => e ((nI_eq (by omega) (by omega)).mp q)), if_neg e, oz_in_nI (by omega) (by omega)]
    simp only [Option.bind_some]
    obtain ⟨v, hv, hv2⟩ := s_has (x := M.1 8 a) (n := b) (by omega) M
    obtain ⟨w, hw, hw2⟩ := s_has (x := M.1 7 a) (n := b) (by omega) M
    rw [hv, hw]
    simp only [Option.bind_some]
    rw [hv2, hw2, bool_of (h5 a ha b (by omega)), bool_of (h6 a ha b (by omega)).1]
    cases ztb R a b <;> cases ztb R b a <;> rfl
theorem s_Model_compare {M : oz_M} {n : Nat} {R : Nat → Nat → Bool} (h : zG M n R) {a b : Nat} (ha : a < n) (hb : b < n) : f_Model_compare (nI a) (nI b) M = some (zcv R a b, oz_s M 62 0 0) := by
  have hk := h.zk (zk_s (v := 0))
  obtain ⟨h1, h2, h3, -, h7, h8, h9⟩ := h
  obtain ⟨-, -, -, -, -, -, k9⟩ := hk
  have hn := h1.2.1
  unfold f_Model_compare
  rw [if_neg (by rw [h7]; decide), s_isEl h8.1 hn ha, s_isEl h8.1 hn hb]
  simp only [Option.bind_some]
  rw [if_neg (by decide), if_neg (by decide)]
  simp only [Option.bind_some, um_at]
  rw [if_neg (by decide), s_less k9 (by omega) (by omega), s_less k9 (by omega) (by omega)]
  unfold zcv
  by_cases e : a = b
  · rw [if_pos (by rw [e]), if_pos e]
  · rw [if_neg (fun q => e ((nI_eq (by omega) (by omega)).mp q)), if_neg e]
    simp only [Option.bind_some]
    cases ztb R a b <;> cases ztb R b a <;> rfl
