/-! Closed walks: the shortest, from the least start, the first. -/
theorem least_ex {P : Nat → Prop} : ∀ x, P x → ∃ y, P y ∧ ∀ z, z < y → ¬ P z := by
  intro x
  induction x using Nat.strongRecOn with
  | _ x ih =>
    intro hx
    by_cases h : ∃ z, z < x ∧ P z
    · obtain ⟨z, h1, h2⟩ := h
      exact ih z h1 h2
    · exact ⟨x, hx, fun z hz hp => h ⟨z, hz, hp⟩⟩
theorem zP_add {R : Nat → Nat → Bool} : ∀ (j k : Nat) {a b c : Nat}, zP R j a b → zP R k b c → zP R (j + k) a c
  | 0, k, a, b, c, h1, h2 => by
    have : a = b := h1
    subst this
    rw [Nat.zero_add]; exact h2
  | j + 1, k, a, b, c, h1, h2 => by
    obtain ⟨d, h3, h4⟩ := h1
    rw [Nat.add_right_comm]
    exact ⟨d, h3, zP_add j k h4 h2⟩
theorem zP_walk {R : Nat → Nat → Bool} : ∀ (k : Nat) {a b : Nat}, zP R k a b → ∃ w : Nat → Nat, w 0 = a ∧ w k = b ∧ ∀ i, i < k → R (w i) (w (i + 1)) = true
  | 0, a, b, h => ⟨fun _ => a, rfl, h, fun i hi => by omega⟩
  | k + 1, a, b, ⟨c, h1, h2⟩ => by
    obtain ⟨w, w0, wk, hw⟩ := zP_walk k h2
    refine ⟨fun i => match i with | 0 => a | i + 1 => w i, rfl, wk, fun i hi => ?_⟩
    cases i with
    | zero => show R a (w 0) = true; rw [w0]; exact h1
    | succ i => exact hw i (by omega)
theorem walk_zP {R : Nat → Nat → Bool} {w : Nat → Nat} {k : Nat} (hw : ∀ i, i < k → R (w i) (w (i + 1)) = true) : ∀ (d i : Nat), i + d ≤ k → zP R d (w i) (w (i + d))
  | 0, i, _ => rfl
  | d + 1, i, h => ⟨w (i + 1), hw i (by omega), by
    have := walk_zP hw d (i + 1) (by omega)
    rwa [show i + 1 + d = i + (d + 1) by omega] at this⟩
theorem zT_P {R : Nat → Nat → Bool} {a b : Nat} (h : zT R a b) : ∃ k, zP R (k + 1) a b := h (fun a b => ∃ k, zP R (k + 1) a b) (fun x y q => ⟨0, y, q, rfl⟩) (fun x y z ⟨j, p⟩ ⟨k, q⟩ => ⟨j + (k + 1), by
  have := zP_add (j + 1) (k + 1) p q
  rwa [show j + 1 + (k + 1) = j + (k + 1) + 1 by omega] at this⟩)
/-- the shortest length round, and the least start -/
def rng (R : Nat → Nat → Bool) (L s : Nat) : Prop := 1 ≤ L ∧ zP R L s s ∧ (∀ k, 1 ≤ k → k < L → ∀ x, ¬ zP R k x x) ∧ ∀ x, x < s → ¬ zP R L x x
theorem rng_ex {R : Nat → Nat → Bool} {a : Nat} (h : zT R a a) : ∃ L s, rng R L s := by
  obtain ⟨k, hk⟩ := zT_P h
  obtain ⟨L, ⟨l1, x, l2⟩, l3⟩ := least_ex (P := fun L => 1 ≤ L ∧ ∃ x, zP R L x x) (k + 1) ⟨by omega, a, hk⟩
  obtain ⟨s, s1, s2⟩ := least_ex (P := fun s => zP R L s s) x l2
  exact ⟨L, s, l1, s1, fun j h1 h2 y hy => l3 j h2 ⟨h1, y, hy⟩, s2⟩
/-- a closed walk as short as can be -/
def cw (R : Nat → Nat → Bool) (L s : Nat) (w : Nat → Nat) : Prop := w 0 = s ∧ w L = s ∧ ∀ i, i < L → R (w i) (w (i + 1)) = true
theorem cw_simple {R : Nat → Nat → Bool} {L s : Nat} {w : Nat → Nat} (h : rng R L s) (hw : cw R L s w) : (∀ i j, i < j → j < L → w i ≠ w j) ∧ ∀ i, 0 < i → i < L → s < w i := by
  have key : ∀ i j, i < j → j < L → w i ≠ w j := fun i j hij hj e => by
    have := walk_zP hw.2.2 (j - i) i (by omega)
    rw [show i + (j - i) = j by omega, ← e] at this
    exact h.2.2.1 (j - i) (by omega) (by omega) _ this
  refine ⟨key, fun i h0 hi => ?_⟩
  have h1 := walk_zP hw.2.2 (L - i) i (by omega)
  have h2 := walk_zP hw.2.2 i 0 (by omega)
  rw [show i + (L - i) = L by omega, hw.2.1] at h1
  rw [Nat.zero_add, hw.1] at h2
  have h3 := zP_add _ _ h1 h2
  rw [show L - i + i = L by omega] at h3
  have h4 : ¬ w i < s := fun q => h.2.2.2 _ q h3
  have h5 : s ≠ w i := fun q => key 0 i h0 hi (by rw [hw.1, q])
  omega
theorem rng_le {n : Nat} {R : Nat → Nat → Bool} {L s : Nat} (hW : zW n R) (h : rng R L s) : L ≤ n ∧ s < n := by
  obtain ⟨w, w0, wL, hw⟩ := zP_walk L h.2.1
  have hc : cw R L s w := ⟨w0, wL, hw⟩
  have := cnt_inj (P := fun _ => true) (Q := fun _ => true) (N := L) (N' := n) w (fun j hj _ => ⟨(hW.2.2 _ _ (hw j hj)).1, rfl⟩) (fun i j hi hj _ _ e => by
    by_cases h1 : i < j
    · exact absurd e ((cw_simple h hc).1 i j h1 hj)
    · by_cases h2 : j < i
      · exact absurd e.symm ((cw_simple h hc).1 j i h2 hi)
      · omega)
  rw [cnt_all, cnt_all] at this
  refine ⟨this, ?_⟩
  rw [← w0]
  exact (hW.2.2 _ _ (hw 0 h.1)).1
noncomputable def lst (P : Nat → Prop) : Nat := match Classical.propDecidable (∃ x, P x) with
  | .isTrue h => Classical.choose (least_ex (Classical.choose h) (Classical.choose_spec h))
  | .isFalse _ => 0
theorem lst_is {P : Nat → Prop} {x : Nat} (h : P x) : P (lst P) ∧ ∀ y, y < lst P → ¬ P y := by
  unfold lst
  cases hd : Classical.propDecidable (∃ x, P x) with
  | isTrue h' => exact Classical.choose_spec (least_ex (Classical.choose h') (Classical.choose_spec h'))
  | isFalse h' => exact absurd ⟨x, h⟩ h'
/-- the first of them -/
noncomputable def fw (R : Nat → Nat → Bool) (L s : Nat) : Nat → Nat
  | 0 => s
  | i + 1 => lst (fun v => R (fw R L s i) v = true ∧ zP R (L - 1 - i) v s)
theorem fw_step {R : Nat → Nat → Bool} {L s : Nat} (h : rng R L s) : ∀ i, i ≤ L → zP R (L - i) (fw R L s i) s
  | 0, _ => h.2.1
  | i + 1, hi => by
    have ih := fw_step h i (by omega)
    rw [show L - i = (L - 1 - i) + 1 by omega] at ih
    obtain ⟨c, h1, h2⟩ := ih
    have := (lst_is (P := fun v => R (fw R L s i) v = true ∧ zP R (L - 1 - i) v s) (x := c) ⟨h1, h2⟩).1.2
    rw [show L - (i + 1) = L - 1 - i by omega]
    exact this
theorem fw_next {R : Nat → Nat → Bool} {L s : Nat} (h : rng R L s) {i : Nat} (hi : i < L) : (R (fw R L s i) (fw R L s (i + 1)) = true ∧ zP R (L - 1 - i) (fw R L s (i + 1)) s) ∧ ∀ y, y < fw R L s (i + 1) → ¬ (R (fw R L s i) y = true ∧ zP R (L - 1 - i) y s) := by
  have ih := fw_step h i (by omega)
  rw [show L - i = (L - 1 - i) + 1 by omega] at ih
  obtain ⟨c, h1, h2⟩ := ih
  exact lst_is (P := fun v => R (fw R L s i) v = true ∧ zP R (L - 1 - i) v s) (x := c) ⟨h1, h2⟩
theorem fw_cw {R : Nat → Nat → Bool} {L s : Nat} (h : rng R L s) : cw R L s (fw R L s) := by
  refine ⟨rfl, ?_, fun i hi => (fw_next h hi).1.1⟩
  have := fw_step h L (Nat.le_refl _)
  rw [Nat.sub_self] at this
  exact this
/-- none comes before it -/
theorem fw_first {R : Nat → Nat → Bool} {L s : Nat} (h : rng R L s) {w : Nat → Nat} (hw : cw R L s w) {d : Nat} (hd : d < L) (heq : ∀ j, j < d → w j = fw R L s j) : fw R L s d ≤ w d := by
  cases d with
  | zero => rw [hw.1]; exact Nat.le_refl _
  | succ d =>
    refine Nat.le_of_not_lt (fun q => ?_)
    refine (fw_next h (show d < L by omega)).2 (w (d + 1)) q ⟨?_, ?_⟩
    · rw [← heq d (by omega)]; exact hw.2.2 d (by omega)
    · have := walk_zP hw.2.2 (L - 1 - d) (d + 1) (by omega)
      rwa [show d + 1 + (L - 1 - d) = L by omega, hw.2.1] at this
