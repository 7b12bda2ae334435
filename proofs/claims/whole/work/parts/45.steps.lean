/-! Ways of so many arcs; the class's into and stepsRound. -/
def zP (R : Nat → Nat → Bool) : Nat → Nat → Nat → Prop
  | 0, a, b => a = b
  | k + 1, a, b => ∃ c, R a c = true ∧ zP R k c b
theorem zP_T {R : Nat → Nat → Bool} : ∀ (k : Nat) {a b : Nat}, zP R (k + 1) a b → zT R a b
  | 0, a, b, ⟨c, h1, h2⟩ => by
    have e : c = b := h2
    subst e
    exact zT.one h1
  | k + 1, a, b, ⟨c, h1, h2⟩ => zT.trans (zT.one h1) (zP_T k h2)
theorem s_into {M : oz_M} {n : Nat} {R : Nat → Nat → Bool} (hW : zW n R) (hA : zA M n R) (S : Int32) : ow (f_Arcs_into S M) (fun v => ∀ b, b < 32 → (zb v b = true ↔ ∃ c, R b c = true ∧ zb S c = true)) := by
  have hn := hW.2.1
  have key : ∀ b, b < 14 → (¬ M.1 2 b &&& S = 0 ↔ ∃ c, R b c = true ∧ zb S c = true) := fun b hb => by
    constructor
    · intro h
      by_cases hq : ∃ c, R b c = true ∧ zb S c = true
      · exact hq
      · exact absurd (zb_none.mpr (fun c hc q => hq ⟨c, by rw [← hA.2 b hb c hc]; exact q.1, q.2⟩)) h
    · rintro ⟨c, h1, h2⟩ h
      have hc : c < 32 := by have := (hW.2.2 b c h1).2; omega
      exact zb_none.mp h c hc ⟨by rw [hA.2 b hb c hc]; exact h1, h2⟩
  unfold f_Arcs_into
  rw [hA.1]
  refine ow_bind (P := fun y => ∀ b, b < 32 → (zb y.1 b = true ↔ b < n ∧ ∃ c, R b c = true ∧ zb S c = true)) ?_ (fun y hy => ow_some (fun b hb => (hy b hb).trans ⟨fun q => q.2, fun q => ⟨by obtain ⟨c, h1, -⟩ := q; exact (hW.2.2 b c h1).1, q⟩⟩))
  refine ow_for n (fun k s => s.2 = nI k ∧ ∀ b, b < 32 → (zb s.1 b = true ↔ b < k ∧ ∃ c, R b c = true ∧ zb S c = true)) (fun k s hk hJ => ?_) (fun s hJ => ?_) 0 _ (by omega) ⟨rfl, fun b hb => by rw [zb_0]; simp⟩
  · obtain ⟨q1, q2⟩ := hJ
    rw [q1, if_pos (nI_lt hk (by omega))]
    refine ow_bind (ow_in rfl (show k < 14 by omega) (by omega)) (fun j hj => ?_)
    subst hj
    refine ow_ite (fun e => ow_some ⟨nI_1 j, fun b hb => ?_⟩) (fun e => ow_some ⟨nI_1 j, fun b hb => ?_⟩)
    · rw [q2 b hb]
      refine ⟨fun q => ⟨by omega, q.2⟩, fun q => ⟨?_, q.2⟩⟩
      by_cases eb : b = j
      · rw [eb] at q; exact absurd e ((key j (by omega)).mpr q.2)
      · omega
    · show zb (s.1 ||| (1 <<< (nI j &&& 31))) b = true ↔ _
      rw [zb_or, zb_one j (by omega) b hb, Bool.or_eq_true, decide_eq_true_eq, q2 b hb]
      constructor
      · rintro (q | q)
        · exact ⟨by omega, q.2⟩
        · rw [q]; exact ⟨by omega, (key j (by omega)).mp e⟩
      · intro q
        by_cases eb : b = j
        · exact Or.inr eb
        · exact Or.inl ⟨by omega, q.2⟩
  · obtain ⟨q1, q2⟩ := hJ
    rw [q1, if_neg (nI_nlt (Nat.le_refl _) (by omega))]
    exact ow_some q2
/-- rows back[0 .. k] tell from where so many arcs lead to x -/
def zB (M : oz_M) (R : Nat → Nat → Bool) (x k : Nat) : Prop := ∀ j, j ≤ k → ∀ b, b < 32 → (zb (M.1 5 j) b = true ↔ zP R j b x)
theorem s_stepsRound {M : oz_M} {n : Nat} {R : Nat → Nat → Bool} (hW : zW n R) (hA : zA M n R) {x L : Nat} (hx : x < n) (hL : L ≤ 14) : ow (f_Ring_stepsRound (nI x) (nI L) M) (fun r => fr [5] M r.2 ∧ ((r.1 = 0 ∧ ∀ i, 1 ≤ i → i ≤ L → ¬ zP R i x x) ∨ ∃ i, 1 ≤ i ∧ i ≤ L ∧ r.1 = nI i ∧ zP R i x x ∧ (∀ j, 1 ≤ j → j < i → ¬ zP R j x x) ∧ zB r.2 R x i)) := by
  have hn := hW.2.1
  unfold f_Ring_stepsRound
  refine ow_bind (ow_in (k := 0) rfl (by omega) (by omega)) (fun j hj => ?_)
  subst hj
  refine ow_let (ow_bind (P := oz_el (fun y : Int32 × oz_M => fr [5] M y.2 ∧ ∀ i, 1 ≤ i → i ≤ L → ¬ zP R i x x) (fun y : Int32 × oz_M => fr [5] M y.2 ∧ ∃ i, 1 ≤ i ∧ i ≤ L ∧ y.1 = nI i ∧ zP R i x x ∧ (∀ j, 1 ≤ j → j < i → ¬ zP R j x x) ∧ zB y.2 R x i)) ?_ (fun y hy => ?_))
  · refine ow_for L (fun k s => s.1 = nI (k + 1) ∧ fr [5] M s.2 ∧ zB s.2 R x k ∧ ∀ i, 1 ≤ i → i ≤ k → ¬ zP R i x x) (fun k s hk hJ => ?_) (fun s hJ => ?_) 0 _ (by omega) ⟨rfl, fr.refl.s (by decide), fun j hj b hb => ?_, fun i h1 h2 => by omega⟩
    · obtain ⟨q1, q2, q3, q4⟩ := hJ
      rw [q1, if_neg (nI_nlt (show k + 1 ≤ L by omega) (by omega)), show nI (k + 1) - 1 = nI k from nI_pred k]
      refine ow_bind (ow_in rfl (show k < 15 by omega) (by omega)) (fun j hj => ?_)
      subst hj
      refine ow_bind (s_into hW (hA.fr q2 (by decide) (by decide)) _) (fun v hv => ow_bind (ow_in rfl (show j + 1 < 15 by omega) (by omega)) (fun j1 hj1 => ow_let (ow_bind (ow_in rfl (show j + 1 < 15 by omega) (by omega)) (fun j2 hj2 => ?_))))
      subst hj1
      subst hj2
      have e1 : (oz_s s.2 5 (j + 1) v).1 5 (j + 1) = v := by rw [rd_s, if_pos ⟨rfl, rfl⟩]
      have hB : zB (oz_s s.2 5 (j + 1) v) R x (j + 1) := fun i hi b hb => by
        rw [rd_s]
        by_cases ei : i = j + 1
        · subst ei
          rw [if_pos ⟨rfl, rfl⟩, hv b hb]
          constructor
          · rintro ⟨c, g1, g2⟩
            exact ⟨c, g1, (q3 j (by omega) c (by have := (hW.2.2 b c g1).2; omega)).mp g2⟩
          · rintro ⟨c, g1, g2⟩
            exact ⟨c, g1, (q3 j (by omega) c (by have := (hW.2.2 b c g1).2; omega)).mpr g2⟩
        · rw [if_neg (by simp [ei])]
          exact q3 i (by omega) b hb
      have hxx := hB (j + 1) (by omega) x (by omega)
      refine ow_bind (s_has (n := x) (by omega) _) (fun w hw => ?_)
      refine ow_ite (fun e => ow_some ⟨nI_1 (j + 1), q2.s (by decide), hB, fun i h1 h2 => ?_⟩) (fun e => ow_some ⟨q2.s (by decide), j + 1, by omega, by omega, rfl, ?_, fun i h1 h2 => q4 i h1 (by omega), hB⟩)
      · by_cases ei : i = j + 1
        · rw [ei]
          intro q
          rw [hxx.mpr q] at hw
          exact absurd (hw.symm.trans e) (by decide)
        · exact q4 i h1 (by omega)
      · refine hxx.mp ?_
        cases hq : zb ((oz_s s.2 5 (j + 1) v).1 5 (j + 1)) x with
        | true => rfl
        | false => rw [hq] at hw; exact absurd hw e
    · obtain ⟨q1, q2, q3, q4⟩ := hJ
      rw [q1, if_pos (nI_lt (show L < L + 1 by omega) (by omega))]
      exact ow_some ⟨q2, q4⟩
    · have ej : j = 0 := by omega
      subst ej
      rw [rd_s, if_pos ⟨rfl, rfl⟩, zb_one x (by omega) b hb, decide_eq_true_eq]
      exact Iff.rfl
  · cases y with
    | inl y => exact ow_some ⟨hy.1, Or.inl ⟨rfl, hy.2⟩⟩
    | inr y => exact ow_some ⟨hy.1, Or.inr hy.2⟩
