/-! The class's closure. -/
def zX (M : oz_M) (n : Nat) (A : Nat → Nat → Bool) : Prop := ∀ x, x < n → ∀ b, b < 32 → zb (M.1 8 x) b = A x b
def zwa (A : Nat → Nat → Bool) (v : Nat) : Nat → Nat → Bool := fun x y => A x y || (A x v && A v y)
def zV2 (n : Nat) (R A : Nat → Nat → Bool) (v : Nat) : Prop := (∀ x y, R x y = true → A x y = true) ∧ (∀ x y, A x y = true → zT R x y) ∧ ∀ w, w < v → ∀ x y, A x w = true → A w y = true → A x y = true
theorem zwa_row (A : Nat → Nat → Bool) (v b : Nat) : zwa A v v b = A v b := by
  unfold zwa
  cases A v b <;> simp
theorem zwa_next {n : Nat} {R A : Nat → Nat → Bool} {v : Nat} (h : zV2 n R A v) : zV2 n R (zwa A v) (v + 1) := by
  obtain ⟨h1, h2, h3⟩ := h
  have up : ∀ {x y}, zwa A v x y = true ↔ A x y = true ∨ (A x v = true ∧ A v y = true) := by
    intro x y
    unfold zwa
    simp
  refine ⟨fun x y q => up.mpr (Or.inl (h1 x y q)), fun x y q => ?_, fun w hw x y p q => ?_⟩
  · rcases up.mp q with q | ⟨p, q⟩
    · exact h2 x y q
    · exact zT.trans (h2 x v p) (h2 v y q)
  · rw [up] at p q ⊢
    by_cases e : w = v
    · subst e
      have p2 : A x w = true := p.elim id (fun p => p.1)
      have q2 : A w y = true := q.elim id (fun q => q.2)
      exact Or.inr ⟨p2, q2⟩
    · have hw2 : w < v := by omega
      rcases p with p | ⟨p1, p2⟩
      · rcases q with q | ⟨q1, q2⟩
        · exact Or.inl (h3 w hw2 x y p q)
        · exact Or.inr ⟨h3 w hw2 x v p q1, q2⟩
      · rcases q with q | ⟨q1, q2⟩
        · exact Or.inr ⟨p1, h3 w hw2 v y p2 q⟩
        · exact Or.inr ⟨p1, q2⟩
theorem zV2_end {n : Nat} {R A : Nat → Nat → Bool} (hW : zW n R) (h : zV2 n R A n) : ∀ x y, A x y = true ↔ zT R x y := by
  obtain ⟨h1, h2, h3⟩ := h
  refine fun x y => ⟨h2 x y, fun q => ?_⟩
  exact q (fun x y => A x y = true) h1 (fun a b c p q => h3 b (zT_in hW (h2 a b p)).2 a c p q)
theorem s_closeAbove {M : oz_M} {n : Nat} {R : Nat → Nat → Bool} (hW : zW n R) (hA : zA M n R) (h6 : M.1 6 0 = nI n) : ow (f_Order_closeAbove M) (fun r => fr [8] M r.2 ∧ ∀ x, x < n → ∀ b, b < 32 → (zb (r.2.1 8 x) b = true ↔ zT R x b)) := by
  have hn := hW.2.1
  unfold f_Order_closeAbove
  refine ow_bind (P := fun y => fr [8] M y.2 ∧ zX y.2 n R) ?_ (fun y6 h => ow_bind (P := fun y => fr [8] M y.2 ∧ ∃ A, zX y.2 n A ∧ zV2 n R A n) ?_ (fun y h => ow_some ⟨h.1, fun x hx b hb => ?_⟩))
  · refine ow_for n (fun k s => s.1 = nI k ∧ fr [8] M s.2 ∧ ∀ x, x < k → s.2.1 8 x = M.1 2 x) (fun k s hk hJ => ?_) (fun s hJ => ?_) 0 _ (by omega) ⟨rfl, fr.refl, fun x hx => by omega⟩
    · obtain ⟨q1, q2, q3⟩ := hJ
      rw [q1, q2.at (by decide), h6, if_pos (nI_lt hk (by omega))]
      refine ow_bind (ow_in rfl (show k < 14 by omega) (by omega)) (fun j hj => ow_bind (ow_in rfl (show k < 14 by omega) (by omega)) (fun j2 hj2 => ow_let (ow_some ⟨nI_1 k, q2.s (by decide), fun x hx => ?_⟩)))
      subst hj
      subst hj2
      simp only [rd_s]
      by_cases e : x = j2
      · rw [if_pos ⟨trivial, e⟩, q2.at (by decide), e]
      · rw [if_neg (by simp [e])]
        exact q3 x (by omega)
    · obtain ⟨q1, q2, q3⟩ := hJ
      rw [q1, q2.at (by decide), h6, if_neg (nI_nlt (Nat.le_refl _) (by omega))]
      exact ow_some ⟨q2, fun x hx b hb => by rw [q3 x hx]; exact hA.2 x (by omega) b hb⟩
  · refine ow_for n (fun v s => s.1 = nI v ∧ fr [8] M s.2 ∧ ∃ A, zX s.2 n A ∧ zV2 n R A v) (fun v s hv hJ => ?_) (fun s hJ => ?_) 0 _ (by omega) ⟨rfl, h.1, R, h.2, fun _ _ q => q, fun _ _ q => zT.one q, fun w hw => by omega⟩
    · obtain ⟨q1, q2, A, q3, q4⟩ := hJ
      rw [q1, q2.at (by decide), h6, if_pos (nI_lt hv (by omega))]
      refine ow_bind (P := fun y => fr [8] M y.2 ∧ zX y.2 n (zwa A v)) ?_ (fun y h => ow_some ⟨nI_1 v, h.1, zwa A v, h.2, zwa_next q4⟩)
      refine ow_for n (fun k t => t.1 = nI k ∧ fr [8] M t.2 ∧ ∀ x, x < n → ∀ b, b < 32 → zb (t.2.1 8 x) b = if x < k then zwa A v x b else A x b) (fun k t hk hJ => ?_) (fun t hJ => ?_) 0 _ (by omega) ⟨rfl, q2, fun x hx b hb => by rw [if_neg (by omega)]; exact q3 x hx b hb⟩
      · obtain ⟨t1, t2, t3⟩ := hJ
        have hrow : ∀ b, b < 32 → zb (t.2.1 8 v) b = A v b := fun b hb => by
          rw [t3 v hv b hb, zwa_row]
          split <;> rfl
        have hk0 : ∀ b, b < 32 → zb (t.2.1 8 k) b = A k b := fun b hb => by
          rw [t3 k hk b hb, if_neg (by omega)]
        rw [t1, t2.at (by decide), h6, if_pos (nI_lt hk (by omega))]
        refine ow_bind (ow_in rfl (show k < 14 by omega) (by omega)) (fun j hj => ?_)
        subst hj
        have hj14 : j < 14 := by omega
        refine ow_bind (s_has (n := v) (by omega) t.2) (fun w hw => ?_)
        rw [hk0 v (by omega)] at hw
        refine ow_ite (fun e => ow_some ⟨nI_1 j, t2, fun x hx b hb => ?_⟩) (fun e => ?_)
        · have hf : A j v = false := by
            cases hq : A j v with
            | false => rfl
            | true => rw [hq] at hw; exact absurd (hw.symm.trans e) (by decide)
          rw [t3 x hx b hb]
          by_cases ex : x = j
          · rw [if_neg (by omega), if_pos (by omega), ex]
            unfold zwa
            rw [hf]; simp
          · by_cases e2 : x < j
            · rw [if_pos e2, if_pos (by omega)]
            · rw [if_neg e2, if_neg (by omega)]
        · have ht : A j v = true := by
            cases hq : A j v with
            | true => rfl
            | false => rw [hq] at hw; exact absurd hw e
          refine ow_bind (ow_in rfl hj14 (by omega)) (fun j1 hj1 => ow_bind (ow_in rfl (show v < 14 by omega) (by omega)) (fun j2 hj2 => ow_bind (ow_in rfl hj14 (by omega)) (fun j3 hj3 => ow_let (ow_some ⟨nI_1 j, t2.s (by decide), fun x hx b hb => ?_⟩))))
          subst hj1
          subst hj2
          subst hj3
          simp only [rd_s]
          by_cases ex : x = j3
          · rw [if_pos ⟨trivial, ex⟩, zb_or, hk0 b hb, hrow b hb, if_pos (by omega), ex]
            unfold zwa
            rw [ht]; simp
          · rw [if_neg (by simp [ex]), t3 x hx b hb]
            by_cases e2 : x < j3
            · rw [if_pos e2, if_pos (by omega)]
            · rw [if_neg e2, if_neg (by omega)]
      · obtain ⟨t1, t2, t3⟩ := hJ
        rw [t1, t2.at (by decide), h6, if_neg (nI_nlt (Nat.le_refl _) (by omega))]
        exact ow_some ⟨t2, fun x hx b hb => by rw [t3 x hx b hb, if_pos hx]⟩
    · obtain ⟨q1, q2, q3⟩ := hJ
      rw [q1, q2.at (by decide), h6, if_neg (nI_nlt (Nat.le_refl _) (by omega))]
      exact ow_some ⟨q2, q3⟩
  · obtain ⟨A, h1, h2⟩ := h.2
    rw [h1 x hx b hb]
    exact zV2_end hW h2 x b
