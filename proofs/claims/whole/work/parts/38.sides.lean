/-! The class's rows below and apart. -/
def zAb (M : oz_M) (n : Nat) (R : Nat → Nat → Bool) : Prop := M.1 6 0 = nI n ∧ ∀ x, x < n → ∀ b, b < 32 → (zb (M.1 8 x) b = true ↔ zT R x b)
theorem zb_all : ∀ n, n < 15 → ∀ b, b < 32 → zb ((1 <<< (nI n &&& 31)) - 1) b = decide (b < n) := by decide +kernel
theorem s_belowOf {M : oz_M} {n : Nat} {R : Nat → Nat → Bool} (hW : zW n R) (h : zAb M n R) {x : Nat} (hx : x < n) : ow (f_Order_belowOf (nI x) M) (fun v => ∀ b, b < 32 → (zb v b = true ↔ zT R b x)) := by
  have hn := hW.2.1
  unfold f_Order_belowOf
  refine ow_bind (P := fun y => ∀ b, b < 32 → (zb y.1 b = true ↔ b < n ∧ zT R b x)) ?_ (fun y hy => ow_some (fun b hb => (hy b hb).trans ⟨fun q => q.2, fun q => ⟨(zT_in hW q).1, q⟩⟩))
  rw [h.1]
  refine ow_for n (fun k s => s.2 = nI k ∧ ∀ b, b < 32 → (zb s.1 b = true ↔ b < k ∧ zT R b x)) (fun k s hk hJ => ?_) (fun s hJ => ?_) 0 _ (by omega) ⟨rfl, fun b hb => by rw [zb_0]; simp⟩
  · obtain ⟨q1, q2⟩ := hJ
    rw [q1, if_pos (nI_lt hk (by omega))]
    refine ow_bind (ow_in rfl (show k < 14 by omega) (by omega)) (fun j hj => ?_)
    subst hj
    refine ow_bind (s_has (n := x) (by omega) M) (fun v hv => ?_)
    have hz := h.2 j hk x (by omega)
    refine ow_ite (fun e => ow_some ⟨nI_1 j, fun b hb => ?_⟩) (fun e => ow_some ⟨nI_1 j, fun b hb => ?_⟩)
    · have hf : ¬ zT R j x := fun q => by
        rw [hz.mpr q] at hv
        exact absurd (hv.symm.trans e) (by decide)
      refine (q2 b hb).trans ⟨fun q => ⟨by omega, q.2⟩, fun q => ⟨?_, q.2⟩⟩
      by_cases eb : b = j
      · rw [eb] at q; exact absurd q.2 hf
      · omega
    · have ht : zT R j x := by
        refine hz.mp ?_
        cases hq : zb (M.1 8 j) x with
        | true => rfl
        | false => rw [hq] at hv; exact absurd hv e
      show zb (s.1 ||| (1 <<< (nI j &&& 31))) b = true ↔ _
      rw [zb_or, zb_one j (by omega) b hb, Bool.or_eq_true, decide_eq_true_eq, q2 b hb]
      constructor
      · rintro (q | q)
        · exact ⟨by omega, q.2⟩
        · rw [q]; exact ⟨by omega, ht⟩
      · intro q
        by_cases eb : b = j
        · exact Or.inr eb
        · exact Or.inl ⟨by omega, q.2⟩
  · obtain ⟨q1, q2⟩ := hJ
    rw [q1, if_neg (nI_nlt (Nat.le_refl _) (by omega))]
    exact ow_some q2
/-- the class's order: above, below, apart -/
def zO (M : oz_M) (n : Nat) (R : Nat → Nat → Bool) : Prop := zAb M n R ∧ ∀ x, x < n → ∀ b, b < 32 → (zb (M.1 7 x) b = true ↔ zT R b x) ∧ (zb (M.1 9 x) b = true ↔ b < n ∧ b ≠ x ∧ ¬ zT R x b ∧ ¬ zT R b x)
theorem s_sides {M : oz_M} {n : Nat} {R : Nat → Nat → Bool} (hW : zW n R) (h : zAb M n R) : ow (oz_lp (fun (s4 : Int32 × oz_M) => (if s4.1 < (s4.2.1 6 0) then ((f_Order_belowOf s4.1 s4.2).bind fun v5 => (oz_in s4.1 14).bind fun j6 => (some (oz_s s4.2 7 j6 v5)).bind fun M7 => (f_Order_everything M7).bind fun v8 => (oz_in s4.1 14).bind fun j9 => (oz_in s4.1 14).bind fun j10 => (oz_in s4.1 14).bind fun j11 => (some (oz_s M7 9 j11 (v8 &&& ((((M7.1 8 j9) ||| (M7.1 7 j10)) ||| (1 <<< (s4.1 &&& 31))) ^^^ (-1))))).bind fun M12 => some (.inl (s4.1 + 1, M12))) else (some (.inr (s4.1, s4.2))) : Option ((Int32 × oz_M) ⊕ (Int32 × oz_M)))) (0, M)) (fun y => fr [7, 9] M y.2 ∧ zO y.2 n R) := by
  have hn := hW.2.1
  have hab : ∀ {N : oz_M}, fr [7, 9] M N → zAb N n R := fun k => ⟨by rw [k.at (by decide)]; exact h.1, fun x hx b hb => by rw [k.at (by decide)]; exact h.2 x hx b hb⟩
  refine ow_for n (fun k s => s.1 = nI k ∧ fr [7, 9] M s.2 ∧ ∀ x, x < k → ∀ b, b < 32 → (zb (s.2.1 7 x) b = true ↔ zT R b x) ∧ (zb (s.2.1 9 x) b = true ↔ b < n ∧ b ≠ x ∧ ¬ zT R x b ∧ ¬ zT R b x)) (fun k s hk hJ => ?_) (fun s hJ => ?_) 0 _ (by omega) ⟨rfl, fr.refl, fun x hx => by omega⟩
  · obtain ⟨q1, q2, q3⟩ := hJ
    have hs := hab q2
    rw [q1, hs.1, if_pos (nI_lt hk (by omega))]
    refine ow_bind (s_belowOf hW hs hk) (fun v hv => ow_bind (ow_in rfl (show k < 14 by omega) (by omega)) (fun j hj => ?_))
    subst hj
    have hj14 : j < 14 := by omega
    refine ow_let ?_
    unfold f_Order_everything
    refine ow_let (ow_bind (ow_in rfl hj14 (by omega)) (fun j1 hj1 => ow_bind (ow_in rfl hj14 (by omega)) (fun j2 hj2 => ow_bind (ow_in rfl hj14 (by omega)) (fun j3 hj3 => ow_let (ow_some ⟨nI_1 j, (q2.s (by decide)).s (by decide), fun x hx b hb => ?_⟩)))))
    subst hj1
    subst hj2
    subst hj3
    have e6 : (oz_s s.2 7 j3 v).1 6 0 = nI n := by rw [rd_s, if_neg (by simp)]; exact hs.1
    have e8 : (oz_s s.2 7 j3 v).1 8 j3 = s.2.1 8 j3 := by rw [rd_s, if_neg (by simp)]
    have e7 : (oz_s s.2 7 j3 v).1 7 j3 = v := by rw [rd_s, if_pos ⟨rfl, rfl⟩]
    show (zb ((oz_s (oz_s s.2 7 j3 v) 9 j3 _).1 7 x) b = true ↔ _) ∧ (zb ((oz_s (oz_s s.2 7 j3 v) 9 j3 _).1 9 x) b = true ↔ _)
    rw [e6, e8, e7]
    by_cases ex : x = j3
    · subst ex
      constructor
      · rw [rd_s, if_neg (by simp), e7]
        exact hv b hb
      · rw [rd_s, if_pos ⟨rfl, rfl⟩, zb_and, zb_xor, zb_or, zb_or, zb_one x (by omega) b hb, zb_m1 b hb, zb_all n (by omega) b hb]
        have a1 := hs.2 x hk b hb
        have a2 := hv b hb
        simp only [Bool.and_eq_true, decide_eq_true_eq, Bool.xor_true, Bool.not_eq_true', Bool.or_eq_false_iff, decide_eq_false_iff_not]
        rw [← Bool.not_eq_true, ← Bool.not_eq_true, a1, a2]
        exact ⟨fun q => ⟨q.1, q.2.2, q.2.1.1, q.2.1.2⟩, fun q => ⟨q.1, ⟨q.2.2.1, q.2.2.2⟩, q.2.1⟩⟩
    · have := q3 x (by omega) b hb
      rw [rd_s, if_neg (by simp), rd_s, if_neg (by simp [ex]), rd_s, if_neg (by simp [ex]), rd_s, if_neg (by simp)]
      exact this
  · obtain ⟨q1, q2, q3⟩ := hJ
    rw [q1, (hab q2).1, if_neg (nI_nlt (Nat.le_refl _) (by omega))]
    exact ow_some ⟨q2, hab q2, q3⟩
