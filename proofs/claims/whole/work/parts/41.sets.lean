/-! Sets, gathered element by element; covers; apart. -/
theorem s_collect {n : Nat} (hn : n ≤ 14) {t : Int32 → Option Int32} {B : Int32} (hB : B = nI n) (P : Nat → Bool) (ht : ∀ y, y < n → ow (t (nI y)) (fun z => z = if P y then 1 else 0)) : ow (oz_lp (fun (s : Int32 × Int32) => (if s.2 < B then ((t s.2).bind fun (z : Int32) => if z = 0 then (some (.inl (s.1, s.2 + 1))) else (some (.inl (s.1 ||| (1 <<< (s.2 &&& 31)), s.2 + 1)))) else (some (.inr (s.1, s.2))) : Option ((Int32 × Int32) ⊕ (Int32 × Int32)))) (0, 0)) (fun y => ∀ b, b < 32 → zb y.1 b = (decide (b < n) && P b)) := by
  subst hB
  refine ow_for n (fun k s => s.2 = nI k ∧ ∀ b, b < 32 → zb s.1 b = (decide (b < k) && P b)) (fun k s hk hJ => ?_) (fun s hJ => ?_) 0 _ (by omega) ⟨rfl, fun b hb => by rw [zb_0]; simp⟩
  · obtain ⟨q1, q2⟩ := hJ
    rw [q1, if_pos (nI_lt hk (by omega))]
    refine ow_bind (ht k hk) (fun z hz => ow_ite (fun e => ow_some ⟨nI_1 k, fun b hb => ?_⟩) (fun e => ow_some ⟨nI_1 k, fun b hb => ?_⟩))
    · have hf : P k = false := by
        cases hq : P k with
        | false => rfl
        | true => rw [hq] at hz; exact absurd (hz.symm.trans e) (by decide)
      rw [q2 b hb]
      by_cases eb : b = k
      · rw [eb, hf]; simp
      · rw [show decide (b < k + 1) = decide (b < k) from by simp; omega]
    · have hf : P k = true := by
        cases hq : P k with
        | true => rfl
        | false => rw [hq] at hz; exact absurd hz e
      show zb (s.1 ||| (1 <<< (nI k &&& 31))) b = _
      rw [zb_or, zb_one k (by omega) b hb, q2 b hb]
      by_cases eb : b = k
      · rw [eb, hf]; simp
      · rw [show decide (b < k + 1) = decide (b < k) from by simp; omega]
        simp [eb]
  · obtain ⟨q1, q2⟩ := hJ
    rw [q1, if_neg (nI_nlt (Nat.le_refl _) (by omega))]
    exact ow_some q2
noncomputable def zcov (R : Nat → Nat → Bool) (a b : Nat) : Bool := @decide (zT R a b ∧ ∀ c, ¬ (zT R a c ∧ zT R c b)) (Classical.propDecidable _)
theorem zcov_iff {R : Nat → Nat → Bool} {a b : Nat} : zcov R a b = true ↔ zT R a b ∧ ∀ c, ¬ (zT R a c ∧ zT R c b) := by
  unfold zcov
  exact @decide_eq_true_iff _ (Classical.propDecidable _)
/-- covers(b, a) of the reference: b covers a -/
theorem s_covers {M : oz_M} {n : Nat} {R : Nat → Nat → Bool} (hW : zW n R) (h62 : M.1 62 1 = nI n) (h : zLt M n R) {a b : Nat} (ha : a < n) (hb : b < n) : ow (f_Model_covers (nI b) (nI a) M) (fun z => z = if zcov R a b then 1 else 0) := by
  have hn := hW.2.1
  unfold f_Model_covers
  rw [s_less h (by omega) (by omega), h62]
  simp only [Option.bind_some]
  refine ow_bind (P := fun y => (y.1 = 0 ∨ y.1 = 1) ∧ (y.1 = 1 ↔ zT R a b ∧ ∀ c, c < n → ¬ (zT R a c ∧ zT R c b))) ?_ (fun y hy => ow_mono (ow_z hy.1) (fun w hw => ?_))
  · refine ow_for n (fun k s => s.2 = nI k ∧ (s.1 = 0 ∨ s.1 = 1) ∧ (s.1 = 1 ↔ zT R a b ∧ ∀ c, c < k → ¬ (zT R a c ∧ zT R c b))) (fun k s hk hJ => ?_) (fun s hJ => ?_) 0 _ (by omega) ⟨rfl, ?_, ?_⟩
    · obtain ⟨q1, q2, q3⟩ := hJ
      rw [q1, if_pos (nI_lt hk (by omega)), s_less h (by omega) (by omega), s_less h (by omega) (by omega)]
      refine ow_ite (fun e => ow_some ⟨nI_1 k, Or.inl rfl, ?_⟩) (fun e => ?_)
      · refine ⟨fun q => absurd (show (0 : Int32) = 1 from q) (by decide), fun q => ?_⟩
        have := q3.mpr ⟨q.1, fun c hc => q.2 c (by omega)⟩
        exact absurd (e.symm.trans this) (by decide)
      · have h1 := q3.mp (q2.resolve_left e)
        have go : (¬ (zT R a k ∧ zT R k b)) → ((1 : Int32) = 1 ↔ zT R a b ∧ ∀ c, c < k + 1 → ¬ (zT R a c ∧ zT R c b)) := fun hk2 => ⟨fun _ => ⟨h1.1, fun c hc => by
          by_cases ec : c = k
          · rw [ec]; exact hk2
          · exact h1.2 c (by omega)⟩, fun _ => rfl⟩
        simp only [Option.bind_some]
        cases e1 : ztb R a k with
        | false =>
          exact ow_ite (fun _ => ow_some ⟨nI_1 k, Or.inr rfl, go (fun q => absurd (ztb_iff.mpr q.1) (by rw [e1]; decide))⟩) (fun q => absurd rfl q)
        | true =>
          refine ow_ite (fun q => absurd q (by decide)) (fun _ => ?_)
          cases e2 : ztb R k b with
          | false => exact ow_ite (fun _ => ow_some ⟨nI_1 k, Or.inr rfl, go (fun q => absurd (ztb_iff.mpr q.2) (by rw [e2]; decide))⟩) (fun q => absurd rfl q)
          | true =>
            refine ow_ite (fun q => absurd q (by decide)) (fun _ => ow_some ⟨nI_1 k, Or.inl rfl, fun q => absurd (show (0 : Int32) = 1 from q) (by decide), fun q => absurd ⟨ztb_iff.mp e1, ztb_iff.mp e2⟩ (q.2 k (by omega))⟩)
    · obtain ⟨q1, q2, q3⟩ := hJ
      rw [q1, if_neg (nI_nlt (Nat.le_refl _) (by omega))]
      exact ow_some ⟨q2, q3⟩
    · cases ztb R a b
      · exact Or.inl rfl
      · exact Or.inr rfl
    · cases e : ztb R a b with
      | false => exact ⟨fun q => absurd q (by decide), fun q => absurd (ztb_iff.mpr q.1) (by rw [e]; decide)⟩
      | true => exact ⟨fun _ => ⟨ztb_iff.mp e, fun c hc => by omega⟩, fun _ => rfl⟩
  · rw [hw]
    have key : y.1 = 1 ↔ zcov R a b = true := hy.2.trans ⟨fun q => zcov_iff.mpr ⟨q.1, fun c hc => q.2 c (zT_in hW hc.1).2 hc⟩, fun q => ⟨(zcov_iff.mp q).1, fun c _ => (zcov_iff.mp q).2 c⟩⟩
    cases e : zcov R a b with
    | true => exact key.mpr e
    | false => exact hy.1.resolve_right (fun q => absurd (key.mp q) (by rw [e]; decide))
noncomputable def zap (R : Nat → Nat → Bool) (a b : Nat) : Bool := !decide (a = b) && !ztb R a b && !ztb R b a
theorem s_apart {M : oz_M} {n : Nat} {R : Nat → Nat → Bool} (h : zLt M n R) {a b : Nat} (ha : a < 14) (hb : b < 14) : f_Model_isApart (nI a) (nI b) M = some (if zap R a b then 1 else 0) := by
  unfold f_Model_isApart zap
  rw [s_less h ha hb, s_less h hb ha]
  have z1 : oz_z 1 = some 1 := by unfold oz_z; rw [if_pos (Or.inr rfl)]
  by_cases e : a = b
  · rw [if_pos (by rw [e]), um_z0]; simp [e]
  · rw [if_neg (fun q => e ((nI_eq (by omega) (by omega)).mp q))]
    simp only [Option.bind_some, um_z0, z1]
    cases ztb R a b <;> cases ztb R b a <;> simp [e]
