/-! The reference's ring: trying on. -/
def fit (R : Nat → Nat → Bool) (p : Nat) (r : Nat → Nat) (x : Nat) : Prop := r 0 < x ∧ R (r (p - 1)) x = true ∧ ∀ k, k < p → r k ≠ x
theorem s_firstAt {M : oz_M} {n p t : Nat} {R : Nat → Nat → Bool} {r : Nat → Nat} (hn : n ≤ 14) (hR : zR M n R) (hp1 : 1 ≤ p) (hp : p < 14) (hr : ∀ j, j < p → M.1 65 j = nI (r j) ∧ r j < n) (ht : M.1 70 p = nI t) (htn : t ≤ n) : ∃ x, f_Model_firstAt (nI p) M = some (nI x) ∧ t ≤ x ∧ x ≤ n ∧ (∀ y, t ≤ y → y < x → ¬ fit R p r y) ∧ (x < n → fit R p r x) := by
  have key : ow (f_Model_firstAt (nI p) M) (fun v => ∃ x, v = nI x ∧ t ≤ x ∧ x ≤ n ∧ (∀ y, t ≤ y → y < x → ¬ fit R p r y) ∧ (x < n → fit R p r x)) := by
    unfold f_Model_firstAt
    rw [show oz_in (nI p) 15 = some p from oz_in_nI (by omega) (by decide)]
    refine ow_let ?_
    rw [ht]
    refine ow_bind (P := fun y => ∃ x, y.1 = nI x ∧ t ≤ x ∧ x ≤ n ∧ (∀ y, t ≤ y → y < x → ¬ fit R p r y) ∧ (x < n → fit R p r x)) ?_ (fun y hy => ow_some hy)
    rw [hR.1]
    refine ow_for n (fun k s => (s.1 = nI k ∧ s.2 = 0 ∧ t ≤ k ∧ ∀ y, t ≤ y → y < k → ¬ fit R p r y) ∨ (s.2 = 1 ∧ ∃ x, s.1 = nI x ∧ x < n ∧ t ≤ x ∧ (∀ y, t ≤ y → y < x → ¬ fit R p r y) ∧ fit R p r x)) (fun k s hk hJ => ?_) (fun s hJ => ?_) t _ htn (Or.inl ⟨rfl, rfl, Nat.le_refl _, fun y h1 h2 => (by omega)⟩)
    · rcases hJ with ⟨q1, q2, q3, q4⟩ | ⟨q1, x, q2, q3, q4, q5, q6⟩
      · rw [q1, q2, if_pos (nI_lt hk (by omega)), if_pos rfl, show oz_in 0 14 = some 0 from oz_in_nI (j := 0) (by decide) (by decide)]
        simp only [Option.bind_some]
        have ep : nI p - 1 = nI (p - 1) := by
          have := nI_pred (p - 1)
          rwa [show p - 1 + 1 = p by omega] at this
        have h0 := hr 0 (by omega)
        have hl := hr (p - 1) (by omega)
        rw [h0.1, ep, show oz_in (nI (p - 1)) 14 = some (p - 1) from oz_in_nI (by omega) (by decide)]
        simp only [Option.bind_some]
        rw [hl.1, s_isArc hR (by omega) (by omega)]
        refine ow_bind (P := fun z => z = bi (decide (r 0 < k) && R (r (p - 1)) k)) ?_ (fun z hz => ?_)
        · by_cases h : r 0 < k
          · rw [if_pos (nI_lt h (by omega)), decide_eq_true h]
            refine ow_let ?_
            cases R (r (p - 1)) k <;> exact ow_some rfl
          · rw [if_neg (nI_nlt (by omega) (by omega)), decide_eq_false h]
            exact ow_some rfl
        · rw [hz]
          let P : Nat → Bool := fun j => !decide (r j = k)
          have efit : ((decide (r 0 < k) && R (r (p - 1)) k) && al P p) = tb (fit R p r k) := tb_eq (by
            rw [Bool.and_eq_true, Bool.and_eq_true, decide_eq_true_eq, al_iff]
            unfold fit
            constructor
            · rintro ⟨⟨a, b⟩, c⟩
              exact ⟨a, b, fun j hj => by have := c j hj; simpa [P] using this⟩
            · rintro ⟨a, b, c⟩
              exact ⟨⟨a, b⟩, fun j hj => by have := c j hj; simpa [P] using this⟩)
          refine ow_bind (P := fun y => y.1 = bi (tb (fit R p r k))) ?_ (fun y hy => ?_)
          · refine ow_for p (fun l u => u.2 = nI l ∧ u.1 = bi ((decide (r 0 < k) && R (r (p - 1)) k) && al P l)) (fun l u hl hJ => ?_) (fun u hJ => ?_) 0 _ (Nat.zero_le _) ⟨rfl, by simp [al]⟩
            · obtain ⟨g1, g2⟩ := hJ
              have e1 : ((decide (r 0 < k) && R (r (p - 1)) k) && al P (l + 1)) = (((decide (r 0 < k) && R (r (p - 1)) k) && al P l) && !decide (r l = k)) := by
                show ((decide (r 0 < k) && R (r (p - 1)) k) && (al P l && !decide (r l = k))) = _
                rw [Bool.and_assoc (decide (r 0 < k) && R (r (p - 1)) k)]
              have hrl := hr l hl
              rw [g1, g2, if_pos (nI_lt hl (by omega)), show oz_in (nI l) 14 = some l from oz_in_nI (by omega) (by decide), e1]
              simp only [Option.bind_some]
              rw [hrl.1]
              cases ((decide (r 0 < k) && R (r (p - 1)) k) && al P l) with
              | false => exact ow_ite (fun _ => ow_some ⟨nI_1 l, rfl⟩) (fun h => absurd rfl h)
              | true =>
                refine ow_ite (fun h => absurd h (by decide)) (fun _ => ?_)
                refine ow_ite (fun e => ow_some ⟨nI_1 l, ?_⟩) (fun e => ow_some ⟨nI_1 l, ?_⟩)
                · rw [decide_eq_true ((nI_eq (by omega) (by omega)).mp e)]; rfl
                · rw [decide_eq_false (fun q => e (by rw [q]))]; rfl
            · obtain ⟨g1, g2⟩ := hJ
              rw [g1, if_neg (nI_nlt (Nat.le_refl _) (by omega))]
              exact ow_some (by rw [← efit]; exact g2)
          · rw [hy]
            cases hf : tb (fit R p r k) with
            | false =>
              rw [bi_f, if_pos rfl]
              refine ow_some (Or.inl ⟨nI_1 k, rfl, by omega, fun y h1 h2 => ?_⟩)
              by_cases e : y = k
              · rw [e]; exact tb_no.mp hf
              · exact q4 y h1 (by omega)
            | true =>
              rw [if_neg bi_ne]
              exact ow_some (Or.inr ⟨rfl, k, rfl, hk, q3, q4, tb_iff.mp hf⟩)
      · rw [q1, q2, if_pos (nI_lt q3 (by omega)), if_neg (by decide)]
        exact ow_some ⟨x, rfl, q4, by omega, q5, fun _ => q6⟩
    · rcases hJ with ⟨q1, q2, q3, q4⟩ | ⟨q1, x, q2, q3, q4, q5, q6⟩
      · rw [q1, if_neg (nI_nlt (Nat.le_refl _) (by omega))]
        exact ow_some ⟨n, rfl, q3, Nat.le_refl _, q4, fun h => (by omega)⟩
      · rw [q1, q2, if_pos (nI_lt q3 (by omega)), if_neg (by decide)]
        exact ow_some ⟨x, rfl, q4, by omega, q5, fun _ => q6⟩
  obtain ⟨v, e, x, hv, h⟩ := key
  exact ⟨x, by rw [e, hv], h⟩
/-! how far the trying is -/
def vv (p : Nat) (r : Nat → Nat) (t : Nat) : Nat := sm (fun j => r j * 16 ^ (15 - j)) p + t * 16 ^ (15 - p)
theorem vv_cong {p : Nat} {r r' : Nat → Nat} {t : Nat} (h : ∀ j, j < p → r j = r' j) : vv p r t = vv p r' t := by
  unfold vv
  rw [sm_eq p (fun j hj => by rw [h j hj])]
theorem vv_big {p : Nat} {r : Nat → Nat} {t : Nat} (hp : p ≤ 14) (hr : ∀ j, j < p → r j ≤ 14) (ht : t ≤ 15) : vv p r t < 16 ^ 18 := by
  have h1 : sm (fun j => r j * 16 ^ (15 - j)) p ≤ sm (fun _ => 15 * 16 ^ 15) p := sm_le p (fun j hj => Nat.mul_le_mul (by have := hr j hj; omega) (Nat.pow_le_pow_right (by omega) (by omega)))
  rw [sm_const] at h1
  have h2 : t * 16 ^ (15 - p) ≤ 15 * 16 ^ 15 := Nat.mul_le_mul ht (Nat.pow_le_pow_right (by omega) (by omega))
  have h3 : p * (15 * 16 ^ 15) ≤ 14 * (15 * 16 ^ 15) := Nat.mul_le_mul_right _ hp
  have h4 : 14 * (15 * 16 ^ 15) + 15 * 16 ^ 15 < 16 ^ 18 := by decide
  unfold vv
  omega
theorem vv_up {p : Nat} {r : Nat → Nat} {t t' : Nat} (h : t < t') : vv p r t + 1 ≤ vv p r t' := by
  unfold vv
  have h1 : t * 16 ^ (15 - p) + 16 ^ (15 - p) ≤ t' * 16 ^ (15 - p) := by
    rw [← Nat.succ_mul]
    exact Nat.mul_le_mul_right _ h
  have h2 : 0 < 16 ^ (15 - p) := Nat.pow_pos (by omega)
  omega
theorem vv_on {p : Nat} {r : Nat → Nat} {t : Nat} (h : t ≤ r p) : vv p r t ≤ vv (p + 1) r 0 := by
  unfold vv
  simp only [sm]
  have := Nat.mul_le_mul_right (16 ^ (15 - p)) h
  omega
theorem vv_back {p : Nat} {r : Nat → Nat} {t : Nat} (hp : p < 14) (h : t ≤ 14) : vv (p + 1) r t + 2 ≤ vv p r (r p + 1) := by
  unfold vv
  simp only [sm]
  have h1 : 16 ^ (15 - p) = 16 * 16 ^ (15 - (p + 1)) := by
    rw [show 15 - p = (15 - (p + 1)) + 1 by omega, Nat.pow_succ, Nat.mul_comm]
  have h2 : 0 < 16 ^ (15 - (p + 1)) := Nat.pow_pos (by omega)
  have h3 := Nat.mul_le_mul_right (16 ^ (15 - (p + 1))) h
  have h4 : (r p + 1) * 16 ^ (15 - p) = r p * 16 ^ (15 - p) + 16 ^ (15 - p) := Nat.succ_mul _ _
  omega
def mm (s : Int32 × oz_M) : Nat := if s.1 = 0 then 0 else 16 ^ 20 - (16 * vv s.1.toNatClampNeg (fun j => (s.2.1 65 j).toNatClampNeg) (s.2.1 70 s.1.toNatClampNeg).toNatClampNeg + s.1.toNatClampNeg)
theorem mm_at {p t : Nat} {r : Nat → Nat} {N : oz_M} (hp1 : 1 ≤ p) (hp : p ≤ 14) (hr : ∀ j, j < p → N.1 65 j = nI (r j) ∧ r j ≤ 14) (ht : N.1 70 p = nI t) (ht2 : t ≤ 15) : mm (nI p, N) = 16 ^ 20 - (16 * vv p r t + p) := by
  unfold mm
  rw [if_neg (nI_ne0 (by omega) (by omega))]
  simp only [nI_clamp (show p < 2 ^ 31 by omega)]
  rw [ht, nI_clamp (by omega)]
  rw [vv_cong (r' := r) (fun j hj => by rw [(hr j hj).1, nI_clamp (by have := (hr j hj).2; omega)])]
theorem mm_lt {a b p q : Nat} (ha : a < 16 ^ 18) (hb : b < 16 ^ 18) (hp : p ≤ 14) (hq : q ≤ 14) (h : 16 * a + p < 16 * b + q) : 16 ^ 20 - (16 * b + q) < 16 ^ 20 - (16 * a + p) := by
  have : 16 * 16 ^ 18 + 14 < 16 ^ 20 := by decide
  omega
