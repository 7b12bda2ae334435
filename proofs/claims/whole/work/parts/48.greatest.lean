/-! greatest: the largest value over a set. -/
def zmx (f : Nat → Nat) (P : Nat → Bool) : Nat → Nat
  | 0 => 0
  | k + 1 => if P k then max (zmx f P k) (f k) else zmx f P k
theorem zmx_le {f : Nat → Nat} {P : Nat → Bool} {m : Nat} : ∀ (k : Nat), (∀ x, x < k → P x = true → f x ≤ m) → zmx f P k ≤ m
  | 0, _ => Nat.zero_le _
  | k + 1, h => by
    have ih := zmx_le k (fun x hx => h x (by omega))
    have h1 := h k (by omega)
    simp only [zmx]
    cases hp : P k with
    | false => simp; exact ih
    | true => rw [if_pos rfl]; exact Nat.max_le.mpr ⟨ih, h1 hp⟩
theorem zmx_ge {f : Nat → Nat} {P : Nat → Bool} : ∀ (k : Nat) {x : Nat}, x < k → P x = true → f x ≤ zmx f P k
  | 0, x, h, _ => by omega
  | k + 1, x, h, hp => by
    simp only [zmx]
    by_cases e : x = k
    · subst e
      rw [hp]; simp; omega
    · have ih := zmx_ge (f := f) (P := P) k (x := x) (by omega) hp
      cases P k with
      | false => simpa using ih
      | true => simp; omega
theorem s_greatest {M : oz_M} {n i : Nat} (hn : n ≤ 14) (h6 : M.1 6 0 = nI n) {S : Int32} {f : Nat → Nat} (hf : ∀ x, x < n → zb S x = true → M.1 i x = nI (f x) ∧ f x ≤ 1000) : ow (f_Order_greatest i S M) (fun v => v = nI (zmx f (zb S) n)) := by
  unfold f_Order_greatest
  rw [h6]
  refine ow_bind (P := fun y => y.1 = nI (zmx f (zb S) n)) ?_ (fun y hy => ow_some hy)
  refine ow_for n (fun k s => s.2 = nI k ∧ s.1 = nI (zmx f (zb S) k)) (fun k s hk hJ => ?_) (fun s hJ => ?_) 0 _ (by omega) ⟨rfl, rfl⟩
  · obtain ⟨q1, q2⟩ := hJ
    rw [q1, q2, if_pos (nI_lt hk (by omega))]
    refine ow_bind (s_has (n := k) (by omega) M) (fun v hv => ?_)
    refine ow_ite (fun e => ow_some ⟨nI_1 k, ?_⟩) (fun e => ?_)
    · show nI (zmx f (zb S) k) = _
      have hz : zb S k = false := by
        cases hq : zb S k with
        | false => rfl
        | true => rw [hq] at hv; exact absurd (hv.symm.trans e) (by decide)
      simp only [zmx, hz]
      rfl
    · have hz : zb S k = true := by
        cases hq : zb S k with
        | true => rfl
        | false => rw [hq] at hv; exact absurd hv e
      refine ow_bind (ow_in rfl (show k < 14 by omega) (by omega)) (fun j hj => ow_some ⟨nI_1 k, ?_⟩)
      subst hj
      obtain ⟨g1, g2⟩ := hf j hk hz
      have hm : zmx f (zb S) j ≤ 1000 := zmx_le j (fun x hx hp => (hf x (by omega) hp).2)
      show (if nI (zmx f (zb S) j) < M.1 i j then M.1 i j else nI (zmx f (zb S) j)) = _
      simp only [zmx, hz, if_true]
      rw [g1]
      by_cases hlt : zmx f (zb S) j < f j
      · rw [if_pos (nI_lt hlt (by omega)), Nat.max_eq_right (Nat.le_of_lt hlt)]
      · rw [if_neg (nI_nlt (Nat.le_of_not_lt hlt) (by omega)), Nat.max_eq_left (Nat.le_of_not_lt hlt)]
  · obtain ⟨q1, q2⟩ := hJ
    rw [q1, if_neg (nI_nlt (Nat.le_refl _) (by omega))]
    exact ow_some q2
