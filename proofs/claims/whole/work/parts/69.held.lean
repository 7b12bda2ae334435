/-! measure. -/
theorem ins_add {r x : Nat} (h : r < 2 ^ x) : ins r x = 2 ^ x + r := by
  unfold ins
  have e := Nat.two_pow_add_eq_or_of_lt h 1
  rw [Nat.mul_one] at e
  rw [e, Nat.or_comm]
theorem ins_of {S x : Nat} (h1 : S < 2 ^ (x + 1)) (h2 : ¬ S < 2 ^ x) : ∃ r, r < 2 ^ x ∧ S = ins r x := by
  have e : 2 ^ (x + 1) = 2 ^ x + 2 ^ x := by rw [Nat.pow_succ]; omega
  refine ⟨S - 2 ^ x, by omega, ?_⟩
  rw [ins_add (by omega)]; omega
def zTb (M : oz_M) (G : Nat → Nat → Bool) (N : Nat) : Prop := ∀ S, S < N → M.1 52 S = nI (om G S)
theorem s_extend {M : oz_M} {G : Nat → Nat → Bool} (hsym : ∀ a b, G a b = true → G b a = true) {x F : Nat} (hx : x < 14) (hF : ∀ i, i < x → F.testBit i = G x i) (h : zTb M G (2 ^ x)) : ow (f_Held_extendLargest (nI x) (nI F) M) (fun r => fr [52] M r.2 ∧ zTb r.2 G (2 ^ (x + 1))) := by
  have hp : 2 ^ x ≤ 16384 := p2_14 (by omega)
  have hp2 : 2 ^ (x + 1) ≤ 16384 := p2_14 (by omega)
  have e2 : 2 ^ (x + 1) = 2 ^ x + 2 ^ x := by rw [Nat.pow_succ]; omega
  unfold f_Held_extendLargest
  refine ow_bind (P := fun y => fr [52] M y.2 ∧ zTb y.2 G (2 ^ x) ∧ ∀ r, r < 2 ^ x → y.2.1 52 (ins r x) = nI (om G (ins r x))) ?_ (fun y hy => ow_some ⟨hy.1, fun S hS => ?_⟩)
  · rw [nI_shl (by omega)]
    refine ow_for (2 ^ x) (fun k s => s.1 = nI k ∧ fr [52] M s.2 ∧ zTb s.2 G (2 ^ x) ∧ ∀ r, r < k → s.2.1 52 (ins r x) = nI (om G (ins r x))) (fun k s hk hJ => ?_) (fun s hJ => ?_) 0 _ (Nat.zero_le _) ⟨rfl, fr.refl, h, fun r hr => by omega⟩
    · obtain ⟨q1, q2, q3, q4⟩ := hJ
      have hand : k &&& F ≤ k := Nat.and_le_left
      have hins := ins_add hk
      rw [q1, if_pos (nI_lt hk (by omega)), nI_and, nI_or]
      rw [show k ||| 2 ^ x = ins k x from rfl]
      rw [show oz_in (nI k) 16384 = some k from oz_in_nI (by omega) (by decide), show oz_in (nI (k &&& F)) 16384 = some (k &&& F) from oz_in_nI (by omega) (by decide), show oz_in (nI (ins k x)) 16384 = some (ins k x) from oz_in_nI (by omega) (by decide)]
      simp only [Option.bind_some]
      have hk14 : k < 2 ^ 14 := by omega
      have o1 : om G k ≤ 14 := om_14 (n := 14) (by omega) hk14
      have o2 : om G (k &&& F) ≤ 14 := om_14 (n := 14) (by omega) (by omega)
      rw [q3 k hk, q3 (k &&& F) (by omega), show (1 : Int32) + nI (om G (k &&& F)) = nI (1 + om G (k &&& F)) from nI_add 1 _, nI_max (by omega) (by omega), nar_nI _ (by omega), ← om_ins hsym hx hk hF]
      refine ow_some ⟨nI_1 k, q2.s (by decide), fun S hS => ?_, fun r hr => ?_⟩
      · show (oz_s s.2 52 (ins k x) _).1 52 S = _
        rw [rd_s, if_neg (by omega)]
        exact q3 S hS
      · show (oz_s s.2 52 (ins k x) _).1 52 (ins r x) = _
        rw [rd_s]
        by_cases e : r = k
        · subst e; simp
        · have : ins r x ≠ ins k x := by
            rw [ins_add (show r < 2 ^ x by omega), hins]; omega
          rw [if_neg (by simp [this])]
          exact q4 r (by omega)
    · obtain ⟨q1, q2, q3, q4⟩ := hJ
      rw [q1, if_neg (nI_nlt (Nat.le_refl _) (by omega))]
      exact ow_some ⟨q2, q3, q4⟩
  · by_cases e : S < 2 ^ x
    · exact hy.2.1 S e
    · obtain ⟨r, h1, rfl⟩ := ins_of hS e
      exact hy.2.2 r h1
theorem s_note {M : oz_M} {G : Nat → Nat → Bool} {n a0 a1 : Nat} (hn : n ≤ 14) (h01 : a0 ≠ a1) (h0 : a0 ≠ 52 ∧ a0 ≠ 6) (h1 : a1 ≠ 52 ∧ a1 ≠ 6) (h6 : M.1 6 0 = nI n) (h : zTb M G (2 ^ n)) : ow (f_Held_noteFirsts a0 a1 M) (fun r => fr [a0, a1] M r.2 ∧ ∀ k, k ≤ 14 → r.2.1 a0 k = nI (sz (fo (fun s => decide (om G s = k)) (2 ^ n))) ∧ r.2.1 a1 k = nI (fo (fun s => decide (om G s = k)) (2 ^ n))) := by
  have hp := p2_14 hn
  have hpp := p2_pos n
  unfold f_Held_noteFirsts
  refine ow_bind (P := fun y => fr [a0, a1] M y.2 ∧ ∀ k, k < 15 → y.2.1 a0 k = 0 ∧ y.2.1 a1 k = 0) ?_ (fun y hy => ?_)
  · refine ow_for 15 (fun k s => s.1 = nI k ∧ fr [a0, a1] M s.2 ∧ ∀ j, j < k → s.2.1 a0 j = 0 ∧ s.2.1 a1 j = 0) (fun k s hk hJ => ?_) (fun s hJ => ?_) 0 _ (Nat.zero_le _) ⟨rfl, fr.refl, fun j hj => by omega⟩
    · obtain ⟨q1, q2, q3⟩ := hJ
      rw [q1, if_neg (show ¬ (14 : Int32) < nI k from nI_nlt (a := 14) (by omega) (by omega)), show oz_in (nI k) 15 = some k from oz_in_nI hk (by decide)]
      simp only [Option.bind_some]
      refine ow_some ⟨nI_1 k, (q2.s (by simp)).s (by simp), fun j hj => ?_⟩
      simp only [rd_s]
      by_cases e : j = k
      · subst e; simp
      · simp [e]; exact q3 j (by omega)
    · obtain ⟨q1, q2, q3⟩ := hJ
      rw [q1, if_pos (show (14 : Int32) < nI 15 by decide)]
      exact ow_some ⟨q2, q3⟩
  · obtain ⟨y1, y2⟩ := hy
    refine ow_bind (P := fun z => fr [a0, a1] M z.2 ∧ ∀ k, k ≤ 14 → z.2.1 a0 k = nI (sz (fo (fun s => decide (om G s = k)) (2 ^ n))) ∧ z.2.1 a1 k = nI (fo (fun s => decide (om G s = k)) (2 ^ n))) ?_ (fun z hz => ow_some hz)
    have hall : ∀ N : oz_M, fr [a0, a1] M N → f_Order_everything N = some (nI (2 ^ n - 1)) := fun N f => by
      unfold f_Order_everything
      rw [f.at (by simp; omega), h6, nI_all (by omega)]
    refine ow_for (2 ^ n) (fun s t => 1 ≤ s ∧ t.1 = nI s ∧ fr [a0, a1] M t.2 ∧ ∀ k, k ≤ 14 → t.2.1 a0 k = nI (sz (fo (fun s => decide (om G s = k)) s)) ∧ t.2.1 a1 k = nI (fo (fun s => decide (om G s = k)) s)) (fun s t hs hJ => ?_) (fun t hJ => ?_) 1 _ (by omega) ⟨by omega, rfl, y1, fun k hk => ?_⟩
    · obtain ⟨q0, q1, q2, q3⟩ := hJ
      have o1 : om G s ≤ 14 := om_14 hn hs
      have e52 : t.2.1 52 s = nI (om G s) := by rw [q2.at (by simp; omega)]; exact h s hs
      rw [hall t.2 q2, q1]
      simp only [Option.bind_some]
      rw [if_neg (nI_nlt (by omega) (by omega)), show oz_in (nI s) 16384 = some s from oz_in_nI (by omega) (by decide), s_bitCount, nI_bc (lt14 hn hs)]
      simp only [Option.bind_some]
      rw [e52, show oz_in (nI (om G s)) 15 = some (om G s) from oz_in_nI (by omega) (by decide)]
      simp only [Option.bind_some]
      have hz := q3 (om G s) o1
      have hsz := sz_le hs hn
      have hfz : sz (fo (fun s_1 => decide (om G s_1 = om G s)) s) ≤ 14 := by
        rcases (fo_is (fun s_1 => decide (om G s_1 = om G s)) s).1 with e | ⟨_, e⟩
        · rw [e, sz_0]; omega
        · have := sz_le (n := n) (Nat.lt_trans e hs) hn; omega
      rw [hz.1]
      refine ow_ite (fun hc => ?_) (fun hc => ?_)
      · have hc' := (nI_ltI (by omega) (by omega)).mp hc
        refine ow_some ⟨by omega, nI_1 s, (q2.s (by simp)).s (by simp), fun k hk => ?_⟩
        simp only [rd_s]
        by_cases e : k = om G s
        · subst e
          have : fo (fun s_1 => decide (om G s_1 = om G s)) (s + 1) = s := by
            simp only [fo]
            rw [if_pos ⟨by simp, hc'⟩]
          rw [this]
          simp [h01]
        · have : fo (fun s_1 => decide (om G s_1 = k)) (s + 1) = fo (fun s_1 => decide (om G s_1 = k)) s := by
            simp only [fo]
            rw [if_neg (fun q => e (of_decide_eq_true q.1).symm)]
          rw [this]
          simp [e]
          exact q3 k hk
      · have hc' : ¬ sz (fo (fun s_1 => decide (om G s_1 = om G s)) s) < sz s := fun q => hc (nI_lt q (by omega))
        refine ow_some ⟨by omega, nI_1 s, q2, fun k hk => ?_⟩
        have : fo (fun s_1 => decide (om G s_1 = k)) (s + 1) = fo (fun s_1 => decide (om G s_1 = k)) s := by
          simp only [fo]
          rw [if_neg (fun q => ?_)]
          have e : om G s = k := by simpa using q.1
          rw [← e] at q
          exact hc' q.2
        rw [this]
        exact q3 k hk
    · obtain ⟨q0, q1, q2, q3⟩ := hJ
      rw [hall t.2 q2, q1]
      simp only [Option.bind_some]
      rw [if_pos (nI_lt (by omega) (by omega))]
      exact ow_some ⟨q2, q3⟩
    · have := y2 k (by omega)
      have e : fo (fun s => decide (om G s = k)) 1 = 0 := by
        show (if _ then (0 : Nat) else 0) = 0
        split <;> rfl
      rw [e, sz_0]
      exact this
theorem spr_lt {G : Nat → Nat → Bool} {n : Nat} (hn : n ≤ 14) (hn1 : 1 ≤ n) (k : Nat) : spr G n k < 2 ^ n := by
  rw [spr_is hn hn1]; exact fo_om.1
theorem s_spread {M : oz_M} {G : Nat → Nat → Bool} {n a0 a1 : Nat} (hn : n ≤ 14) (hn1 : 1 ≤ n) (h01 : a0 ≠ a1) (h : ∀ k, k ≤ 14 → M.1 a0 k = nI (sz (fo (fun s => decide (om G s = k)) (2 ^ n))) ∧ M.1 a1 k = nI (fo (fun s => decide (om G s = k)) (2 ^ n))) : ow (f_Held_spreadFirsts a0 a1 M) (fun r => fr [a0, a1] M r.2 ∧ ∀ k, k ≤ 14 → r.2.1 a0 k = nI (most G n k) ∧ r.2.1 a1 k = nI (fo (fun s => decide (om G s ≤ k)) (2 ^ n))) := by
  unfold f_Held_spreadFirsts
  refine ow_bind (P := fun y => fr [a0, a1] M y.2 ∧ ∀ k, k ≤ 14 → y.2.1 a0 k = nI (sz (spr G n k)) ∧ y.2.1 a1 k = nI (spr G n k)) ?_ (fun y hy => ow_some ⟨hy.1, fun k hk => by have := hy.2 k hk; rw [spr_is hn hn1] at this; exact this⟩)
  refine ow_for 15 (fun k s => 1 ≤ k ∧ s.1 = nI k ∧ fr [a0, a1] M s.2 ∧ (∀ j, j < k → s.2.1 a0 j = nI (sz (spr G n j)) ∧ s.2.1 a1 j = nI (spr G n j)) ∧ ∀ j, k ≤ j → s.2.1 a0 j = M.1 a0 j ∧ s.2.1 a1 j = M.1 a1 j) (fun k s hk hJ => ?_) (fun s hJ => ?_) 1 _ (by omega) ⟨by omega, rfl, fr.refl, fun j hj => ?_, fun j hj => ⟨rfl, rfl⟩⟩
  · obtain ⟨q0, q1, q2, q3, q4⟩ := hJ
    obtain ⟨i, rfl⟩ : ∃ i, k = i + 1 := ⟨k - 1, by omega⟩
    rw [q1, if_neg (show ¬ (14 : Int32) < nI (i + 1) from nI_nlt (a := 14) (by omega) (by omega)), nI_pred, show oz_in (nI i) 15 = some i from oz_in_nI (by omega) (by decide), show oz_in (nI (i + 1)) 15 = some (i + 1) from oz_in_nI (by omega) (by decide)]
    simp only [Option.bind_some]
    have e1 := q3 i (by omega)
    have e2 := q4 (i + 1) (Nat.le_refl _)
    rw [(h (i + 1) (by omega)).1, (h (i + 1) (by omega)).2] at e2
    have l1 : sz (spr G n i) ≤ 14 := by have := sz_le (spr_lt (G := G) hn hn1 i) hn; omega
    have l2 : sz (fo (fun s => decide (om G s = i + 1)) (2 ^ n)) ≤ 14 := by
      rcases (fo_is (fun s => decide (om G s = i + 1)) (2 ^ n)).1 with e | ⟨_, e⟩
      · rw [e, sz_0]; omega
      · have := sz_le e hn; omega
    rw [e1.1, e2.1]
    refine ow_ite (fun hc => ?_) (fun hc => ?_)
    · have hc' := (nI_ltI (by omega) (by omega)).mp hc
      have es : spr G n (i + 1) = spr G n i := by simp only [spr]; rw [if_pos hc']
      refine ow_some ⟨by omega, nI_1 _, (q2.s (by simp)).s (by simp), fun j hj => ?_, fun j hj => ?_⟩
      · simp only [rd_s]
        by_cases e : j = i + 1
        · subst e
          rw [es]
          have : ¬ a1 = a0 := fun q => h01 q.symm
          simp [h01, this, e1.2]
        · simp [e]; exact q3 j (by omega)
      · simp only [rd_s]
        have : j ≠ i + 1 := by omega
        simp [this]
        exact q4 j (by omega)
    · have hc' : ¬ sz (fo (fun s => decide (om G s = i + 1)) (2 ^ n)) < sz (spr G n i) := fun q => hc (nI_lt q (by omega))
      have es : spr G n (i + 1) = fo (fun s => decide (om G s = i + 1)) (2 ^ n) := by simp only [spr]; rw [if_neg hc']
      refine ow_some ⟨by omega, nI_1 _, q2, fun j hj => ?_, fun j hj => q4 j (by omega)⟩
      by_cases e : j = i + 1
      · subst e
        rw [es]; exact e2
      · exact q3 j (by omega)
  · obtain ⟨q0, q1, q2, q3, q4⟩ := hJ
    rw [q1, if_pos (show (14 : Int32) < nI 15 by decide)]
    exact ow_some ⟨q2, fun k hk => q3 k (by omega)⟩
  · have : j = 0 := by omega
    subst this
    exact h 0 (by omega)
