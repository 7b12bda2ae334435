/-! Links: the chains while they are made. -/
def lk (M : oz_M) (n S : Nat) (lt : Nat → Nat → Bool) (f g : Nat → Option Nat) : Prop := (∀ p, p < n → M.1 58 p = oI (f p) ∧ M.1 59 p = oI (g p)) ∧ (∀ p q, f p = some q ↔ g q = some p) ∧ ∀ p q, f p = some q → S.testBit p = true ∧ S.testBit q = true ∧ lt p q = true
def cert (S : Nat) (lt : Nat → Nat → Bool) (k : Nat) (f : Nat → Option Nat) (A : Nat → Prop) : Prop := (∀ p, p < k → S.testBit p = true → f p = none → A p) ∧ (∀ p, A p → S.testBit p = true) ∧ ∀ p q, A p → S.testBit q = true → lt p q = true → ∃ p', f p' = some q ∧ A p'
/-- the queue: the first is x, each other one is linked before an element that was reached from one before it -/
def que (M : oz_M) (n S : Nat) (lt : Nat → Nat → Bool) (f : Nat → Option Nat) (x e O : Nat) (qe : Nat → Nat) : Prop := qe 0 = x ∧ (∀ j, j < e → S.testBit (qe j) = true ∧ M.1 61 j = nI (qe j)) ∧ (∀ i j, i < e → j < e → qe i = qe j → i = j) ∧ (∀ j, 1 ≤ j → j < e → ∃ b r, f (qe j) = some b ∧ r < j ∧ M.1 60 b = nI (qe r) ∧ lt (qe r) b = true ∧ O.testBit b = false) ∧ ∀ b, S.testBit b = true → O.testBit b = false → ∃ j, 1 ≤ j ∧ j < e ∧ f (qe j) = some b
theorem oI_is {o : Option Nat} {n : Nat} (hn : n ≤ 14) (h : ∀ x, o = some x → x < n) : (oI o = -1 ↔ o = none) := by
  cases o with
  | none => simp [oI]
  | some x =>
    simp only [oI]
    exact ⟨fun q => absurd q (nI_nm1 (by have := h x rfl; omega)), fun q => by cases q⟩
theorem s_relink {M : oz_M} {n S : Nat} {lt : Nat → Nat → Bool} {f g : Nat → Option Nat} {x e O b0 r0 : Nat} {qe : Nat → Nat} {A : Nat → Prop} (hn : n ≤ 14) (hS : S < 2 ^ n) (h6 : M.1 6 0 = nI n) (hl : lk M n S lt f g) (hfx : f x = none) (hq : que M n S lt f x e O qe) (he : e ≤ n) (hA : cert S lt x f A) (hb0 : S.testBit b0 = true) (hg0 : g b0 = none) (hr0 : r0 < e) (h60 : M.1 60 b0 = nI (qe r0)) (hlt0 : lt (qe r0) b0 = true) : ow (f_Parts_relink (nI b0) M) (fun r => fr [58, 59] M r.2 ∧ ∃ f' g', lk r.2 n S lt f' g' ∧ (∀ p, f' p = none ↔ f p = none ∧ p ≠ x) ∧ ∀ p, A p → f' p = f p) := by
  have hin : ∀ p, S.testBit p = true → p < n := fun p hp => bit_in hS hp
  unfold f_Parts_relink
  refine ow_bind (P := fun y => fr [58, 59] M y.2.2 ∧ ∃ f' g', lk y.2.2 n S lt f' g' ∧ (∀ p, f' p = none ↔ f p = none ∧ p ≠ x) ∧ ∀ p, A p → f' p = f p) ?_ (fun y hy => ow_some hy)
  let D : oz_M → Prop := fun N => ∃ f' g', lk N n S lt f' g' ∧ (∀ p, f' p = none ↔ f p = none ∧ p ≠ x) ∧ ∀ p, A p → f' p = f p
  refine ow_for n (fun i s => s.2.1 = nI i ∧ fr [58, 59] M s.2.2 ∧ ((s.1 = -1 ∧ D s.2.2) ∨ ∃ b r f1 g1, s.1 = nI b ∧ S.testBit b = true ∧ r < e ∧ i + r < n ∧ M.1 60 b = nI (qe r) ∧ lt (qe r) b = true ∧ g1 b = none ∧ (∀ p, p < n → s.2.2.1 58 p = oI (f1 p) ∧ (p ≠ b → s.2.2.1 59 p = oI (g1 p))) ∧ (∀ p q, f1 p = some q ↔ g1 q = some p) ∧ (∀ p q, f1 p = some q → S.testBit p = true ∧ S.testBit q = true ∧ lt p q = true) ∧ (∀ p, f1 p = none ↔ f p = none) ∧ (∀ j, j ≤ r → f1 (qe j) = f (qe j)) ∧ (∀ p, A p → f1 p = f p) ∧ ∀ p, f p = some b → ¬ A p)) (fun i s hi hJ => ?_) (fun s hJ => ?_) 0 _ (Nat.zero_le _) ⟨rfl, fr.refl, Or.inr ⟨b0, r0, f, g, rfl, hb0, hr0, by omega, h60, hlt0, hg0, fun p hp => ⟨(hl.1 p hp).1, fun _ => (hl.1 p hp).2⟩, hl.2.1, hl.2.2, fun _ => Iff.rfl, fun _ _ => rfl, fun _ _ => rfl, fun p hp => by rw [(hl.2.1 p b0).mp hp] at hg0; cases hg0⟩⟩
  · obtain ⟨q1, q2, q3⟩ := hJ
    rw [q1, q2.at (by decide), h6, if_pos (nI_lt hi (by omega))]
    rcases q3 with ⟨c1, c2⟩ | ⟨b, r, f1, g1, c1, c2, c3, c4, c5, c6, c7, c8, c9, c10, c11, c12, c13, c14⟩
    · rw [c1, if_pos rfl]
      exact ow_some ⟨q2, c2⟩
    · have hbn := hin b c2
      have hqr := hq.2.1 r c3
      have hqn := hin _ hqr.1
      have hfr : f1 (qe r) = f (qe r) := c12 r (Nat.le_refl _)
      rw [c1, if_neg (nI_nm1 (by omega)), show oz_in (nI b) 14 = some b from oz_in_nI (by omega) (by decide)]
      simp only [Option.bind_some]
      rw [q2.at (show (60 : Nat) ∉ [58, 59] by decide), c5, show oz_in (nI (qe r)) 14 = some (qe r) from oz_in_nI (by omega) (by decide)]
      simp only [Option.bind_some]
      rw [(c8 (qe r) hqn).1, hfr]
      have hnA : ¬ A (qe r) := fun ha => by
        obtain ⟨p', h1, h2⟩ := hA.2.2 (qe r) b ha c2 c6
        exact c14 p' h1 h2
      have f2 : fr [58, 59] M (oz_s (oz_s s.2.2 58 (qe r) (nI b)) 59 b (nI (qe r))) := (q2.s (by decide)).s (by decide)
      -- the new matching, and b's old place
      cases hfq : f (qe r) with
      | none =>
        -- the first of the queue
        have hr0 : r = 0 := by
          refine Classical.byContradiction (fun hne => ?_)
          obtain ⟨b', r', k1, _⟩ := hq.2.2.2.1 r (by omega) c3
          rw [hfq] at k1; cases k1
        subst hr0
        rw [hq.1] at hfr hfq hqn hqr hnA c6 f2 ⊢
        refine ow_some ⟨nI_1 i, f2, Or.inl ⟨rfl, fun p => if p = x then some b else f1 p, fun q => if q = b then some x else g1 q, ⟨fun p hp => ⟨?_, ?_⟩, fun p q => ?_, fun p q hpq => ?_⟩, fun p => ?_, fun p hp => ?_⟩⟩
        · show (oz_s (oz_s s.2.2 58 x (nI b)) 59 b (nI x)).1 58 p = oI (if p = x then some b else f1 p)
          rw [rd_s, if_neg (by simp), rd_s]
          by_cases e : p = x
          · rw [if_pos ⟨rfl, e⟩, if_pos e]; rfl
          · rw [if_neg (by simp [e]), if_neg e]; exact (c8 p hp).1
        · show (oz_s (oz_s s.2.2 58 x (nI b)) 59 b (nI x)).1 59 p = oI (if p = b then some x else g1 p)
          rw [rd_s]
          by_cases e : p = b
          · rw [if_pos ⟨rfl, e⟩, if_pos e]; rfl
          · rw [if_neg (by simp [e]), if_neg e, rd_s, if_neg (by simp)]; exact (c8 p hp).2 e
        · show (if p = x then some b else f1 p) = some q ↔ (if q = b then some x else g1 q) = some p
          by_cases e : p = x
          · rw [if_pos e]
            by_cases e' : q = b
            · rw [if_pos e', e, e']; simp
            · rw [if_neg e']
              constructor
              · intro h; cases h; exact absurd rfl e'
              · intro h
                have := (c9 p q).mpr h
                rw [e, hfr, hfq] at this; cases this
          · rw [if_neg e]
            by_cases e' : q = b
            · rw [if_pos e', e']
              constructor
              · intro h
                have := (c9 p b).mp h
                rw [c7] at this; cases this
              · intro h; cases h; exact absurd rfl e
            · rw [if_neg e']; exact c9 p q
        · have hpq : (if p = x then some b else f1 p) = some q := hpq
          by_cases e : p = x
          · rw [if_pos e] at hpq
            cases hpq
            rw [e]; exact ⟨hqr.1, c2, c6⟩
          · rw [if_neg e] at hpq; exact c10 p q hpq
        · show (if p = x then some b else f1 p) = none ↔ _
          by_cases e : p = x
          · rw [if_pos e]
            exact ⟨fun h => (by cases h), fun h => absurd e h.2⟩
          · rw [if_neg e, c11 p]
            exact ⟨fun h => ⟨h, e⟩, fun h => h.1⟩
        · show (if p = x then some b else f1 p) = _
          rw [if_neg (show ¬ p = x from fun e => hnA (e ▸ hp))]
          exact c13 p hp
      | some b' =>
        have hr1 : 1 ≤ r := by
          refine Nat.le_of_not_lt (fun hlt => ?_)
          have : r = 0 := by omega
          rw [this, hq.1, hfx] at hfq; cases hfq
        obtain ⟨b2, r', k1, k2, k3, k4, _⟩ := hq.2.2.2.1 r hr1 c3
        rw [hfq] at k1
        cases k1
        have hb'S := (hl.2.2 _ _ hfq).2.1
        have hb'n := hin _ hb'S
        have hbb : b' ≠ b := fun e => by
          have := (c9 (qe r) b).mp (by rw [hfr, hfq, e])
          rw [c7] at this; cases this
        have hgb' : g1 b' = some (qe r) := (c9 (qe r) b').mp (by rw [hfr, hfq])
        refine ow_some ⟨nI_1 i, f2, Or.inr ⟨b', r', fun p => if p = qe r then some b else f1 p, fun q => if q = b then some (qe r) else if q = b' then none else g1 q, rfl, hb'S, by omega, by omega, k3, k4, ?_, fun p hp => ⟨?_, fun hpb => ?_⟩, fun p q => ?_, fun p q hpq => ?_, fun p => ?_, fun j hj => ?_, fun p hp => ?_, fun p hp => ?_⟩⟩
        · show (if b' = b then some (qe r) else if b' = b' then none else g1 b') = none
          rw [if_neg hbb, if_pos rfl]
        · show (oz_s (oz_s s.2.2 58 (qe r) (nI b)) 59 b (nI (qe r))).1 58 p = oI (if p = qe r then some b else f1 p)
          rw [rd_s, if_neg (by simp), rd_s]
          by_cases e : p = qe r
          · rw [if_pos ⟨rfl, e⟩, if_pos e]; rfl
          · rw [if_neg (by simp [e]), if_neg e]; exact (c8 p hp).1
        · show (oz_s (oz_s s.2.2 58 (qe r) (nI b)) 59 b (nI (qe r))).1 59 p = oI (if p = b then some (qe r) else if p = b' then none else g1 p)
          rw [rd_s]
          by_cases e : p = b
          · rw [if_pos ⟨rfl, e⟩, if_pos e]; rfl
          · rw [if_neg (by simp [e]), if_neg e, if_neg hpb, rd_s, if_neg (by simp)]; exact (c8 p hp).2 e
        · show (if p = qe r then some b else f1 p) = some q ↔ (if q = b then some (qe r) else if q = b' then none else g1 q) = some p
          by_cases e : p = qe r
          · rw [if_pos e]
            by_cases e' : q = b
            · rw [if_pos e', e, e']; simp
            · rw [if_neg e']
              constructor
              · intro h; cases h; exact absurd rfl e'
              · intro h
                by_cases e2 : q = b'
                · rw [if_pos e2] at h; cases h
                · rw [if_neg e2] at h
                  have := (c9 p q).mpr h
                  rw [e, hfr, hfq] at this; cases this
                  exact absurd rfl e2
          · rw [if_neg e]
            by_cases e' : q = b
            · rw [if_pos e', e']
              constructor
              · intro h
                have := (c9 p b).mp h
                rw [c7] at this; cases this
              · intro h; cases h; exact absurd rfl e
            · rw [if_neg e']
              by_cases e2 : q = b'
              · rw [if_pos e2]
                constructor
                · intro h
                  have := (c9 p q).mp h
                  rw [e2, hgb'] at this
                  cases this; exact absurd rfl e
                · intro h; cases h
              · rw [if_neg e2]; exact c9 p q
        · have hpq : (if p = qe r then some b else f1 p) = some q := hpq
          by_cases e : p = qe r
          · rw [if_pos e] at hpq
            cases hpq
            rw [e]; exact ⟨hqr.1, c2, c6⟩
          · rw [if_neg e] at hpq; exact c10 p q hpq
        · show (if p = qe r then some b else f1 p) = none ↔ _
          by_cases e : p = qe r
          · rw [if_pos e, e, hfq]
            exact ⟨fun h => (by cases h), fun h => (by cases h)⟩
          · rw [if_neg e]; exact c11 p
        · show (if qe j = qe r then some b else f1 (qe j)) = _
          rw [if_neg (fun e => by have := hq.2.2.1 j r (by omega) c3 e; omega)]
          exact c12 j (by omega)
        · show (if p = qe r then some b else f1 p) = _
          rw [if_neg (show ¬ p = qe r from fun e => hnA (e ▸ hp))]
          exact c13 p hp
        · have h1 := (hl.2.1 p b').mp hp
          have h2 := (hl.2.1 (qe r) b').mp hfq
          rw [h1] at h2
          cases h2
          exact hnA
  · obtain ⟨q1, q2, q3⟩ := hJ
    rw [q1, q2.at (by decide), h6, if_neg (nI_nlt (Nat.le_refl _) (by omega))]
    rcases q3 with ⟨c1, c2⟩ | ⟨b, r, f1, g1, c1, c2, c3, c4, _⟩
    · exact ow_some ⟨q2, c2⟩
    · omega
