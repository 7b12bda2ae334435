/-! The reference's settle where no arcs lead round. -/
theorem s_roundabout {M : oz_M} {n : Nat} (hn : n ≤ 14) (h62 : M.1 62 1 = nI n) (hb : zLb M) : ow (oz_lp (fun (s30 : Int32 × Int32) => (if s30.2 < (M.1 62 1) then (if s30.1 = 0 then ((f_Model_isLess s30.2 s30.2 M).bind fun v31 => if v31 = 0 then (some (.inl (0, s30.2 + 1))) else (some (.inl (1, s30.2 + 1)))) else (some (.inl (1, s30.2 + 1)))) else (some (.inr (s30.1, s30.2))) : Option ((Int32 × Int32) ⊕ (Int32 × Int32)))) (0, 0)) (fun y => (y.1 = 0 ∧ ∀ a, a < n → ¬ zl M a a) ∨ (y.1 = 1 ∧ ∃ a, a < n ∧ zl M a a)) := by
  rw [h62]
  refine ow_for n (fun k s => s.2 = nI k ∧ ((s.1 = 0 ∧ ∀ a, a < k → ¬ zl M a a) ∨ (s.1 = 1 ∧ ∃ a, a < n ∧ zl M a a))) (fun k s hk hJ => ?_) (fun s hJ => ?_) 0 _ (by omega) ⟨rfl, Or.inl ⟨rfl, fun a ha => by omega⟩⟩
  · obtain ⟨q1, q2⟩ := hJ
    rw [q1, if_pos (nI_lt hk (by omega))]
    rcases q2 with ⟨e, q2⟩ | ⟨e, q2⟩
    · rw [if_pos e, s_isLess hb (by omega) (by omega)]
      simp only [Option.bind_some]
      refine ow_ite (fun e1 => ow_some ⟨nI_1 k, Or.inl ⟨rfl, fun a ha hz => ?_⟩⟩) (fun e1 => ow_some ⟨nI_1 k, Or.inr ⟨rfl, k, hk, (hb _ (by omega)).resolve_left e1⟩⟩)
      by_cases ea : a = k
      · rw [ea] at hz
        exact absurd (e1.symm.trans hz) (by decide)
      · exact q2 a (by omega) hz
    · rw [if_neg (by rw [e]; decide)]
      exact ow_some ⟨nI_1 k, Or.inr ⟨rfl, q2⟩⟩
  · obtain ⟨q1, q2⟩ := hJ
    rw [q1, if_neg (nI_nlt (Nat.le_refl _) (by omega))]
    exact ow_some q2
/-- what the reference holds once it is settled -/
def zS (M : oz_M) (n : Nat) (R : Nat → Nat → Bool) : Prop := zR M n R ∧ zLt M n R ∧ M.1 62 2 = 1 ∧ M.1 62 6 = 0 ∧ M.1 62 12 = 0 ∧ M.1 62 10 = 0
theorem s_Model_settle {M : oz_M} {n : Nat} {R : Nat → Nat → Bool} (hW : zW n R) (hR : zR M n R) (hac : ∀ a, ¬ zT R a a) : ow (f_Model_settle M) (fun r => r.1 = 0 ∧ fr [62, 64] M r.2 ∧ zS r.2 n R ∧ r.2.1 62 0 = 0) := by
  unfold f_Model_settle
  refine ow_let (ow_b2 (s_change _) (fun _ M3 hc => ?_))
  obtain ⟨c1, c2, c3, c4, c5⟩ := hc
  dsimp only at c1 c2 c3 c4 c5
  have f3 : fr [62, 64] M M3 := fun i hi => ⟨(c1 i (fun e => hi (by rw [e]; decide))).trans (oz_s_o i (fun e => hi (by rw [e]; decide))).1, by rw [c2]; rfl⟩
  have hR3 : zR M3 n R := by
    refine ⟨by rw [c4, rd_s, if_neg (by simp)]; exact hR.1, fun a ha b hb => ?_⟩
    rw [c1 63 (by decide), rd_s, if_neg (by simp)]
    exact hR.2 a ha b hb
  refine ow_bind (s_copy hR3) (fun y9 h9 => ?_)
  refine ow_bind (s_close hW (by rw [h9.1.at (by decide)]; exact hR3.1) h9.2) (fun y29 h29 => ?_)
  have f29 : fr [64] M3 y29.2 := h9.1.trans h29.1
  have e62 : y29.2.1 62 1 = nI n := by rw [f29.at (by decide)]; exact hR3.1
  refine ow_bind (s_roundabout hW.2.1 e62 h29.2.1) (fun y35 h35 => ?_)
  rcases h35 with ⟨e, -⟩ | ⟨-, a, ha, hz⟩
  · rw [if_pos e]
    have f30 : fr [62, 64] M (oz_s y29.2 62 2 1) := (f3.trans (f29.sub (by decide))).s (by decide)
    refine ow_let (ow_some ⟨rfl, f30, ⟨⟨?_, fun a ha b hb => ?_⟩, ⟨fun j hj => ?_, fun a b ha hb => ?_⟩, ?_, ?_, ?_, ?_⟩, ?_⟩)
    · rw [rd_s, if_neg (by simp)]; exact e62
    · rw [rd_s, if_neg (by simp), f29.at (by decide)]; exact hR3.2 a ha b hb
    · rw [rd_s, if_neg (by simp)]; exact h29.2.1 j hj
    · have := h29.2.2 a b ha hb
      unfold zl at this ⊢
      rw [rd_s, if_neg (by simp)]
      exact this
    · rw [rd_s, if_pos ⟨rfl, rfl⟩]
    · rw [rd_s, if_neg (by simp), f29.at (by decide)]; exact c5.2.1
    · rw [rd_s, if_neg (by simp), f29.at (by decide)]; exact c5.2.2.1
    · rw [rd_s, if_neg (by simp), f29.at (by decide)]; exact c5.2.2.2
    · rw [rd_s, if_neg (by simp), f29.at (by decide), c3, um_at]
  · exact absurd ((h29.2.2 a a (by have := hW.2.1; omega) (by have := hW.2.1; omega)).mp hz) (hac a)
