/-! The class's seek where no arcs lead round. -/
theorem s_seek {M : oz_M} {n : Nat} {R : Nat → Nat → Bool} (hW : zW n R) (hA : zA M n R) (hac : ∀ a, ¬ zT R a a) : ow (f_Ring_seek M) (fun r => fr [3, 5] M r.2 ∧ r.2.1 3 0 = 0) := by
  have hn := hW.2.1
  unfold f_Ring_seek
  refine ow_let (ow_bind (P := fun y => fr [3, 5] M y.2.2 ∧ y.2.2.1 3 0 = 0) ?_ (fun y hy => ?_))
  · refine ow_for n (fun k s => s.2.1 = nI k ∧ fr [3, 5] M s.2.2 ∧ s.2.2.1 3 0 = 0) (fun k s hk hJ => ?_) (fun s hJ => ?_) 0 _ (by omega) ⟨rfl, fr.refl.s (by decide), by rw [rd_s, if_pos ⟨rfl, rfl⟩]⟩
    · obtain ⟨q1, q2, q3⟩ := hJ
      have hA2 := hA.fr q2 (by decide) (by decide)
      rw [q1, hA2.1, if_pos (nI_lt hk (by omega)), if_pos q3]
      refine ow_let (ow_b2 (s_stepsRound hW hA2 hk hn) (fun v N hv => ?_))
      obtain ⟨hf, hr⟩ := hv
      dsimp only at hf hr
      rcases hr with ⟨e, -⟩ | ⟨i, h1, -, -, hp, -⟩
      · rw [e, if_neg (by decide)]
        exact ow_some ⟨nI_1 k, q2.trans (hf.sub (by decide)), by show N.1 3 0 = 0; rw [hf.at (by decide)]; exact q3⟩
      · obtain ⟨i, rfl⟩ : ∃ j, i = j + 1 := ⟨i - 1, by omega⟩
        exact absurd (zP_T i hp) (hac k)
    · obtain ⟨q1, q2, q3⟩ := hJ
      rw [q1, (hA.fr q2 (by decide) (by decide)).1, if_neg (nI_nlt (Nat.le_refl _) (by omega))]
      exact ow_some ⟨q2, q3⟩
  · rw [if_neg (by rw [hy.2]; decide)]
    exact ow_some hy
