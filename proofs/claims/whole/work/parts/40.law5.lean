/-! The law's case compare, settled. -/
theorem um_pos2 (M : oz_M) : 0 < (oz_s M 62 0 2).1 62 0 := by rw [um_at]; decide
theorem s_compare_no {M : oz_M} {n : Nat} {R : Nat → Nat → Bool} (h : zG M n R) {x y : Int32} (hno : (x < 0 ∨ ¬ x < nI n) ∨ (y < 0 ∨ ¬ y < nI n)) : f_Hall_compare x y M = some (.inl 1, M) ∧ f_Model_compare x y M = some (0, oz_s M 62 0 2) := by
  obtain ⟨h1, h2, h3, ⟨⟨h4, h5⟩, h6⟩, h7, h8, h9⟩ := h
  have hn := h1.2.1
  unfold f_Hall_compare f_Model_compare
  rw [if_neg (by rw [h7]; decide)]
  rcases el_cases x hn with ⟨a, ha, rfl⟩ | hx
  · have hy := hno.resolve_left (fun q => q.elim (nI_pos (by omega)) (fun q => q (nI_lt ha (by omega))))
    constructor
    · simp only [s_wants (show ¬ M.1 0 7 = 0 by rw [h3]; decide), b2_some, el_inr, el_inl, h4, s_want ha hn, s_want_no hy]
    · rw [s_isEl h8.1 hn ha, s_isEl_no h8.1 hy]
      simp only [Option.bind_some, if_true]
      rw [if_neg (by decide)]
      simp only [Option.bind_some]
      rw [if_pos (um_pos2 M)]
  · constructor
    · simp only [s_wants (show ¬ M.1 0 7 = 0 by rw [h3]; decide), b2_some, el_inr, el_inl, h4, s_want_no hx]
    · rw [s_isEl_no h8.1 hx]
      simp only [Option.bind_some, if_true]
      rw [if_pos (um_pos2 M)]
/-- an answer that both sides give: the law goes on -/
theorem law_on {N : oz_M} {v : Int32} (h0 : N.1 62 0 = 0) (h1 : N.2 74 0 = Int32.toInt64 v) : ((f_Model_thrown N).bind fun v5 => if v5 = 0 then (if (0 : Int32) = 0 then ((oz_in 0 1).bind fun j6 => if (lg_cmp (N.2 74 j6) (Int32.toInt64 v)) = 0 then (some N) else (none)) else (some N)) else (none)) = some N := by
  unfold f_Model_thrown
  simp only [Option.bind_some, if_true]
  rw [if_pos h0, show oz_in 0 1 = some 0 from oz_in_nI (j := 0) (by decide) (by decide)]
  simp only [Option.bind_some]
  rw [h1, cmp_self, if_pos rfl]
theorem us_5 {M : oz_M} {n : Nat} {R : Nat → Nat → Bool} (h : zG M n R) {p1 p2 p3 : Int32} : ow (f_L5 p1 p2 p3 M) (zk M) := by
  have hn := h.1.2.1
  unfold f_L5 f_Law_compare
  by_cases hel : (∃ a, a < n ∧ p1 = nI a) ∧ (∃ b, b < n ∧ p2 = nI b)
  · obtain ⟨⟨a, ha, rfl⟩, ⟨b, hb, rfl⟩⟩ := hel
    simp only [s_Hall_compare h ha hb, b2_some, el_inr]
    rw [show oz_in 0 1 = some 0 from oz_in_nI (j := 0) (by decide) (by decide)]
    simp only [Option.bind_some, b2_some]
    rw [s_Model_compare (h.zk zk_l) ha hb]
    simp only [b2_some]
    have := law_on (N := oz_s (oz_l M 74 0 (Int32.toInt64 (zcv R a b))) 62 0 0) (v := zcv R a b) (um_at _ _) (by rw [rd_sl, rd_ll, if_pos ⟨rfl, rfl⟩])
    rw [show oz_in 0 1 = some 0 from oz_in_nI (j := 0) (by decide) (by decide)] at this
    simp only [Option.bind_some] at this
    exact ⟨_, this, zk_l.trans zk_s⟩
  · have hno : (p1 < 0 ∨ ¬ p1 < nI n) ∨ (p2 < 0 ∨ ¬ p2 < nI n) := by
      rcases el_cases p1 hn with h1 | h1
      · rcases el_cases p2 hn with h2 | h2
        · exact absurd ⟨h1, h2⟩ hel
        · exact Or.inr h2
      · exact Or.inl h1
    simp only [(s_compare_no h hno).1, (s_compare_no h hno).2, b2_some, el_inl, f_Model_thrown, Option.bind_some, um_at]
    refine ow_mono (P := fun N => N = oz_s M 62 0 2) ?_ (fun N q => by rw [q]; exact zk_s)
    exact ⟨_, by simp [b2_some, (s_compare_no h hno).2, um_at], rfl⟩
