/-! The law's case set, settled. -/
theorem zin01 : oz_in 0 1 = some 0 := oz_in_nI (j := 0) (by decide) (by decide)
theorem s_set_no {M : oz_M} {n : Nat} {R : Nat → Nat → Bool} (h : zG M n R) {x y : Int32} (hx : x < 0 ∨ ¬ x < nI n) : f_Hall_set x y M = some (.inl 1, M) ∧ f_Model_set x y M = some (0, oz_s M 62 0 2) := by
  obtain ⟨h1, h2, h3, ⟨⟨h4, h5⟩, h6⟩, h7, h8, h9⟩ := h
  unfold f_Hall_set f_Model_set
  rw [if_neg (by rw [h7]; decide)]
  constructor
  · simp only [s_wants (show ¬ M.1 0 7 = 0 by rw [h3]; decide), b2_some, el_inr, el_inl, h4, s_want_no hx]
  · rw [s_isEl_no h8.1 hx]
    simp only [Option.bind_some, if_true]
    rw [if_pos (um_pos2 M)]
theorem s_set_no2 {M : oz_M} {n : Nat} {R : Nat → Nat → Bool} (h : zG M n R) {x : Nat} (hx : x < n) {y : Int32} (hy : y < 0 ∨ nI 4 < y) : f_Hall_set (nI x) y M = some (.inl 2, M) ∧ f_Model_set (nI x) y M = some (0, oz_s M 62 0 3) := by
  obtain ⟨h1, h2, h3, ⟨⟨h4, h5⟩, h6⟩, h7, h8, h9⟩ := h
  have hn := h1.2.1
  have hup : f_Hall_wantUpTo y 4 M = some (.inl 2, M) := s_upto_no (m := 4) hy M
  unfold f_Hall_set f_Model_set
  rw [if_neg (by rw [h7]; decide)]
  constructor
  · simp only [s_wants (show ¬ M.1 0 7 = 0 by rw [h3]; decide), b2_some, el_inr, el_inl, h4, s_want hx hn, hup]
  · rw [s_isEl h8.1 hn hx]
    simp only [Option.bind_some]
    rw [if_neg (by decide)]
    have e : (if y < 0 then some 3 else if 4 < y then some 3 else some 0 : Option Int32) = some 3 := by
      by_cases h0 : y < 0
      · rw [if_pos h0]
      · rw [if_neg h0, if_pos (show (4 : Int32) < y from hy.resolve_left h0)]
    rw [e]
    simp only [Option.bind_some]
    rw [if_pos (show 0 < (oz_s M 62 0 3).1 62 0 by rw [um_at]; decide)]
theorem us_6 {M : oz_M} {n : Nat} {R : Nat → Nat → Bool} (h : zG M n R) {p1 p2 p3 : Int32} : ow (f_L6 p1 p2 p3 M) (zk M) := by
  have hn := h.1.2.1
  unfold f_L6 f_Law_set
  rcases el_cases p1 hn with ⟨a, ha, rfl⟩ | hx
  · rcases upto_cases p2 (m := 4) (by decide) with ⟨w, hw, rfl⟩ | hy
    · obtain ⟨r, hr, v, rfl, hv⟩ := s_Hall_set h ha hw
      rw [hr]
      simp only [b2_some, el_inr, zin01, Option.bind_some]
      obtain ⟨⟨u, N⟩, hu, hN, hu2⟩ := s_Model_set (h.zk (zk_l (k := 0) (v := Int32.toInt64 v))) ha hw
      have e : u = v := zb_ext (fun b hb => (hu2 b hb).trans (hv b hb).symm)
      dsimp only at hN
      subst hN
      subst e
      rw [hu]
      simp only [b2_some]
      have := law_on (N := oz_s (oz_l M 74 0 (Int32.toInt64 u)) 62 0 0) (v := u) (um_at _ _) (by rw [rd_sl, rd_ll, if_pos ⟨rfl, rfl⟩])
      rw [zin01] at this
      simp only [Option.bind_some] at this
      exact ⟨_, this, zk_l.trans zk_s⟩
    · refine ow_mono (P := fun N => N = oz_s M 62 0 3) ?_ (fun N q => by rw [q]; exact zk_s)
      exact ⟨_, by simp [(s_set_no2 h ha hy).1, (s_set_no2 h ha hy).2, b2_some, el_inl, f_Model_thrown, um_at], rfl⟩
  · refine ow_mono (P := fun N => N = oz_s M 62 0 2) ?_ (fun N q => by rw [q]; exact zk_s)
    exact ⟨_, by simp [(s_set_no h hx).1, (s_set_no h hx).2, b2_some, el_inl, f_Model_thrown, um_at], rfl⟩
