/-! What class and reference answer while nothing is settled. -/
theorem um_pos (M : oz_M) : 0 < (oz_s M 62 0 1).1 62 0 := by rw [rd_s, if_pos ⟨rfl, rfl⟩]; decide
theorem um_ne (M : oz_M) : ¬ (oz_s M 62 0 1).1 62 0 = 0 := by rw [rd_s, if_pos ⟨rfl, rfl⟩]; decide
theorem um_at (M : oz_M) (v : Int32) : (oz_s M 62 0 v).1 62 0 = v := by rw [rd_s, if_pos ⟨rfl, rfl⟩]
theorem um_z0 : oz_z 0 = some 0 := by unfold oz_z; rw [if_pos (Or.inl rfl)]
theorem s_wants_no {M : oz_M} (h : M.1 0 7 = 0) : f_Hall_wantSettled M = some (.inl 0, M) := by unfold f_Hall_wantSettled; rw [if_pos h]
theorem s_wants {M : oz_M} (h : ¬ M.1 0 7 = 0) : f_Hall_wantSettled M = some (.inr (), M) := by unfold f_Hall_wantSettled; rw [if_neg h]
theorem uh_compare {M : oz_M} {a1 : Int32} {a2 : Int32} (h : M.1 0 7 = 0) : f_Law_compare a1 a2 M = some (1, M) := by
  unfold f_Law_compare f_Hall_compare
  simp only [s_wants_no h, b2_some, el_inl, if_true]
theorem um_compare {M : oz_M} {a0 : Int32} {a1 : Int32} (h : M.1 62 2 = 0) : f_Model_compare a0 a1 M = some (0, oz_s M 62 0 1) := by
  unfold f_Model_compare
  rw [if_pos h]
  simp only [Option.bind_some]
  rw [if_pos (um_pos M)]
theorem ul_5 {M : oz_M} {p1 p2 p3 : Int32} (h1 : M.1 0 7 = 0) (h2 : M.1 62 2 = 0) : f_L5 p1 p2 p3 M = some (oz_s M 62 0 1) := by
  unfold f_L5
  simp only [uh_compare h1, um_compare h2, b2_some, f_Model_thrown, Option.bind_some, um_at, if_true]
  rw [if_neg (by decide)]
theorem uh_set {M : oz_M} {a1 : Int32} {a2 : Int32} (h : M.1 0 7 = 0) : f_Law_set a1 a2 M = some (1, M) := by
  unfold f_Law_set f_Hall_set
  simp only [s_wants_no h, b2_some, el_inl, if_true]
theorem um_set {M : oz_M} {a0 : Int32} {a1 : Int32} (h : M.1 62 2 = 0) : f_Model_set a0 a1 M = some (0, oz_s M 62 0 1) := by
  unfold f_Model_set
  rw [if_pos h]
  simp only [Option.bind_some]
  rw [if_pos (um_pos M)]
theorem ul_6 {M : oz_M} {p1 p2 p3 : Int32} (h1 : M.1 0 7 = 0) (h2 : M.1 62 2 = 0) : f_L6 p1 p2 p3 M = some (oz_s M 62 0 1) := by
  unfold f_L6
  simp only [uh_set h1, um_set h2, b2_some, f_Model_thrown, Option.bind_some, um_at, if_true]
  rw [if_neg (by decide)]
theorem uh_level {M : oz_M} {a1 : Int32} {a2 : Int32} (h : M.1 0 7 = 0) : f_Law_level a1 a2 M = some (1, M) := by
  unfold f_Law_level f_Hall_level
  simp only [s_wants_no h, b2_some, el_inl, if_true]
theorem um_level {M : oz_M} {a0 : Int32} {a1 : Int32} (h : M.1 62 2 = 0) : f_Model_level a0 a1 M = some (0, oz_s M 62 0 1) := by
  unfold f_Model_level
  rw [if_pos h]
  simp only [Option.bind_some]
  rw [if_pos (um_pos M)]
theorem ul_7 {M : oz_M} {p1 p2 p3 : Int32} (h1 : M.1 0 7 = 0) (h2 : M.1 62 2 = 0) : f_L7 p1 p2 p3 M = some (oz_s M 62 0 1) := by
  unfold f_L7
  simp only [uh_level h1, um_level h2, b2_some, f_Model_thrown, Option.bind_some, um_at, if_true]
  rw [if_neg (by decide)]
theorem uh_count {M : oz_M} {a1 : Int32} (h : M.1 0 7 = 0) : f_Law_count a1 M = some (1, M) := by
  unfold f_Law_count f_Hall_count
  simp only [s_wants_no h, b2_some, el_inl, if_true]
theorem um_count {M : oz_M} {a0 : Int32} (h : M.1 62 2 = 0) : f_Model_count a0 M = some (0, oz_s M 62 0 1) := by
  unfold f_Model_count
  rw [if_pos h]
  simp only [Option.bind_some]
  rw [if_pos (um_pos M)]
theorem ul_8 {M : oz_M} {p1 p2 p3 : Int32} (h1 : M.1 0 7 = 0) (h2 : M.1 62 2 = 0) : f_L8 p1 p2 p3 M = some (oz_s M 62 0 1) := by
  unfold f_L8
  simp only [uh_count h1, um_count h2, b2_some, f_Model_thrown, Option.bind_some, um_at, if_true]
  rw [if_neg (by decide)]
theorem uh_antichain {M : oz_M} {a1 : Int32} (h : M.1 0 7 = 0) : f_Law_antichain a1 M = some (1, M) := by
  unfold f_Law_antichain f_Hall_antichain
  simp only [s_wants_no h, b2_some, el_inl, if_true]
theorem um_antichain {M : oz_M} {a0 : Int32} (h : M.1 62 2 = 0) : f_Model_antichain a0 M = some (0, oz_s M 62 0 1) := by
  unfold f_Model_antichain
  rw [if_pos h]
  simp only [Option.bind_some]
  rw [if_pos (um_pos M)]
theorem ul_9 {M : oz_M} {p1 p2 p3 : Int32} (h1 : M.1 0 7 = 0) (h2 : M.1 62 2 = 0) : f_L9 p1 p2 p3 M = some (oz_s M 62 0 1) := by
  unfold f_L9
  simp only [uh_antichain h1, um_antichain h2, b2_some, f_Model_thrown, Option.bind_some, um_at, if_true]
  rw [if_neg (by decide)]
theorem uh_most {M : oz_M} {a1 : Int32} {a2 : Int32} (h : M.1 0 7 = 0) : f_Law_most a1 a2 M = some (1, M) := by
  unfold f_Law_most f_Hall_most
  simp only [s_wants_no h, b2_some, el_inl, if_true]
theorem um_most {M : oz_M} {a0 : Int32} {a1 : Int32} (h : M.1 62 2 = 0) : f_Model_most a0 a1 M = some (0, oz_s M 62 0 1) := by
  unfold f_Model_most
  unfold f_Model_asks
  rw [if_pos h]
  simp only [Option.bind_some]
  rw [if_neg (um_ne M), um_z0]
  simp only [Option.bind_some, b2_some, if_true]
theorem ul_10 {M : oz_M} {p1 p2 p3 : Int32} (h1 : M.1 0 7 = 0) (h2 : M.1 62 2 = 0) : f_L10 p1 p2 p3 M = some (oz_s M 62 0 1) := by
  unfold f_L10
  simp only [uh_most h1, um_most h2, b2_some, f_Model_thrown, Option.bind_some, um_at, if_true]
  rw [if_neg (by decide)]
theorem uh_first {M : oz_M} {a1 : Int32} {a2 : Int32} (h : M.1 0 7 = 0) : f_Law_first a1 a2 M = some (1, M) := by
  unfold f_Law_first f_Hall_first
  simp only [s_wants_no h, b2_some, el_inl, if_true]
theorem um_first {M : oz_M} {a0 : Int32} {a1 : Int32} (h : M.1 62 2 = 0) : f_Model_first a0 a1 M = some (0, oz_s M 62 0 1) := by
  unfold f_Model_first
  unfold f_Model_asks
  rw [if_pos h]
  simp only [Option.bind_some]
  rw [if_neg (um_ne M), um_z0]
  simp only [Option.bind_some, b2_some, if_true]
theorem ul_11 {M : oz_M} {p1 p2 p3 : Int32} (h1 : M.1 0 7 = 0) (h2 : M.1 62 2 = 0) : f_L11 p1 p2 p3 M = some (oz_s M 62 0 1) := by
  unfold f_L11
  simp only [uh_first h1, um_first h2, b2_some, f_Model_thrown, Option.bind_some, um_at, if_true]
  rw [if_neg (by decide)]
theorem uh_chains {M : oz_M} {a1 : Int32} (h : M.1 0 7 = 0) : f_Law_chains a1 M = some (1, M) := by
  unfold f_Law_chains f_Hall_chains
  simp only [s_wants_no h, b2_some, el_inl, if_true]
theorem um_chains {M : oz_M} {a0 : Int32} (h : M.1 62 2 = 0) : f_Model_chains a0 M = some (0, oz_s M 62 0 1) := by
  unfold f_Model_chains
  rw [if_pos h]
  simp only [Option.bind_some]
  rw [if_pos (um_pos M)]
theorem ul_12 {M : oz_M} {p1 p2 p3 : Int32} (h1 : M.1 0 7 = 0) (h2 : M.1 62 2 = 0) : f_L12 p1 p2 p3 M = some (oz_s M 62 0 1) := by
  unfold f_L12
  simp only [uh_chains h1, um_chains h2, b2_some, f_Model_thrown, Option.bind_some, um_at, if_true]
  rw [if_neg (by decide)]
theorem uh_sequences {M : oz_M}  (h : M.1 0 7 = 0) : f_Law_sequences  M = some (1, M) := by
  unfold f_Law_sequences f_Hall_sequences
  simp only [s_wants_no h, b2_some, el_inl, if_true]
theorem um_sequences {M : oz_M}  (h : M.1 62 2 = 0) : f_Model_sequences  M = some (0, oz_s M 62 0 1) := by
  unfold f_Model_sequences
  rw [if_pos h]
  simp only [Option.bind_some]
  rw [if_pos (um_pos M)]
theorem ul_13 {M : oz_M} {p1 p2 p3 : Int32} (h1 : M.1 0 7 = 0) (h2 : M.1 62 2 = 0) : f_L13 p1 p2 p3 M = some (oz_s M 62 0 1) := by
  unfold f_L13
  simp only [uh_sequences h1, um_sequences h2, b2_some, f_Model_thrown, Option.bind_some, um_at, if_true]
  rw [if_neg (by decide)]
theorem uh_take {M : oz_M} {a1 : Int64} (h : M.1 0 7 = 0) : f_Law_take a1 M = some (1, M) := by
  unfold f_Law_take f_Hall_take
  simp only [s_wants_no h, b2_some, el_inl, if_true]
theorem um_take {M : oz_M} {a0 : Int64} (h : M.1 62 2 = 0) : f_Model_take a0 M = some ((), oz_s M 62 0 1) := by
  unfold f_Model_take
  rw [if_pos h]
  simp only [Option.bind_some]
  rw [if_pos (um_pos M)]
theorem ul_14 {M : oz_M} {p1 p2 p3 : Int32} (h1 : M.1 0 7 = 0) (h2 : M.1 62 2 = 0) : f_L14 p1 p2 p3 M = some (oz_s M 62 0 1) := by
  unfold f_L14
  simp only [uh_take h1, um_take h2, b2_some, f_Model_thrown, Option.bind_some, um_at, if_true]
theorem uh_bound {M : oz_M} {a1 : Int32} {a2 : Int32} {a3 : Int32} (h : M.1 0 7 = 0) : f_Law_bound a1 a2 a3 M = some (1, M) := by
  unfold f_Law_bound f_Hall_bound
  simp only [s_wants_no h, b2_some, el_inl, if_true]
theorem um_bound {M : oz_M} {a0 : Int32} {a1 : Int32} {a2 : Int32} (h : M.1 62 2 = 0) : f_Model_bound a0 a1 a2 M = some (0, oz_s M 62 0 1) := by
  unfold f_Model_bound
  rw [if_pos h]
  simp only [Option.bind_some]
  rw [if_pos (um_pos M)]
theorem ul_18 {M : oz_M} {p1 p2 p3 : Int32} (h1 : M.1 0 7 = 0) (h2 : M.1 62 2 = 0) : f_L18 p1 p2 p3 M = some (oz_s M 62 0 1) := by
  unfold f_L18
  simp only [uh_bound h1, um_bound h2, b2_some, f_Model_thrown, Option.bind_some, um_at, if_true]
  rw [if_neg (by decide)]
theorem uh_lattice {M : oz_M}  (h : M.1 0 7 = 0) : f_Law_lattice  M = some (1, M) := by
  unfold f_Law_lattice f_Hall_lattice
  simp only [s_wants_no h, b2_some, el_inl, if_true]
theorem um_lattice {M : oz_M}  (h : M.1 62 2 = 0) : f_Model_lattice  M = some (0, oz_s M 62 0 1) := by
  unfold f_Model_lattice
  rw [if_pos h]
  simp only [Option.bind_some]
  rw [if_pos (um_pos M)]
theorem ul_19 {M : oz_M} {p1 p2 p3 : Int32} (h1 : M.1 0 7 = 0) (h2 : M.1 62 2 = 0) : f_L19 p1 p2 p3 M = some (oz_s M 62 0 1) := by
  unfold f_L19
  simp only [uh_lattice h1, um_lattice h2, b2_some, f_Model_thrown, Option.bind_some, um_at, if_true]
  rw [if_neg (by decide)]
theorem uh_sign {M : oz_M} {a1 : Int32} {a2 : Int32} (h : M.1 0 7 = 0) : f_Law_sign a1 a2 M = some (1, M) := by
  unfold f_Law_sign f_Hall_sign
  simp only [s_wants_no h, b2_some, el_inl, if_true]
theorem um_sign {M : oz_M} {a0 : Int32} {a1 : Int32} (h : M.1 62 2 = 0) : f_Model_sign a0 a1 M = some (0, oz_s M 62 0 1) := by
  unfold f_Model_sign
  rw [if_pos h]
  simp only [Option.bind_some]
  rw [if_pos (um_pos M)]
theorem ul_20 {M : oz_M} {p1 p2 p3 : Int32} (h1 : M.1 0 7 = 0) (h2 : M.1 62 2 = 0) : f_L20 p1 p2 p3 M = some (oz_s M 62 0 1) := by
  unfold f_L20
  simp only [uh_sign h1, um_sign h2, b2_some, f_Model_thrown, Option.bind_some, um_at, if_true]
  rw [if_neg (by decide)]
theorem uh_turn {M : oz_M}  (h : M.1 0 7 = 0) : f_Law_turn  M = some (1, M) := by
  unfold f_Law_turn f_Hall_turn
  simp only [s_wants_no h, b2_some, el_inl, if_true]
theorem um_turn {M : oz_M}  (h : M.1 62 2 = 0) : f_Model_turn  M = some ((), oz_s M 62 0 1) := by
  unfold f_Model_turn
  rw [if_pos h]
  simp only [Option.bind_some]
  rw [if_pos (um_pos M)]
theorem ul_21 {M : oz_M} {p1 p2 p3 : Int32} (h1 : M.1 0 7 = 0) (h2 : M.1 62 2 = 0) : f_L21 p1 p2 p3 M = some (oz_s M 62 0 1) := by
  unfold f_L21
  simp only [uh_turn h1, um_turn h2, b2_some, f_Model_thrown, Option.bind_some, um_at, if_true]
theorem uh_keep {M : oz_M} {a1 : Int32} (h : M.1 0 7 = 0) : f_Law_keep a1 M = some (1, M) := by
  unfold f_Law_keep f_Hall_keep
  simp only [s_wants_no h, b2_some, el_inl, if_true]
theorem um_keep {M : oz_M} {a0 : Int32} (h : M.1 62 2 = 0) : f_Model_keep a0 M = some (0, oz_s M 62 0 1) := by
  unfold f_Model_keep
  rw [if_pos h]
  simp only [Option.bind_some]
  rw [if_pos (um_pos M)]
theorem ul_22 {M : oz_M} {p1 p2 p3 : Int32} (h1 : M.1 0 7 = 0) (h2 : M.1 62 2 = 0) : f_L22 p1 p2 p3 M = some (oz_s M 62 0 1) := by
  unfold f_L22
  simp only [uh_keep h1, um_keep h2, b2_some, f_Model_thrown, Option.bind_some, um_at, if_true]
  rw [if_neg (by decide)]
theorem uh_check {M : oz_M}  (h : M.1 0 7 = 0) : f_Law_check  M = some (1, M) := by
  unfold f_Law_check f_Hall_check
  simp only [s_wants_no h, b2_some, el_inl, if_true]
theorem um_check {M : oz_M}  (h : M.1 62 2 = 0) : f_Model_check  M = some (0, oz_s M 62 0 1) := by
  unfold f_Model_check
  rw [if_pos h]
  simp only [Option.bind_some]
  rw [if_pos (um_pos M)]
theorem ul_23 {M : oz_M} {p1 p2 p3 : Int32} (h1 : M.1 0 7 = 0) (h2 : M.1 62 2 = 0) : f_L23 p1 p2 p3 M = some (oz_s M 62 0 1) := by
  unfold f_L23
  simp only [uh_check h1, um_check h2, b2_some, f_Model_thrown, Option.bind_some, um_at, if_true]
  rw [if_neg (by decide)]
theorem ul_15 {M : oz_M} {p1 p2 p3 : Int32} (h1 : M.1 53 1 = 0) (h2 : M.1 62 12 = 0) : f_L15 p1 p2 p3 M = some (oz_s M 62 0 0) := by
  unfold f_L15 f_Hall_at f_Model_at
  rw [if_pos h1]
  simp only [Option.bind_some]
  rw [if_pos (by rw [rd_s, if_neg (by decide)]; exact h2)]
  simp only [b2_some, if_true]
theorem ul_16 {M : oz_M} {p1 p2 p3 : Int32} (h1 : M.1 53 1 = 0) (h2 : M.1 62 12 = 0) : f_L16 p1 p2 p3 M = some (oz_s M 62 0 0) := by
  unfold f_L16 f_Hall_exchange f_Model_exchange
  rw [if_pos h1]
  simp only [b2_some, Option.bind_some]
  rw [if_pos (by rw [rd_s, if_neg (by decide)]; exact h2)]
  simp only [b2_some, if_true]
theorem ul_17 {M : oz_M} {p1 p2 p3 : Int32} (h1 : M.1 53 1 = 0) (h2 : M.1 62 12 = 0) : f_L17 p1 p2 p3 M = some (oz_s M 62 0 0) := by
  unfold f_L17 f_Hall_number f_Model_number
  rw [if_pos h1]
  simp only [Option.bind_some]
  rw [if_pos (by rw [rd_s, if_neg (by decide)]; exact h2)]
  simp only [b2_some]
  exact if_pos (by decide)
/-- cycle, whatever stands: both rings are alike -/
theorem ul_4 {M : oz_M} {p1 p2 p3 : Int32} {r : Nat} (hr : r ≤ 14) (h1 : M.1 3 0 = nI r) (h2 : M.1 62 6 = nI r) (h3 : ∀ i, i < r → M.1 4 i = M.1 65 i) : f_L4 p1 p2 p3 M = some (oz_s M 62 0 0) := by
  unfold f_L4 f_Hall_cycle f_Model_cycle
  have e : (oz_s M 62 0 0).1 62 6 = nI r := by rw [rd_s, if_neg (by decide)]; exact h2
  simp only [Option.bind_some, h1, e]
  rcases el_cases p1 hr with ⟨a, ha, rfl⟩ | h
  · rw [if_neg (nI_pos (by omega)), if_neg (nI_pos (by omega)), if_pos (nI_lt ha (by omega)), if_pos (nI_lt ha (by omega)), oz_in_nI (by omega) (by omega)]
    simp only [Option.bind_some, b2_some]
    rw [if_pos]
    rw [rd_s, if_neg (by simp), h3 a ha]
  · by_cases h0 : p1 < 0
    · rw [if_pos h0, if_pos h0]
      simp only [Option.bind_some, b2_some, if_true]
    · rw [if_neg h0, if_neg h0, if_neg (h.resolve_left h0), if_neg (h.resolve_left h0)]
      simp only [Option.bind_some, b2_some, if_true]
