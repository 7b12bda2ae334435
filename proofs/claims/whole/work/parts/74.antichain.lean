/-! The law's case antichain. -/
theorem wun_op {lt : Nat → Nat → Bool} {n w : Nat} : ∀ s, wun (op lt) n w s = wun lt n w s
  | 0 => rfl
  | s + 1 => by
    simp only [wun]
    rw [wun_op s]
    have : tb (wide (op lt) n w s) = tb (wide lt n w s) := tb_eq (by rw [tb_iff, wide_op])
    rw [this]
theorem wide_max {n : Nat} {lt : Nat → Nat → Bool} (ho : ord n lt) (hn : n ≤ 14) : (∀ T, T < 2 ^ n → anti lt T → sz T ≤ om (apt lt) (2 ^ n - 1)) ∧ ∃ T, wide lt n (om (apt lt) (2 ^ n - 1)) T := by
  have hf := p2_m1 n
  constructor
  · intro T hT ha
    refine om_ge (lt14 hn hf) (fun i hi => ?_) ((anti_clq ho).mpr ha)
    rw [Nat.testBit_two_pow_sub_one]
    simp; exact bit_in hT hi
  · obtain ⟨T, h1, h2, h3⟩ := om_ex (apt lt) (2 ^ n - 1)
    exact ⟨T, sub_lt h1 hf, (anti_clq ho).mp h2, h3⟩
/-- the order, or turned -/
def lop (b : Bool) (lt : Nat → Nat → Bool) : Nat → Nat → Bool := if b then op lt else lt
theorem lop_ord {b : Bool} {n : Nat} {lt : Nat → Nat → Bool} (ho : ord n lt) : ord n (lop b lt) := by
  cases b
  · exact ho
  · exact ord_op ho
theorem lop_wide {b : Bool} {n w T : Nat} {lt : Nat → Nat → Bool} : wide (lop b lt) n w T ↔ wide lt n w T := by
  cases b
  · exact Iff.rfl
  · exact wide_op
theorem lop_wun {b : Bool} {n w s : Nat} {lt : Nat → Nat → Bool} : wun (lop b lt) n w s = wun lt n w s := by
  cases b
  · rfl
  · exact wun_op s
theorem nI_neg {b : Nat} (hb : b < 2 ^ 31) : ¬ nI b < 0 := nI_pos hb
noncomputable def acv (n : Nat) (R : Nat → Nat → Bool) (b : Bool) : Nat := mxs (lop b (ztb R)) n (wun (ztb R) n (om (apt (ztb R)) (2 ^ n - 1)) (2 ^ n))
theorem s_Model_antichain {M : oz_M} {n : Nat} {R : Nat → Nat → Bool} (h : zH M n R) {w : Nat} (hw : w ≤ 1) : ow (f_Model_antichain (nI w) M) (fun r => r.1 = nI (acv n R (decide (w = 1))) ∧ r.2.1 62 0 = 0 ∧ r.2.2 74 0 = M.2 74 0 ∧ zH r.2 n R) := by
  have hn := h.n
  have ho := h.ord
  have hp := p2_14 hn
  have hpp := p2_pos n
  unfold f_Model_antichain
  rw [if_neg h.rst, ok_up (c := 1) (m := 1) rfl hw (by decide)]
  simp only [Option.bind_some]
  rw [if_neg (um_0 _)]
  refine ow_b2 (s_knowH (h.fz 0)) (fun _ N hN => ?_)
  obtain ⟨hH, hK, h0, h74⟩ := hN
  dsimp only at hH hK h0 h74
  have g0 : N.1 62 0 = 0 := h0.trans (um_at _ _)
  have g74 : N.2 74 0 = M.2 74 0 := by rw [h74]; rfl
  rw [hH.at62, nI_all (by omega), show oz_in (nI (2 ^ n - 1)) 16384 = some (2 ^ n - 1) from oz_in_nI (by omega) (by decide)]
  have hfull := hK _ (p2_m1 n)
  have hz12 : (if nI w = 1 then (some 1 : Option Int32) else some 0) = some (bi (decide (w = 1))) := by
    have : w = 0 ∨ w = 1 := by omega
    rcases this with rfl | rfl
    · rfl
    · rfl
  rw [hz12]
  generalize hb : decide (w = 1) = b
  obtain ⟨m1, m2⟩ := wide_max ho hn
  have o1 := om_14 (G := apt (ztb R)) hn (p2_m1 n)
  generalize hW : om (apt (ztb R)) (2 ^ n - 1) = W at *
  obtain ⟨k1, k2, k3⟩ := wsc_is (lt := lop b (ztb R)) (w := W) hn (lop_ord ho) (fun T hT ha => m1 T hT (by cases b; exact ha; exact anti_op.mp ha)) (by obtain ⟨T, hT⟩ := m2; exact ⟨T, lop_wide.mpr hT⟩)
  refine ow_bind (P := fun y => y.1 = nI (acv n R b)) ?_ (fun y hy => ow_some ⟨hy, g0, g74, hH⟩)
  refine ow_for (2 ^ n) (fun k s => s.2 = nI k ∧ ((wsc (lop b (ztb R)) n W k = none ∧ s.1 = -1) ∨ ∃ c, wsc (lop b (ztb R)) n W k = some c ∧ s.1 = nI c)) (fun k s hk hJ => ?_) (fun s hJ => ?_) 0 _ (Nat.zero_le _) ⟨rfl, Or.inl ⟨rfl, rfl⟩⟩
  · obtain ⟨q1, q2⟩ := hJ
    rw [q1, if_neg (nI_nlt (by omega) (by omega)), s_sizeOf, s_isAnti hn hH.at62 hH.L hk]
    simp only [Option.bind_some]
    rw [hfull.2.1]
    have hsz := sz_le hk hn
    have hstay : ¬ (wide (lop b (ztb R)) n W k ∧ ∀ c, wsc (lop b (ztb R)) n W k = some c → und (lop b (ztb R)) c k) → wsc (lop b (ztb R)) n W (k + 1) = wsc (lop b (ztb R)) n W k := fun q => by
      simp only [wsc]; rw [if_neg (fun r => q (tb_iff.mp r))]
    have hmove : (wide (lop b (ztb R)) n W k ∧ ∀ c, wsc (lop b (ztb R)) n W k = some c → und (lop b (ztb R)) c k) → wsc (lop b (ztb R)) n W (k + 1) = some k := fun q => by
      simp only [wsc]; rw [if_pos (tb_iff.mpr q)]
    refine ow_ite (fun e => ?_) (fun e => ?_)
    · have e' : sz k = W := (nI_eq (by omega) (by omega)).mp e
      cases hc : tb (clq (apt (ztb R)) k) with
      | false =>
        rw [bi_f, if_pos rfl]
        have hns := hstay (fun q => tb_no.mp hc ((anti_clq ho).mpr (lop_wide.mp q.1).2.1))
        exact ow_some ⟨nI_1 k, by rw [hns]; exact q2⟩
      | true =>
        rw [if_neg bi_ne]
        have hwide : wide (lop b (ztb R)) n W k := lop_wide.mpr ⟨hk, (anti_clq ho).mp (tb_iff.mp hc), e'⟩
        rcases q2 with ⟨r1, r2⟩ | ⟨c, r1, r2⟩
        · rw [r2, if_pos (by decide)]
          exact ow_some ⟨nI_1 k, Or.inr ⟨k, hmove ⟨hwide, fun c hc => by rw [r1] at hc; cases hc⟩, rfl⟩⟩
        · have hcw := k3 k c (by omega) r1
          rw [r2, if_neg (nI_neg (by have := hcw.1; omega)), s_isUnder hn hH.at62 hH.L hcw.1 hk b]
          refine ow_let ?_
          show ow (if bi (tb (und (lop b (ztb R)) c k)) = 0 then _ else _) _
          cases hu : tb (und (lop b (ztb R)) c k) with
          | false =>
            rw [bi_f, if_pos rfl]
            have hns := hstay (fun q => tb_no.mp hu (q.2 c r1))
            exact ow_some ⟨nI_1 k, Or.inr ⟨c, by rw [hns]; exact r1, rfl⟩⟩
          | true =>
            rw [if_neg bi_ne]
            exact ow_some ⟨nI_1 k, Or.inr ⟨k, hmove ⟨hwide, fun c' hc' => by rw [r1] at hc'; cases hc'; exact tb_iff.mp hu⟩, rfl⟩⟩
    · have hns := hstay (fun q => e (by rw [(lop_wide.mp q.1).2.2]))
      exact ow_some ⟨nI_1 k, by rw [hns]; exact q2⟩
  · obtain ⟨q1, q2⟩ := hJ
    rw [q1, if_pos (nI_lt (by omega) (by omega))]
    refine ow_some ?_
    show s.1 = _
    rcases q2 with ⟨r1, r2⟩ | ⟨c, r1, r2⟩
    · rw [k1] at r1; cases r1
    · rw [k1] at r1
      cases r1
      rw [r2]
      unfold acv
      rw [hW, lop_wun]
theorem s_Hall_antichain {M : oz_M} {n : Nat} {R : Nat → Nat → Bool} (h : zH M n R) {w : Nat} (hw : w ≤ 1) : ow (f_Hall_antichain (nI w) M) (fun r => r.1 = .inr (nI (acv n R (decide (w = 1)))) ∧ zH r.2 n R) := by
  unfold f_Hall_antichain
  simp only [s_wants h.st, b2_some, el_inr, s_up (c := 1) (m := 1) rfl hw (by decide)]
  refine ow_b2 (s_measure h) (fun _ N hN => ?_)
  obtain ⟨hH, hT, _⟩ := hN
  dsimp only at hH hT
  rw [hT.2.2.2, (hH.ends (wun_lt _)).1, (hH.ends (wun_lt _)).2, wid h.ord h.n]
  have : w = 0 ∨ w = 1 := by omega
  rcases this with rfl | rfl
  · rw [if_pos (by decide)]
    exact ow_let (ow_some ⟨rfl, hH⟩)
  · rw [if_neg (by decide)]
    exact ow_let (ow_some ⟨rfl, hH⟩)
theorem us_9 {M : oz_M} {n : Nat} {R : Nat → Nat → Bool} (h : zH M n R) {p1 p2 p3 : Int32} : ow (f_L9 p1 p2 p3 M) (fun N => zH N n R) := by
  unfold f_L9
  rcases upto_cases p1 (m := 1) (by decide) with ⟨w, hw, rfl⟩ | hx
  · exact law_ok (P := fun N => zH N n R) (lawA (s_Hall_antichain h hw)) (fun N hN _ => s_Model_antichain hN hw)
  · refine law_thr (k := 2) (by decide) (P := fun N => N = M) ?_ (fun N hN => ?_)
    · unfold f_Law_antichain f_Hall_antichain
      simp only [s_wants h.st, b2_some, el_inr, el_inl, s_up_no (c := 1) hx]
      exact ow_some ⟨rfl, rfl⟩
    · subst hN
      unfold f_Model_antichain
      rw [if_neg h.rst, ref_up (c := 1) hx]
      simp only [Option.bind_some]
      rw [if_pos (um_posk _ (by decide))]
      exact ow_some ⟨um_at _ _, h.fz 2⟩
