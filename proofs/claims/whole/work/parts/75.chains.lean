/-! The law's case chains. -/
def smI (v : Nat → Int32) : Nat → Int32
  | 0 => 0
  | k + 1 => smI v k + v k
theorem smI_cong {v w : Nat → Int32} : ∀ k, (∀ x, x < k → v x = w x) → smI v k = smI w k
  | 0, _ => rfl
  | k + 1, h => by simp only [smI]; rw [smI_cong k (fun x hx => h x (by omega)), h k (by omega)]
theorem smI_nI (f : Nat → Nat) : ∀ k, smI (fun x => nI (f x)) k = nI (sm f k)
  | 0 => rfl
  | k + 1 => by simp only [smI, sm]; rw [smI_nI f k, nI_add]
theorem s_sumI {M : oz_M} {n i S : Nat} (hn : n ≤ 14) (h6 : M.1 6 0 = nI n) : f_Order_sum i (nI S) M = some (smI (fun x => if S.testBit x = true then M.1 i x else 0) n) := by
  unfold f_Order_sum
  refine ow_eq (ow_bind (P := fun y => y.1 = smI (fun x => if S.testBit x = true then M.1 i x else 0) n) ?_ (fun y hy => ow_some hy))
  rw [h6]
  refine ow_for n (fun k s => s.2 = nI k ∧ s.1 = smI (fun x => if S.testBit x = true then M.1 i x else 0) k) (fun k s hk hJ => ?_) (fun s hJ => ?_) 0 _ (Nat.zero_le _) ⟨rfl, rfl⟩
  · obtain ⟨q1, q2⟩ := hJ
    rw [q1, q2, if_pos (nI_lt hk (by omega)), s_chas S (by omega), show oz_in (nI k) 14 = some k from oz_in_nI (by omega) (by decide)]
    refine ow_let ?_
    cases hb : S.testBit k with
    | false => rw [bi_f, if_pos rfl]; exact ow_some ⟨nI_1 k, by simp [smI, hb]⟩
    | true => rw [if_neg bi_ne]; exact ow_let (ow_some ⟨nI_1 k, by simp [smI, hb]⟩)
  · obtain ⟨q1, q2⟩ := hJ
    rw [q1, if_neg (nI_nlt (Nat.le_refl _) (by omega))]
    exact ow_some q2
theorem s_sumN {M : oz_M} {n i S : Nat} (hn : n ≤ 14) (h6 : M.1 6 0 = nI n) (f : Nat → Nat) (hf : ∀ x, x < n → S.testBit x = true → M.1 i x = nI (f x)) : f_Order_sum i (nI S) M = some (nI (sm (fun x => if S.testBit x = true then f x else 0) n)) := by
  rw [s_sumI hn h6, ← smI_nI]
  congr 1
  refine smI_cong n (fun x hx => ?_)
  cases hb : S.testBit x with
  | false => rfl
  | true => simp [hf x hx hb]
theorem cnt_0set {n : Nat} {lt : Nat → Nat → Bool} (hn : n ≤ 14) : cnt (fun s => tb (clq (cmp lt) s ∧ sz s = 0)) (2 ^ n) = 1 := by
  rw [cnt_out (Q := fun _ => false) (p2_pos n) (tb_iff.mpr ⟨clq_0, sz_0⟩) (fun s hs => ?_), cnt_none]
  simp only [Bool.false_eq_true, false_iff, not_and]
  intro h hne
  obtain ⟨_, h2⟩ := tb_iff.mp h
  exact hne (sub_eq hn hs (fun i hi => by rw [Nat.zero_testBit] at hi; cases hi) (by rw [h2]; exact Nat.zero_le _)).symm
theorem s_chainsOf {M : oz_M} {n : Nat} {R : Nat → Nat → Bool} (h : zH M n R) {m : Nat} (hm : m ≤ 14) : ow (f_Order_chainsOf (nI m) M) (fun r => r.1 = nI (cnt (fun s => tb (clq (cmp (ztb R)) s ∧ sz s = m)) (2 ^ n)) ∧ fr [13] M r.2) := by
  have hn := h.n
  have ho := h.ord
  obtain ⟨p, hp1, hp2, hp3⟩ := h.1.2.2.2.2.1
  unfold f_Order_chainsOf
  by_cases e0 : m = 0
  · subst e0
    rw [if_pos (by decide)]
    refine ow_some ⟨?_, fr.refl⟩
    rw [cnt_0set hn]; rfl
  · rw [if_neg (nI_ne0 (by omega) (by omega))]
    refine ow_bind (P := fun y => fr [13] M y.2 ∧ ∀ x, x < n → y.2.1 13 x = nI (ct (ztb R) n 1 x)) ?_ (fun y hy => ?_)
    · refine ow_for n (fun k s => s.1 = nI k ∧ fr [13] M s.2 ∧ ∀ x, x < k → s.2.1 13 x = nI (ct (ztb R) n 1 x)) (fun k s hk hJ => ?_) (fun s hJ => ?_) 0 _ (Nat.zero_le _) ⟨rfl, fr.refl, fun x hx => by omega⟩
      · obtain ⟨q1, q2, q3⟩ := hJ
        rw [q1, q2.at (by decide), h.at6, if_pos (nI_lt hk (by omega)), show oz_in (nI k) 14 = some k from oz_in_nI (by omega) (by decide)]
        refine ow_let (ow_let (ow_some ⟨nI_1 k, q2.s (by decide), fun x hx => ?_⟩))
        simp only [rd_s]
        by_cases e : x = k
        · subst e; simp [ct_1 hn hk]; rfl
        · simp [e]; exact q3 x (by omega)
      · obtain ⟨q1, q2, q3⟩ := hJ
        rw [q1, q2.at (by decide), h.at6, if_neg (nI_nlt (Nat.le_refl _) (by omega))]
        exact ow_some ⟨q2, q3⟩
    · obtain ⟨y1, y2⟩ := hy
      refine ow_bind (P := fun z => fr [13] M z.2 ∧ ∀ x, x < n → z.2.1 13 x = nI (ct (ztb R) n m x)) ?_ (fun z hz => ?_)
      · refine ow_for (m + 1) (fun k s => 2 ≤ k ∧ s.1 = nI k ∧ fr [13] M s.2 ∧ ∀ x, x < n → s.2.1 13 x = nI (ct (ztb R) n (k - 1) x)) (fun k s hk hJ => ?_) (fun s hJ => ?_) 2 _ (by omega) ⟨by omega, rfl, y1, y2⟩
        · obtain ⟨q0, q1, q2, q3⟩ := hJ
          rw [q1, q2.at (by decide), h.at6, if_neg (nI_nlt (by omega) (by omega))]
          refine ow_bind (P := fun z => fr [13] M z.2 ∧ ∀ x, x < n → z.2.1 13 x = nI (ct (ztb R) n k x)) ?_ (fun z hz => ow_some ⟨by omega, nI_1 k, hz.1, fun x hx => hz.2 x hx⟩)
          refine ow_for n (fun l t => t.1 = nI (n - l) - 1 ∧ fr [13] M t.2 ∧ ∀ x, x < n → t.2.1 13 x = nI (ct (ztb R) n (if n - l ≤ p x then k else k - 1) x)) (fun l t hl hJ => ?_) (fun t hJ => ?_) 0 _ (Nat.zero_le _) ⟨rfl, q2, fun x hx => by rw [if_neg (by have := (hp1 x hx).1; omega)]; exact q3 x hx⟩
          · obtain ⟨g1, g2, g3⟩ := hJ
            obtain ⟨i, hi⟩ : ∃ i, n - l = i + 1 := ⟨n - l - 1, by omega⟩
            rw [hi] at g1 g3
            rw [nI_pred] at g1
            obtain ⟨x, hx, hpx, h12⟩ := hp2 i (by omega)
            have e12 : t.2.1 12 i = nI x := by rw [g2.at (by decide)]; exact h12
            have e7 : t.2.1 7 x = nI (blw (ztb R) n x) := by rw [g2.at (by decide)]; exact (h.rows hx).1
            have e6 : t.2.1 6 0 = nI n := by rw [g2.at (by decide)]; exact h.at6
            rw [g1, if_neg (nI_pos (by omega)), show oz_in (nI i) 14 = some i from oz_in_nI (by omega) (by decide)]
            simp only [Option.bind_some]
            rw [e12, show oz_in (nI x) 14 = some x from oz_in_nI (by omega) (by decide)]
            simp only [Option.bind_some]
            rw [e7, s_sumN hn e6 (ct (ztb R) n (k - 1)) (fun y hy hb => ?_)]
            · refine ow_let (ow_some ⟨?_, g2.s (by decide), fun y hy => ?_⟩)
              · rw [show n - (l + 1) = i by omega]
                exact (Int32.sub_eq_add_neg _ _).symm
              · rw [show n - (l + 1) = i by omega]
                simp only [rd_s]
                by_cases e : y = x
                · subst e
                  rw [if_pos ⟨trivial, rfl⟩, if_pos (by omega)]
                  congr 1
                  have := ct_S (L := k - 1) ho hn hy (by omega)
                  rw [show k - 1 + 1 = k by omega] at this
                  rw [this]
                  exact sm_eq n (fun z hz => by rw [blw_bit ho])
                · rw [if_neg (by simp [e]), g3 y hy]
                  have hne : p y ≠ i := fun q => by
                    have a1 := (hp1 y hy).2
                    have a2 := (hp1 x hx).2
                    rw [q] at a1
                    rw [hpx] at a2
                    exact e ((nI_eq (by omega) (by omega)).mp (a1.symm.trans a2))
                  by_cases hle : i + 1 ≤ p y
                  · rw [if_pos hle, if_pos (by omega)]
                  · rw [if_neg hle, if_neg (by omega)]
            · rw [blw_bit ho] at hb
              have := hp3 y x hb
              rw [g3 y hy, if_neg (by omega)]
          · obtain ⟨g1, g2, g3⟩ := hJ
            rw [Nat.sub_self] at g1
            rw [g1, if_pos nI_0m1]
            refine ow_some ⟨g2, fun x hx => ?_⟩
            have := g3 x hx
            rw [if_pos (by omega)] at this
            exact this
        · obtain ⟨q0, q1, q2, q3⟩ := hJ
          rw [q1, if_pos (nI_lt (by omega) (by omega))]
          exact ow_some ⟨q2, fun x hx => q3 x hx⟩
      · have e6 : z.2.1 6 0 = nI n := by rw [hz.1.at (by decide)]; exact h.at6
        unfold f_Order_everything
        rw [e6, nI_all (by omega)]
        refine ow_let ?_
        rw [s_sumN hn e6 (ct (ztb R) n m) (fun x hx _ => hz.2 x hx)]
        refine ow_let (ow_some ⟨?_, hz.1⟩)
        rw [ct_all ho hn (by omega)]
        show nI _ = nI _
        congr 1
        exact sm_eq n (fun x hx => by rw [Nat.testBit_two_pow_sub_one]; simp [hx])
theorem s_Model_chains {M : oz_M} {n : Nat} {R : Nat → Nat → Bool} (h : zH M n R) {m : Nat} (hm : m ≤ 14) : ow (f_Model_chains (nI m) M) (fun r => r.1 = nI (cnt (fun s => tb (clq (cmp (ztb R)) s ∧ sz s = m)) (2 ^ n)) ∧ r.2.1 62 0 = 0 ∧ r.2.2 74 0 = M.2 74 0 ∧ zH r.2 n R) := by
  have hn := h.n
  have hp := p2_14 hn
  unfold f_Model_chains
  rw [if_neg h.rst, ok_up (c := 14) (m := 14) rfl hm (by decide)]
  simp only [Option.bind_some]
  rw [if_neg (um_0 _)]
  have hH := h.fz 0
  generalize hN : oz_s M 62 0 0 = N at hH
  have e0 : N.1 62 0 = 0 := by rw [← hN]; exact um_at _ _
  have e74 : N.2 74 0 = M.2 74 0 := by rw [← hN]; rfl
  rw [hH.at62, nI_shl (by omega)]
  refine ow_bind (P := fun y => y.1 = nI (cnt (fun s => tb (clq (cmp (ztb R)) s ∧ sz s = m)) (2 ^ n))) ?_ (fun y hy => ow_some ⟨hy, e0, e74, hH⟩)
  refine ow_for (2 ^ n) (fun k s => s.2 = nI k ∧ s.1 = nI (cnt (fun s => tb (clq (cmp (ztb R)) s ∧ sz s = m)) k)) (fun k s hk hJ => ?_) (fun s hJ => ?_) 0 _ (Nat.zero_le _) ⟨rfl, rfl⟩
  · obtain ⟨q1, q2⟩ := hJ
    have hsz := sz_le hk hn
    rw [q1, q2, if_pos (nI_lt hk (by omega)), s_sizeOf, s_isChain hn hH.at62 hH.L hk]
    refine ow_let (ow_ite (fun e => ow_let ?_) (fun e => ?_))
    · have e' : sz k = m := (nI_eq (by omega) (by omega)).mp e
      have e2 : tb (clq (cmp (ztb R)) k) = tb (clq (cmp (ztb R)) k ∧ sz k = m) := tb_eq (by rw [tb_iff]; exact ⟨fun q => ⟨q, e'⟩, fun q => q.1⟩)
      rw [e2]
      cases hc : tb (clq (cmp (ztb R)) k ∧ sz k = m) with
      | false => rw [bi_f, if_pos rfl]; exact ow_some ⟨nI_1 k, by simp only [cnt, hc]; rfl⟩
      | true => rw [if_neg bi_ne]; exact ow_some ⟨nI_1 k, by simp only [cnt, hc]; exact nI_1 _⟩
    · have hc : tb (clq (cmp (ztb R)) k ∧ sz k = m) = false := tb_no.mpr (fun q => e (by rw [q.2]))
      exact ow_some ⟨nI_1 k, by simp only [cnt, hc]; rfl⟩
  · obtain ⟨q1, q2⟩ := hJ
    rw [q1, if_neg (nI_nlt (Nat.le_refl _) (by omega))]
    exact ow_some q2
theorem us_12 {M : oz_M} {n : Nat} {R : Nat → Nat → Bool} (h : zH M n R) {p1 p2 p3 : Int32} : ow (f_L12 p1 p2 p3 M) (fun N => zH N n R) := by
  unfold f_L12
  rcases upto_cases p1 (m := 14) (by decide) with ⟨w, hw, rfl⟩ | hx
  · refine law_ok (v := nI (cnt (fun s => tb (clq (cmp (ztb R)) s ∧ sz s = w)) (2 ^ n))) (P := fun N => zH N n R) (lawA ?_) (fun N hN _ => s_Model_chains hN hw)
    unfold f_Hall_chains
    simp only [s_wants h.st, b2_some, el_inr, s_up (c := 14) (m := 14) rfl hw (by decide)]
    exact ow_b2 (s_chainsOf h hw) (fun v N hN => ow_some ⟨by rw [← hN.1], h.zj (hN.2.zj (by decide))⟩)
  · refine law_thr (k := 2) (by decide) (P := fun N => N = M) ?_ (fun N hN => ?_)
    · unfold f_Law_chains f_Hall_chains
      simp only [s_wants h.st, b2_some, el_inr, el_inl, s_up_no (c := 14) hx]
      exact ow_some ⟨rfl, rfl⟩
    · subst hN
      unfold f_Model_chains
      rw [if_neg h.rst, ref_up (c := 14) hx]
      simp only [Option.bind_some]
      rw [if_pos (um_posk _ (by decide))]
      exact ow_some ⟨um_at _ _, h.fz 2⟩
