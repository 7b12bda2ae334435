/-! Layers; split; together; suffice; the law's case check. -/
theorem s_cutLayers {M : oz_M} {n S : Nat} {lt : Nat → Nat → Bool} (hn : n ≤ 14) (hS : S < 2 ^ n) (ho : ord n lt) (h6 : M.1 6 0 = nI n) (h7 : ∀ x, x < n → M.1 7 x = nI (blw lt n x)) (h56 : M.1 56 2 = 0) : ow (f_Parts_cutLayers (nI S) M) (fun r => fr [56, 57] M r.2 ∧ ∃ c z, c ≤ om (cmp lt) S ∧ c ≤ sz S ∧ szs r.2 c z ∧ bnds n (apt lt) S c z) := by
  have hS14 := lt14 hn hS
  have hsz := sz_le hS hn
  unfold f_Parts_cutLayers
  refine ow_bind (P := fun y => fr [56, 57] M y.2.2 ∧ ∃ c z, c ≤ om (cmp lt) S ∧ c ≤ sz S ∧ szs y.2.2 c z ∧ bnds n (apt lt) S c z) ?_ (fun y hy => ow_some hy)
  have fin : ∀ N i rest z, fr [56, 57] M N → rest = 0 → i + om (cmp lt) rest ≤ om (cmp lt) S → i + sz rest ≤ sz S → szs N i z → (∀ k Q, Q < 2 ^ n → om (apt lt) Q ≤ k → sz (Q &&& S) ≤ sm (fun j => min (z j) k) i + sz (Q &&& rest)) → fr [56, 57] M N ∧ ∃ c z, c ≤ om (cmp lt) S ∧ c ≤ sz S ∧ szs N c z ∧ bnds n (apt lt) S c z := fun N i rest z f e h1 h2 h3 h4 => by
    subst e
    refine ⟨f, i, z, by omega, by omega, h3, fun k Q hQ hk => ?_⟩
    have := h4 k Q hQ hk
    rw [Nat.and_zero, sz_0] at this
    exact this
  refine ow_for n (fun i s => s.2.1 = nI i ∧ fr [56, 57] M s.2.2 ∧ ∃ rest z, s.1 = nI rest ∧ sub rest S ∧ i + om (cmp lt) rest ≤ om (cmp lt) S ∧ i + sz rest ≤ sz S ∧ szs s.2.2 i z ∧ ∀ k Q, Q < 2 ^ n → om (apt lt) Q ≤ k → sz (Q &&& S) ≤ sm (fun j => min (z j) k) i + sz (Q &&& rest)) (fun i s hi hJ => ?_) (fun s hJ => ?_) 0 _ (Nat.zero_le _) ⟨rfl, fr.refl, S, fun _ => 0, rfl, fun _ h => h, by omega, by omega, ⟨by rw [h56]; rfl, fun i h => (by omega)⟩, fun k Q _ _ => by simp only [sm]; omega⟩
  · obtain ⟨q1, q2, rest, z, q3, q4, q5, q6, q7, q8⟩ := hJ
    have hrn := sub_lt q4 hS
    have hr14 := lt14 hn hrn
    have hrp := p2_14 hn
    rw [q1, q2.at (by decide), h6, if_pos (nI_lt hi (by omega)), q3]
    refine ow_ite (fun e => ?_) (fun e => ?_)
    · have e0 : rest = 0 := (nI_eq (a := rest) (b := 0) (by omega) (by omega)).mp e
      exact ow_some (fin s.2.2 i rest z q2 e0 q5 q6 q7 q8)
    · have e0 : rest ≠ 0 := fun q => e (by rw [q]; rfl)
      rw [s_ends2 (M := s.2.2) (lt := op lt) hn (ord_op ho) (by rw [q2.at (by decide)]; exact h6) hrn (fun x hx => by rw [q2.at (by decide)]; exact h7 x hx)]
      simp only [Option.bind_some]
      generalize hL : mxs (op lt) n rest = L
      have hLb : ∀ i, L.testBit i = true ↔ rest.testBit i = true ∧ ∀ j, rest.testBit j = true → lt j i = false := fun i => by rw [← hL]; exact mxs_bit hrn i
      have hLn : L < 2 ^ n := by rw [← hL]; exact mxs_lt
      rw [s_bitCount, nI_bc (lt14 hn hLn)]
      simp only [Option.bind_some]
      refine ow_b2 (s_addPart (by omega) (sz_le (lt14 hn hLn) (Nat.le_refl _)) q7) (fun _ N hN => ?_)
      have hU : nI rest &&& (nI L ^^^ (-1)) = nI (mk (fun i => rest.testBit i && !L.testBit i) n) := zb_mask (fun i hi => by
        rw [zb_and, zb_nI _ hi, zb_xor, zb_nI _ hi, zb_m1 i hi, mk_bit]
        cases hr : rest.testBit i with
        | false => simp
        | true => simp [bit_in hrn hr])
      rw [hU]
      generalize hUe : mk (fun i => rest.testBit i && !L.testBit i) n = U
      have hUb : ∀ i, U.testBit i = true ↔ rest.testBit i = true ∧ ∃ j, rest.testBit j = true ∧ lt j i = true := fun i => by
        rw [← hUe, mk_bit]
        simp only [Bool.and_eq_true, decide_eq_true_eq, Bool.not_eq_true']
        constructor
        · rintro ⟨h1, h2, h3⟩
          refine ⟨h2, ?_⟩
          refine Classical.byContradiction (fun hno => ?_)
          have : L.testBit i = true := (hLb i).mpr ⟨h2, fun j hj => by
            cases hl : lt j i with
            | false => rfl
            | true => exact absurd ⟨j, hj, hl⟩ hno⟩
          rw [h3] at this; cases this
        · rintro ⟨h1, j, h2, h3⟩
          refine ⟨bit_in hrn h1, h1, ?_⟩
          cases hb : L.testBit i with
          | false => rfl
          | true => have := ((hLb i).mp hb).2 j h2; rw [h3] at this; cases this
      have hlow := om_low ho hn hrn e0 hUb
      have hUr : sub U rest := fun i hi => ((hUb i).mp hi).1
      have hszU : sz U + 1 ≤ sz rest := by
        refine Nat.lt_of_le_of_ne (sz_sub hUr) (fun q => ?_)
        have he : U = rest := sub_eq hn hrn hUr (by omega)
        rw [he] at hlow
        omega
      have hanti : clq (apt lt) L := (anti_clq ho).mpr (fun a b ha hb => ((hLb b).mp hb).2 a ((hLb a).mp ha).1)
      refine ow_some ⟨nI_1 i, q2.trans hN.1, U, _, rfl, fun i hi => q4 i (hUr i hi), by omega, by omega, hN.2, fun k Q hQ hk => ?_⟩
      have h1 := q8 k Q hQ hk
      have h2 : sz (Q &&& rest) ≤ sz (Q &&& U) + sz (Q &&& L) := by
        refine Nat.le_trans (sz_sub (fun i hi => ?_)) (sz_or (Q := Q) (V := U) (P := L))
        rw [band] at hi
        rw [band, bor]
        refine ⟨hi.1, ?_⟩
        cases hb : L.testBit i with
        | true => exact Or.inr rfl
        | false =>
          left
          rw [← hUe, mk_bit, hi.2, hb]
          simp [bit_in hrn hi.2]
      have h3 : sz (Q &&& L) ≤ sz L := sz_sub (fun i hi => (band.mp hi).2)
      have h4 : sz (Q &&& L) ≤ om (apt lt) Q := om_ge (lt14 hn hQ) (fun i hi => (band.mp hi).1) (clq_sub hanti (fun i hi => (band.mp hi).2))
      have h5 : sm (fun j => min (if j = i then sz L else z j) k) i = sm (fun j => min (z j) k) i := sm_eq i (fun j hj => by rw [if_neg (by omega)])
      simp only [sm, if_true]
      rw [h5]
      omega
  · obtain ⟨q1, q2, rest, z, q3, q4, q5, q6, q7, q8⟩ := hJ
    rw [q1, q2.at (by decide), h6, if_neg (nI_nlt (Nat.le_refl _) (by omega))]
    have e0 : rest = 0 := (sub_eq hn (sub_lt q4 hS) (fun i hi => by rw [Nat.zero_testBit] at hi; cases hi) (by rw [sz_0]; omega)).symm
    exact ow_some (fin s.2.2 n rest z q2 e0 q5 q6 q7 q8)
/-- what a split gives: between what k of the other kind hold, and many times k with the others -/
theorem s_split {M : oz_M} {n c m : Nat} {lt G G' : Nat → Nat → Bool} (hc : c = 0 ∧ G = apt lt ∧ G' = cmp lt ∨ c = 1 ∧ G = cmp lt ∧ G' = apt lt) (hn : n ≤ 14) (ho : ord n lt) (h6 : M.1 6 0 = nI n) (h7 : ∀ x, x < n → M.1 7 x = nI (blw lt n x)) (h8 : ∀ x, x < n → M.1 8 x = nI (blw (op lt) n x)) : ow (f_Parts_split (nI c) (nI (fo (fun s => decide (om G s ≤ m)) (2 ^ n))) M) (fun r => fr [56, 57, 58, 59, 60, 61] M r.2 ∧ ∃ d z, d ≤ 14 ∧ szs r.2 d z ∧ ∀ k, 1 ≤ k → most G' n k ≤ sm (fun i => min (z i) k) d ∧ sm (fun i => min (z i) k) d + most G n m ≤ m * k + n) := by
  obtain ⟨hS, hom⟩ := fo_om (G := G) (n := n) (k := m)
  have hmost : most G n m = sz (fo (fun s => decide (om G s ≤ m)) (2 ^ n)) := rfl
  rw [hmost]
  generalize fo (fun s => decide (om G s ≤ m)) (2 ^ n) = S at hS hom
  have hS14 := lt14 hn hS
  have hszS := sz_le hS hn
  unfold f_Parts_split
  refine ow_let ?_
  have f0 : fr [56, 57, 58, 59, 60, 61] M (oz_s M 56 2 0) := fr.refl.s (by decide)
  refine ow_bind (P := fun N => fr [56, 57, 58, 59, 60, 61] M N ∧ ∃ d z, d ≤ m ∧ d ≤ sz S ∧ szs N d z ∧ bnds n G' S d z) ?_ (fun N hN => ?_)
  · rcases hc with ⟨rfl, rfl, rfl⟩ | ⟨rfl, rfl, rfl⟩
    · rw [if_pos (show nI 0 = 0 from rfl)]
      refine ow_b2 (s_linkChains hn hS ho (by rw [f0.at (by decide)]; exact h6) (fun x hx => by rw [f0.at (by decide)]; exact h8 x hx)) (fun _ N1 h1 => ?_)
      obtain ⟨f1, f, g, A, l1, l2⟩ := h1
      dsimp only at f1 l1
      have hst := lk_starts hn hS l1 l2
      have hst2 : cnt (fun q => S.testBit q && (g q).isNone) n ≤ sz S := by
        rw [sz_n hS hn]
        exact cnt_mono (fun q _ h => by simp only [Bool.and_eq_true] at h; exact h.1)
      refine ow_b2 (s_cutChains hn hS ho (by rw [f1.at (by decide), f0.at (by decide)]; exact h6) l1 (by rw [f1.at (by decide), rd_s, if_pos ⟨rfl, rfl⟩])) (fun _ N2 h2 => ?_)
      obtain ⟨f2, z, g1, g2⟩ := h2
      exact ow_some ⟨(f0.trans (f1.sub (by decide))).trans (f2.sub (by decide)), _, z, by omega, hst2, g1, g2⟩
    · rw [if_neg (show ¬ nI 1 = 0 by decide)]
      refine ow_b2 (s_cutLayers hn hS ho (by rw [f0.at (by decide)]; exact h6) (fun x hx => by rw [f0.at (by decide)]; exact h7 x hx) (by rw [rd_s, if_pos ⟨rfl, rfl⟩])) (fun _ N1 h1 => ?_)
      obtain ⟨f1, d, z, g1, g2, g3, g4⟩ := h1
      exact ow_some ⟨f0.trans (f1.sub (by decide)), d, z, by omega, g2, g3, g4⟩
  · obtain ⟨f1, d, z, d1, d2, d3, d4⟩ := hN
    rw [s_bitCount, nI_bc hS14]
    refine ow_let ?_
    have e6 : N.1 6 0 - nI (sz S) = nI (n - sz S) := by
      rw [f1.at (by decide), h6]
      have : nI n = nI (n - sz S) + nI (sz S) := by rw [nI_add, Nat.sub_add_cancel hszS]
      rw [this, Int32.add_sub_cancel]
    rw [e6]
    refine ow_bind (P := fun y => fr [56, 57, 58, 59, 60, 61] M y.2 ∧ szs y.2 (d + (n - sz S)) (fun i => if i < d then z i else 1)) ?_ (fun y hy => ow_some ⟨hy.1, d + (n - sz S), _, by omega, hy.2, fun k hk => ⟨?_, ?_⟩⟩)
    · refine ow_for (n - sz S) (fun j s => s.1 = nI j ∧ fr [56, 57, 58, 59, 60, 61] M s.2 ∧ szs s.2 (d + j) (fun i => if i < d then z i else 1)) (fun j s hj hJ => ?_) (fun s hJ => ?_) 0 _ (Nat.zero_le _) ⟨rfl, f1, d3.1, fun i hi => ?_⟩
      · obtain ⟨q1, q2, q3⟩ := hJ
        rw [q1, if_pos (nI_lt hj (by omega))]
        refine ow_b2 (s_addPart (v := 1) (by omega) (by omega) q3) (fun _ P hP => ow_some ⟨nI_1 j, q2.trans (hP.1.sub (by decide)), hP.2.1, fun i hi => ?_⟩)
        have := hP.2.2 i hi
        dsimp only at this
        show P.1 57 i = nI (if i < d then z i else 1) ∧ (if i < d then z i else 1) ≤ 14
        by_cases e : i = d + j
        · rw [if_pos e] at this
          rw [if_neg (show ¬ i < d by omega)]; exact this
        · rw [if_neg e] at this; exact this
      · obtain ⟨q1, q2, q3⟩ := hJ
        rw [q1, if_neg (nI_nlt (Nat.le_refl _) (by omega))]
        exact ow_some ⟨q2, q3⟩
      · show N.1 57 i = nI (if i < d then z i else 1) ∧ (if i < d then z i else 1) ≤ 14
        rw [if_pos (show i < d by omega)]; exact d3.2 i (by omega)
    · -- what k of the other kind hold
      have hsum : sm (fun i => min (if i < d then z i else 1) k) (d + (n - sz S)) = sm (fun i => min (z i) k) d + (n - sz S) := by
        have : ∀ j, sm (fun i => min (if i < d then z i else 1) k) (d + j) = sm (fun i => min (z i) k) d + j := by
          intro j
          induction j with
          | zero => exact sm_eq d (fun i hi => by rw [if_pos hi])
          | succ j ih =>
            show sm _ (d + j) + min (if d + j < d then z (d + j) else 1) k = _
            rw [ih, if_neg (by omega)]
            omega
        exact this _
      rw [hsum]
      obtain ⟨hQ, hQk⟩ := fo_om (G := G') (n := n) (k := k)
      have hb := d4 k _ hQ hQk
      unfold most
      generalize fo (fun s => decide (om G' s ≤ k)) (2 ^ n) = Q at hQ hQk hb
      have e1 := cnt_split Q.testBit S.testBit n
      have e2 : cnt (fun i => Q.testBit i && S.testBit i) n = sz (Q &&& S) := by
        rw [sz_n (Nat.lt_of_le_of_lt Nat.and_le_left hQ) hn]
        exact cnt_eq (fun i _ => by rw [Nat.testBit_and])
      have e3 : cnt (fun i => Q.testBit i && !S.testBit i) n ≤ cnt (fun i => !S.testBit i) n := cnt_mono (fun i _ h => by simp only [Bool.and_eq_true] at h; exact h.2)
      have e4 := cnt_split (fun _ => true) S.testBit n
      rw [cnt_all] at e4
      simp only [Bool.true_and] at e4
      have e5 : cnt (fun i => S.testBit i) n = sz S := (sz_n hS hn).symm
      have e6 : cnt Q.testBit n = sz Q := (sz_n hQ hn).symm
      omega
    · have hsum : sm (fun i => min (if i < d then z i else 1) k) (d + (n - sz S)) = sm (fun i => min (z i) k) d + (n - sz S) := by
        have : ∀ j, sm (fun i => min (if i < d then z i else 1) k) (d + j) = sm (fun i => min (z i) k) d + j := by
          intro j
          induction j with
          | zero => exact sm_eq d (fun i hi => by rw [if_pos hi])
          | succ j ih =>
            show sm _ (d + j) + min (if d + j < d then z (d + j) else 1) k = _
            rw [ih, if_neg (by omega)]
            omega
        exact this _
      rw [hsum]
      have h1 : sm (fun i => min (z i) k) d ≤ sm (fun _ => k) d := sm_le d (fun i _ => Nat.min_le_right _ _)
      rw [sm_const] at h1
      have h2 : d * k ≤ m * k := Nat.mul_le_mul_right k d1
      omega
theorem s_together {M : oz_M} {d k : Nat} {z : Nat → Nat} (hd : d ≤ 14) (hk : k ≤ 14) (h : szs M d z) : f_Parts_together (nI k) M = some (nI (sm (fun i => min (z i) k) d)) := by
  unfold f_Parts_together
  refine ow_eq (ow_bind (P := fun y => y.1 = nI (sm (fun i => min (z i) k) d)) ?_ (fun y hy => ow_some hy))
  rw [h.1]
  refine ow_for d (fun i s => s.2 = nI i ∧ s.1 = nI (sm (fun i => min (z i) k) i)) (fun i s hi hJ => ?_) (fun s hJ => ?_) 0 _ (Nat.zero_le _) ⟨rfl, rfl⟩
  · obtain ⟨q1, q2⟩ := hJ
    rw [q1, q2, if_pos (nI_lt hi (by omega)), show oz_in (nI i) 14 = some i from oz_in_nI (by omega) (by decide)]
    simp only [Option.bind_some]
    have hzi := (h.2 i hi).2
    rw [(h.2 i hi).1]
    refine ow_some ⟨nI_1 i, ?_⟩
    have hm : (if nI k < nI (z i) then nI k else nI (z i)) = nI (min (z i) k) := by
      by_cases e : k < z i
      · rw [if_pos (nI_lt e (by omega)), Nat.min_eq_right (Nat.le_of_lt e)]
      · rw [if_neg (nI_nlt (Nat.le_of_not_lt e) (by omega)), Nat.min_eq_left (Nat.le_of_not_lt e)]
    show nI _ + (if nI k < nI (z i) then nI k else nI (z i)) = _
    rw [hm]; exact nI_add _ _
  · obtain ⟨q1, q2⟩ := hJ
    rw [q1, if_neg (nI_nlt (Nat.le_refl _) (by omega))]
    exact ow_some q2
theorem zb_sh : ∀ n, n < 15 → ∀ b, b < 32 → zb (nI (2 ^ n - 1) <<< (1 &&& 31)) b = decide (1 ≤ b ∧ b ≤ n) := by decide +kernel
theorem s_suffice {M : oz_M} {n c : Nat} {lt G G' : Nat → Nat → Bool} (hc : c = 0 ∧ G = apt lt ∧ G' = cmp lt ∨ c = 1 ∧ G = cmp lt ∧ G' = apt lt) (hn : n ≤ 14) (ho : ord n lt) (h6 : M.1 6 0 = nI n) (h7 : ∀ x, x < n → M.1 7 x = nI (blw lt n x)) (h8 : ∀ x, x < n → M.1 8 x = nI (blw (op lt) n x)) (hset : ∀ m, m ≤ 14 → M.1 (50 + c) m = nI (fo (fun s => decide (om G s ≤ m)) (2 ^ n))) (hsize : ∀ k, k ≤ 14 → M.1 (47 + (1 - c)) k = nI (most G' n k)) (hgk : ∀ k, k ≤ n → ∃ m, m ≤ n ∧ n + m * k ≤ most G n m + most G' n k) : ow (f_Parts_suffice (nI c) M) (fun r => r.1 = 1 ∧ fr [56, 57, 58, 59, 60, 61] M r.2) := by
  have hc1 : c < 2 := by omega
  have hin1 : oz_in (1 - nI c) 2 = some (1 - c) := by
    rcases hc with ⟨rfl, _⟩ | ⟨rfl, _⟩
    · exact oz_in_nI (j := 1) (by decide) (by decide)
    · exact oz_in_nI (j := 0) (by decide) (by decide)
  have hmn : ∀ k, most G' n k ≤ 14 := fun k => by
    have := sz_le (fo_om (G := G') (n := n) (k := k)).1 hn
    unfold most; omega
  unfold f_Parts_suffice
  refine ow_bind (P := fun y => fr [56, 57, 58, 59, 60, 61] M y.2.2 ∧ (∀ b, b < 32 → zb y.1 b = true → 1 ≤ b ∧ b ≤ n) ∧ ∀ k m, 1 ≤ k → k ≤ n → m < n + 1 → n + m * k ≤ most G n m + most G' n k → zb y.1 k = true) ?_ (fun y hy => ?_)
  · refine ow_for (n + 1) (fun m s => s.2.1 = nI m ∧ fr [56, 57, 58, 59, 60, 61] M s.2.2 ∧ (∀ b, b < 32 → zb s.1 b = true → 1 ≤ b ∧ b ≤ n) ∧ ∀ k m', 1 ≤ k → k ≤ n → m' < m → n + m' * k ≤ most G n m' + most G' n k → zb s.1 k = true) (fun m s hm hJ => ?_) (fun s hJ => ?_) 0 _ (Nat.zero_le _) ⟨rfl, fr.refl, fun b _ h => (by rw [zb_0] at h; cases h), fun k m' _ _ h => (by omega)⟩
    · obtain ⟨q1, q2, q3, q4⟩ := hJ
      rw [q1, q2.at (by decide), h6, if_neg (nI_nlt (by omega) (by omega)), show oz_in (nI c) 2 = some c from oz_in_nI hc1 (by decide), show oz_in (nI m) 15 = some m from oz_in_nI (by omega) (by decide)]
      simp only [Option.bind_some]
      have e50 : s.2.2.1 (50 + c) m = nI (fo (fun s => decide (om G s ≤ m)) (2 ^ n)) := by
        rw [q2.at (by simp; omega)]; exact hset m (by omega)
      rw [e50]
      refine ow_b2 (s_split hc hn ho (by rw [q2.at (by decide)]; exact h6) (fun x hx => by rw [q2.at (by decide)]; exact h7 x hx) (fun x hx => by rw [q2.at (by decide)]; exact h8 x hx)) (fun _ N hN => ?_)
      obtain ⟨fN, d, z, d1, d2, d3⟩ := hN
      dsimp only at fN d2
      have fMN := q2.trans fN
      rw [fMN.at (by decide), h6, hin1]
      refine ow_bind (P := fun y => (∀ b, b < 32 → zb y.1 b = true → 1 ≤ b ∧ b ≤ n) ∧ (∀ k m', 1 ≤ k → k ≤ n → m' < m → n + m' * k ≤ most G n m' + most G' n k → zb y.1 k = true) ∧ ∀ k, 1 ≤ k → k < n + 1 → n + m * k ≤ most G n m + most G' n k → zb y.1 k = true) ?_ (fun y hy => ow_some ⟨nI_1 m, fMN, hy.1, fun k m' h1 h2 h3 h4 => ?_⟩)
      · refine ow_for (n + 1) (fun k t => 1 ≤ k ∧ t.2 = nI k ∧ (∀ b, b < 32 → zb t.1 b = true → 1 ≤ b ∧ b ≤ n) ∧ (∀ k m', 1 ≤ k → k ≤ n → m' < m → n + m' * k ≤ most G n m' + most G' n k → zb t.1 k = true) ∧ ∀ k', 1 ≤ k' → k' < k → n + m * k' ≤ most G n m + most G' n k' → zb t.1 k' = true) (fun k t hk hJ => ?_) (fun t hJ => ?_) 1 _ (by omega) ⟨by omega, rfl, q3, q4, fun k' h1 h2 => (by omega)⟩
        · obtain ⟨g0, g1, g2, g3, g4⟩ := hJ
          rw [g1, if_neg (nI_nlt (by omega) (by omega)), s_together d1 (by omega) d2, show oz_in (nI k) 15 = some k from oz_in_nI (by omega) (by decide)]
          simp only [Option.bind_some]
          have e47 : N.1 (47 + (1 - c)) k = nI (most G' n k) := by
            rw [fMN.at (by simp; omega)]; exact hsize k (by omega)
          rw [e47]
          have hk14 := hmn k
          obtain ⟨l1, l2⟩ := d3 k g0
          have hbig : sm (fun i => min (z i) k) d < 2 ^ 31 := by
            have h1 : sm (fun i => min (z i) k) d ≤ sm (fun _ => k) d := sm_le d (fun i _ => Nat.min_le_right _ _)
            rw [sm_const] at h1
            have : d * k ≤ 14 * 14 := Nat.mul_le_mul d1 (by omega)
            omega
          refine ow_ite (fun e => ?_) (fun e => ?_)
          · refine ow_some ⟨by omega, nI_1 k, fun b hb hz => ?_, fun k' m' h1 h2 h3 h4 => ?_, fun k' h1 h2 h3 => ?_⟩
            · have hz : zb (t.1 ||| (1 <<< (nI k &&& 31))) b = true := hz
              rw [zb_or, zb_one k (by omega) b hb, Bool.or_eq_true, decide_eq_true_eq] at hz
              exact hz.elim (fun q => g2 b hb q) (fun q => by omega)
            · show zb (t.1 ||| (1 <<< (nI k &&& 31))) k' = true
              rw [zb_or, g3 k' m' h1 h2 h3 h4]; rfl
            · show zb (t.1 ||| (1 <<< (nI k &&& 31))) k' = true
              rw [zb_or, zb_one k (by omega) k' (by omega)]
              by_cases ek : k' = k
              · simp [ek]
              · rw [g4 k' h1 (by omega) h3]; rfl
          · refine ow_some ⟨by omega, nI_1 k, g2, g3, fun k' h1 h2 h3 => ?_⟩
            by_cases ek : k' = k
            · subst ek
              exfalso
              apply e
              congr 1
              omega
            · exact g4 k' h1 (by omega) h3
        · obtain ⟨g0, g1, g2, g3, g4⟩ := hJ
          rw [g1, if_pos (nI_lt (by omega) (by omega))]
          exact ow_some ⟨g2, g3, g4⟩
      · by_cases em : m' = m
        · subst em
          exact hy.2.2 k h1 (by omega) h4
        · exact hy.2.1 k m' h1 h2 (by omega) h4
    · obtain ⟨q1, q2, q3, q4⟩ := hJ
      rw [q1, q2.at (by decide), h6, if_pos (nI_lt (by omega) (by omega))]
      exact ow_some ⟨q2, q3, q4⟩
  · obtain ⟨y1, y2, y3⟩ := hy
    unfold f_Order_everything
    rw [y1.at (by decide), h6, nI_all (by omega)]
    refine ow_let ?_
    have e : y.1 = nI (2 ^ n - 1) <<< (1 &&& 31) := zb_ext (fun b hb => by
      rw [zb_sh n (by omega) b hb]
      cases hz : zb y.1 b with
      | true => simp only [decide_eq_true (y2 b hb hz)]
      | false =>
        refine (decide_eq_false (fun hb2 => ?_)).symm
        obtain ⟨m, m1, m2⟩ := hgk b hb2.2
        rw [y3 b m hb2.1 hb2.2 (by omega) m2] at hz
        cases hz)
    rw [if_pos e]
    exact ow_let (ow_some ⟨rfl, y1⟩)
theorem us_23 {M : oz_M} {n : Nat} {R : Nat → Nat → Bool} (h : zH M n R) {p1 p2 p3 : Int32} : ow (f_L23 p1 p2 p3 M) (fun N => zH N n R) := by
  have hn := h.n
  have ho := h.ord
  unfold f_L23
  refine law_ok (v := 1) (P := fun N => zH N n R) (lawA ?_) (fun N hN _ => ?_)
  · unfold f_Hall_check
    simp only [s_wants h.st, b2_some, el_inr]
    refine ow_b2 (s_measure h) (fun _ N hN => ?_)
    obtain ⟨hH, hT, _⟩ := hN
    dsimp only at hH hT
    refine ow_b2 (s_suffice (c := 0) (Or.inl ⟨rfl, rfl, rfl⟩) hn ho hH.at6 (fun x hx => (hH.rows hx).1) (fun x hx => (hH.rows hx).2.1) (fun m hm => (hT.1 m hm).2.2.1) (fun k hk => (hT.1 k hk).2.1) (fun k _ => ?_)) (fun v N2 h2 => ?_)
    · obtain ⟨m, m1, m2⟩ := gk_k (lt := ztb R) ho hn k
      exact ⟨m, m1, by rw [Nat.mul_comm m k]; exact m2⟩
    obtain ⟨v1, f1⟩ := h2
    dsimp only at v1 f1
    rw [v1, if_neg (by decide)]
    have hH2 := hH.zj (f1.zj (by decide))
    have hr : ∀ i, i ∉ [56, 57, 58, 59, 60, 61] → N2.1 i = N.1 i := fun i hi => (f1 i hi).1
    refine ow_b2 (s_suffice (c := 1) (Or.inr ⟨rfl, rfl, rfl⟩) hn ho hH2.at6 (fun x hx => (hH2.rows hx).1) (fun x hx => (hH2.rows hx).2.1) (fun m hm => ?_) (fun k hk => ?_) (fun k hk => ?_)) (fun v N3 h3 => ?_)
    · show N2.1 51 m = _
      rw [hr 51 (by decide)]; exact (hT.1 m hm).2.2.2
    · show N2.1 47 k = _
      rw [hr 47 (by decide)]; exact (hT.1 k hk).1
    · obtain ⟨m, m1, m2⟩ := gk_m (lt := ztb R) ho hn hk
      exact ⟨m, m1, by omega⟩
    · obtain ⟨v3, f3⟩ := h3
      dsimp only at v3 f3
      rw [v3, if_neg (by decide)]
      exact ow_some ⟨rfl, hH2.zj (f3.zj (by decide))⟩
  · unfold f_Model_check
    rw [if_neg hN.rst]
    simp only [Option.bind_some]
    rw [if_neg (um_0 _)]
    exact ow_some ⟨rfl, um_at _ _, rfl, hN.fz 0⟩
