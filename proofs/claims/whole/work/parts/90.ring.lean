/-! The class's ring. -/
theorem s_least {x : Int32} {v : Nat} (hv : v < 14) (h1 : zb x v = true) (h2 : ∀ y, y < v → zb x y = false) (M : oz_M) : f_Ring_least x M = some (nI v) := by
  unfold f_Ring_least
  refine ow_eq (ow_bind (P := oz_el (fun _ => False) (fun r => r = nI v)) ?_ (fun y hy => ?_))
  · refine ow_for v (fun k s => s = nI k) (fun k s hk hJ => ?_) (fun s hJ => ?_) 0 _ (Nat.zero_le _) rfl
    · rw [hJ, if_pos (show nI k < 14 from nI_lt (b := 14) (by omega) (by omega))]
      refine ow_bind (s_has (n := k) (by omega) M) (fun w hw => ?_)
      rw [h2 k hk] at hw
      rw [hw]
      exact ow_ite (fun _ => ow_some (nI_1 k)) (fun q => absurd rfl q)
    · rw [hJ, if_pos (show nI v < 14 from nI_lt (b := 14) hv (by omega))]
      refine ow_bind (s_has (n := v) (by omega) M) (fun w hw => ?_)
      rw [h1] at hw
      rw [hw]
      exact ow_ite (fun q => absurd q (by decide)) (fun _ => ow_some rfl)
  · cases y with
    | inl y => exact hy.elim
    | inr r => rw [el_inr] at hy ⊢; exact ow_some hy
theorem s_ringwrite {M : oz_M} {n L s : Nat} {R : Nat → Nat → Bool} (hW : zW n R) (hA : zA M n R) (hr : rng R L s) (h3 : M.1 3 0 = nI L) : ow (f_Ring_write (nI s) M) (fun r => fr [4, 5] M r.2 ∧ ∀ i, i < L → r.2.1 4 i = nI (fw R L s i)) := by
  have hn := hW.2.1
  obtain ⟨hL, hs⟩ := rng_le hW hr
  have hcw := fw_cw hr
  have hwn : ∀ i, i < L → fw R L s i < n := fun i hi => (hW.2.2 _ _ (hcw.2.2 i hi)).1
  unfold f_Ring_write
  rw [h3]
  refine ow_b2 (s_stepsRound hW hA hs (show L ≤ 14 by omega)) (fun v M2 h2 => ?_)
  obtain ⟨f2, hcase⟩ := h2
  dsimp only at f2 hcase
  have hB : zB M2 R s L := by
    rcases hcase with ⟨_, h⟩ | ⟨i, i1, i2, _, i4, _, i6⟩
    · exact absurd hr.2.1 (h L hr.1 (Nat.le_refl _))
    · have : i = L := by
        by_cases e : i < L
        · exact absurd i4 (hr.2.2.1 i i1 e s)
        · omega
      rw [this] at i6; exact i6
  refine ow_bind (P := fun y => fr [4] M2 y.2.2 ∧ ∀ i, i < L → y.2.2.1 4 i = nI (fw R L s i)) ?_ (fun y hy => ow_some ⟨(f2.sub (by decide)).trans (hy.1.sub (by decide)), hy.2⟩)
  refine ow_for L (fun i t => t.2.1 = nI i ∧ t.1 = nI (fw R L s i) ∧ fr [4] M2 t.2.2 ∧ ∀ j, j < i → t.2.2.1 4 j = nI (fw R L s j)) (fun i t hi hJ => ?_) (fun t hJ => ?_) 0 _ (Nat.zero_le _) ⟨rfl, rfl, fr.refl, fun j h => by omega⟩
  · obtain ⟨q1, q2, q3, q4⟩ := hJ
    have e3 : t.2.2.1 3 0 = nI L := by rw [q3.at (by decide), f2.at (by decide)]; exact h3
    have hw := hwn i hi
    have hnx := fw_next hr hi
    have hvn : fw R L s (i + 1) < n := (hW.2.2 _ _ hnx.1.1).2
    have e1 : nI L - 1 - nI i = nI (L - 1 - i) := by
      have a : nI L - 1 = nI (L - 1) := by
        have := nI_pred (L - 1)
        rwa [show L - 1 + 1 = L by omega] at this
      rw [a]
      have : nI (L - 1) = nI (L - 1 - i) + nI i := by rw [nI_add, Nat.sub_add_cancel (by omega)]
      rw [this, Int32.add_sub_cancel]
    rw [q1, q2, e3, if_pos (nI_lt hi (by omega)), show oz_in (nI i) 14 = some i from oz_in_nI (by omega) (by decide)]
    simp only [Option.bind_some]
    rw [show oz_in (nI (fw R L s i)) 14 = some (fw R L s i) from oz_in_nI (by omega) (by decide)]
    simp only [Option.bind_some]
    have f5 : fr [4] M2 (oz_s t.2.2 4 i (nI (fw R L s i))) := q3.s (by decide)
    rw [f5.at (show (3 : Nat) ∉ [4] by decide), f2.at (show (3 : Nat) ∉ [5] by decide), h3, e1, show oz_in (nI (L - 1 - i)) 15 = some (L - 1 - i) from oz_in_nI (by omega) (by decide)]
    simp only [Option.bind_some]
    have bits : ∀ b, b < 32 → (zb ((oz_s t.2.2 4 i (nI (fw R L s i))).1 2 (fw R L s i) &&& (oz_s t.2.2 4 i (nI (fw R L s i))).1 5 (L - 1 - i)) b = true ↔ R (fw R L s i) b = true ∧ zP R (L - 1 - i) b s) := fun b hb => by
      rw [zb_and, Bool.and_eq_true, f5.at (show (2 : Nat) ∉ [4] by decide), f5.at (show (5 : Nat) ∉ [4] by decide), hB (L - 1 - i) (by omega) b hb, f2.at (show (2 : Nat) ∉ [5] by decide), hA.2 _ (by omega) b hb]
    rw [s_least (v := fw R L s (i + 1)) (by omega) ((bits _ (by omega)).mpr hnx.1) (fun y hy => by
      cases hz : zb ((oz_s t.2.2 4 i (nI (fw R L s i))).1 2 (fw R L s i) &&& (oz_s t.2.2 4 i (nI (fw R L s i))).1 5 (L - 1 - i)) y with
      | false => rfl
      | true => exact absurd ((bits y (by omega)).mp hz) (hnx.2 y hy))]
    refine ow_let (ow_some ⟨nI_1 i, rfl, f5, fun j hj => ?_⟩)
    show (oz_s t.2.2 4 i (nI (fw R L s i))).1 4 j = _
    rw [rd_s]
    by_cases e : j = i
    · rw [if_pos ⟨rfl, e⟩, e]
    · rw [if_neg (by simp [e])]; exact q4 j (by omega)
  · obtain ⟨q1, q2, q3, q4⟩ := hJ
    rw [q1, q3.at (by decide), f2.at (by decide), h3, if_neg (nI_nlt (Nat.le_refl _) (by omega))]
    exact ow_some ⟨q3, q4⟩
theorem s_seekr {M : oz_M} {n L s : Nat} {R : Nat → Nat → Bool} (hW : zW n R) (hA : zA M n R) (hr : rng R L s) : ow (f_Ring_seek M) (fun r => fr [3, 4, 5] M r.2 ∧ r.2.1 3 0 = nI L ∧ ∀ i, i < L → r.2.1 4 i = nI (fw R L s i)) := by
  have hn := hW.2.1
  obtain ⟨hL, hs⟩ := rng_le hW hr
  unfold f_Ring_seek
  refine ow_let (ow_bind (P := fun y => y.1 = nI s ∧ fr [3, 5] M y.2.2 ∧ y.2.2.1 3 0 = nI L) ?_ (fun y hy => ?_))
  · refine ow_for n (fun k t => t.2.1 = nI k ∧ fr [3, 5] M t.2.2 ∧ ((t.2.2.1 3 0 = 0 ∧ ∀ x, x < k → ∀ i, 1 ≤ i → i ≤ n → ¬ zP R i x x) ∨ ∃ l st, 1 ≤ l ∧ l ≤ n ∧ st < k ∧ t.1 = nI st ∧ t.2.2.1 3 0 = nI l ∧ zP R l st st ∧ (∀ x, x < k → ∀ i, 1 ≤ i → i < l → ¬ zP R i x x) ∧ ∀ x, x < st → ¬ zP R l x x)) (fun k t hk hJ => ?_) (fun t hJ => ?_) 0 _ (Nat.zero_le _) ⟨rfl, fr.refl.s (by decide), Or.inl ⟨by rw [rd_s, if_pos ⟨rfl, rfl⟩], fun x h => by omega⟩⟩
    · obtain ⟨q1, q2, q3⟩ := hJ
      have hA2 := hA.fr q2 (by decide) (by decide)
      rw [q1, hA2.1, if_pos (nI_lt hk (by omega))]
      rcases q3 with ⟨c1, c2⟩ | ⟨l, st, c1, c2, c3, c4, c5, c6, c7, c8⟩
      · rw [if_pos c1]
        refine ow_let (ow_b2 (s_stepsRound hW hA2 hk hn) (fun v N hv => ?_))
        obtain ⟨hf, hr2⟩ := hv
        dsimp only at hf hr2
        rcases hr2 with ⟨e, h0⟩ | ⟨i, i1, i2, i3, i4, i5, _⟩
        · rw [e, if_neg (by decide)]
          refine ow_some ⟨nI_1 k, q2.trans (hf.sub (by decide)), Or.inl ⟨by show N.1 3 0 = 0; rw [hf.at (by decide)]; exact c1, fun x hx i h1 h2 => ?_⟩⟩
          by_cases ex : x = k
          · rw [ex]; exact h0 i h1 h2
          · exact c2 x (by omega) i h1 h2
        · rw [i3, if_pos (show 0 < nI i from nI_lt (a := 0) (by omega) (by omega))]
          refine ow_let (ow_some ⟨nI_1 k, (q2.trans (hf.sub (by decide))).s (by decide), Or.inr ⟨i, k, i1, i2, by omega, rfl, by rw [rd_s, if_pos ⟨rfl, rfl⟩], i4, fun x hx j h1 h2 => ?_, fun x hx => c2 x hx i i1 i2⟩⟩)
          by_cases ex : x = k
          · rw [ex]; exact i5 j h1 h2
          · exact c2 x (by omega) j h1 (by omega)
      · have hl0 : ¬ t.2.2.1 3 0 = 0 := by rw [c5]; exact nI_ne0 (by omega) (by omega)
        have el : nI l - 1 = nI (l - 1) := by
          have := nI_pred (l - 1)
          rwa [show l - 1 + 1 = l by omega] at this
        rw [if_neg hl0, c5, el]
        refine ow_let (ow_b2 (s_stepsRound hW hA2 hk (show l - 1 ≤ 14 by omega)) (fun v N hv => ?_))
        obtain ⟨hf, hr2⟩ := hv
        dsimp only at hf hr2
        rcases hr2 with ⟨e, h0⟩ | ⟨i, i1, i2, i3, i4, i5, _⟩
        · rw [e, if_neg (by decide)]
          refine ow_some ⟨nI_1 k, q2.trans (hf.sub (by decide)), Or.inr ⟨l, st, c1, c2, by omega, c4, by show N.1 3 0 = _; rw [hf.at (by decide)]; exact c5, c6, fun x hx i h1 h2 => ?_, c8⟩⟩
          by_cases ex : x = k
          · rw [ex]; exact h0 i h1 (by omega)
          · exact c7 x (by omega) i h1 h2
        · rw [i3, if_pos (show 0 < nI i from nI_lt (a := 0) (by omega) (by omega))]
          refine ow_let (ow_some ⟨nI_1 k, (q2.trans (hf.sub (by decide))).s (by decide), Or.inr ⟨i, k, i1, by omega, by omega, rfl, by rw [rd_s, if_pos ⟨rfl, rfl⟩], i4, fun x hx j h1 h2 => ?_, fun x hx => c7 x hx i i1 (by omega)⟩⟩)
          by_cases ex : x = k
          · rw [ex]; exact i5 j h1 h2
          · exact c7 x (by omega) j h1 (by omega)
    · obtain ⟨q1, q2, q3⟩ := hJ
      rw [q1, (hA.fr q2 (by decide) (by decide)).1, if_neg (nI_nlt (Nat.le_refl _) (by omega))]
      rcases q3 with ⟨c1, c2⟩ | ⟨l, st, c1, c2, c3, c4, c5, c6, c7, c8⟩
      · exact absurd hr.2.1 (c2 s hs L hr.1 hL)
      · have e1 : l = L := by
          by_cases h1 : l < L
          · exact absurd c6 (hr.2.2.1 l c1 h1 st)
          · by_cases h2 : L < l
            · exact absurd hr.2.1 (c7 s hs L hr.1 h2)
            · omega
        subst e1
        have e2 : st = s := by
          by_cases h1 : st < s
          · exact absurd c6 (hr.2.2.2 st h1)
          · by_cases h2 : s < st
            · exact absurd hr.2.1 (c8 s h2)
            · omega
        subst e2
        exact ow_some ⟨c4, q2, c5⟩
  · obtain ⟨y1, y2, y3⟩ := hy
    rw [y3, if_pos (show 0 < nI L from nI_lt (a := 0) (by have := hr.1; omega) (by omega)), y1]
    refine ow_b2 (s_ringwrite hW (hA.fr y2 (by decide) (by decide)) hr y3) (fun _ N hN => ow_some ⟨(y2.sub (by decide)).trans (hN.1.sub (by decide)), ?_, hN.2⟩)
    show N.1 3 0 = _
    rw [hN.1.at (by decide)]; exact y3
