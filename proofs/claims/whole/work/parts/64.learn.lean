/-! The levels; learn; adopt. -/
def zLv (M : oz_M) (n : Nat) (lt : Nat → Nat → Bool) : Prop := ∀ x, x < n → M.1 10 x = nI (lev lt n x) ∧ M.1 11 x = nI (lev (op lt) n x)
theorem nI_m1 (a : Nat) : nI a - 1 + (-1) = nI a - 1 - 1 := (Int32.sub_eq_add_neg _ _).symm
theorem nI_0m1 : nI 0 - 1 < 0 := by decide
theorem s_levels {M : oz_M} {n : Nat} {lt : Nat → Nat → Bool} (ho : ord n lt) (hn : n ≤ 14) (h6 : M.1 6 0 = nI n) (h7 : ∀ x, x < n → M.1 7 x = nI (blw lt n x)) (h8 : ∀ x, x < n → M.1 8 x = nI (blw (op lt) n x)) (hs : srt M n lt) : ow (f_Order_measureLevels M) (fun r => fr [10, 11] M r.2 ∧ zLv r.2 n lt) := by
  obtain ⟨p, hp1, hp2, hp3⟩ := hs
  have hsm : ∀ (lt : Nat → Nat → Bool), ord n lt → ∀ x, ∀ y, y < n → zb (nI (blw lt n x)) y = lt y x := fun lt ho x y hy => by rw [zb_nI _ (by omega), blw_bit ho]
  unfold f_Order_measureLevels
  refine ow_bind (P := fun y => fr [10, 11] M y.2 ∧ ∀ x, x < n → y.2.1 10 x = nI (lev lt n x)) ?_ (fun y hy => ?_)
  · refine ow_for n (fun k s => s.1 = nI k ∧ fr [10, 11] M s.2 ∧ ∀ x, x < n → p x < k → s.2.1 10 x = nI (lev lt n x)) (fun k s hk hJ => ?_) (fun s hJ => ?_) 0 _ (by omega) ⟨rfl, fr.refl, fun x _ h => by omega⟩
    · obtain ⟨q1, q2, q3⟩ := hJ
      have q6 : s.2.1 6 0 = nI n := by rw [q2.at (by decide)]; exact h6
      obtain ⟨x, hx, hpx, h12⟩ := hp2 k hk
      have e12 : s.2.1 12 k = nI x := by rw [q2.at (by decide)]; exact h12
      have e7 : s.2.1 7 x = nI (blw lt n x) := by rw [q2.at (by decide)]; exact h7 x hx
      rw [q1, q6, if_pos (nI_lt hk (by omega))]
      refine ow_bind (ow_in rfl (show k < 14 by omega) (by omega)) (fun j2 hj2 => ow_bind (ow_in rfl (show k < 14 by omega) (by omega)) (fun j3 hj3 => ?_))
      subst hj2
      subst hj3
      rw [e12]
      refine ow_bind (ow_in rfl (show x < 14 by omega) (by omega)) (fun j4 hj4 => ?_)
      subst hj4
      rw [e7]
      refine ow_bind (s_greatest hn q6 (f := lev lt n) (fun y hy hb => ⟨q3 y hy ?_, by have := lev_le (lt := lt) (n := n) (x := y) hn; omega⟩)) (fun v hv => ow_bind (ow_in rfl (show j4 < 14 by omega) (by omega)) (fun j6 hj6 => ow_let (ow_some ⟨nI_1 j3, q2.s (by decide), fun y hy hpy => ?_⟩)))
      · rw [hsm lt ho _ _ hy] at hb
        have := hp3 y j4 hb
        omega
      · subst hj6
        simp only [rd_s]
        by_cases e : y = j6
        · subst e
          rw [if_pos ⟨trivial, rfl⟩, hv, lev_S ho hn]
          rw [zmx_cong n (g := lev lt n) (Q := fun z => lt z y) (fun z hz => ⟨hsm lt ho _ _ hz, fun _ => rfl⟩)]
          exact nI_add 1 _
        · rw [if_neg (by simp [e])]
          refine q3 y hy ?_
          have : p y ≠ j3 := fun q => by
            have h1 := (hp1 y hy).2
            have h2 := (hp1 j6 hx).2
            rw [q] at h1
            rw [hpx] at h2
            exact e ((nI_eq (by omega) (by omega)).mp (h1.symm.trans h2))
          omega
    · obtain ⟨q1, q2, q3⟩ := hJ
      have q6 : s.2.1 6 0 = nI n := by rw [q2.at (by decide)]; exact h6
      rw [q1, q6, if_neg (nI_nlt (Nat.le_refl _) (by omega))]
      exact ow_some ⟨q2, fun x hx => q3 x hx (hp1 x hx).1⟩
  · obtain ⟨y1, y2⟩ := hy
    refine ow_bind (P := fun z => fr [11] y.2 z.2 ∧ ∀ x, x < n → z.2.1 11 x = nI (lev (op lt) n x)) ?_ (fun z hz => ow_some ⟨y1.trans (hz.1.sub (by decide)), fun x hx => ⟨?_, hz.2 x hx⟩⟩)
    · have y6 : y.2.1 6 0 = nI n := by rw [y1.at (by decide)]; exact h6
      rw [y6]
      refine ow_for n (fun k s => s.1 = nI (n - k) - 1 ∧ fr [11] y.2 s.2 ∧ ∀ x, x < n → n - k ≤ p x → s.2.1 11 x = nI (lev (op lt) n x)) (fun k s hk hJ => ?_) (fun s hJ => ?_) 0 _ (by omega) ⟨rfl, fr.refl, fun x hx h => by have := (hp1 x hx).1; omega⟩
      · obtain ⟨q1, q2, q3⟩ := hJ
        obtain ⟨i, hi⟩ : ∃ i, n - k = i + 1 := ⟨n - k - 1, by omega⟩
        rw [hi] at q1 q3
        rw [nI_pred] at q1
        have q6 : s.2.1 6 0 = nI n := by rw [q2.at (by decide)]; exact y6
        obtain ⟨x, hx, hpx, h12⟩ := hp2 i (by omega)
        have e12 : s.2.1 12 i = nI x := by rw [q2.at (by decide), y1.at (by decide)]; exact h12
        have e8 : s.2.1 8 x = nI (blw (op lt) n x) := by rw [q2.at (by decide), y1.at (by decide)]; exact h8 x hx
        rw [q1, if_neg (nI_pos (by omega))]
        refine ow_bind (ow_in rfl (show i < 14 by omega) (by omega)) (fun j2 hj2 => ow_bind (ow_in rfl (show i < 14 by omega) (by omega)) (fun j3 hj3 => ?_))
        subst hj2
        subst hj3
        rw [e12]
        refine ow_bind (ow_in rfl (show x < 14 by omega) (by omega)) (fun j4 hj4 => ?_)
        subst hj4
        rw [e8]
        refine ow_bind (s_greatest hn q6 (f := lev (op lt) n) (fun y hy hb => ⟨q3 y hy ?_, by have := lev_le (lt := op lt) (n := n) (x := y) hn; omega⟩)) (fun v hv => ow_bind (ow_in rfl (show j4 < 14 by omega) (by omega)) (fun j6 hj6 => ow_let (ow_some ⟨?_, q2.s (by decide), fun y hy hpy => ?_⟩)))
        · rw [hsm (op lt) (ord_op ho) _ _ hy] at hb
          have := hp3 j4 y hb
          omega
        · have e : n - (k + 1) = j3 := by omega
          rw [e]
          exact (Int32.sub_eq_add_neg _ _).symm
        · subst hj6
          simp only [rd_s]
          by_cases e : y = j6
          · subst e
            rw [if_pos ⟨trivial, rfl⟩, hv, lev_S (ord_op ho) hn]
            rw [zmx_cong n (g := lev (op lt) n) (Q := fun z => op lt z y) (fun z hz => ⟨hsm (op lt) (ord_op ho) _ _ hz, fun _ => rfl⟩)]
            exact nI_add 1 _
          · rw [if_neg (by simp [e])]
            refine q3 y hy ?_
            have : p y ≠ j3 := fun q => by
              have h1 := (hp1 y hy).2
              have h2 := (hp1 j6 hx).2
              rw [q] at h1
              rw [hpx] at h2
              exact e ((nI_eq (by omega) (by omega)).mp (h1.symm.trans h2))
            omega
      · obtain ⟨q1, q2, q3⟩ := hJ
        rw [Nat.sub_self] at q1
        rw [q1, if_pos nI_0m1]
        exact ow_some ⟨q2, fun x hx => q3 x hx (by omega)⟩
    · rw [hz.1.at (by decide)]
      exact y2 x hx
theorem s_learn {M : oz_M} {n : Nat} {R : Nat → Nat → Bool} (hW : zW n R) (hac : ∀ a, ¬ zT R a a) (hA : zA M n R) : ow (f_Order_learn M) (fun r => fr [6, 7, 8, 9, 10, 11, 12] M r.2 ∧ zO r.2 n R ∧ srt r.2 n (ztb R) ∧ zLv r.2 n (ztb R)) := by
  have ho := zord hW hac
  have hn := hW.2.1
  unfold f_Order_learn
  have hA1 : zA (oz_s M 6 0 (M.1 1 0)) n R := hA.fr (is := [6]) (fr.refl.s (by decide)) (by decide) (by decide)
  refine ow_let (ow_b2 (s_closeAbove hW hA1 (by rw [rd_s, if_pos ⟨rfl, rfl⟩]; exact hA.1)) (fun _ M3 h3 => ?_))
  obtain ⟨f3, a3⟩ := h3
  have hAb : zAb M3 n R := ⟨by rw [f3.at (by decide), rd_s, if_pos ⟨rfl, rfl⟩]; exact hA.1, a3⟩
  refine ow_bind (s_sides hW hAb) (fun y hy => ?_)
  obtain ⟨fy, oy⟩ := hy
  refine ow_b2 (s_sort ho hn oy.1.1 (fun x hx => (zO_rows hW hac oy hx).1)) (fun _ M16 h16 => ?_)
  obtain ⟨f16, s16⟩ := h16
  dsimp only at f16 s16
  have o16 : zO M16 n R := by
    unfold zO zAb
    rw [(f16 6 (by decide)).1, (f16 7 (by decide)).1, (f16 8 (by decide)).1, (f16 9 (by decide)).1]
    exact oy
  refine ow_b2 (s_levels ho hn o16.1.1 (fun x hx => (zO_rows hW hac o16 hx).1) (fun x hx => (zO_rows hW hac o16 hx).2.1) s16) (fun _ M18 h18 => ow_some ⟨?_, ?_, s16.at (h18.1 12 (by decide)).1, h18.2⟩)
  · have a : fr [6, 7, 8, 9, 10, 11, 12] M (oz_s M 6 0 (M.1 1 0)) := fr.refl.s (by decide)
    exact (((a.trans (f3.sub (by decide))).trans (fy.sub (by decide))).trans (f16.sub (by decide))).trans (h18.1.sub (by decide))
  · have f18 := h18.1
    dsimp only at f18
    unfold zO zAb
    rw [(f18 6 (by decide)).1, (f18 7 (by decide)).1, (f18 8 (by decide)).1, (f18 9 (by decide)).1]
    exact o16
theorem s_adopt {M : oz_M} {n : Nat} {R : Nat → Nat → Bool} (hW : zW n R) (hac : ∀ a, ¬ zT R a a) (hA : zA M n R) : ow (f_Hall_adopt M) (fun r => fr [0, 6, 7, 8, 9, 10, 11, 12, 45, 53] M r.2 ∧ zO r.2 n R ∧ srt r.2 n (ztb R) ∧ zLv r.2 n (ztb R) ∧ r.2.1 0 7 = 1 ∧ r.2.1 45 0 = 0 ∧ r.2.1 53 0 = 0 ∧ r.2.1 53 1 = M.1 53 1) := by
  unfold f_Hall_adopt
  refine ow_b2 (s_learn hW hac hA) (fun _ M2 h => ow_let (ow_let (ow_let (ow_some ?_))))
  obtain ⟨h1, h2, h3, h4⟩ := h
  dsimp only at h1 h2 h3 h4
  have f : fr [0, 45, 53] M2 (oz_s (oz_s (oz_s M2 45 0 0) 53 0 0) 0 7 1) := ((fr.refl.s (by decide)).s (by decide)).s (by decide)
  refine ⟨(h1.sub (by decide)).trans (f.sub (by decide)), ?_, h3.at (f 12 (by decide)).1, ?_, by simp [rd_s], by simp [rd_s], by simp [rd_s], ?_⟩
  · unfold zO zAb
    rw [(f 6 (by decide)).1, (f 7 (by decide)).1, (f 8 (by decide)).1, (f 9 (by decide)).1]
    exact h2
  · unfold zLv
    rw [(f 10 (by decide)).1, (f 11 (by decide)).1]
    exact h4
  · simp [rd_s]
    exact h1.at (by decide)
