/-! The law's case settle where arcs lead round; every step. -/
theorem s_find_no {M : oz_M} {n l : Nat} {R : Nat → Nat → Bool} (hW : zW n R) (hR : zR M n R) (hl1 : 1 ≤ l) (hl : l ≤ n) (hno : ∀ x, ¬ zP R l x x) : ow (f_Model_findRing (nI l) M) (fun r => r.1 = 0 ∧ fr [65, 70] M r.2) := by
  have hn := hW.2.1
  unfold f_Model_findRing
  refine ow_bind (P := oz_el (fun y => fr [65, 70] M y.2) (fun _ => False)) ?_ (fun y hy => ?_)
  · refine ow_for n (fun k s => s.1 = nI k ∧ fr [65, 70] M s.2) (fun k s hk hJ => ?_) (fun s hJ => ?_) 0 _ (Nat.zero_le _) ⟨rfl, fr.refl⟩
    · obtain ⟨q1, q2⟩ := hJ
      have hR2 := hR.fr q2 (by decide) (by decide)
      rw [q1, hR2.1, if_pos (nI_lt hk (by omega))]
      refine ow_b2 (s_closes hW hR2 hk hl1 hl) (fun v N hN => ?_)
      obtain ⟨f, hc⟩ := hN
      dsimp only at f hc
      rcases hc with ⟨c1, _⟩ | ⟨_, c2, _⟩
      · rw [c1, if_pos rfl]
        exact ow_some ⟨nI_1 k, q2.trans f⟩
      · exact absurd c2 (hno k)
    · obtain ⟨q1, q2⟩ := hJ
      rw [q1, (hR.fr q2 (by decide) (by decide)).1, if_neg (nI_nlt (Nat.le_refl _) (by omega))]
      exact ow_some q2
  · cases y with
    | inl y => rw [el_inl] at hy ⊢; exact ow_let (ow_some ⟨rfl, hy⟩)
    | inr r => exact hy.elim
theorem s_find {M : oz_M} {n L s : Nat} {R : Nat → Nat → Bool} (hW : zW n R) (hR : zR M n R) (hr : rng R L s) : ow (f_Model_findRing (nI L) M) (fun r => r.1 = 1 ∧ fr [65, 70] M r.2 ∧ ∀ i, i < L → r.2.1 65 i = nI (fw R L s i)) := by
  have hn := hW.2.1
  obtain ⟨hL, hs⟩ := rng_le hW hr
  unfold f_Model_findRing
  refine ow_bind (P := oz_el (fun _ => False) (fun r => r.1 = 1 ∧ fr [65, 70] M r.2 ∧ ∀ i, i < L → r.2.1 65 i = nI (fw R L s i))) ?_ (fun y hy => ?_)
  · refine ow_for s (fun k t => t.1 = nI k ∧ fr [65, 70] M t.2) (fun k t hk hJ => ?_) (fun t hJ => ?_) 0 _ (Nat.zero_le _) ⟨rfl, fr.refl⟩
    · obtain ⟨q1, q2⟩ := hJ
      have hR2 := hR.fr q2 (by decide) (by decide)
      rw [q1, hR2.1, if_pos (nI_lt (by omega) (by omega))]
      refine ow_b2 (s_closes hW hR2 (show k < n by omega) hr.1 hL) (fun v N hN => ?_)
      obtain ⟨f, hc⟩ := hN
      dsimp only at f hc
      rcases hc with ⟨c1, _⟩ | ⟨_, c2, _⟩
      · rw [c1, if_pos rfl]
        exact ow_some ⟨nI_1 k, q2.trans f⟩
      · exact absurd c2 (hr.2.2.2 k hk)
    · obtain ⟨q1, q2⟩ := hJ
      have hR2 := hR.fr q2 (by decide) (by decide)
      rw [q1, hR2.1, if_pos (nI_lt hs (by omega))]
      refine ow_b2 (s_closes hW hR2 hs hr.1 hL) (fun v N hN => ?_)
      obtain ⟨f, hc⟩ := hN
      dsimp only at f hc
      rcases hc with ⟨_, c2⟩ | ⟨c1, _, c3⟩
      · exact absurd hr c2
      · rw [c1, if_neg (by decide)]
        exact ow_let (ow_some ⟨rfl, q2.trans f, c3 hr⟩)
  · cases y with
    | inl y => exact hy.elim
    | inr r => rw [el_inr] at hy ⊢; exact ow_some hy
theorem s_Model_settler {M : oz_M} {n L s : Nat} {R : Nat → Nat → Bool} (hW : zW n R) (hR : zR M n R) (hr : rng R L s) : ow (f_Model_settle M) (fun r => r.1 = nI L ∧ fr [62, 64, 65, 70] M r.2 ∧ zR r.2 n R ∧ r.2.1 62 2 = 0 ∧ r.2.1 62 12 = 0 ∧ r.2.1 62 6 = nI L ∧ ∀ i, i < L → r.2.1 65 i = nI (fw R L s i)) := by
  have hn := hW.2.1
  obtain ⟨hL, hs⟩ := rng_le hW hr
  unfold f_Model_settle
  refine ow_let (ow_b2 (s_change _) (fun _ M3 hc => ?_))
  obtain ⟨c1, c2, c3, c4, c5⟩ := hc
  dsimp only at c1 c2 c3 c4 c5
  have f3 : fr [62, 64, 65, 70] M M3 := fun i hi => ⟨(c1 i (fun e => hi (by rw [e]; decide))).trans (oz_s_o i (fun e => hi (by rw [e]; decide))).1, by rw [c2]; rfl⟩
  have hR3 : zR M3 n R := by
    refine ⟨by rw [c4, rd_s, if_neg (by simp)]; exact hR.1, fun a ha b hb => ?_⟩
    rw [c1 63 (by decide), rd_s, if_neg (by simp)]
    exact hR.2 a ha b hb
  refine ow_bind (s_copy hR3) (fun y9 h9 => ?_)
  refine ow_bind (s_close hW (by rw [h9.1.at (by decide)]; exact hR3.1) h9.2) (fun y29 h29 => ?_)
  have f29 : fr [64] M3 y29.2 := h9.1.trans h29.1
  have e62 : y29.2.1 62 1 = nI n := by rw [f29.at (by decide)]; exact hR3.1
  refine ow_bind (s_roundabout hW.2.1 e62 h29.2.1) (fun y35 h35 => ?_)
  have hzT : zT R s s := by
    obtain ⟨k, hk⟩ : ∃ k, L = k + 1 := ⟨L - 1, by have := hr.1; omega⟩
    have := hr.2.1
    rw [hk] at this
    exact zP_T k this
  rcases h35 with ⟨_, h0⟩ | ⟨e, _⟩
  · exact absurd ((h29.2.2 s s (by omega) (by omega)).mpr hzT) (h0 s hs)
  · rw [e, if_neg (by decide)]
    have hR29 : zR y29.2 n R := hR3.fr f29 (by decide) (by decide)
    refine ow_bind (P := fun y => y.1 = nI L ∧ fr [65, 70] y29.2 y.2 ∧ ∀ i, i < L → y.2.1 65 i = nI (fw R L s i)) ?_ (fun y hy => ?_)
    · refine ow_for L (fun k t => 1 ≤ k ∧ t.1 = nI k ∧ fr [65, 70] y29.2 t.2) (fun k t hk hJ => ?_) (fun t hJ => ?_) 1 _ hr.1 ⟨Nat.le_refl _, rfl, fr.refl⟩
      · obtain ⟨q0, q1, q2⟩ := hJ
        rw [q1]
        refine ow_b2 (s_find_no hW (hR29.fr q2 (by decide) (by decide)) q0 (by omega) (fun x => hr.2.2.1 k q0 hk x)) (fun v N hN => ?_)
        obtain ⟨v1, f⟩ := hN
        dsimp only at v1 f
        rw [v1, if_pos rfl]
        exact ow_some ⟨by omega, nI_1 k, q2.trans f⟩
      · obtain ⟨q0, q1, q2⟩ := hJ
        rw [q1]
        refine ow_b2 (s_find hW (hR29.fr q2 (by decide) (by decide)) hr) (fun v N hN => ?_)
        obtain ⟨v1, f, g⟩ := hN
        dsimp only at v1 f g
        rw [v1, if_neg (by decide)]
        exact ow_some ⟨rfl, q2.trans f, g⟩
    · obtain ⟨y1, y2, y3⟩ := hy
      have f4 : fr [62, 64, 65, 70] M (oz_s y.2 62 6 y.1) := ((f3.trans (f29.sub (by decide))).trans (y2.sub (by decide))).s (by decide)
      refine ow_let (ow_some ⟨y1, f4, ⟨?_, fun a ha b hb => ?_⟩, ?_, ?_, ?_, fun i hi => ?_⟩)
      · rw [rd_s, if_neg (by simp), y2.at (by decide)]; exact hR29.1
      · rw [rd_s, if_neg (by simp), y2.at (by decide)]; exact hR29.2 a ha b hb
      · rw [rd_s, if_neg (by simp), y2.at (by decide), f29.at (by decide)]; exact c5.1
      · rw [rd_s, if_neg (by simp), y2.at (by decide), f29.at (by decide)]; exact c5.2.2.1
      · rw [rd_s, if_pos ⟨rfl, rfl⟩]; exact y1
      · rw [rd_s, if_neg (by simp)]; exact y3 i hi
theorem us_3 {M : oz_M} {n : Nat} {R : Nat → Nat → Bool} {p1 p2 p3 : Int32} (hW : zW n R) (hA : zA M n R) (hR : zR M n R) (h52 : M.1 52 0 = 0) : ow (f_L3 p1 p2 p3 M) (fun N => zN N n R ∨ zH N n R) := by
  by_cases hac : ∀ a, ¬ zT R a a
  · exact ow_mono (us_3a hW hA hR h52 hac) (fun N h => Or.inr h)
  · obtain ⟨a, ha⟩ : ∃ a, zT R a a := by
      refine Classical.byContradiction (fun hno => hac (fun a q => hno ⟨a, q⟩))
    obtain ⟨L, s, hr⟩ := rng_ex ha
    obtain ⟨hL, hs⟩ := rng_le hW hr
    have hn := hW.2.1
    unfold f_L3 f_Hall_settle
    obtain ⟨⟨u1, M1⟩, e1, f1, g1⟩ := s_unsettle M
    dsimp only at f1 g1
    rw [e1]
    simp only [b2_some]
    obtain ⟨⟨u2, M2⟩, e2, f2, g2, g3⟩ := s_seekr hW (hA.fr f1 (by decide) (by decide)) hr
    dsimp only at f2 g2 g3
    rw [e2]
    simp only [b2_some]
    rw [g2, if_neg (nI_ne0 (by have := hr.1; omega) (by omega))]
    simp only [b2_some]
    have f12 : fr [0, 3, 4, 5, 53] M M2 := (f1.sub (by decide)).trans (f2.sub (by decide))
    obtain ⟨⟨u3, M3⟩, e3, v3, f3, r3, h1, h2, h3, h4⟩ := s_Model_settler hW (hR.fr f12 (by decide) (by decide)) hr
    dsimp only at v3 f3 r3 h1 h2 h3 h4
    rw [e3]
    simp only [b2_some]
    rw [v3, if_pos rfl]
    refine ow_some (Or.inl ⟨hW, (hA.fr f12 (by decide) (by decide)).fr f3 (by decide) (by decide), r3, ?_, ?_, h1, h2, ?_, L, by omega, ?_, h3, fun i hi => ?_⟩)
    · rw [f3.at (by decide), f2.at (by decide)]; exact g1.1
    · rw [f3.at (by decide), f2.at (by decide)]; exact g1.2.2
    · rw [f3.at (by decide), f12.at (by decide)]; exact h52
    · rw [f3.at (by decide)]; exact g2
    · rw [f3.at (by decide), g3 i hi, h4 i hi]
/-- what stands between the calls -/
def zI (M : oz_M) : Prop := ∃ n R, zN M n R ∨ zH M n R
theorem zF_N {M : oz_M} {n : Nat} {R : Nat → Nat → Bool} (h : zF M n R) (h52 : M.1 52 0 = 0) : zN M n R := by
  obtain ⟨h1, h2, h3, ⟨u1, u2, u3⟩, v1, v2, v3, v4⟩ := h
  exact ⟨h1, h2, h3, u1, u3, v1, v3, h52, 0, by omega, by rw [u2]; rfl, by rw [v2]; rfl, fun i hi => by omega⟩
theorem zI_M0 : zI oz_M0 := ⟨1, z0, Or.inl (zF_N z_M0 rfl)⟩
theorem step_N {M : oz_M} {n : Nat} {R : Nat → Nat → Bool} (h : zN M n R) (p0 p1 p2 p3 : Int32) : ow (f_step p0 p1 p2 p3 M) zI := by
  have hh := h
  obtain ⟨hW, hA, hR, h07, h531, h622, h6212, h52, r, hr, r3, r62, rr⟩ := h
  have keep : ∀ v, zI (oz_s M 62 0 v) := fun v => ⟨n, R, Or.inl (hh.zk zk_s)⟩
  unfold f_step
  refine ow_ite (fun _ => ow_mono ul_0 (fun N q => ?_)) (fun _ => ?_)
  · rcases q with rfl | ⟨⟨m, q1⟩, q2⟩
    · exact keep 1
    · exact ⟨m, _, Or.inl (zF_N q1 (by rw [q2]; exact h52))⟩
  refine ow_ite (fun _ => ow_mono (ul_1 hW hA hR) (fun N q => ?_)) (fun _ => ?_)
  · rcases q with rfl | ⟨⟨S, q1⟩, q2⟩
    · exact keep 1
    · exact ⟨n, S, Or.inl (zF_N q1 (by rw [q2]; exact h52))⟩
  refine ow_ite (fun _ => ow_mono (ul_2 hW hA hR) (fun N q => ?_)) (fun _ => ?_)
  · rcases q with rfl | ⟨⟨S, q1⟩, q2⟩
    · exact keep 1
    · exact ⟨n, S, Or.inl (zF_N q1 (by rw [q2]; exact h52))⟩
  refine ow_ite (fun _ => ow_mono (us_3 hW hA hR h52) (fun N q => ⟨n, R, q⟩)) (fun _ => ?_)
  refine ow_ite (fun _ => ow_is (ul_4 hr r3 r62 rr) (keep 0)) (fun _ => ?_)
  refine ow_ite (fun _ => ow_is (ul_5 h07 h622) (keep 1)) (fun _ => ?_)
  refine ow_ite (fun _ => ow_is (ul_6 h07 h622) (keep 1)) (fun _ => ?_)
  refine ow_ite (fun _ => ow_is (ul_7 h07 h622) (keep 1)) (fun _ => ?_)
  refine ow_ite (fun _ => ow_is (ul_8 h07 h622) (keep 1)) (fun _ => ?_)
  refine ow_ite (fun _ => ow_is (ul_9 h07 h622) (keep 1)) (fun _ => ?_)
  refine ow_ite (fun _ => ow_is (ul_10 h07 h622) (keep 1)) (fun _ => ?_)
  refine ow_ite (fun _ => ow_is (ul_11 h07 h622) (keep 1)) (fun _ => ?_)
  refine ow_ite (fun _ => ow_is (ul_12 h07 h622) (keep 1)) (fun _ => ?_)
  refine ow_ite (fun _ => ow_is (ul_13 h07 h622) (keep 1)) (fun _ => ?_)
  refine ow_ite (fun _ => ow_is (ul_14 h07 h622) (keep 1)) (fun _ => ?_)
  refine ow_ite (fun _ => ow_is (ul_15 h531 h6212) (keep 0)) (fun _ => ?_)
  refine ow_ite (fun _ => ow_is (ul_16 h531 h6212) (keep 0)) (fun _ => ?_)
  refine ow_ite (fun _ => ow_is (ul_17 h531 h6212) (keep 0)) (fun _ => ?_)
  refine ow_ite (fun _ => ow_is (ul_18 h07 h622) (keep 1)) (fun _ => ?_)
  refine ow_ite (fun _ => ow_is (ul_19 h07 h622) (keep 1)) (fun _ => ?_)
  refine ow_ite (fun _ => ow_is (ul_20 h07 h622) (keep 1)) (fun _ => ?_)
  refine ow_ite (fun _ => ow_is (ul_21 h07 h622) (keep 1)) (fun _ => ?_)
  refine ow_ite (fun _ => ow_is (ul_22 h07 h622) (keep 1)) (fun _ => ?_)
  refine ow_ite (fun _ => ow_is (ul_23 h07 h622) (keep 1)) (fun _ => ?_)
  exact ow_some ⟨n, R, Or.inl hh⟩
theorem step_H {M : oz_M} {n : Nat} {R : Nat → Nat → Bool} (h : zH M n R) (p0 p1 p2 p3 : Int32) : ow (f_step p0 p1 p2 p3 M) zI := by
  have hW := h.W
  have hA := h.1.2.1
  have hR := h.R
  have h52 := h.1.2.2.2.2.2.2
  have keep : ∀ v, zI (oz_s M 62 0 v) := fun v => ⟨n, R, Or.inr (h.fz v)⟩
  have up : ∀ N, zH N n R → zI N := fun N q => ⟨n, R, Or.inr q⟩
  have upk : ∀ N, zk M N → zI N := fun N q => ⟨n, R, Or.inr (h.zj q.zj)⟩
  unfold f_step
  refine ow_ite (fun _ => ow_mono ul_0 (fun N q => ?_)) (fun _ => ?_)
  · rcases q with rfl | ⟨⟨m, q1⟩, q2⟩
    · exact keep 1
    · exact ⟨m, _, Or.inl (zF_N q1 (by rw [q2]; exact h52))⟩
  refine ow_ite (fun _ => ow_mono (ul_1 hW hA hR) (fun N q => ?_)) (fun _ => ?_)
  · rcases q with rfl | ⟨⟨S, q1⟩, q2⟩
    · exact keep 1
    · exact ⟨n, S, Or.inl (zF_N q1 (by rw [q2]; exact h52))⟩
  refine ow_ite (fun _ => ow_mono (ul_2 hW hA hR) (fun N q => ?_)) (fun _ => ?_)
  · rcases q with rfl | ⟨⟨S, q1⟩, q2⟩
    · exact keep 1
    · exact ⟨n, S, Or.inl (zF_N q1 (by rw [q2]; exact h52))⟩
  refine ow_ite (fun _ => ow_mono (us_3 hW hA hR h52) (fun N q => ⟨n, R, q⟩)) (fun _ => ?_)
  refine ow_ite (fun _ => ow_is (ul_4 (r := 0) (by omega) (by rw [h.1.2.2.1]; rfl) (by rw [h.1.2.2.2.1]; rfl) (fun i hi => by omega)) (keep 0)) (fun _ => ?_)
  refine ow_ite (fun _ => ow_mono (us_5 h.1.1) upk) (fun _ => ?_)
  refine ow_ite (fun _ => ow_mono (us_6 h.1.1) upk) (fun _ => ?_)
  refine ow_ite (fun _ => ow_mono (us_7 h) up) (fun _ => ?_)
  refine ow_ite (fun _ => ow_mono (us_8 h) up) (fun _ => ?_)
  refine ow_ite (fun _ => ow_mono (us_9 h) up) (fun _ => ?_)
  refine ow_ite (fun _ => ow_mono (us_10 h) up) (fun _ => ?_)
  refine ow_ite (fun _ => ow_mono (us_11 h) up) (fun _ => ?_)
  refine ow_ite (fun _ => ow_mono (us_12 h) up) (fun _ => ?_)
  refine ow_ite (fun _ => ow_mono (us_13 h) up) (fun _ => ?_)
  refine ow_ite (fun _ => ow_mono (us_14 h) up) (fun _ => ?_)
  refine ow_ite (fun _ => ow_mono (us_15 h) up) (fun _ => ?_)
  refine ow_ite (fun _ => ow_mono (us_16 h) up) (fun _ => ?_)
  refine ow_ite (fun _ => ow_mono (us_17 h) up) (fun _ => ?_)
  refine ow_ite (fun _ => ow_mono (us_18 h) up) (fun _ => ?_)
  refine ow_ite (fun _ => ow_mono (us_19 h) up) (fun _ => ?_)
  refine ow_ite (fun _ => ow_mono (us_20 h) up) (fun _ => ?_)
  refine ow_ite (fun _ => ow_mono (us_21 h) (fun N q => ⟨n, _, Or.inr q⟩)) (fun _ => ?_)
  refine ow_ite (fun _ => ow_mono (us_22 h) (fun N ⟨m, S, q⟩ => ⟨m, S, Or.inr q⟩)) (fun _ => ?_)
  refine ow_ite (fun _ => ow_mono (us_23 h) up) (fun _ => ?_)
  exact ow_some ⟨n, R, Or.inr h⟩
theorem zI_step : ∀ (M : oz_M) (p0 p1 p2 p3 : Int32), zI M → ∃ M1, f_step p0 p1 p2 p3 M = some M1 ∧ zI M1 := fun M p0 p1 p2 p3 h => by
  obtain ⟨n, R, h | h⟩ := h
  · exact step_N h p0 p1 p2 p3
  · exact step_H h p0 p1 p2 p3
