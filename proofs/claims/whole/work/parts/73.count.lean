/-! The reference's count; the law's case. -/
theorem s_cov {M : oz_M} {n : Nat} {R : Nat → Nat → Bool} (hW : zW n R) (h62 : M.1 62 1 = nI n) (h : zLt M n R) {a b : Nat} (ha : a < n) (hb : b < n) : f_Model_covers (nI b) (nI a) M = some (bi (zcov R a b)) := ow_eq (s_covers hW h62 h ha hb)
theorem s_Model_count {M : oz_M} {n : Nat} {R : Nat → Nat → Bool} (h : zH M n R) {w : Nat} (hw : w ≤ 6) : ow (f_Model_count (nI w) M) (fun r => r.1 = nI (cnv n R w) ∧ r.2.1 62 0 = 0 ∧ r.2.2 74 0 = M.2 74 0 ∧ zH r.2 n R) := by
  have hn := h.n
  have ho := h.ord
  have hp := p2_14 hn
  have hpp := p2_pos n
  unfold f_Model_count
  rw [if_neg h.rst, ok_up (c := 6) (m := 6) rfl hw (by decide)]
  simp only [Option.bind_some]
  rw [if_neg (um_0 _)]
  refine ow_b2 (s_knowH (h.fz 0)) (fun _ N hN => ?_)
  obtain ⟨hH, hK, h0, h74⟩ := hN
  dsimp only at hH hK h0 h74
  have g0 : N.1 62 0 = 0 := h0.trans (um_at _ _)
  have g74 : N.2 74 0 = M.2 74 0 := by rw [h74]; rfl
  rw [hH.at62, nI_all (by omega), show oz_in (nI (2 ^ n - 1)) 16384 = some (2 ^ n - 1) from oz_in_nI (by omega) (by decide)]
  have hfull := hK _ (p2_m1 n)
  have e0 : w = 0 ∨ w = 1 ∨ w = 2 ∨ w = 3 ∨ w = 4 ∨ w = 5 ∨ w = 6 := by omega
  rcases e0 with rfl | rfl | rfl | rfl | rfl | rfl | rfl
  · rw [if_pos (by decide), if_pos (by decide)]
    exact ow_let (ow_some ⟨hfull.1, g0, g74, hH⟩)
  · rw [if_pos (by decide), if_neg (by decide), if_pos (by decide)]
    exact ow_let (ow_some ⟨hfull.2.1, g0, g74, hH⟩)
  · rw [if_pos (by decide), if_neg (by decide), if_neg (by decide)]
    exact ow_some ⟨rfl, g0, g74, hH⟩
  · rw [if_neg (by decide), if_pos (by decide)]
    simp only [show (nI 3 : Int32) = 3 from rfl, if_true]
    have := s_tally2 hn (t := fun x y => f_Model_isLess x y N) (B := nI n) rfl (fun a b => ztb R a b) (fun x y hx hy => s_less hH.L (by omega) (by omega))
    rw [this]
    refine ow_let (ow_some ⟨?_, g0, g74, hH⟩)
    show nI _ = nI _
    congr 1
    simp only [cnv, show ¬ (3 : Nat) = 0 by decide, show ¬ (3 : Nat) = 1 by decide, show ¬ (3 : Nat) = 2 by decide, if_false, if_true]
    have e := sm_swap (fun a b => if ztb R a b = true then 1 else 0) n n
    simp only [← cnt_sm] at e
    exact e
  · rw [if_neg (by decide), if_pos (by decide)]
    simp only [show ¬ (nI 4 : Int32) = 3 by decide, if_false]
    have := s_tally2 hn (t := fun x y => f_Model_covers y x N) (B := nI n) rfl (fun a b => zcov R a b) (fun x y hx hy => s_cov hH.W hH.at62 hH.L hx hy)
    rw [this]
    refine ow_let (ow_some ⟨?_, g0, g74, hH⟩)
    show nI _ = nI _
    congr 1
    simp only [cnv, show ¬ (4 : Nat) = 0 by decide, show ¬ (4 : Nat) = 1 by decide, show ¬ (4 : Nat) = 2 by decide, show ¬ (4 : Nat) = 3 by decide, if_false, if_true]
    have e := sm_swap (fun a b => if zcov R a b = true then 1 else 0) n n
    simp only [← cnt_sm] at e
    exact e
  · rw [if_neg (by decide), if_neg (by decide)]
    simp only [show (nI 5 : Int32) = 5 from rfl, if_true]
    have := s_tallyS hpp (by omega) (t := fun y => (f_Model_isClosed y N).bind fun v15 => some v15) (B := nI (2 ^ n - 1)) rfl (fun S => tb (clo (ztb R) S)) (fun S hS => by
      rw [s_isClosed hn ho hH.at62 hH.L]; rfl)
    rw [this]
    refine ow_let (ow_some ⟨?_, g0, g74, hH⟩)
    show nI _ = nI _
    congr 1
    simp only [cnv, show ¬ (5 : Nat) = 0 by decide, show ¬ (5 : Nat) = 1 by decide, show ¬ (5 : Nat) = 2 by decide, show ¬ (5 : Nat) = 3 by decide, show ¬ (5 : Nat) = 4 by decide, if_false, if_true]
    exact (anti_clo ho).symm
  · rw [if_neg (by decide), if_neg (by decide)]
    simp only [show ¬ (nI 6 : Int32) = 5 by decide, if_false]
    have := s_tallyS hpp (by omega) (t := fun y => (f_Model_sizeOf y N).bind fun v10 => (some (2 ^ n - 1)).bind fun j11 => if v10 = (N.1 67 j11) then ((f_Model_isAntichain y N).bind fun v12 => if v12 = 0 then (some 0) else (some 1)) else (some 0)) (B := nI (2 ^ n - 1)) rfl (fun S => tb (wide (ztb R) n (om (apt (ztb R)) (2 ^ n - 1)) S)) (fun S hS => by
      have o1 := om_14 (G := apt (ztb R)) hn (p2_m1 n)
      have o2 := sz_le hS hn
      rw [s_sizeOf, s_isAnti hn hH.at62 hH.L hS]
      simp only [Option.bind_some]
      rw [hfull.2.1]
      by_cases e : sz S = om (apt (ztb R)) (2 ^ n - 1)
      · rw [if_pos (by rw [e])]
        have : tb (clq (apt (ztb R)) S) = tb (wide (ztb R) n (om (apt (ztb R)) (2 ^ n - 1)) S) := tb_eq (by
          rw [tb_iff, anti_clq ho]
          exact ⟨fun q => ⟨hS, q, e⟩, fun q => q.2.1⟩)
        rw [this]
        cases tb (wide (ztb R) n (om (apt (ztb R)) (2 ^ n - 1)) S) <;> rfl
      · rw [if_neg (fun q => e ((nI_eq (by omega) (by omega)).mp q)), tb_no.mpr (show ¬ wide (ztb R) n (om (apt (ztb R)) (2 ^ n - 1)) S from fun q => e q.2.2)]
        rfl)
    rw [this]
    refine ow_let (ow_some ⟨?_, g0, g74, hH⟩)
    show nI _ = nI _
    congr 1
theorem us_8 {M : oz_M} {n : Nat} {R : Nat → Nat → Bool} (h : zH M n R) {p1 p2 p3 : Int32} : ow (f_L8 p1 p2 p3 M) (fun N => zH N n R) := by
  unfold f_L8
  rcases upto_cases p1 (m := 6) (by decide) with ⟨w, hw, rfl⟩ | hx
  · exact law_ok (P := fun N => zH N n R) (lawA (s_Hall_count h hw)) (fun N hN _ => s_Model_count hN hw)
  · refine law_thr (k := 2) (by decide) (P := fun N => N = M) ?_ (fun N hN => ?_)
    · unfold f_Law_count f_Hall_count
      simp only [s_wants h.st, b2_some, el_inr, el_inl, s_up_no (c := 6) hx]
      exact ow_some ⟨rfl, rfl⟩
    · subst hN
      unfold f_Model_count
      rw [if_neg h.rst, ref_up (c := 6) hx]
      simp only [Option.bind_some]
      rw [if_pos (um_posk _ (by decide))]
      exact ow_some ⟨um_at _ _, h.fz 2⟩
/-! antichain -/
theorem s_isUnder {M : oz_M} {n S T : Nat} {R : Nat → Nat → Bool} (hn : n ≤ 14) (h62 : M.1 62 1 = nI n) (hL : zLt M n R) (hS : S < 2 ^ n) (hT : T < 2 ^ n) (b : Bool) : f_Model_isUnder (nI S) (nI T) (bi b) M = some (bi (tb (und (if b then op (ztb R) else ztb R) S T))) := by
  let lt : Nat → Nat → Bool := if b then op (ztb R) else ztb R
  let Q : Nat → Nat → Bool := fun x y => T.testBit y && (decide (x = y) || lt x y)
  let ex : Nat → Nat → Bool := fun x l => !S.testBit x || !al (fun y => !Q x y) l
  have hex : ∀ x, ex x n = true ↔ (S.testBit x = true → ∃ y, T.testBit y = true ∧ (x = y ∨ lt x y = true)) := by
    intro x
    show (!S.testBit x || !al (fun y => !Q x y) n) = true ↔ _
    cases hx : S.testBit x with
    | false => simp
    | true =>
      simp only [Bool.not_true, Bool.false_or, Bool.not_eq_true', true_implies]
      constructor
      · intro h
        have : ∃ y, y < n ∧ Q x y = true := by
          refine Classical.byContradiction (fun hno => ?_)
          have : al (fun y => !Q x y) n = true := (al_iff n).mpr (fun y hy => by
            cases hq : Q x y with
            | false => rfl
            | true => exact absurd ⟨y, hy, hq⟩ hno)
          rw [h] at this; cases this
        obtain ⟨y, _, hq⟩ := this
        have hq : (T.testBit y && (decide (x = y) || lt x y)) = true := hq
        simp only [Bool.and_eq_true, Bool.or_eq_true, decide_eq_true_eq] at hq
        exact ⟨y, hq⟩
      · rintro ⟨y, h1, h2⟩
        cases ha : al (fun y => !Q x y) n with
        | false => rfl
        | true =>
          have := (al_iff n).mp ha y (bit_in hT h1)
          have hq : Q x y = true := by
            show (T.testBit y && (decide (x = y) || lt x y)) = true
            simp only [Bool.and_eq_true, Bool.or_eq_true, decide_eq_true_eq]
            exact ⟨h1, h2⟩
          simp only [hq] at this
          cases this
  have e : al (fun x => ex x n) n = tb (und lt S T) := tb_eq (by
    rw [al_iff]
    constructor
    · intro h x hx
      exact (hex x).mp (h x (bit_in hS hx)) hx
    · intro h x _
      exact (hex x).mpr (fun hx => h x hx))
  show _ = some (bi (tb (und lt S T)))
  rw [← e]
  unfold f_Model_isUnder
  refine ow_eq (ow_bind (P := fun y => y.1 = bi (al (fun x => ex x n) n)) ?_ (fun y hy => by rw [hy, z_bi]; exact ow_some rfl))
  rw [h62]
  refine ow_for n (fun k s => s.2 = nI k ∧ s.1 = bi (al (fun x => ex x n) k)) (fun k s hk hJ => ?_) (fun s hJ => ?_) 0 _ (by omega) ⟨rfl, rfl⟩
  · obtain ⟨q1, q2⟩ := hJ
    rw [q1, q2, if_pos (nI_lt hk (by omega)), s_mhas S (by omega)]
    refine ow_let (ow_bind (P := fun z => z = bi (!S.testBit k)) (by cases S.testBit k <;> exact ow_some rfl) (fun z hz => ?_))
    rw [hz]
    refine ow_bind (P := fun y => y.1 = bi (ex k n)) ?_ (fun y hy => ?_)
    · refine ow_for n (fun l t => t.2 = nI l ∧ t.1 = bi (ex k l)) (fun l t hl hJ => ?_) (fun t hJ => ?_) 0 _ (by omega) ⟨rfl, by show bi (!S.testBit k) = bi (!S.testBit k || !true); simp⟩
      · obtain ⟨g1, g2⟩ := hJ
        rw [g1, g2, if_pos (nI_lt hl (by omega)), s_mhas T (by omega), s_less hL (by omega) (by omega), s_less hL (by omega) (by omega)]
        have e1 : ex k (l + 1) = (ex k l || (T.testBit l && (decide (k = l) || lt k l))) := by
          show (!S.testBit k || !(al (fun y => !Q k y) l && !Q k l)) = ((!S.testBit k || !al (fun y => !Q k y) l) || Q k l)
          cases S.testBit k <;> cases al (fun y => !Q k y) l <;> cases Q k l <;> rfl
        have e2 : lt k l = if b then ztb R l k else ztb R k l := by
          show (if b then op (ztb R) else ztb R) k l = _
          cases b <;> rfl
        rw [e2] at e1
        show ow (if bi (ex k l) = 0 then (some (bi (T.testBit l))).bind fun v6 => if v6 = 0 then _ else (if nI k = nI l then _ else (if bi b = 0 then ((some (bi (ztb R k l))).bind _) else ((some (bi (ztb R l k))).bind _))) else _) _
        rw [e1]
        cases ex k l with
        | true => exact ow_ite (fun h => absurd h (by decide)) (fun _ => ow_some ⟨nI_1 l, rfl⟩)
        | false =>
          refine ow_ite (fun _ => ow_let ?_) (fun h => absurd rfl h)
          cases T.testBit l with
          | false => exact ow_ite (fun _ => ow_some ⟨nI_1 l, rfl⟩) (fun h => absurd rfl h)
          | true =>
            refine ow_ite (fun h => absurd h (by decide)) (fun _ => ?_)
            refine ow_ite (fun h => ow_some ⟨nI_1 l, ?_⟩) (fun h => ?_)
            · have : k = l := (nI_eq (by omega) (by omega)).mp h
              simp [this]; rfl
            · have hne : ¬ k = l := fun q => h (by rw [q])
              cases b with
              | false =>
                refine ow_ite (fun _ => ow_let ?_) (fun h => absurd rfl h)
                cases hl : ztb R k l with
                | false => exact ow_ite (fun _ => ow_some ⟨nI_1 l, by simp [hne, hl]; rfl⟩) (fun h => absurd rfl h)
                | true => exact ow_ite (fun h => absurd h (by decide)) (fun _ => ow_some ⟨nI_1 l, by simp [hne, hl]; rfl⟩)
              | true =>
                refine ow_ite (fun h => absurd h (by decide)) (fun _ => ow_let ?_)
                cases hl : ztb R l k with
                | false => exact ow_ite (fun _ => ow_some ⟨nI_1 l, by simp [hne, hl]; rfl⟩) (fun h => absurd rfl h)
                | true => exact ow_ite (fun h => absurd h (by decide)) (fun _ => ow_some ⟨nI_1 l, by simp [hne, hl]; rfl⟩)
      · obtain ⟨g1, g2⟩ := hJ
        rw [g1, if_neg (nI_nlt (Nat.le_refl _) (by omega))]
        exact ow_some g2
    · rw [hy]
      have e1 : al (fun x => ex x n) (k + 1) = (al (fun x => ex x n) k && ex k n) := rfl
      cases h1 : al (fun x => ex x n) k with
      | false => exact ow_ite (fun _ => ow_some ⟨nI_1 k, by rw [e1, h1]; rfl⟩) (fun h => absurd rfl h)
      | true =>
        refine ow_ite (fun h => absurd h (by decide)) (fun _ => ?_)
        cases h2 : ex k n with
        | false => exact ow_ite (fun _ => ow_some ⟨nI_1 k, by rw [e1, h1, h2]; rfl⟩) (fun h => absurd rfl h)
        | true => exact ow_ite (fun h => absurd h (by decide)) (fun _ => ow_some ⟨nI_1 k, by rw [e1, h1, h2]; rfl⟩)
  · obtain ⟨q1, q2⟩ := hJ
    rw [q1, if_neg (nI_nlt (Nat.le_refl _) (by omega))]
    exact ow_some q2
