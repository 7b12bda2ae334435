/-! The reference's arcs; the law's cases begin, arc, drop. -/
theorem s_isEl {M : oz_M} {n : Nat} (h : M.1 62 1 = nI n) (hn : n ≤ 14) {a : Nat} (ha : a < n) : f_Model_isElement (nI a) M = some 1 := by
  unfold f_Model_isElement
  rw [if_neg (nI_pos (by omega)), h, if_pos (nI_lt ha (by omega))]
  unfold oz_z
  rw [if_pos (Or.inr rfl)]
theorem s_isEl_no {M : oz_M} {n : Nat} (h : M.1 62 1 = nI n) {x : Int32} (hx : x < 0 ∨ ¬ x < nI n) : f_Model_isElement x M = some 0 := by
  unfold f_Model_isElement
  by_cases h0 : x < 0
  · rw [if_pos h0, um_z0]
  · rw [if_neg h0, h, if_neg (hx.resolve_left h0), um_z0]
theorem s_setArc {M : oz_M} {n : Nat} {R : Nat → Nat → Bool} (hn : n ≤ 14) (hR : zR M n R) {a b : Nat} (ha : a < n) (hb : b < n) {x : Int32} (v : Bool) (hx : x = if v then 1 else 0) : ow (f_Model_setArc (nI a) (nI b) x M) (fun r => r.1 = (if R a b = v then 0 else 1) ∧ fr [62, 63] M r.2 ∧ zR r.2 n (zup R a b v) ∧ zV r.2 ∧ r.2.1 62 0 = 0) := by
  unfold f_Model_setArc
  rw [s_isEl hR.1 hn ha, s_isEl hR.1 hn hb]
  simp only [Option.bind_some]
  rw [if_neg (by decide), if_neg (by decide)]
  simp only [Option.bind_some, um_at]
  rw [if_neg (by decide), nI_14]
  refine ow_bind (ow_in rfl (k := 14 * a + b) (by omega) (by omega)) (fun j hj => ?_)
  subst hj
  have e0 : (oz_s M 62 0 0).1 63 (14 * a + b) = if R a b then 1 else 0 := by
    rw [rd_s, if_neg (by simp)]
    exact hR.2 a (by omega) b (by omega)
  rw [e0, hx]
  refine ow_bind (P := fun z => z = (if R a b = v then 0 else 1)) (by cases R a b <;> cases v <;> exact ow_some rfl) (fun z hz => ?_)
  refine ow_bind (ow_in rfl (k := 14 * a + b) (by omega) (by omega)) (fun j hj => ?_)
  subst hj
  refine ow_b2 (s_change _) (fun _ M2 hc => ow_some ⟨hz, ?_, ⟨?_, fun c hcc d hd => ?_⟩, hc.2.2.2.2, ?_⟩)
  · refine fr.trans (((fr.refl (is := [62, 63]) (M := M)).s (i := 62) (k := 0) (v := 0) (by decide)).s (i := 63) (by decide)) (fun i hi => ⟨hc.1 i (fun e => hi (by rw [e]; decide)), by rw [hc.2.1]⟩)
  · rw [hc.2.2.2.1, rd_s, if_neg (by simp), rd_s, if_neg (by simp)]
    exact hR.1
  · rw [hc.1 63 (by decide), rd_s]
    unfold zup
    by_cases e : c = a ∧ d = b
    · rw [if_pos ⟨rfl, by rw [e.1, e.2]⟩, if_pos e]
      cases v <;> decide
    · rw [if_neg (fun q => e (by have := q.2; omega)), if_neg e, rd_s, if_neg (by simp)]
      exact hR.2 c hcc d hd
  · rw [hc.2.2.1, rd_s, if_neg (by simp), um_at]
theorem s_setArc_no {M : oz_M} {n : Nat} {R : Nat → Nat → Bool} (hn : n ≤ 14) (hR : zR M n R) {x y v : Int32} (h : (x < 0 ∨ ¬ x < nI n) ∨ (y < 0 ∨ ¬ y < nI n)) : f_Model_setArc x y v M = some (0, oz_s M 62 0 1) := by
  unfold f_Model_setArc
  rcases el_cases x hn with ⟨a, ha, rfl⟩ | hx
  · have hy := h.resolve_left (fun q => q.elim (nI_pos (by omega)) (fun q => q (nI_lt ha (by omega))))
    rw [s_isEl hR.1 hn ha, s_isEl_no hR.1 hy]
    simp only [Option.bind_some, if_true]
    rw [if_neg (by decide)]
    simp only [Option.bind_some]
    rw [if_pos (um_pos M)]
  · rw [s_isEl_no hR.1 hx]
    simp only [Option.bind_some, if_true]
    rw [if_pos (um_pos M)]
theorem zR.fr {is : List Nat} {M N : oz_M} {n : Nat} {R : Nat → Nat → Bool} (h : zR M n R) (k : fr is M N) (h1 : 62 ∉ is) (h2 : 63 ∉ is) : zR N n R := by
  refine ⟨by rw [k.at h1]; exact h.1, fun a ha b hb => ?_⟩
  rw [k.at h2]; exact h.2 a ha b hb
theorem cmp_self (x : Int64) : lg_cmp x x = 0 := by
  unfold lg_cmp
  have h : ¬ x < x := by rw [Int64.lt_iff_toInt_lt]; omega
  simp [h]
/-- both sides speak of the arcs R of n elements, nothing is settled -/
def zF (M : oz_M) (n : Nat) (R : Nat → Nat → Bool) : Prop := zW n R ∧ zA M n R ∧ zR M n R ∧ zU M ∧ zV M
theorem ul_0 {M : oz_M} {p1 p2 p3 : Int32} : ow (f_L0 p1 p2 p3 M) (fun N => N = oz_s M 62 0 1 ∨ (∃ n, zF N n z0) ∧ N.1 52 = M.1 52) := by
  unfold f_L0 f_Law_begin
  rcases nI_cases p1 with h | ⟨n, h1, h2, rfl⟩
  · simp only [s_Hall_begin_no h, b2_some, el_inl, if_true, s_Model_begin_no h, f_Model_thrown, Option.bind_some, um_at]
    exact ow_some (Or.inl rfl)
  · refine ow_b2 (P := fun r => r.1 = 0 ∧ zA r.2 n z0 ∧ zU r.2 ∧ r.2.1 52 = M.1 52) (ow_b2 (s_Hall_begin h1 h2 M) (fun w M1 hb => ?_)) (fun v M1 hb => ow_b2 (s_Model_begin h1 h2 M1) (fun w M2 hc => ?_))
    · obtain ⟨hw, hf, hA, hU⟩ := hb
      dsimp only at hw
      subst hw
      exact ow_some ⟨rfl, hA, hU, (hf 52 (by decide)).1⟩
    · obtain ⟨hf, hR, hV, ht⟩ := hc
      obtain ⟨hv, hA, hU, h52⟩ := hb
      dsimp only at hv ht hA hU hf hR hV h52
      unfold f_Model_thrown
      simp only [Option.bind_some, ht, hv, if_true]
      exact ow_some (Or.inr ⟨⟨n, zW_0 h1 h2, hA.fr hf (by decide) (by decide), hR, hU.fr hf (by decide) (by decide) (by decide), hV⟩, (hf 52 (by decide)).1.trans h52⟩)
theorem ul_1 {M : oz_M} {p1 p2 p3 : Int32} {n : Nat} {R : Nat → Nat → Bool} (hW : zW n R) (hA : zA M n R) (hR : zR M n R) : ow (f_L1 p1 p2 p3 M) (fun N => N = oz_s M 62 0 1 ∨ (∃ S, zF N n S) ∧ N.1 52 = M.1 52) := by
  have hn := hW.2.1
  unfold f_L1 f_Law_arc f_Model_arc
  by_cases hel : (∃ a, a < n ∧ p1 = nI a) ∧ (∃ b, b < n ∧ p2 = nI b)
  · obtain ⟨⟨a, ha, rfl⟩, ⟨b, hb, rfl⟩⟩ := hel
    refine ow_b2 (P := fun r => r.1 = 0 ∧ fr [0, 2, 3, 53, 74] M r.2 ∧ r.2.2 74 0 = Int32.toInt64 (if R a b then 0 else 1) ∧ zA r.2 n (zup R a b true) ∧ zU r.2) (ow_b2 (s_Hall_arc hn hA ha hb) (fun w M1 hb1 => ?_)) (fun v M1 hb1 => ow_b2 (P := fun r => r.1 = (if R a b then 0 else 1) ∧ fr [62, 63] M1 r.2 ∧ zR r.2 n (zup R a b true) ∧ zV r.2 ∧ r.2.1 62 0 = 0) ?_ (fun w M2 hc => ?_))
    · obtain ⟨hw, hf, hA1, hU⟩ := hb1
      dsimp only at hw
      subst hw
      rw [el_inr]
      refine ow_bind (ow_in (k := 0) rfl (by omega) (by omega)) (fun j hj => ?_)
      subst hj
      refine ow_let (ow_some ⟨rfl, (hf.sub (by decide)).l (by decide), ?_, hA1, hU⟩)
      rw [rd_ll, if_pos ⟨rfl, rfl⟩]
    · refine ow_b2 (s_setArc hn (hR.fr hb1.2.1 (by decide) (by decide)) ha hb true rfl) (fun w M2 hc => ow_some ⟨?_, hc.2⟩)
      refine hc.1.trans ?_
      cases R a b <;> rfl
    · obtain ⟨hw, hf, hR2, hV, ht⟩ := hc
      obtain ⟨hv, hf1, ho, hA1, hU⟩ := hb1
      dsimp only at hw ht hv hf hR2 hV hf1 ho hA1 hU
      unfold f_Model_thrown
      simp only [Option.bind_some, ht, hv, if_true]
      refine ow_bind (ow_in (k := 0) rfl (by omega) (by omega)) (fun j hj => ?_)
      subst hj
      rw [hf.atl (by decide), ho, hw, cmp_self, if_pos rfl]
      exact ow_some (Or.inr ⟨⟨_, zW_up hW ha hb true, hA1.fr hf (by decide) (by decide), hR2, hU.fr hf (by decide) (by decide) (by decide), hV⟩, (hf 52 (by decide)).1.trans (hf1 52 (by decide)).1⟩)
  · have h : (p1 < 0 ∨ ¬ p1 < nI n) ∨ (p2 < 0 ∨ ¬ p2 < nI n) := by
      rcases el_cases p1 hn with h1 | h1
      · rcases el_cases p2 hn with h2 | h2
        · exact absurd ⟨h1, h2⟩ hel
        · exact Or.inr h2
      · exact Or.inl h1
    simp only [(s_Hall_arc_no hn hA h).1, b2_some, el_inl, if_true, s_setArc_no hn hR h, f_Model_thrown, Option.bind_some, um_at]
    rw [if_neg (by decide)]
    exact ow_some (Or.inl rfl)
theorem ul_2 {M : oz_M} {p1 p2 p3 : Int32} {n : Nat} {R : Nat → Nat → Bool} (hW : zW n R) (hA : zA M n R) (hR : zR M n R) : ow (f_L2 p1 p2 p3 M) (fun N => N = oz_s M 62 0 1 ∨ (∃ S, zF N n S) ∧ N.1 52 = M.1 52) := by
  have hn := hW.2.1
  unfold f_L2 f_Law_drop f_Model_drop
  by_cases hel : (∃ a, a < n ∧ p1 = nI a) ∧ (∃ b, b < n ∧ p2 = nI b)
  · obtain ⟨⟨a, ha, rfl⟩, ⟨b, hb, rfl⟩⟩ := hel
    refine ow_b2 (P := fun r => r.1 = 0 ∧ fr [0, 2, 3, 53, 74] M r.2 ∧ r.2.2 74 0 = Int32.toInt64 (if R a b then 1 else 0) ∧ zA r.2 n (zup R a b false) ∧ zU r.2) (ow_b2 (s_Hall_drop hn hA ha hb) (fun w M1 hb1 => ?_)) (fun v M1 hb1 => ow_b2 (P := fun r => r.1 = (if R a b then 1 else 0) ∧ fr [62, 63] M1 r.2 ∧ zR r.2 n (zup R a b false) ∧ zV r.2 ∧ r.2.1 62 0 = 0) ?_ (fun w M2 hc => ?_))
    · obtain ⟨hw, hf, hA1, hU⟩ := hb1
      dsimp only at hw
      subst hw
      rw [el_inr]
      refine ow_bind (ow_in (k := 0) rfl (by omega) (by omega)) (fun j hj => ?_)
      subst hj
      refine ow_let (ow_some ⟨rfl, (hf.sub (by decide)).l (by decide), ?_, hA1, hU⟩)
      rw [rd_ll, if_pos ⟨rfl, rfl⟩]
    · refine ow_b2 (s_setArc hn (hR.fr hb1.2.1 (by decide) (by decide)) ha hb false rfl) (fun w M2 hc => ow_some ⟨?_, hc.2⟩)
      refine hc.1.trans ?_
      cases R a b <;> rfl
    · obtain ⟨hw, hf, hR2, hV, ht⟩ := hc
      obtain ⟨hv, hf1, ho, hA1, hU⟩ := hb1
      dsimp only at hw ht hv hf hR2 hV hf1 ho hA1 hU
      unfold f_Model_thrown
      simp only [Option.bind_some, ht, hv, if_true]
      refine ow_bind (ow_in (k := 0) rfl (by omega) (by omega)) (fun j hj => ?_)
      subst hj
      rw [hf.atl (by decide), ho, hw, cmp_self, if_pos rfl]
      exact ow_some (Or.inr ⟨⟨_, zW_up hW ha hb false, hA1.fr hf (by decide) (by decide), hR2, hU.fr hf (by decide) (by decide) (by decide), hV⟩, (hf 52 (by decide)).1.trans (hf1 52 (by decide)).1⟩)
  · have h : (p1 < 0 ∨ ¬ p1 < nI n) ∨ (p2 < 0 ∨ ¬ p2 < nI n) := by
      rcases el_cases p1 hn with h1 | h1
      · rcases el_cases p2 hn with h2 | h2
        · exact absurd ⟨h1, h2⟩ hel
        · exact Or.inr h2
      · exact Or.inl h1
    simp only [(s_Hall_arc_no hn hA h).2, b2_some, el_inl, if_true, s_setArc_no hn hR h, f_Model_thrown, Option.bind_some, um_at]
    rw [if_neg (by decide)]
    exact ow_some (Or.inl rfl)
