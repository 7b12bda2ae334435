/-! set: both sides. -/
theorem zb_none {x y : Int32} : x &&& y = 0 ↔ ∀ c, c < 32 → ¬ (zb x c = true ∧ zb y c = true) := by
  constructor
  · intro h c hc q
    have := zb_and x y c
    rw [h, zb_0, q.1, q.2] at this
    exact absurd this (by decide)
  · intro h
    apply zb_ext
    intro c hc
    rw [zb_and, zb_0]
    cases h1 : zb x c <;> cases h2 : zb y c <;> first | rfl | exact absurd ⟨h1, h2⟩ (h c hc)
theorem s_ends {M : oz_M} {n : Nat} (hn : n ≤ 14) (h6 : M.1 6 0 = nI n) (S : Int32) (i : Nat) : ow (f_Order_ends S i M) (fun v => ∀ b, b < 32 → (zb v b = true ↔ b < n ∧ zb S b = true ∧ ∀ c, c < 32 → ¬ (zb (M.1 i b) c = true ∧ zb S c = true))) := by
  unfold f_Order_ends
  rw [h6]
  refine ow_bind (P := fun y => ∀ b, b < 32 → (zb y.1 b = true ↔ b < n ∧ zb S b = true ∧ ∀ c, c < 32 → ¬ (zb (M.1 i b) c = true ∧ zb S c = true))) ?_ (fun y hy => ow_some hy)
  refine ow_for n (fun k s => s.2 = nI k ∧ ∀ b, b < 32 → (zb s.1 b = true ↔ b < k ∧ zb S b = true ∧ ∀ c, c < 32 → ¬ (zb (M.1 i b) c = true ∧ zb S c = true))) (fun k s hk hJ => ?_) (fun s hJ => ?_) 0 _ (by omega) ⟨rfl, fun b hb => by rw [zb_0]; simp⟩
  · obtain ⟨q1, q2⟩ := hJ
    rw [q1, if_pos (nI_lt hk (by omega))]
    have stay : (¬ (zb S k = true ∧ ∀ c, c < 32 → ¬ (zb (M.1 i k) c = true ∧ zb S c = true))) → ∀ b, b < 32 → (zb s.1 b = true ↔ b < k + 1 ∧ zb S b = true ∧ ∀ c, c < 32 → ¬ (zb (M.1 i b) c = true ∧ zb S c = true)) := fun hno b hb => by
      rw [q2 b hb]
      refine ⟨fun q => ⟨by omega, q.2⟩, fun q => ⟨?_, q.2⟩⟩
      by_cases eb : b = k
      · rw [eb] at q; exact absurd q.2 hno
      · omega
    refine ow_bind (s_has (n := k) (by omega) M) (fun v hv => ?_)
    refine ow_ite (fun e => ow_some ⟨nI_1 k, stay (fun q => ?_)⟩) (fun e => ?_)
    · rw [q.1] at hv
      exact absurd (hv.symm.trans e) (by decide)
    · have hS : zb S k = true := by
        cases hq : zb S k with
        | true => rfl
        | false => rw [hq] at hv; exact absurd hv e
      refine ow_bind (ow_in rfl (show k < 14 by omega) (by omega)) (fun j hj => ?_)
      subst hj
      refine ow_ite (fun e1 => ow_some ⟨nI_1 j, fun b hb => ?_⟩) (fun e1 => ow_some ⟨nI_1 j, stay (fun q => e1 (zb_none.mpr q.2))⟩)
      show zb (s.1 ||| (1 <<< (nI j &&& 31))) b = true ↔ _
      rw [zb_or, zb_one j (by omega) b hb, Bool.or_eq_true, decide_eq_true_eq, q2 b hb]
      constructor
      · rintro (q | q)
        · exact ⟨by omega, q.2⟩
        · rw [q]; exact ⟨by omega, hS, zb_none.mp e1⟩
      · intro q
        by_cases eb : b = j
        · exact Or.inr eb
        · exact Or.inl ⟨by omega, q.2⟩
  · obtain ⟨q1, q2⟩ := hJ
    rw [q1, if_neg (nI_nlt (Nat.le_refl _) (by omega))]
    exact ow_some q2
/-- what set(x, w) tells -/
noncomputable def zsp (R : Nat → Nat → Bool) (x w y : Nat) : Bool := if w = 0 then ztb R y x else if w = 1 then ztb R x y else if w = 2 then zcov R y x else if w = 3 then zcov R x y else zap R x y
theorem upto_cases (x : Int32) {m : Nat} (hm : m < 2 ^ 31) : (∃ w, w ≤ m ∧ x = nI w) ∨ (x < 0 ∨ nI m < x) := by
  by_cases h0 : x < 0
  · exact Or.inr (Or.inl h0)
  by_cases h1 : nI m < x
  · exact Or.inr (Or.inr h1)
  · obtain ⟨j, hj, rfl⟩ := nI_of h0
    exact Or.inl ⟨j, Nat.le_of_not_lt (fun q => h1 ((nI_ltI hm hj).mpr q)), rfl⟩
theorem s_upto {w m : Nat} (h : w ≤ m) (hm : m < 2 ^ 31) (M : oz_M) : f_Hall_wantUpTo (nI w) (nI m) M = some (.inr (), M) := by
  unfold f_Hall_wantUpTo
  rw [if_neg (nI_pos (by omega)), if_neg (nI_nlt h hm)]
theorem s_upto_no {x : Int32} {m : Nat} (h : x < 0 ∨ nI m < x) (M : oz_M) : f_Hall_wantUpTo x (nI m) M = some (.inl 2, M) := by
  unfold f_Hall_wantUpTo
  by_cases h0 : x < 0
  · rw [if_pos h0]
  · rw [if_neg h0, if_pos (h.resolve_left h0)]
theorem s_Model_set {M : oz_M} {n : Nat} {R : Nat → Nat → Bool} (h : zG M n R) {x w : Nat} (hx : x < n) (hw : w ≤ 4) : ow (f_Model_set (nI x) (nI w) M) (fun r => r.2 = oz_s M 62 0 0 ∧ ∀ b, b < 32 → zb r.1 b = (decide (b < n) && zsp R x w b)) := by
  have hk := h.zk (zk_s (v := 0))
  obtain ⟨h1, h2, h3, -, h7, h8, h9⟩ := h
  obtain ⟨-, -, -, -, -, k8, k9⟩ := hk
  have hn := h1.2.1
  unfold f_Model_set
  rw [if_neg (by rw [h7]; decide), s_isEl h8.1 hn hx]
  simp only [Option.bind_some]
  rw [if_neg (by decide), if_neg (nI_pos (by omega)), if_neg (show ¬ (4 : Int32) < nI w from nI_nlt (b := w) (a := 4) hw (by omega))]
  simp only [Option.bind_some, um_at]
  rw [if_neg (by decide)]
  refine ow_bind (P := fun y => ∀ b, b < 32 → zb y.1 b = (decide (b < n) && zsp R x w b)) (s_collect (t := fun q => if nI w = 0 then ((f_Model_isLess q (nI x) (oz_s M 62 0 0)).bind fun v17 => some v17) else (if nI w = 1 then ((f_Model_isLess (nI x) q (oz_s M 62 0 0)).bind fun v15 => some v15) else (if nI w = 2 then ((f_Model_covers (nI x) q (oz_s M 62 0 0)).bind fun v13 => some v13) else (if nI w = 3 then ((f_Model_covers q (nI x) (oz_s M 62 0 0)).bind fun v11 => some v11) else ((f_Model_isApart (nI x) q (oz_s M 62 0 0)).bind fun v10 => some v10))))) hn k8.1 (zsp R x w) (fun y hy => ?_)) (fun y hy => ow_some ⟨rfl, hy⟩)
  unfold zsp
  rw [s_less k9 (a := y) (b := x) (by omega) (by omega), s_less k9 (a := x) (b := y) (by omega) (by omega), s_apart k9 (by omega) (by omega)]
  simp only [Option.bind_some]
  have hc2 := s_covers h1 k8.1 k9 hy hx
  have hc3 := s_covers h1 k8.1 k9 hx hy
  have e0 : ∀ k : Nat, k ≤ 4 → (nI w = nI k ↔ w = k) := fun k hk => nI_eq (by omega) (by omega)
  refine ow_ite (fun e => ow_some ?_) (fun e => ow_ite (fun e1 => ow_some ?_) (fun e1 => ow_ite (fun e2 => ow_bind hc2 (fun z hz => ow_some ?_)) (fun e2 => ow_ite (fun e3 => ow_bind hc3 (fun z hz => ow_some ?_)) (fun e3 => ow_some ?_))))
  · rw [if_pos ((e0 0 (by omega)).mp e)]
  · rw [if_neg (fun q => e ((e0 0 (by omega)).mpr q)), if_pos ((e0 1 (by omega)).mp e1)]
  · rw [if_neg (fun q => e ((e0 0 (by omega)).mpr q)), if_neg (fun q => e1 ((e0 1 (by omega)).mpr q)), if_pos ((e0 2 (by omega)).mp e2)]; exact hz
  · rw [if_neg (fun q => e ((e0 0 (by omega)).mpr q)), if_neg (fun q => e1 ((e0 1 (by omega)).mpr q)), if_neg (fun q => e2 ((e0 2 (by omega)).mpr q)), if_pos ((e0 3 (by omega)).mp e3)]; exact hz
  · rw [if_neg (fun q => e ((e0 0 (by omega)).mpr q)), if_neg (fun q => e1 ((e0 1 (by omega)).mpr q)), if_neg (fun q => e2 ((e0 2 (by omega)).mpr q)), if_neg (fun q => e3 ((e0 3 (by omega)).mpr q))]
