theorem bool_and {x p : Bool} {b n : Nat} (h : x = true ↔ b < n ∧ p = true) : x = (decide (b < n) && p) := by
  rw [Bool.eq_iff_iff, h]
  simp
theorem s_Hall_set {M : oz_M} {n : Nat} {R : Nat → Nat → Bool} (h : zG M n R) {x w : Nat} (hx : x < n) (hw : w ≤ 4) : ow (f_Hall_set (nI x) (nI w) M) (fun r => ∃ v, r = (.inr v, M) ∧ ∀ b, b < 32 → zb v b = (decide (b < n) && zsp R x w b)) := by
  obtain ⟨h1, h2, h3, ⟨⟨h4, h5⟩, h6⟩, h7, h8, h9⟩ := h
  have hn := h1.2.1
  have hup : f_Hall_wantUpTo (nI w) 4 M = some (.inr (), M) := s_upto (m := 4) hw (by omega) M
  have hin : oz_in (nI x) 14 = some x := oz_in_nI (by omega) (by omega)
  have e0 : ∀ k : Nat, k ≤ 4 → (nI w = nI k ↔ w = k) := fun k hk => nI_eq (by omega) (by omega)
  unfold f_Hall_set
  simp only [s_wants (show ¬ M.1 0 7 = 0 by rw [h3]; decide), b2_some, el_inr, h4, s_want hx hn, hup, hin, Option.bind_some]
  have i32 : ∀ {a b : Nat}, zT R a b → a < 32 ∧ b < 32 := fun q => ⟨by have := (zT_in h1 q).1; omega, by have := (zT_in h1 q).2; omega⟩
  refine ow_ite (fun e => ow_some ⟨_, rfl, fun b hb => bool_and ?_⟩) (fun e => ow_ite (fun e1 => ow_some ⟨_, rfl, fun b hb => bool_and ?_⟩) (fun e1 => ow_ite (fun e2 => ow_bind (s_ends hn h4 (M.1 7 x) 8) (fun v hv => ow_some ⟨_, rfl, fun b hb => bool_and ?_⟩)) (fun e2 => ow_ite (fun e3 => ow_bind (s_ends hn h4 (M.1 8 x) 7) (fun v hv => ow_some ⟨_, rfl, fun b hb => bool_and ?_⟩)) (fun e3 => ow_some ⟨_, rfl, fun b hb => bool_and ?_⟩))))
  · unfold zsp
    rw [if_pos ((e0 0 (by omega)).mp e), (h6 x hx b hb).1, ztb_iff]
    exact ⟨fun q => ⟨(zT_in h1 q).1, q⟩, fun q => q.2⟩
  · unfold zsp
    rw [if_neg (fun q => e ((e0 0 (by omega)).mpr q)), if_pos ((e0 1 (by omega)).mp e1), h5 x hx b hb, ztb_iff]
    exact ⟨fun q => ⟨(zT_in h1 q).2, q⟩, fun q => q.2⟩
  · unfold zsp
    rw [if_neg (fun q => e ((e0 0 (by omega)).mpr q)), if_neg (fun q => e1 ((e0 1 (by omega)).mpr q)), if_pos ((e0 2 (by omega)).mp e2), hv b hb, zcov_iff, (h6 x hx b hb).1]
    refine ⟨fun q => ⟨q.1, q.2.1, fun c hc => ?_⟩, fun q => ⟨q.1, q.2.1, fun c hc hc2 => ?_⟩⟩
    · have hc32 := (i32 hc.1).2
      exact q.2.2 c hc32 ⟨(h5 b q.1 c hc32).mpr hc.1, (h6 x hx c hc32).1.mpr hc.2⟩
    · exact q.2.2 c ⟨(h5 b q.1 c hc).mp hc2.1, (h6 x hx c hc).1.mp hc2.2⟩
  · unfold zsp
    rw [if_neg (fun q => e ((e0 0 (by omega)).mpr q)), if_neg (fun q => e1 ((e0 1 (by omega)).mpr q)), if_neg (fun q => e2 ((e0 2 (by omega)).mpr q)), if_pos ((e0 3 (by omega)).mp e3), hv b hb, zcov_iff, h5 x hx b hb]
    refine ⟨fun q => ⟨q.1, q.2.1, fun c hc => ?_⟩, fun q => ⟨q.1, q.2.1, fun c hc hc2 => ?_⟩⟩
    · have hc32 := (i32 hc.1).2
      exact q.2.2 c hc32 ⟨(h6 b q.1 c hc32).1.mpr hc.2, (h5 x hx c hc32).mpr hc.1⟩
    · exact q.2.2 c ⟨(h5 x hx c hc).mp hc2.2, (h6 b q.1 c hc).1.mp hc2.1⟩
  · unfold zsp
    rw [if_neg (fun q => e ((e0 0 (by omega)).mpr q)), if_neg (fun q => e1 ((e0 1 (by omega)).mpr q)), if_neg (fun q => e2 ((e0 2 (by omega)).mpr q)), if_neg (fun q => e3 ((e0 3 (by omega)).mpr q)), (h6 x hx b hb).2, ← ztb_iff, ← ztb_iff]
    unfold zap
    simp only [Bool.and_eq_true, Bool.not_eq_true', decide_eq_false_iff_not, Bool.not_eq_true]
    exact ⟨fun q => ⟨q.1, ⟨fun r => q.2.1 r.symm, q.2.2.1⟩, q.2.2.2⟩, fun q => ⟨q.1, fun r => q.2.1.1 r.symm, q.2.1.2, q.2.2⟩⟩
