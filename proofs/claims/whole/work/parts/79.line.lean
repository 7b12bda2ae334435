/-! Ways, counted by the class. -/
theorem zl_toI {a : Nat} (h : a < 2 ^ 62) : (Int64.ofNat a).toInt = (a : Int) := Int64.toInt_ofNat_of_lt (by omega)
theorem lc_lt {a b : Nat} (ha : a < 2 ^ 62) (hb : b < 2 ^ 62) : lg_cmp (Int64.ofNat a) (Int64.ofNat b) < 0 ↔ a < b := by
  unfold lg_cmp
  have h1 : (Int64.ofNat a > Int64.ofNat b) ↔ b < a := by
    show Int64.ofNat b < Int64.ofNat a ↔ _
    rw [Int64.lt_iff_toInt_lt, zl_toI ha, zl_toI hb]; omega
  have h2 : (Int64.ofNat a = Int64.ofNat b) ↔ a = b := by
    rw [← Int64.toInt_inj, zl_toI ha, zl_toI hb]; omega
  by_cases c1 : b < a
  · rw [if_pos (h1.mpr c1)]
    exact ⟨fun q => absurd q (by decide), fun q => by omega⟩
  · rw [if_neg (fun q => c1 (h1.mp q))]
    by_cases c2 : a = b
    · rw [if_pos (h2.mpr c2)]
      exact ⟨fun q => absurd q (by decide), fun q => by omega⟩
    · rw [if_neg (fun q => c2 (h2.mp q))]
      exact ⟨fun _ => by omega, fun _ => by decide⟩
theorem zl_sub {a b : Nat} (h : b ≤ a) : Int64.ofNat a - Int64.ofNat b = Int64.ofNat (a - b) := by
  have e : Int64.ofNat a = Int64.ofNat (a - b) + Int64.ofNat b := by rw [zl_add, Nat.sub_add_cancel h]
  rw [e, Int64.add_sub_cancel]
/-- a long that is not negative, and less than a number -/
theorem lg_cases (x : Int64) {W : Nat} (hW : W < 2 ^ 62) : (∃ k, k < W ∧ x = Int64.ofNat k) ∨ (lg_cmp x 0 < 0) ∨ (¬ lg_cmp x 0 < 0 ∧ ¬ lg_cmp x (Int64.ofNat W) < 0) := by
  by_cases h0 : lg_cmp x 0 < 0
  · exact Or.inr (Or.inl h0)
  · by_cases h1 : lg_cmp x (Int64.ofNat W) < 0
    · left
      have key : ∀ y : Int64, lg_cmp x y < 0 ↔ x < y := fun y => by
        unfold lg_cmp
        by_cases c1 : x > y
        · rw [if_pos c1]
          refine ⟨fun q => absurd q (by decide), fun q => ?_⟩
          have c1 : y < x := c1
          rw [Int64.lt_iff_toInt_lt] at c1 q
          omega
        · rw [if_neg c1]
          by_cases c2 : x = y
          · rw [if_pos c2]
            refine ⟨fun q => absurd q (by decide), fun q => ?_⟩
            rw [Int64.lt_iff_toInt_lt, c2] at q
            omega
          · rw [if_neg c2]
            refine ⟨fun _ => ?_, fun _ => by decide⟩
            have c1 : ¬ y < x := c1
            rw [Int64.lt_iff_toInt_lt] at c1 ⊢
            have : x.toInt ≠ y.toInt := fun q => c2 (Int64.toInt_inj.mp q)
            omega
      rw [key, Int64.lt_iff_toInt_lt] at h0 h1
      rw [zl_toI hW] at h1
      have e0 : (0 : Int64).toInt = 0 := by decide
      rw [e0] at h0
      refine ⟨x.toInt.toNat, by omega, ?_⟩
      rw [← Int64.toInt_inj, zl_toI (by omega)]
      omega
    · exact Or.inr (Or.inr ⟨h0, h1⟩)
theorem s_behind {M : oz_M} {n S : Nat} {lt : Nat → Nat → Bool} (hn : n ≤ 14) (ho : ord n lt) (h6 : M.1 6 0 = nI n) (h7 : ∀ x, x < n → M.1 7 x = nI (blw lt n x)) (hS : S < 2 ^ n) (hne : S ≠ 2 ^ n - 1) (ht : ∀ T, S < T → T < 2 ^ n → M.2 55 T = Int64.ofNat (wyc lt n T)) : f_Line_waysBehind (nI S) M = some (Int64.ofNat (wyc lt n S)) := by
  have hp := p2_14 hn
  let rdy : Nat → Prop := fun x => ∀ y, lt y x = true → S.testBit y = true
  unfold f_Line_waysBehind
  rw [h6]
  refine ow_eq (ow_bind (P := oz_el (fun y => clo lt S ∧ y.1 = Int64.ofNat (wy lt n S)) (fun r => r = 0 ∧ ¬ clo lt S)) ?_ (fun y hy => ?_))
  · refine ow_for n (fun k s => s.2 = nI k ∧ (∀ x, x < k → S.testBit x = true → rdy x) ∧ (clo lt S → s.1 = Int64.ofNat (sm (wb lt n S) k))) (fun k s hk hJ => ?_) (fun s hJ => ?_) 0 _ (Nat.zero_le _) ⟨rfl, fun x h => by omega, fun _ => rfl⟩
    · obtain ⟨q1, q2, q3⟩ := hJ
      rw [q1, if_pos (nI_lt hk (by omega)), show oz_in (nI k) 14 = some k from oz_in_nI (by omega) (by decide)]
      simp only [Option.bind_some]
      rw [h7 k hk, s_chas S (by omega)]
      have hr : (nI (blw lt n k) &&& (nI S ^^^ (-1))) = 0 ↔ rdy k := by
        rw [zb_none]
        constructor
        · intro h y hy
          have hy14 := (ho.2.2 y k hy).1
          have := h y (by omega)
          rw [zb_nI _ (by omega), zb_xor, zb_nI _ (by omega), zb_m1 y (by omega), blw_bit ho] at this
          cases hb : S.testBit y with
          | true => rfl
          | false => exact absurd ⟨hy, by rw [hb]; rfl⟩ this
        · intro h c hc
          rw [zb_nI _ hc, zb_xor, zb_nI _ hc, zb_m1 c hc, blw_bit ho]
          rintro ⟨k1, k2⟩
          rw [h c k1] at k2
          cases k2
      refine ow_bind (P := fun z => z = bi (tb (rdy k))) ?_ (fun z hz => ow_let ?_)
      · by_cases h : rdy k
        · rw [if_pos (hr.mpr h), tb_iff.mpr h]; exact ow_some rfl
        · rw [if_neg (fun q => h (hr.mp q)), tb_no.mpr h]; exact ow_some rfl
      · rw [hz]
        cases hb : S.testBit k with
        | false =>
          rw [bi_f, if_pos rfl]
          have hm : may lt S k ↔ rdy k := ⟨fun q => q.2, fun q => ⟨hb, q⟩⟩
          have hq2 : ∀ x, x < k + 1 → S.testBit x = true → rdy x := fun x hx hsx => by
            by_cases e : x = k
            · rw [e, hb] at hsx; cases hsx
            · exact q2 x (by omega) hsx
          cases hrd : tb (rdy k) with
          | false =>
            rw [bi_f, if_pos rfl]
            refine ow_some ⟨nI_1 k, hq2, fun hc => ?_⟩
            have : wb lt n S k = 0 := by
              unfold wb
              rw [if_neg (fun q => tb_no.mp hrd (hm.mp (tb_iff.mp q)))]
            simp only [sm, this, Nat.add_zero]
            exact q3 hc
          | true =>
            rw [if_neg bi_ne, nI_ins (by omega)]
            have hl := ins_lt hS hk
            refine ow_bind (ow_in rfl (show ins S k < 16384 by omega) (by omega)) (fun j hj => ow_some ⟨nI_1 k, hq2, fun hc => ?_⟩)
            subst hj
            show s.1 + M.2 55 (ins S k) = _
            have hmay : may lt S k := hm.mpr (tb_iff.mp hrd)
            rw [ht (ins S k) (ins_gt hb) hl, q3 hc, zl_add]
            have e1 : wyc lt n (ins S k) = wb lt n S k := by
              unfold wyc wb
              rw [if_pos (tb_iff.mpr ((clo_may ho hc hb).mpr hmay)), if_pos (tb_iff.mpr hmay)]
            rw [e1]
            rfl
        | true =>
          rw [if_neg bi_ne]
          cases hrd : tb (rdy k) with
          | false =>
            rw [bi_f, if_pos rfl]
            exact ow_some ⟨rfl, fun hc => tb_no.mp hrd (fun y hy => hc y k hb hy)⟩
          | true =>
            rw [if_neg bi_ne]
            refine ow_some ⟨nI_1 k, fun x hx hsx => ?_, fun hc => ?_⟩
            · by_cases e : x = k
              · rw [e]; exact tb_iff.mp hrd
              · exact q2 x (by omega) hsx
            · have : wb lt n S k = 0 := by
                unfold wb
                rw [if_neg (fun q => by have := (tb_iff.mp q).1; rw [hb] at this; cases this)]
              simp only [sm, this, Nat.add_zero]
              exact q3 hc
    · obtain ⟨q1, q2, q3⟩ := hJ
      rw [q1, if_neg (nI_nlt (Nat.le_refl _) (by omega))]
      have hc : clo lt S := fun a b hb hl => q2 b (ho.2.2 a b hl).2 hb a hl
      refine ow_some ⟨hc, ?_⟩
      show s.1 = _
      rw [q3 hc, wy_S' hn hS hne]
  · cases y with
    | inl y =>
      rw [el_inl] at hy ⊢
      exact ow_some (by unfold wyc; rw [if_pos (tb_iff.mpr hy.1)]; exact hy.2)
    | inr r =>
      rw [el_inr] at hy ⊢
      exact ow_some (by unfold wyc; rw [if_neg (fun q => hy.2 (tb_iff.mp q))]; exact hy.1)
theorem clo_full {n : Nat} {lt : Nat → Nat → Bool} (ho : ord n lt) : clo lt (2 ^ n - 1) := fun a b _ hl => by
  rw [Nat.testBit_two_pow_sub_one]; simp; exact (ho.2.2 a b hl).1
def zWt (M : oz_M) (n : Nat) (lt : Nat → Nat → Bool) : Prop := ∀ S, S < 2 ^ n → M.2 55 S = Int64.ofNat (wyc lt n S)
theorem s_countWays {M : oz_M} {n : Nat} {lt : Nat → Nat → Bool} (hn : n ≤ 14) (ho : ord n lt) (h6 : M.1 6 0 = nI n) (h7 : ∀ x, x < n → M.1 7 x = nI (blw lt n x)) : ow (f_Line_countWays M) (fun r => fr [55] M r.2 ∧ zWt r.2 n lt) := by
  have hp := p2_14 hn
  have hpp := p2_pos n
  unfold f_Line_countWays f_Order_everything
  rw [h6, nI_all (by omega)]
  simp only [Option.bind_some]
  rw [show oz_in (nI (2 ^ n - 1)) 16384 = some (2 ^ n - 1) from oz_in_nI (by omega) (by decide)]
  simp only [Option.bind_some]
  refine ow_bind (P := fun y => fr [55] M y.2 ∧ zWt y.2 n lt) ?_ (fun y hy => ow_some hy)
  refine ow_for (2 ^ n - 1) (fun k s => s.1 = nI (2 ^ n - 1 - k) - 1 ∧ fr [55] M s.2 ∧ s.2.1 = M.1 ∧ ∀ S, S < 2 ^ n → 2 ^ n - 1 - k ≤ S → s.2.2 55 S = Int64.ofNat (wyc lt n S)) (fun k s hk hJ => ?_) (fun s hJ => ?_) 0 _ (Nat.zero_le _) ⟨rfl, fr.refl.l (by decide), rfl, fun S h1 h2 => ?_⟩
  · obtain ⟨q1, q2, q2', q3⟩ := hJ
    obtain ⟨S, hS⟩ : ∃ S, 2 ^ n - 1 - k = S + 1 := ⟨2 ^ n - 1 - k - 1, by omega⟩
    rw [hS] at q1 q3
    rw [nI_pred] at q1
    rw [q1, if_neg (nI_pos (by omega)), s_behind hn ho (by rw [q2']; exact h6) (fun x hx => by rw [q2']; exact h7 x hx) (by omega) (by omega) (fun T h1 h2 => q3 T h2 (by omega)), show oz_in (nI S) 16384 = some S from oz_in_nI (by omega) (by decide)]
    refine ow_let (ow_let (ow_let (ow_some ⟨?_, q2.l (by decide), q2', fun T hT hT2 => ?_⟩)))
    · rw [show 2 ^ n - 1 - (k + 1) = S by omega]
      exact (Int32.sub_eq_add_neg _ _).symm
    · show (oz_l s.2 55 S _).2 55 T = _
      rw [rd_ll]
      by_cases e : T = S
      · rw [if_pos ⟨rfl, e⟩, e]
      · rw [if_neg (by simp [e])]
        exact q3 T hT (by omega)
  · obtain ⟨q1, q2, q2', q3⟩ := hJ
    rw [Nat.sub_self] at q1
    rw [q1, if_pos nI_0m1]
    exact ow_some ⟨q2, fun S hS => q3 S hS (by omega)⟩
  · have e : S = 2 ^ n - 1 := by omega
    show (oz_l M 55 (2 ^ n - 1) 1).2 55 S = _
    rw [rd_ll, if_pos ⟨rfl, e⟩, e]
    unfold wyc
    rw [if_pos (tb_iff.mpr (clo_full ho)), wy_full hn]
    rfl
theorem s_total {M : oz_M} {n : Nat} {R : Nat → Nat → Bool} (h : zH M n R) : ow (f_Line_total M) (fun r => r.1 = Int64.ofNat (wy (ztb R) n 0) ∧ zH r.2 n R ∧ r.2.1 53 0 = 1 ∧ zWt r.2 n (ztb R)) := by
  have hn := h.n
  have ho := h.ord
  have h0 : wyc (ztb R) n 0 = wy (ztb R) n 0 := by unfold wyc; rw [if_pos (tb_iff.mpr clo_0)]
  unfold f_Line_total
  refine ow_bind (P := fun N => zH N n R ∧ N.1 53 0 = 1 ∧ zWt N n (ztb R)) ?_ (fun N hN => ?_)
  · rcases h.2.2.2.1 with c0 | ⟨c1, c2⟩
    · rw [if_pos c0]
      refine ow_b2 (s_countWays hn ho h.at6 (fun x hx => (h.rows hx).1)) (fun _ N hN => ow_let (ow_some ?_))
      obtain ⟨f, hT⟩ := hN
      dsimp only at f hT
      have f2 : fr [53, 55] M (oz_s N 53 0 1) := (f.sub (by decide)).s (by decide)
      have e531 : (oz_s N 53 0 1).1 53 1 = M.1 53 1 := by rw [rd_s, if_neg (by simp), f.at (by decide)]
      have hT2 : zWt (oz_s N 53 0 1) n (ztb R) := hT
      refine ⟨?_, by rw [rd_s, if_pos ⟨rfl, rfl⟩], hT2⟩
      obtain ⟨g1, g2, g3, g4, g5⟩ := h
      refine ⟨?_, ?_, ?_, Or.inr ⟨by rw [rd_s, if_pos ⟨rfl, rfl⟩], hT2⟩, ?_⟩
      · obtain ⟨u1, u2, u3, u4, u5, u6, u7⟩ := g1
        refine ⟨u1.row (f2.at (by decide)) (f2.at (by decide)) (f2 7 (by decide)).1 (f2 8 (by decide)).1 (f2 9 (by decide)).1 (f2.at (by decide)) (f2.at (by decide)) (f2 63 (by decide)).1 (f2 64 (by decide)).1, u2.fr f2 (by decide) (by decide), ?_, ?_, u5.at (f2 12 (by decide)).1, ?_, ?_⟩
        · rw [f2.at (by decide)]; exact u3
        · rw [f2.at (by decide)]; exact u4
        · unfold zLv at u6 ⊢
          rw [(f2 10 (by decide)).1, (f2 11 (by decide)).1]; exact u6
        · rw [f2.at (by decide)]; exact u7
      · unfold zKn at g2 ⊢
        rw [(f2 62 (by decide)).1, (f2 66 (by decide)).1, (f2 67 (by decide)).1, (f2 68 (by decide)).2]; exact g2
      · unfold zMs at g3 ⊢
        rw [(f2 45 (by decide)).1, (f2 47 (by decide)).1, (f2 48 (by decide)).1, (f2 50 (by decide)).1, (f2 51 (by decide)).1]; exact g3
      · rcases g5 with g5 | g5
        · exact Or.inl ⟨e531.trans g5.1, by rw [(f2 62 (by decide)).1]; exact g5.2⟩
        · rw [g5.2.2.1] at c0
          exact absurd c0 (by decide)
    · rw [if_neg (by rw [c1]; decide)]
      exact ow_some ⟨h, c1, c2⟩
  · rw [show oz_in 0 16384 = some 0 from oz_in_nI (j := 0) (by decide) (by decide)]
    exact ow_let (ow_some ⟨by rw [← h0]; exact hN.2.2 0 (p2_pos n), hN⟩)
