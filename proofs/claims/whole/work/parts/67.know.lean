/-! know. -/
theorem nar_nI : ∀ v, v < 128 → vp_nar .byte (nI v).toInt8.toInt32 = nI v := by decide +kernel
theorem nI_max {a b : Nat} (ha : a < 2 ^ 31) (hb : b < 2 ^ 31) : (if nI a < nI b then nI b else nI a) = nI (max a b) := by
  by_cases h : a < b
  · rw [if_pos (nI_lt h hb), Nat.max_eq_right (Nat.le_of_lt h)]
  · rw [if_neg (nI_nlt (Nat.le_of_not_lt h) ha), Nat.max_eq_left (Nat.le_of_not_lt h)]
theorem ins_gt {S x : Nat} (h : S.testBit x = false) : S < ins S x := by
  have h1 : S ≤ ins S x := sub_le (fun i hi => by rw [ins_bit, hi]; rfl)
  have h2 : S ≠ ins S x := fun e => by
    have : (ins S x).testBit x = true := by rw [ins_bit]; simp
    rw [← e, h] at this; cases this
  omega
theorem zLt.fr {is : List Nat} {M N : oz_M} {n : Nat} {R : Nat → Nat → Bool} (h : zLt M n R) (k : fr is M N) (h1 : 64 ∉ is) : zLt N n R := by
  unfold zLt zLb zl at h ⊢
  rw [(k 64 h1).1]; exact h
theorem om_14 {G : Nat → Nat → Bool} {S n : Nat} (hn : n ≤ 14) (hS : S < 2 ^ n) : om G S ≤ 14 := by
  have := om_sz (G := G) S
  have := sz_le hS hn
  omega
theorem zl_add (a b : Nat) : Int64.ofNat a + Int64.ofNat b = Int64.ofNat (a + b) := (Int64.ofNat_add a b).symm
def zKt (M : oz_M) (n : Nat) (lt : Nat → Nat → Bool) : Prop := ∀ S, S < 2 ^ n → M.1 66 S = nI (om (cmp lt) S) ∧ M.1 67 S = nI (om (apt lt) S) ∧ M.2 68 S = Int64.ofNat (wy lt n S)
theorem s_know1 {M : oz_M} {n : Nat} {R : Nat → Nat → Bool} (hn : n ≤ 14) (h62 : M.1 62 1 = nI n) (hL : zLt M n R) : ow (oz_lp (fun (s1 : Int32 × oz_M) => (if s1.1 < (1 <<< ((M.1 62 1) &&& 31)) then ((f_Model_sizeOf s1.1 s1.2).bind fun v2 => (f_Model_isChain s1.1 s1.2).bind fun v3 => (if v3 = 0 then (some 0) else (some v2)).bind fun (z4 : Int32) => (f_Model_isAntichain s1.1 s1.2).bind fun v6 => (if v6 = 0 then (some 0) else (some v2)).bind fun (z7 : Int32) => (oz_lp (fun (s9 : Int32 × Int32 × Int32) => (if s9.2.2 < (s1.2.1 62 1) then ((f_Model_has s1.1 s9.2.2 s1.2).bind fun v10 => if v10 = 0 then (some (.inl (s9.1, s9.2.1, s9.2.2 + 1))) else ((oz_in (s1.1 &&& ((1 <<< (s9.2.2 &&& 31)) ^^^ (-1))) 16384).bind fun j11 => (if s9.1 < (s1.2.1 66 j11) then ((oz_in (s1.1 &&& ((1 <<< (s9.2.2 &&& 31)) ^^^ (-1))) 16384).bind fun j13 => some (s1.2.1 66 j13)) else (some s9.1)).bind fun (z12 : Int32) => (oz_in (s1.1 &&& ((1 <<< (s9.2.2 &&& 31)) ^^^ (-1))) 16384).bind fun j15 => if s9.2.1 < (s1.2.1 67 j15) then ((oz_in (s1.1 &&& ((1 <<< (s9.2.2 &&& 31)) ^^^ (-1))) 16384).bind fun j16 => some (.inl (z12, s1.2.1 67 j16, s9.2.2 + 1))) else (some (.inl (z12, s9.2.1, s9.2.2 + 1))))) else (some (.inr (s9.1, s9.2.1, s9.2.2))) : Option ((Int32 × Int32 × Int32) ⊕ (Int32 × Int32 × Int32)))) (z4, z7, 0)).bind fun (y20 : Int32 × Int32 × Int32) => (oz_in s1.1 16384).bind fun j21 => (some (oz_s s1.2 66 j21 (vp_nar .byte y20.1.toInt8.toInt32))).bind fun M22 => (oz_in s1.1 16384).bind fun j23 => (some (oz_s M22 67 j23 (vp_nar .byte y20.2.1.toInt8.toInt32))).bind fun M24 => some (.inl (s1.1 + 1, M24))) else (some (.inr (s1.1, s1.2))) : Option ((Int32 × oz_M) ⊕ (Int32 × oz_M)))) (0, M)) (fun y => fr [66, 67] M y.2 ∧ ∀ S, S < 2 ^ n → y.2.1 66 S = nI (om (cmp (ztb R)) S) ∧ y.2.1 67 S = nI (om (apt (ztb R)) S)) := by
  have hp := p2_14 hn
  refine ow_for (2 ^ n) (fun k s => s.1 = nI k ∧ fr [66, 67] M s.2 ∧ ∀ S, S < k → s.2.1 66 S = nI (om (cmp (ztb R)) S) ∧ s.2.1 67 S = nI (om (apt (ztb R)) S)) (fun k s hk hJ => ?_) (fun s hJ => ?_) 0 _ (Nat.zero_le _) ⟨rfl, fr.refl, fun S h => by omega⟩
  · obtain ⟨q1, q2, q3⟩ := hJ
    have s62 : s.2.1 62 1 = nI n := by rw [q2.at (by decide)]; exact h62
    have sL : zLt s.2 n R := hL.fr q2 (by decide)
    have hk14 : k < 2 ^ 14 := lt14 hn hk
    rw [q1, h62, nI_shl (by omega), if_pos (nI_lt hk (by omega)), s_sizeOf, s_isChain hn s62 sL hk, s_isAnti hn s62 sL hk]
    refine ow_let (ow_let ?_)
    refine ow_bind (P := fun z => z = nI (if tb (clq (cmp (ztb R)) k) = true then sz k else 0)) (by cases tb (clq (cmp (ztb R)) k) <;> exact ow_some rfl) (fun z4 hz4 => ow_let ?_)
    refine ow_bind (P := fun z => z = nI (if tb (clq (apt (ztb R)) k) = true then sz k else 0)) (by cases tb (clq (apt (ztb R)) k) <;> exact ow_some rfl) (fun z7 hz7 => ?_)
    rw [hz4, hz7, s62]
    have b14 : ∀ (G : Nat → Nat → Bool) x, (zmx (fun x => om G (del k x)) k.testBit x) ≤ 14 := fun G x => zmx_le x (fun y _ _ => om_14 hn (Nat.lt_of_le_of_lt (sub_le del_sub) hk))
    have c14 : ∀ (P : Prop), (if tb P = true then sz k else 0) ≤ 14 := fun P => by
      have := sz_le hk hn
      cases tb P <;> simp <;> omega
    refine ow_bind (P := fun y => y.1 = nI (om (cmp (ztb R)) k) ∧ y.2.1 = nI (om (apt (ztb R)) k)) ?_ (fun y hy => ?_)
    · refine ow_for n (fun x t => t.2.2 = nI x ∧ t.1 = nI (max (if tb (clq (cmp (ztb R)) k) = true then sz k else 0) (zmx (fun x => om (cmp (ztb R)) (del k x)) k.testBit x)) ∧ t.2.1 = nI (max (if tb (clq (apt (ztb R)) k) = true then sz k else 0) (zmx (fun x => om (apt (ztb R)) (del k x)) k.testBit x))) (fun x t hx hJ => ?_) (fun t hJ => ?_) 0 _ (by omega) ⟨rfl, by simp [zmx], by simp [zmx]⟩
      · obtain ⟨g1, g2, g3⟩ := hJ
        rw [g1, g2, g3, if_pos (nI_lt hx (by omega)), s_mhas k (by omega)]
        refine ow_let ?_
        cases hb : k.testBit x with
        | false =>
          rw [bi_f, if_pos rfl]
          refine ow_some ⟨nI_1 x, ?_, ?_⟩
          · simp only [zmx, hb]; rfl
          · simp only [zmx, hb]; rfl
        | true =>
          rw [if_neg bi_ne, nI_del hk14 (by omega)]
          have hd := del_lt hk14 (show x < 14 by omega) hb
          have hin : oz_in (nI (del k x)) 16384 = some (del k x) := oz_in_nI (by omega) (by omega)
          rw [hin]
          simp only [Option.bind_some]
          rw [(q3 (del k x) hd).1, (q3 (del k x) hd).2]
          have e1 := b14 (cmp (ztb R)) x
          have e2 := b14 (apt (ztb R)) x
          have e3 := c14 (clq (cmp (ztb R)) k)
          have e4 := c14 (clq (apt (ztb R)) k)
          have e5 := om_14 (G := cmp (ztb R)) hn (Nat.lt_trans hd hk)
          have e6 := om_14 (G := apt (ztb R)) hn (Nat.lt_trans hd hk)
          generalize (if tb (clq (cmp (ztb R)) k) = true then sz k else 0) = c1 at e3
          generalize (if tb (clq (apt (ztb R)) k) = true then sz k else 0) = c2 at e4
          have f1 : zmx (fun x => om (cmp (ztb R)) (del k x)) k.testBit (x + 1) = max (zmx (fun x => om (cmp (ztb R)) (del k x)) k.testBit x) (om (cmp (ztb R)) (del k x)) := by simp only [zmx, hb]; rfl
          have f2 : zmx (fun x => om (apt (ztb R)) (del k x)) k.testBit (x + 1) = max (zmx (fun x => om (apt (ztb R)) (del k x)) k.testBit x) (om (apt (ztb R)) (del k x)) := by simp only [zmx, hb]; rfl
          rw [f1, f2]
          generalize zmx (fun x => om (cmp (ztb R)) (del k x)) k.testBit x = m1 at e1
          generalize zmx (fun x => om (apt (ztb R)) (del k x)) k.testBit x = m2 at e2
          generalize om (cmp (ztb R)) (del k x) = o1 at e5
          generalize om (apt (ztb R)) (del k x) = o2 at e6
          refine ow_bind (P := fun z => z = nI (max c1 (max m1 o1))) ?_ (fun z12 hz => ?_)
          · rw [← Nat.max_assoc, ← nI_max (a := max c1 m1) (b := o1) (by omega) (by omega)]
            exact ow_ite (fun h => by rw [if_pos h]; exact ow_some rfl) (fun h => by rw [if_neg h]; exact ow_some rfl)
          · rw [hz]
            refine ow_ite (fun h => ow_some ⟨nI_1 x, rfl, ?_⟩) (fun h => ow_some ⟨nI_1 x, rfl, ?_⟩)
            · rw [← Nat.max_assoc c2, ← nI_max (a := max c2 m2) (b := o2) (by omega) (by omega), if_pos h]
            · rw [← Nat.max_assoc c2, ← nI_max (a := max c2 m2) (b := o2) (by omega) (by omega), if_neg h]
      · obtain ⟨g1, g2, g3⟩ := hJ
        rw [g1, if_neg (nI_nlt (Nat.le_refl _) (by omega))]
        refine ow_some ⟨?_, ?_⟩
        · rw [om_del hn hk]; exact g2
        · rw [om_del hn hk]; exact g3
    · rw [hy.1, hy.2, nar_nI _ (by have := om_14 (G := cmp (ztb R)) hn hk; omega), nar_nI _ (by have := om_14 (G := apt (ztb R)) hn hk; omega)]
      refine ow_bind (ow_in rfl (show k < 16384 by omega) (by omega)) (fun j21 h21 => ow_let (ow_bind (ow_in rfl (show k < 16384 by omega) (by omega)) (fun j23 h23 => ow_let (ow_some ⟨nI_1 k, (q2.s (by decide)).s (by decide), fun S hS => ?_⟩))))
      subst h21
      subst h23
      simp only [rd_s]
      by_cases e : S = j23
      · subst e; simp
      · simp [e]; exact q3 S (by omega)
  · obtain ⟨q1, q2, q3⟩ := hJ
    rw [q1, h62, nI_shl (by omega), if_neg (nI_nlt (Nat.le_refl _) (by omega))]
    exact ow_some ⟨q2, q3⟩
theorem s_know {M : oz_M} {n : Nat} {R : Nat → Nat → Bool} (hn : n ≤ 14) (ho : ord n (ztb R)) (h62 : M.1 62 1 = nI n) (hL : zLt M n R) (hK : zKn M n (ztb R)) : ow (f_Model_know M) (fun r => fr [62, 66, 67, 68] M r.2 ∧ (∀ k, k ≠ 10 → r.2.1 62 k = M.1 62 k) ∧ r.2.1 62 10 = 1 ∧ zKt r.2 n (ztb R)) := by
  unfold f_Model_know
  rcases hK with h0 | ⟨h1, h2⟩
  · rw [if_pos h0]
    refine ow_bind (s_know1 hn h62 hL) (fun y hy => ?_)
    obtain ⟨y1, y2⟩ := hy
    have hp := p2_14 hn
    have hpp := p2_pos n
    rw [h62, nI_shl (by omega)]
    refine ow_bind (P := fun z => fr [68] y.2 z.2 ∧ z.2.1 = y.2.1 ∧ ∀ S, S < 2 ^ n → z.2.2 68 S = Int64.ofNat (wy (ztb R) n S)) ?_ (fun z hz => ?_)
    · refine ow_for (2 ^ n) (fun k s => s.1 = nI (2 ^ n - k) - 1 ∧ fr [68] y.2 s.2 ∧ s.2.1 = y.2.1 ∧ ∀ S, S < 2 ^ n → 2 ^ n - k ≤ S → s.2.2 68 S = Int64.ofNat (wy (ztb R) n S)) (fun k s hk hJ => ?_) (fun s hJ => ?_) 0 _ (Nat.zero_le _) ⟨rfl, fr.refl, rfl, fun S h1 h2 => by omega⟩
      · obtain ⟨q1, q2, q2', q3⟩ := hJ
        obtain ⟨S, hS⟩ : ∃ S, 2 ^ n - k = S + 1 := ⟨2 ^ n - k - 1, by omega⟩
        rw [hS] at q1 q3
        rw [nI_pred] at q1
        have hSn : S < 2 ^ n := by omega
        have s62 : s.2.1 62 1 = nI n := by rw [q2', y1.at (by decide)]; exact h62
        have sL : zLt s.2 n R := (hL.fr y1 (by decide)).fr q2 (by decide)
        have eall : nI (2 ^ n) - 1 = nI (2 ^ n - 1) := by
          have := nI_pred (2 ^ n - 1)
          rwa [show 2 ^ n - 1 + 1 = 2 ^ n by omega] at this
        rw [q1, if_neg (nI_pos (by omega)), eall, s62]
        refine ow_bind (P := fun z => z = Int64.ofNat (if S = 2 ^ n - 1 then 1 else 0)) ?_ (fun z28 hz => ?_)
        · by_cases e : S = 2 ^ n - 1
          · rw [if_pos (by rw [e]), if_pos e]; exact ow_some rfl
          · rw [if_neg (fun q => e ((nI_eq (by omega) (by omega)).mp q)), if_neg e]; exact ow_some rfl
        · rw [hz]
          refine ow_bind (P := fun t => t.1 = Int64.ofNat (wy (ztb R) n S)) ?_ (fun t ht => ?_)
          · refine ow_for n (fun x t => t.2 = nI x ∧ t.1 = Int64.ofNat ((if S = 2 ^ n - 1 then 1 else 0) + sm (wb (ztb R) n S) x)) (fun x t hx hJ => ?_) (fun t hJ => ?_) 0 _ (by omega) ⟨rfl, rfl⟩
            · obtain ⟨g1, g2⟩ := hJ
              rw [g1, g2, if_pos (nI_lt hx (by omega)), s_mayCome hn ho s62 sL hx]
              refine ow_let ?_
              cases hm : tb (may (ztb R) S x) with
              | false =>
                rw [bi_f, if_pos rfl]
                refine ow_some ⟨nI_1 x, ?_⟩
                have : wb (ztb R) n S x = 0 := by unfold wb; rw [hm]; rfl
                simp only [sm, this, Nat.add_zero]
              | true =>
                have hmay := tb_iff.mp hm
                have hg := ins_gt hmay.1
                have hl := ins_lt hSn hx
                rw [if_neg bi_ne, nI_ins (by omega)]
                refine ow_bind (ow_in rfl (show ins S x < 16384 by omega) (by omega)) (fun j hj => ow_some ⟨nI_1 x, ?_⟩)
                subst hj
                show Int64.ofNat _ + s.2.2 68 (ins S x) = _
                rw [q3 (ins S x) hl (by omega), zl_add]
                have : wb (ztb R) n S x = wy (ztb R) n (ins S x) := by unfold wb; rw [hm]; rfl
                simp only [sm, this, Nat.add_assoc]
            · obtain ⟨g1, g2⟩ := hJ
              rw [g1, if_neg (nI_nlt (Nat.le_refl _) (by omega))]
              refine ow_some ?_
              show t.1 = _
              rw [g2]
              by_cases e : S = 2 ^ n - 1
              · rw [if_pos e, e, wy_full hn]
                have : sm (wb (ztb R) n (2 ^ n - 1)) n = 0 := by
                  rw [← sm_zero n]
                  refine sm_eq n (fun x hx => ?_)
                  unfold wb
                  rw [if_neg (fun q => ?_)]
                  have := (tb_iff.mp q).1
                  rw [Nat.testBit_two_pow_sub_one] at this
                  simp at this
                  omega
                rw [this]
              · rw [if_neg e, Nat.zero_add, wy_S' hn hSn e]
          · rw [ht]
            refine ow_bind (ow_in rfl (show S < 16384 by omega) (by omega)) (fun j hj => ow_let (ow_some ⟨?_, q2.l (by decide), q2', fun T hT hT2 => ?_⟩))
            · rw [show 2 ^ n - (k + 1) = S by omega]
              exact (Int32.sub_eq_add_neg _ _).symm
            · subst hj
              simp only [rd_ll]
              by_cases e : T = j
              · rw [if_pos ⟨trivial, e⟩, e]
              · rw [if_neg (by simp [e])]
                exact q3 T hT (by omega)
      · obtain ⟨q1, q2, q2', q3⟩ := hJ
        rw [Nat.sub_self] at q1
        rw [q1, if_pos nI_0m1]
        exact ow_some ⟨q2, q2', fun S hS => q3 S hS (by omega)⟩
    · obtain ⟨z1, z2, z3⟩ := hz
      refine ow_let (ow_some ⟨((y1.sub (by decide)).trans (z1.sub (by decide))).s (by decide), fun k hk => ?_, by simp [rd_s], fun S hS => ⟨?_, ?_, z3 S hS⟩⟩)
      · rw [rd_s, if_neg (by simp [hk]), z2, y1.at (by decide)]
      · rw [rd_s, if_neg (by simp), z2]; exact (y2 S hS).1
      · rw [rd_s, if_neg (by simp), z2]; exact (y2 S hS).2
  · rw [if_neg (by rw [h1]; decide)]
    exact ow_some ⟨fr.refl, fun _ _ => rfl, h1, h2⟩
