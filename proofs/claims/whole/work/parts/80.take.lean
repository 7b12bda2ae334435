/-! The sequence with a number. -/
noncomputable def nx (lt : Nat → Nat → Bool) (n S left : Nat) : Nat := match Classical.propDecidable (left < sm (wb lt n S) n) with
  | .isTrue h => Classical.choose (sm_find n left h)
  | .isFalse _ => 0
theorem nx_is {lt : Nat → Nat → Bool} {n S left : Nat} (h : left < sm (wb lt n S) n) : nx lt n S left < n ∧ sm (wb lt n S) (nx lt n S left) ≤ left ∧ left - sm (wb lt n S) (nx lt n S left) < wb lt n S (nx lt n S left) := by
  unfold nx
  cases hd : Classical.propDecidable (left < sm (wb lt n S) n) with
  | isTrue h' => exact Classical.choose_spec (sm_find n left h')
  | isFalse h' => exact absurd h h'
noncomputable def sst (lt : Nat → Nat → Bool) (n k : Nat) : Nat → Nat × Nat
  | 0 => (0, k)
  | i + 1 => (ins (sst lt n k i).1 (nx lt n (sst lt n k i).1 (sst lt n k i).2), (sst lt n k i).2 - sm (wb lt n (sst lt n k i).1) (nx lt n (sst lt n k i).1 (sst lt n k i).2))
noncomputable def sq (lt : Nat → Nat → Bool) (n k i : Nat) : Nat := nx lt n (sst lt n k i).1 (sst lt n k i).2
theorem wb_pos {lt : Nat → Nat → Bool} {n S x : Nat} (h : 0 < wb lt n S x) : may lt S x ∧ wb lt n S x = wy lt n (ins S x) := by
  unfold wb at h ⊢
  by_cases hm : may lt S x
  · rw [if_pos (tb_iff.mpr hm)]; exact ⟨hm, rfl⟩
  · rw [if_neg (fun q => hm (tb_iff.mp q))] at h; omega
theorem sm_mono {f : Nat → Nat} {a : Nat} : ∀ {b}, a ≤ b → sm f a ≤ sm f b
  | 0, h => by
    have : a = 0 := by omega
    subst this; exact Nat.le_refl _
  | b + 1, h => by
    by_cases e : a = b + 1
    · rw [e]; exact Nat.le_refl _
    · have := sm_mono (f := f) (a := a) (b := b) (by omega)
      simp only [sm]; omega
theorem sst_ok {lt : Nat → Nat → Bool} {n k : Nat} (hn : n ≤ 14) (ho : ord n lt) (hk : k < wy lt n 0) : ∀ i, i ≤ n → (sst lt n k i).1 < 2 ^ n ∧ clo lt (sst lt n k i).1 ∧ sz (sst lt n k i).1 = i ∧ (sst lt n k i).2 < wy lt n (sst lt n k i).1
  | 0, _ => ⟨p2_pos n, clo_0, sz_0, hk⟩
  | i + 1, hi => by
    obtain ⟨h1, h2, h3, h4⟩ := sst_ok hn ho hk i (by omega)
    have hne : (sst lt n k i).1 ≠ 2 ^ n - 1 := fun e => by
      have := (full_n hn h1).mpr e
      omega
    rw [wy_S' hn h1 hne] at h4
    obtain ⟨g1, g2, g3⟩ := nx_is h4
    obtain ⟨m1, m2⟩ := wb_pos (Nat.lt_of_le_of_lt (Nat.zero_le _) g3)
    refine ⟨ins_lt h1 g1, (clo_may ho h2 m1.1).mpr m1, ?_, ?_⟩
    · show sz (ins _ _) = _
      rw [sz_ins (by omega) m1.1, h3]
    · show _ < wy lt n (ins _ _)
      rw [← m2]; exact g3
theorem sst_step {lt : Nat → Nat → Bool} {n k : Nat} (hn : n ≤ 14) (ho : ord n lt) (hk : k < wy lt n 0) {i : Nat} (hi : i < n) : sq lt n k i < n ∧ may lt (sst lt n k i).1 (sq lt n k i) ∧ sm (wb lt n (sst lt n k i).1) (sq lt n k i) ≤ (sst lt n k i).2 ∧ (sst lt n k i).2 - sm (wb lt n (sst lt n k i).1) (sq lt n k i) < wb lt n (sst lt n k i).1 (sq lt n k i) := by
  obtain ⟨h1, h2, h3, h4⟩ := sst_ok hn ho hk i (by omega)
  have hne : (sst lt n k i).1 ≠ 2 ^ n - 1 := fun e => by
    have := (full_n hn h1).mpr e
    omega
  rw [wy_S' hn h1 hne] at h4
  obtain ⟨g1, g2, g3⟩ := nx_is h4
  exact ⟨g1, (wb_pos (Nat.lt_of_le_of_lt (Nat.zero_le _) g3)).1, g2, g3⟩
theorem sst_bit {lt : Nat → Nat → Bool} {n k : Nat} : ∀ i y, (sst lt n k i).1.testBit y = true ↔ ∃ j, j < i ∧ sq lt n k j = y
  | 0, y => by
    show (0 : Nat).testBit y = true ↔ _
    rw [Nat.zero_testBit]
    exact ⟨fun h => (by cases h), fun ⟨j, h, _⟩ => (by omega)⟩
  | i + 1, y => by
    show (ins (sst lt n k i).1 (sq lt n k i)).testBit y = true ↔ _
    rw [ins_bit, Bool.or_eq_true, decide_eq_true_eq, sst_bit i y]
    constructor
    · rintro (⟨j, h1, h2⟩ | h)
      · exact ⟨j, by omega, h2⟩
      · exact ⟨i, by omega, h.symm⟩
    · rintro ⟨j, h1, h2⟩
      by_cases e : j = i
      · exact Or.inr (by rw [← h2, e])
      · exact Or.inl ⟨j, by omega, h2⟩
theorem sq_zsq {lt : Nat → Nat → Bool} {n k : Nat} (hn : n ≤ 14) (ho : ord n lt) (hk : k < wy lt n 0) : zsq n lt (sq lt n k) := by
  have key : ∀ i j, i < n → j < i → sq lt n k j ≠ sq lt n k i := fun i j hi hj e => by
    have h1 := (sst_step hn ho hk hi).2.1.1
    rw [(sst_bit i _).mpr ⟨j, hj, e⟩] at h1
    cases h1
  refine ⟨fun i hi => (sst_step hn ho hk hi).1, fun i j hi hj e => ?_, fun y hy => ?_, fun i j hi hj hl => ?_⟩
  · by_cases h1 : i < j
    · exact absurd e (key j i hj h1)
    · by_cases h2 : j < i
      · exact absurd e.symm (key i j hi h2)
      · omega
  · obtain ⟨h1, _, h3, _⟩ := sst_ok hn ho hk n (Nat.le_refl _)
    exact (sst_bit n y).mp (full_sz hn h1 (by omega) y hy)
  · have h1 := (sst_step hn ho hk hj).2.1.2 _ hl
    obtain ⟨l, h2, h3⟩ := (sst_bit j _).mp h1
    by_cases e : l = i
    · omega
    · exfalso
      by_cases h4 : l < i
      · exact key i l hi h4 h3
      · exact key l i (by omega) (by omega) h3.symm
theorem s_waysWith {M : oz_M} {n S x : Nat} {lt : Nat → Nat → Bool} (hn : n ≤ 14) (ho : ord n lt) (ht : zWt M n lt) (hS : S < 2 ^ n) (hc : clo lt S) (hx : x < n) : f_Line_waysWith (nI S) (nI x) M = some (Int64.ofNat (wb lt n S x)) := by
  have hp := p2_14 hn
  unfold f_Line_waysWith
  rw [s_chas S (by omega)]
  refine ow_eq (ow_let ?_)
  cases hb : S.testBit x with
  | true =>
    rw [if_neg bi_ne]
    have : wb lt n S x = 0 := by
      unfold wb
      rw [if_neg (fun q => by have := (tb_iff.mp q).1; rw [hb] at this; cases this)]
    rw [this]; exact ow_some rfl
  | false =>
    have hl := ins_lt hS hx
    rw [bi_f, if_pos rfl, nI_ins (by omega), show oz_in (nI (ins S x)) 16384 = some (ins S x) from oz_in_nI (by omega) (by decide)]
    refine ow_let (ow_some ?_)
    rw [ht _ hl]
    congr 1
    unfold wyc wb
    have : tb (clo lt (ins S x)) = tb (may lt S x) := tb_eq (by rw [tb_iff]; exact clo_may ho hc hb)
    rw [this]
theorem wb_62 {lt : Nat → Nat → Bool} {n S x : Nat} (hn : n ≤ 14) (hS : S < 2 ^ n) (hx : x < n) : wb lt n S x < 2 ^ 62 := by
  unfold wb
  by_cases h : tb (may lt S x) = true
  · rw [if_pos h]
    have := wy_le (lt := lt) hn (ins_lt hS hx)
    omega
  · rw [if_neg h]; omega
theorem s_write {M : oz_M} {n k : Nat} {lt : Nat → Nat → Bool} (hn : n ≤ 14) (ho : ord n lt) (h6 : M.1 6 0 = nI n) (ht : zWt M n lt) (hk : k < wy lt n 0) : ow (f_Line_write (Int64.ofNat k) M) (fun r => fr [53, 54] M r.2 ∧ r.2.1 53 1 = 1 ∧ (∀ j, j ≠ 1 → r.2.1 53 j = M.1 53 j) ∧ ∀ i, i < n → r.2.1 54 i = nI (sq lt n k i)) := by
  have hp := p2_14 hn
  have hw0 := wy_le (lt := lt) hn (p2_pos n)
  unfold f_Line_write
  refine ow_bind (P := fun y => fr [54] M y.2.2.2 ∧ ∀ i, i < n → y.2.2.2.1 54 i = nI (sq lt n k i)) ?_ (fun y hy => ow_let (ow_some ⟨(hy.1.sub (by decide)).s (by decide), by simp [rd_s], fun j hj => by rw [rd_s, if_neg (by simp [hj]), hy.1.at (by decide)], fun i hi => by rw [rd_s, if_neg (by simp)]; exact hy.2 i hi⟩))
  refine ow_for n (fun i s => s.2.2.1 = nI i ∧ s.1 = nI (sst lt n k i).1 ∧ s.2.1 = Int64.ofNat (sst lt n k i).2 ∧ fr [54] M s.2.2.2 ∧ ∀ j, j < i → s.2.2.2.1 54 j = nI (sq lt n k j)) (fun i s hi hJ => ?_) (fun s hJ => ?_) 0 _ (Nat.zero_le _) ⟨rfl, rfl, rfl, fr.refl, fun j h => by omega⟩
  · obtain ⟨q1, q2, q3, q4, q5⟩ := hJ
    obtain ⟨o1, o2, o3, o4⟩ := sst_ok hn ho hk i (by omega)
    obtain ⟨g1, g2, g3, g4⟩ := sst_step hn ho hk hi
    have hle : (sst lt n k i).2 < 2 ^ 62 := by have := wy_le (lt := lt) hn o1; omega
    rw [q1, q2, q3, q4.at (by decide), h6, if_pos (nI_lt hi (by omega))]
    refine ow_bind (P := fun y => y.1 = nI (ins (sst lt n k i).1 (sq lt n k i)) ∧ y.2.1 = Int64.ofNat ((sst lt n k i).2 - sm (wb lt n (sst lt n k i).1) (sq lt n k i)) ∧ fr [54] M y.2.2.2 ∧ ∀ j, j < i + 1 → y.2.2.2.1 54 j = nI (sq lt n k j)) ?_ (fun y hy => ow_some ⟨nI_1 i, hy.1, hy.2.1, hy.2.2.1, hy.2.2.2⟩)
    have hcut : ∀ x, x ≤ sq lt n k i → sm (wb lt n (sst lt n k i).1) x ≤ (sst lt n k i).2 := fun x hx => Nat.le_trans (sm_mono hx) g3
    refine ow_for (sq lt n k i) (fun x t => t.2.2.1 = nI x ∧ t.1 = nI (sst lt n k i).1 ∧ t.2.1 = Int64.ofNat ((sst lt n k i).2 - sm (wb lt n (sst lt n k i).1) x) ∧ t.2.2.2 = s.2.2.2) (fun x t hx hJ => ?_) (fun t hJ => ?_) 0 _ (Nat.zero_le _) ⟨rfl, rfl, rfl, rfl⟩
    · obtain ⟨u1, u2, u3, u4⟩ := hJ
      have hxn : x < n := by omega
      have hwb := wb_62 (lt := lt) hn o1 hxn
      have c1 := hcut (x + 1) hx
      simp only [sm] at c1
      have ht2 : zWt s.2.2.2 n lt := fun S hS => by rw [q4.atl (by decide)]; exact ht S hS
      rw [u1, u2, u3, u4, q4.at (by decide), h6, if_pos (nI_lt hxn (by omega)), s_waysWith hn ho ht2 o1 o2 hxn]
      refine ow_let ?_
      rw [if_neg (fun q => by have := (lc_lt (by omega) hwb).mp q; omega)]
      refine ow_some ⟨nI_1 x, rfl, ?_, rfl⟩
      show Int64.ofNat _ - Int64.ofNat _ = _
      rw [zl_sub (by omega)]
      simp only [sm]
      congr 1
      omega
    · obtain ⟨u1, u2, u3, u4⟩ := hJ
      have hwb := wb_62 (lt := lt) hn o1 g1
      have ht2 : zWt s.2.2.2 n lt := fun S hS => by rw [q4.atl (by decide)]; exact ht S hS
      rw [u1, u2, u3, u4, q4.at (by decide), h6, if_pos (nI_lt g1 (by omega)), s_waysWith hn ho ht2 o1 o2 g1]
      refine ow_let ?_
      rw [if_pos ((lc_lt (by omega) hwb).mpr g4), show oz_in (nI i) 14 = some i from oz_in_nI (by omega) (by decide), nI_ins (by omega)]
      refine ow_let (ow_let (ow_some ⟨rfl, rfl, q4.s (by decide), fun j hj => ?_⟩))
      show (oz_s s.2.2.2 54 i _).1 54 j = _
      rw [rd_s]
      by_cases e : j = i
      · rw [if_pos ⟨rfl, e⟩, e]
      · rw [if_neg (by simp [e])]; exact q5 j (by omega)
  · obtain ⟨q1, q2, q3, q4, q5⟩ := hJ
    rw [q1, q4.at (by decide), h6, if_neg (nI_nlt (Nat.le_refl _) (by omega))]
    exact ow_some ⟨q4, q5⟩
/-- what a sequence leaves as it is, the sequence put in -/
theorem zH.line {M N : oz_M} {n : Nat} {R : Nat → Nat → Bool} (h : zH M n R) (f : fr [53, 54, 62, 69] M N) (h53 : N.1 53 0 = M.1 53 0) (h62 : ∀ j, j ≠ 12 → j ≠ 0 → N.1 62 j = M.1 62 j) (hs : zSq N n (ztb R)) : zH N n R := by
  obtain ⟨g1, g2, g3, g4, g5⟩ := h
  refine ⟨?_, ?_, ?_, ?_, hs⟩
  · obtain ⟨u1, u2, u3, u4, u5, u6, u7⟩ := g1
    refine ⟨u1.row (f.at (by decide)) (f.at (by decide)) (f 7 (by decide)).1 (f 8 (by decide)).1 (f 9 (by decide)).1 (h62 2 (by decide) (by decide)) (h62 1 (by decide) (by decide)) (f 63 (by decide)).1 (f 64 (by decide)).1, u2.fr f (by decide) (by decide), ?_, ?_, u5.at (f 12 (by decide)).1, ?_, ?_⟩
    · rw [f.at (by decide)]; exact u3
    · rw [h62 6 (by decide) (by decide)]; exact u4
    · unfold zLv at u6 ⊢
      rw [(f 10 (by decide)).1, (f 11 (by decide)).1]; exact u6
    · rw [f.at (by decide)]; exact u7
  · unfold zKn at g2 ⊢
    rw [h62 10 (by decide) (by decide), (f 66 (by decide)).1, (f 67 (by decide)).1, (f 68 (by decide)).2]; exact g2
  · unfold zMs at g3 ⊢
    rw [(f 45 (by decide)).1, (f 47 (by decide)).1, (f 48 (by decide)).1, (f 50 (by decide)).1, (f 51 (by decide)).1]; exact g3
  · unfold zWc at g4 ⊢
    rw [h53, (f 55 (by decide)).2]; exact g4
theorem s_rtake {M : oz_M} {n k : Nat} {R : Nat → Nat → Bool} (hn : n ≤ 14) (ho : ord n (ztb R)) (h62 : M.1 62 1 = nI n) (hL : zLt M n R) (hK : zKt M n (ztb R)) (hk : k < wy (ztb R) n 0) : ow (oz_lp (fun (s11 : Int32 × Int64 × Int32 × oz_M) => (if s11.2.2.1 < (s11.2.2.2.1 62 1) then ((oz_lp (fun (s12 : Int64 × Int32) => ((f_Model_mayCome s12.2 s11.1 s11.2.2.2).bind fun v13 => if v13 = 0 then ((f_Model_mayCome s12.2 s11.1 s11.2.2.2).bind fun v14 => if v14 = 0 then (some (.inl (s12.1, s12.2 + 1))) else ((oz_in (s11.1 ||| (1 <<< (s12.2 &&& 31))) 16384).bind fun j15 => some (.inl (s12.1 - (s11.2.2.2.2 68 j15), s12.2 + 1)))) else ((oz_in (s11.1 ||| (1 <<< (s12.2 &&& 31))) 16384).bind fun j17 => if (lg_cmp s12.1 (s11.2.2.2.2 68 j17)) < 0 then (some (.inr (s12.1, s12.2))) else ((f_Model_mayCome s12.2 s11.1 s11.2.2.2).bind fun v18 => if v18 = 0 then (some (.inl (s12.1, s12.2 + 1))) else ((oz_in (s11.1 ||| (1 <<< (s12.2 &&& 31))) 16384).bind fun j19 => some (.inl (s12.1 - (s11.2.2.2.2 68 j19), s12.2 + 1))))) : Option ((Int64 × Int32) ⊕ (Int64 × Int32)))) (s11.2.1, 0)).bind fun (y23 : Int64 × Int32) => (oz_in s11.2.2.1 14).bind fun j24 => (some (oz_s s11.2.2.2 69 j24 y23.2)).bind fun M25 => some (.inl (s11.1 ||| (1 <<< (y23.2 &&& 31)), y23.1, s11.2.2.1 + 1, M25))) else (some (.inr (s11.1, s11.2.1, s11.2.2.1, s11.2.2.2))) : Option ((Int32 × Int64 × Int32 × oz_M) ⊕ (Int32 × Int64 × Int32 × oz_M)))) (0, Int64.ofNat k, 0, M)) (fun y => fr [69] M y.2.2.2 ∧ ∀ i, i < n → y.2.2.2.1 69 i = nI (sq (ztb R) n k i)) := by
  have hp := p2_14 hn
  refine ow_for n (fun i s => s.2.2.1 = nI i ∧ s.1 = nI (sst (ztb R) n k i).1 ∧ s.2.1 = Int64.ofNat (sst (ztb R) n k i).2 ∧ fr [69] M s.2.2.2 ∧ ∀ j, j < i → s.2.2.2.1 69 j = nI (sq (ztb R) n k j)) (fun i s hi hJ => ?_) (fun s hJ => ?_) 0 _ (Nat.zero_le _) ⟨rfl, rfl, rfl, fr.refl, fun j h => by omega⟩
  · obtain ⟨q1, q2, q3, q4, q5⟩ := hJ
    obtain ⟨o1, o2, o3, o4⟩ := sst_ok hn ho hk i (by omega)
    obtain ⟨g1, g2, g3, g4⟩ := sst_step hn ho hk hi
    have hle : (sst (ztb R) n k i).2 < 2 ^ 62 := by have := wy_le (lt := ztb R) hn o1; omega
    have s62 : s.2.2.2.1 62 1 = nI n := by rw [q4.at (by decide)]; exact h62
    have sL : zLt s.2.2.2 n R := hL.fr q4 (by decide)
    have s68 : ∀ T, T < 2 ^ n → s.2.2.2.2 68 T = Int64.ofNat (wy (ztb R) n T) := fun T hT => by rw [q4.atl (by decide)]; exact (hK T hT).2.2
    rw [q1, q2, q3, s62, if_pos (nI_lt hi (by omega))]
    have hcut : ∀ x, x ≤ sq (ztb R) n k i → sm (wb (ztb R) n (sst (ztb R) n k i).1) x ≤ (sst (ztb R) n k i).2 := fun x hx => Nat.le_trans (sm_mono hx) g3
    refine ow_bind (P := fun y => y.1 = Int64.ofNat ((sst (ztb R) n k i).2 - sm (wb (ztb R) n (sst (ztb R) n k i).1) (sq (ztb R) n k i)) ∧ y.2 = nI (sq (ztb R) n k i)) ?_ (fun y hy => ?_)
    · refine ow_for (sq (ztb R) n k i) (fun x t => t.2 = nI x ∧ t.1 = Int64.ofNat ((sst (ztb R) n k i).2 - sm (wb (ztb R) n (sst (ztb R) n k i).1) x)) (fun x t hx hJ => ?_) (fun t hJ => ?_) 0 _ (Nat.zero_le _) ⟨rfl, rfl⟩
      · obtain ⟨u1, u2⟩ := hJ
        have hxn : x < n := by omega
        have hwb := wb_62 (lt := ztb R) hn o1 hxn
        have c1 := hcut (x + 1) hx
        simp only [sm] at c1
        have hl := ins_lt o1 hxn
        rw [u1, u2, s_mayCome hn ho s62 sL hxn, nI_ins (by omega), show oz_in (nI (ins (sst (ztb R) n k i).1 x)) 16384 = some (ins (sst (ztb R) n k i).1 x) from oz_in_nI (by omega) (by decide)]
        simp only [Option.bind_some]
        rw [s68 _ hl]
        cases hm : tb (may (ztb R) (sst (ztb R) n k i).1 x) with
        | false =>
          rw [bi_f, if_pos rfl]
          have : wb (ztb R) n (sst (ztb R) n k i).1 x = 0 := by unfold wb; rw [hm]; rfl
          refine ow_ite (fun _ => ow_some ⟨nI_1 x, ?_⟩) (fun h => absurd rfl h)
          simp only [sm, this, Nat.add_zero]
        | true =>
          have : wb (ztb R) n (sst (ztb R) n k i).1 x = wy (ztb R) n (ins (sst (ztb R) n k i).1 x) := by unfold wb; rw [hm]; rfl
          rw [if_neg bi_ne, ← this, if_neg (fun q => by have := (lc_lt (by omega) hwb).mp q; omega)]
          refine ow_ite (fun h => absurd h bi_ne) (fun _ => ow_some ⟨nI_1 x, ?_⟩)
          show Int64.ofNat _ - Int64.ofNat _ = _
          rw [zl_sub (by omega)]
          simp only [sm]
          congr 1
          omega
      · obtain ⟨u1, u2⟩ := hJ
        have hwb := wb_62 (lt := ztb R) hn o1 g1
        have hl := ins_lt o1 g1
        have : wb (ztb R) n (sst (ztb R) n k i).1 (sq (ztb R) n k i) = wy (ztb R) n (ins (sst (ztb R) n k i).1 (sq (ztb R) n k i)) := by unfold wb; rw [tb_iff.mpr g2]; rfl
        rw [u1, u2, s_mayCome hn ho s62 sL g1, nI_ins (by omega), show oz_in (nI (ins (sst (ztb R) n k i).1 (sq (ztb R) n k i))) 16384 = some (ins (sst (ztb R) n k i).1 (sq (ztb R) n k i)) from oz_in_nI (by omega) (by decide), tb_iff.mpr g2]
        simp only [Option.bind_some]
        rw [s68 _ hl, if_neg bi_ne, ← this, if_pos ((lc_lt (by omega) hwb).mpr g4)]
        exact ow_some ⟨rfl, rfl⟩
    · rw [hy.1, hy.2, show oz_in (nI i) 14 = some i from oz_in_nI (by omega) (by decide), nI_ins (by omega)]
      refine ow_let (ow_let (ow_some ⟨nI_1 i, rfl, rfl, q4.s (by decide), fun j hj => ?_⟩))
      show (oz_s s.2.2.2 69 i _).1 69 j = _
      rw [rd_s]
      by_cases e : j = i
      · rw [if_pos ⟨rfl, e⟩, e]
      · rw [if_neg (by simp [e])]; exact q5 j (by omega)
  · obtain ⟨q1, q2, q3, q4, q5⟩ := hJ
    rw [q1, q4.at (by decide), h62, if_neg (nI_nlt (Nat.le_refl _) (by omega))]
    exact ow_some ⟨q4, q5⟩
