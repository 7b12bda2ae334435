/-! The law's case number. -/
def sqm (q : Nat → Nat) : Nat → Nat
  | 0 => 0
  | i + 1 => ins (sqm q i) (q i)
theorem sqm_bit {q : Nat → Nat} : ∀ i y, (sqm q i).testBit y = true ↔ ∃ j, j < i ∧ q j = y
  | 0, y => by
    show (0 : Nat).testBit y = true ↔ _
    rw [Nat.zero_testBit]
    exact ⟨fun h => (by cases h), fun ⟨j, h, _⟩ => (by omega)⟩
  | i + 1, y => by
    show (ins (sqm q i) (q i)).testBit y = true ↔ _
    rw [ins_bit, Bool.or_eq_true, decide_eq_true_eq, sqm_bit i y]
    constructor
    · rintro (⟨j, h1, h2⟩ | h)
      · exact ⟨j, by omega, h2⟩
      · exact ⟨i, by omega, h.symm⟩
    · rintro ⟨j, h1, h2⟩
      by_cases e : j = i
      · exact Or.inr (by rw [← h2, e])
      · exact Or.inl ⟨j, by omega, h2⟩
theorem sqm_ok {n : Nat} {lt : Nat → Nat → Bool} {q : Nat → Nat} (ho : ord n lt) (hq : zsq n lt q) {i : Nat} (hi : i ≤ n) : sqm q i < 2 ^ n ∧ clo lt (sqm q i) := by
  constructor
  · refine bit_lt (fun y hy => ?_)
    obtain ⟨j, h1, h2⟩ := (sqm_bit i y).mp hy
    rw [← h2]; exact hq.1 j (by omega)
  · intro a b hb hl
    obtain ⟨j, h1, h2⟩ := (sqm_bit i b).mp hb
    obtain ⟨l, h3, h4⟩ := hq.2.2.1 a (ho.2.2 a b hl).1
    have := hq.2.2.2 l j h3 (by omega) (by rw [h4, h2]; exact hl)
    exact (sqm_bit i a).mpr ⟨l, by omega, h4⟩
noncomputable def rk (lt : Nat → Nat → Bool) (n : Nat) (q : Nat → Nat) (i : Nat) : Nat := sm (fun j => sm (wb lt n (sqm q j)) (q j)) i
theorem s_rank {M : oz_M} {n : Nat} {lt : Nat → Nat → Bool} {q : Nat → Nat} (hn : n ≤ 14) (ho : ord n lt) (h6 : M.1 6 0 = nI n) (ht : zWt M n lt) (hq : zsq n lt q) (hr : ∀ i, i < n → M.1 54 i = nI (q i)) : f_Line_rank M = some (Int64.ofNat (rk lt n q n)) := by
  unfold f_Line_rank
  refine ow_eq (ow_bind (P := fun y => y.2.1 = Int64.ofNat (rk lt n q n)) ?_ (fun y hy => ow_some hy))
  rw [h6]
  refine ow_for n (fun i s => s.2.2 = nI i ∧ s.1 = nI (sqm q i) ∧ s.2.1 = Int64.ofNat (rk lt n q i)) (fun i s hi hJ => ?_) (fun s hJ => ?_) 0 _ (Nat.zero_le _) ⟨rfl, rfl, rfl⟩
  · obtain ⟨q1, q2, q3⟩ := hJ
    obtain ⟨o1, o2⟩ := sqm_ok ho hq (show i ≤ n by omega)
    have hqi := hq.1 i hi
    rw [q1, q2, q3, if_pos (nI_lt hi (by omega)), show oz_in (nI i) 14 = some i from oz_in_nI (by omega) (by decide)]
    simp only [Option.bind_some]
    rw [hr i hi]
    refine ow_bind (P := fun y => y.1 = Int64.ofNat (rk lt n q (i + 1))) ?_ (fun y hy => ow_some ⟨nI_1 i, ?_, hy⟩)
    · refine ow_for (q i) (fun x t => t.2 = nI x ∧ t.1 = Int64.ofNat (rk lt n q i + sm (wb lt n (sqm q i)) x)) (fun x t hx hJ => ?_) (fun t hJ => ?_) 0 _ (Nat.zero_le _) ⟨rfl, rfl⟩
      · obtain ⟨u1, u2⟩ := hJ
        rw [u1, u2, if_pos (nI_lt hx (by omega)), s_waysWith hn ho ht o1 o2 (by omega)]
        refine ow_let (ow_some ⟨nI_1 x, ?_⟩)
        show Int64.ofNat _ + Int64.ofNat _ = _
        rw [zl_add]
        simp only [sm, Nat.add_assoc]
      · obtain ⟨u1, u2⟩ := hJ
        rw [u1, if_neg (nI_nlt (Nat.le_refl _) (by omega))]
        exact ow_some u2
    · show nI (sqm q i) ||| (1 <<< (nI (q i) &&& 31)) = _
      rw [nI_ins (by omega)]; rfl
  · obtain ⟨q1, q2, q3⟩ := hJ
    rw [q1, if_neg (nI_nlt (Nat.le_refl _) (by omega))]
    exact ow_some q3
theorem us_17 {M : oz_M} {n : Nat} {R : Nat → Nat → Bool} (h : zH M n R) {p1 p2 p3 : Int32} : ow (f_L17 p1 p2 p3 M) (fun N => zH N n R) := by
  have hn := h.n
  have ho := h.ord
  have hp := p2_14 hn
  rcases h.2.2.2.2 with ⟨c1, c2⟩ | ⟨c1, c2, c3, q, hq, hr⟩
  · rw [ul_17 c1 c2]; exact ow_some (h.fz 0)
  · have hT : zWt M n (ztb R) := by
      rcases h.2.2.2.1 with d | d
      · rw [c3] at d; exact absurd d (by decide)
      · exact d.2
    unfold f_L17 f_Hall_number
    rw [c1, if_neg (by decide), s_rank hn ho h.at6 hT hq (fun i hi => (hr i hi).1)]
    simp only [Option.bind_some]
    unfold f_Model_number
    simp only [Option.bind_some]
    rw [if_neg (by rw [rd_s, if_neg (by simp), c2]; decide)]
    obtain ⟨⟨u, N⟩, e, g1, g2, g3, g4⟩ := s_knowH (h.fz 0)
    dsimp only at g1 g2 g3 g4
    rw [e]
    simp only [b2_some]
    have r69 : ∀ i, i < n → N.1 69 i = nI (q i) := by
      obtain ⟨⟨u', N'⟩, e', f', _⟩ := s_know hn ho (h.fz 0).at62 (h.fz 0).L (h.fz 0).2.1
      rw [e] at e'
      cases e'
      intro i hi
      rw [f'.at (by decide), rd_s, if_neg (by simp)]
      exact (hr i hi).2
    have key : ow (oz_lp (fun (s4 : Int32 × Int64 × Int32) => (if s4.2.2 < (N.1 62 1) then ((oz_lp (fun (s5 : Int64 × Int32) => ((oz_in s4.2.2 14).bind fun j6 => if s5.2 < (N.1 69 j6) then ((f_Model_mayCome s5.2 s4.1 N).bind fun v7 => if v7 = 0 then (some (.inl (s5.1, s5.2 + 1))) else ((oz_in (s4.1 ||| (1 <<< (s5.2 &&& 31))) 16384).bind fun j8 => some (.inl (s5.1 + (N.2 68 j8), s5.2 + 1)))) else (some (.inr (s5.1, s5.2))) : Option ((Int64 × Int32) ⊕ (Int64 × Int32)))) (s4.2.1, 0)).bind fun (y11 : Int64 × Int32) => (oz_in s4.2.2 14).bind fun j12 => some (.inl (s4.1 ||| (1 <<< ((N.1 69 j12) &&& 31)), y11.1, s4.2.2 + 1))) else (some (.inr (s4.1, s4.2.1, s4.2.2))) : Option ((Int32 × Int64 × Int32) ⊕ (Int32 × Int64 × Int32)))) (0, 0, 0)) (fun y => y.2.1 = Int64.ofNat (rk (ztb R) n q n)) := by
      rw [g1.at62]
      refine ow_for n (fun i s => s.2.2 = nI i ∧ s.1 = nI (sqm q i) ∧ s.2.1 = Int64.ofNat (rk (ztb R) n q i)) (fun i s hi hJ => ?_) (fun s hJ => ?_) 0 _ (Nat.zero_le _) ⟨rfl, rfl, rfl⟩
      · obtain ⟨q1, q2, q3⟩ := hJ
        obtain ⟨o1, o2⟩ := sqm_ok ho hq (show i ≤ n by omega)
        have hqi := hq.1 i hi
        rw [q1, q2, q3, if_pos (nI_lt hi (by omega)), show oz_in (nI i) 14 = some i from oz_in_nI (by omega) (by decide)]
        simp only [Option.bind_some]
        rw [r69 i hi]
        refine ow_bind (P := fun y => y.1 = Int64.ofNat (rk (ztb R) n q (i + 1))) ?_ (fun y hy => ow_some ⟨nI_1 i, ?_, hy⟩)
        · refine ow_for (q i) (fun x t => t.2 = nI x ∧ t.1 = Int64.ofNat (rk (ztb R) n q i + sm (wb (ztb R) n (sqm q i)) x)) (fun x t hx hJ => ?_) (fun t hJ => ?_) 0 _ (Nat.zero_le _) ⟨rfl, rfl⟩
          · obtain ⟨u1, u2⟩ := hJ
            have hxn : x < n := by omega
            have hl := ins_lt o1 hxn
            rw [u1, u2, if_pos (nI_lt hx (by omega)), s_mayCome hn ho g1.at62 g1.L hxn, nI_ins (by omega), show oz_in (nI (ins (sqm q i) x)) 16384 = some (ins (sqm q i) x) from oz_in_nI (by omega) (by decide)]
            simp only [Option.bind_some]
            rw [(g2 _ hl).2.2]
            cases hm : tb (may (ztb R) (sqm q i) x) with
            | false =>
              rw [bi_f, if_pos rfl]
              have : wb (ztb R) n (sqm q i) x = 0 := by unfold wb; rw [hm]; rfl
              exact ow_some ⟨nI_1 x, by simp only [sm, this, Nat.add_zero]⟩
            | true =>
              rw [if_neg bi_ne]
              have : wb (ztb R) n (sqm q i) x = wy (ztb R) n (ins (sqm q i) x) := by unfold wb; rw [hm]; rfl
              refine ow_some ⟨nI_1 x, ?_⟩
              show Int64.ofNat _ + Int64.ofNat _ = _
              rw [zl_add, ← this]
              simp only [sm, Nat.add_assoc]
          · obtain ⟨u1, u2⟩ := hJ
            rw [u1, if_neg (nI_nlt (Nat.le_refl _) (by omega))]
            exact ow_some u2
        · show nI (sqm q i) ||| (1 <<< (nI (q i) &&& 31)) = _
          rw [nI_ins (by omega)]; rfl
      · obtain ⟨q1, q2, q3⟩ := hJ
        rw [q1, if_neg (nI_nlt (Nat.le_refl _) (by omega))]
        exact ow_some q3
    obtain ⟨y, ey, hy⟩ := key
    rw [ey]
    simp only [Option.bind_some, b2_some]
    rw [hy, cmp_self, if_pos rfl]
    exact ow_some g1
