/-! measure, all of it. -/
theorem zTb.fr {is : List Nat} {M N : oz_M} {G : Nat → Nat → Bool} {K : Nat} (h : zTb M G K) (k : fr is M N) (h1 : 52 ∉ is) : zTb N G K := fun S hS => by rw [k.at h1]; exact h S hS
theorem s_kind {M : oz_M} {n : Nat} {lt G : Nat → Nat → Bool} {c : Nat} (hc : c = 0 ∧ G = apt lt ∨ c = 1 ∧ G = cmp lt) (ho : ord n lt) (hn : n ≤ 14) (hn1 : 1 ≤ n) (h6 : M.1 6 0 = nI n) (h7 : ∀ x, x < n → M.1 7 x = nI (blw lt n x) ∧ M.1 8 x = nI (blw (op lt) n x) ∧ M.1 9 x = nI (aprt lt n x)) (h52 : M.1 52 0 = 0) : ow (f_Held_measureKind (nI c) M) (fun r => fr [47 + c, 50 + c, 52] M r.2 ∧ zTb r.2 G (2 ^ n) ∧ ∀ k, k ≤ 14 → r.2.1 (47 + c) k = nI (most G n k) ∧ r.2.1 (50 + c) k = nI (fo (fun s => decide (om G s ≤ k)) (2 ^ n))) := by
  have hc1 : c < 2 := by omega
  have hsym : ∀ a b, G a b = true → G b a = true := by
    rcases hc with ⟨_, rfl⟩ | ⟨_, rfl⟩
    · exact apt_sym lt
    · exact cmp_sym lt
  unfold f_Held_measureKind
  refine ow_bind (P := fun y => fr [52] M y.2 ∧ zTb y.2 G (2 ^ n)) ?_ (fun y hy => ?_)
  · refine ow_for n (fun k s => s.1 = nI k ∧ fr [52] M s.2 ∧ zTb s.2 G (2 ^ k)) (fun x s hx hJ => ?_) (fun s hJ => ?_) 0 _ (Nat.zero_le _) ⟨rfl, fr.refl, fun S hS => ?_⟩
    · obtain ⟨q1, q2, q3⟩ := hJ
      have s6 : s.2.1 6 0 = nI n := by rw [q2.at (by decide)]; exact h6
      have s7 : s.2.1 7 x = nI (blw lt n x) := by rw [q2.at (by decide)]; exact (h7 x hx).1
      have s8 : s.2.1 8 x = nI (blw (op lt) n x) := by rw [q2.at (by decide)]; exact (h7 x hx).2.1
      have s9 : s.2.1 9 x = nI (aprt lt n x) := by rw [q2.at (by decide)]; exact (h7 x hx).2.2
      rw [q1, s6, if_pos (nI_lt hx (by omega)), show oz_in (nI x) 14 = some x from oz_in_nI (by omega) (by decide)]
      simp only [Option.bind_some]
      rw [s7, s8, s9]
      rcases hc with ⟨rfl, rfl⟩ | ⟨rfl, rfl⟩
      · rw [if_pos (show nI 0 = 0 from rfl)]
        refine ow_let (ow_b2 (s_extend hsym (by omega) (fun i hi => ?_) q3) (fun _ N hN => ow_some ⟨nI_1 x, q2.trans hN.1, hN.2⟩))
        unfold aprt
        rw [mk_bit]
        simp [show i < n by omega]
      · rw [if_neg (show ¬ nI 1 = 0 by decide), nI_or]
        refine ow_let (ow_b2 (s_extend hsym (by omega) (fun i hi => ?_) q3) (fun _ N hN => ow_some ⟨nI_1 x, q2.trans hN.1, hN.2⟩))
        rw [Nat.testBit_or, blw_bit ho, blw_bit (ord_op ho)]
        unfold cmp op
        exact Bool.or_comm _ _
    · obtain ⟨q1, q2, q3⟩ := hJ
      have s6 : s.2.1 6 0 = nI n := by rw [q2.at (by decide)]; exact h6
      rw [q1, s6, if_neg (nI_nlt (Nat.le_refl _) (by omega))]
      exact ow_some ⟨q2, q3⟩
    · have : S = 0 := by simpa using hS
      rw [this, om_0]; exact h52
  · obtain ⟨y1, y2⟩ := hy
    rw [show oz_in (nI c) 2 = some c from oz_in_nI hc1 (by decide)]
    simp only [Option.bind_some]
    refine ow_b2 (s_note hn (show 47 + c ≠ 50 + c by omega) ⟨by omega, by omega⟩ ⟨by omega, by omega⟩ (by rw [y1.at (by decide)]; exact h6) y2) (fun _ N hN => ?_)
    refine ow_b2 (s_spread hn hn1 (show 47 + c ≠ 50 + c by omega) hN.2) (fun _ P hP => ow_some ⟨?_, ?_, hP.2⟩)
    · have a1 := hN.1
      have a2 := hP.1
      dsimp only at a1 a2
      exact ((y1.sub (by simp)).trans (a1.sub (fun i hi => by simp at hi ⊢; omega))).trans (a2.sub (fun i hi => by simp at hi ⊢; omega))
    · have a1 := hN.1
      have a2 := hP.1
      dsimp only at a1 a2
      exact (y2.fr a1 (by simp; omega)).fr a2 (by simp; omega)
theorem s_countAnti {M : oz_M} {n : Nat} {lt : Nat → Nat → Bool} (ho : ord n lt) (hn : n ≤ 14) (h6 : M.1 6 0 = nI n) (ht : zTb M (cmp lt) (2 ^ n)) (h48 : M.1 48 1 = nI (most (cmp lt) n 1)) : ow (f_Held_countAntichains M) (fun r => fr [45] M r.2 ∧ r.2.1 45 0 = M.1 45 0 ∧ r.2.1 45 3 = nI (cnt (fun T => tb (anti lt T)) (2 ^ n)) ∧ r.2.1 45 4 = nI (cnt (fun T => tb (wide lt n (most (cmp lt) n 1) T)) (2 ^ n)) ∧ r.2.1 45 5 = nI (wun lt n (most (cmp lt) n 1) (2 ^ n))) := by
  have hp := p2_14 hn
  have hpp := p2_pos n
  have hw : most (cmp lt) n 1 ≤ 14 := by have := sz_le (fo_om (G := cmp lt) (n := n) (k := 1)).1 hn; unfold most; omega
  generalize most (cmp lt) n 1 = w at h48 hw
  unfold f_Held_countAntichains
  refine ow_let (ow_let (ow_let ?_))
  refine ow_bind (P := fun y => fr [45] M y.2 ∧ y.2.1 45 0 = M.1 45 0 ∧ y.2.1 45 3 = nI (cnt (fun T => tb (anti lt T)) (2 ^ n)) ∧ y.2.1 45 4 = nI (cnt (fun T => tb (wide lt n w T)) (2 ^ n)) ∧ y.2.1 45 5 = nI (wun lt n w (2 ^ n))) ?_ (fun y hy => ow_some hy)
  have hall : ∀ N : oz_M, fr [45] M N → f_Order_everything N = some (nI (2 ^ n - 1)) := fun N f => by
    unfold f_Order_everything
    rw [f.at (by simp), h6, nI_all (by omega)]
  refine ow_for (2 ^ n) (fun k s => s.1 = nI k ∧ fr [45] M s.2 ∧ s.2.1 45 0 = M.1 45 0 ∧ s.2.1 45 3 = nI (cnt (fun T => tb (anti lt T)) k) ∧ s.2.1 45 4 = nI (cnt (fun T => tb (wide lt n w T)) k) ∧ s.2.1 45 5 = nI (wun lt n w k)) (fun k s hk hJ => ?_) (fun s hJ => ?_) 0 _ (Nat.zero_le _) ⟨rfl, ((fr.refl.s (by decide)).s (by decide)).s (by decide), by simp [rd_s], by simp [rd_s, cnt]; rfl, by simp [rd_s, cnt]; rfl, by simp [rd_s, wun]; rfl⟩
  · obtain ⟨q1, q2, q3, q4, q5, q6⟩ := hJ
    have e52 : s.2.1 52 k = nI (om (cmp lt) k) := by rw [q2.at (by decide)]; exact ht k hk
    have o1 : om (cmp lt) k ≤ 14 := om_14 hn hk
    rw [hall s.2 q2, q1]
    simp only [Option.bind_some]
    rw [if_neg (nI_nlt (by omega) (by omega)), show oz_in (nI k) 16384 = some k from oz_in_nI (by omega) (by decide)]
    simp only [Option.bind_some]
    rw [e52]
    have hiff := om_anti ho (lt14 hn hk)
    refine ow_ite (fun hc => ?_) (fun hc => ?_)
    · have hna : ¬ anti lt k := fun q => by
        have := hiff.mpr q
        exact absurd hc (show ¬ (1 : Int32) < nI (om (cmp lt) k) from nI_nlt (a := 1) this (by omega))
      refine ow_some ⟨nI_1 k, q2, q3, ?_, ?_, ?_⟩
      · simp only [cnt, tb_no.mpr hna]; exact q4
      · simp only [cnt, tb_no.mpr (show ¬ wide lt n w k from fun q => hna q.2.1)]; exact q5
      · simp only [wun]; rw [if_neg (fun q => hna (tb_iff.mp q).2.1)]; exact q6
    · have ha : anti lt k := hiff.mp (Nat.le_of_not_lt (fun q => hc (show (1 : Int32) < nI (om (cmp lt) k) from nI_lt (a := 1) q (by omega))))
      rw [s_bitCount, nI_bc (lt14 hn hk), show oz_in 1 2 = some 1 from oz_in_nI (j := 1) (by decide) (by decide), show oz_in 1 15 = some 1 from oz_in_nI (j := 1) (by decide) (by decide)]
      simp only [Option.bind_some]
      have e48 : (oz_s s.2 45 3 (s.2.1 45 3 + 1)).1 (47 + 1) 1 = nI w := by
        rw [rd_s, if_neg (by simp), q2.at (by decide)]; exact h48
      rw [e48]
      have hsz := sz_le hk hn
      refine ow_ite (fun hz => ?_) (fun hz => ?_)
      · have hwd : wide lt n w k := ⟨hk, ha, (nI_eq (by omega) (by omega)).mp hz⟩
        refine ow_some ⟨nI_1 k, ((q2.s (by decide)).s (by decide)).s (by decide), ?_, ?_, ?_, ?_⟩
        · simp [rd_s]; exact q3
        · simp [rd_s]
          rw [q4]
          simp only [cnt, tb_iff.mpr ha]; exact nI_1 _
        · simp [rd_s]
          rw [q5]
          simp only [cnt, tb_iff.mpr hwd]; exact nI_1 _
        · simp [rd_s]
          rw [q6, nI_or]
          simp only [wun]; rw [if_pos (tb_iff.mpr hwd)]
      · have hwd : ¬ wide lt n w k := fun q => hz (by rw [q.2.2])
        refine ow_some ⟨nI_1 k, q2.s (by decide), ?_, ?_, ?_, ?_⟩
        · simp [rd_s]; exact q3
        · simp [rd_s]
          rw [q4]
          simp only [cnt, tb_iff.mpr ha]; exact nI_1 _
        · simp [rd_s]
          rw [q5]
          simp only [cnt, tb_no.mpr hwd]; rfl
        · simp [rd_s]
          rw [q6]
          simp only [wun]; rw [if_neg (fun q => hwd (tb_iff.mp q))]
  · obtain ⟨q1, q2, q3⟩ := hJ
    rw [hall s.2 q2, q1]
    simp only [Option.bind_some]
    rw [if_pos (nI_lt (by omega) (by omega))]
    exact ow_some ⟨q2, q3⟩
def zMt (M : oz_M) (n : Nat) (lt : Nat → Nat → Bool) : Prop := (∀ k, k ≤ 14 → M.1 47 k = nI (most (apt lt) n k) ∧ M.1 48 k = nI (most (cmp lt) n k) ∧ M.1 50 k = nI (fo (fun s => decide (om (apt lt) s ≤ k)) (2 ^ n)) ∧ M.1 51 k = nI (fo (fun s => decide (om (cmp lt) s ≤ k)) (2 ^ n))) ∧ M.1 45 3 = nI (cnt (fun T => tb (anti lt T)) (2 ^ n)) ∧ M.1 45 4 = nI (cnt (fun T => tb (wide lt n (most (cmp lt) n 1) T)) (2 ^ n)) ∧ M.1 45 5 = nI (wun lt n (most (cmp lt) n 1) (2 ^ n))
theorem s_measure {M : oz_M} {n : Nat} {R : Nat → Nat → Bool} (h : zH M n R) : ow (f_Held_measure M) (fun r => zH r.2 n R ∧ zMt r.2 n (ztb R) ∧ fr [45, 47, 48, 50, 51, 52] M r.2) := by
  have hn := h.n
  have hn1 := h.W.1
  have ho := h.ord
  unfold f_Held_measure
  rcases h.2.2.1 with h0 | ⟨h1, h2⟩
  · rw [if_pos h0]
    refine ow_b2 (s_kind (c := 0) (Or.inl ⟨rfl, rfl⟩) ho hn hn1 h.at6 (fun x hx => h.rows hx) h.1.2.2.2.2.2.2) (fun _ N hN => ?_)
    obtain ⟨f1, t1, k1⟩ := hN
    dsimp only at f1 t1 k1
    refine ow_b2 (s_kind (c := 1) (Or.inr ⟨rfl, rfl⟩) ho hn hn1 (by rw [f1.at (by decide)]; exact h.at6) (fun x hx => by rw [f1.at (by decide), f1.at (by decide), f1.at (by decide)]; exact h.rows hx) ?_) (fun _ P hP => ?_)
    · have := t1 0 (p2_pos n)
      rw [om_0] at this
      exact this
    obtain ⟨f2, t2, k2⟩ := hP
    dsimp only at f2 t2 k2
    refine ow_b2 (s_countAnti ho hn (by rw [f2.at (by decide), f1.at (by decide)]; exact h.at6) t2 (k2 1 (by omega)).1) (fun _ Q hQ => ?_)
    obtain ⟨f3, c0, c3, c4, c5⟩ := hQ
    dsimp only at f3 c0 c3 c4 c5
    refine ow_let (ow_some ?_)
    have f : fr [45, 47, 48, 50, 51, 52] M (oz_s Q 45 0 1) := ((((f1.sub (by decide)).trans (f2.sub (by decide))).trans (f3.sub (by decide)))).s (by decide)
    have hT : zMt (oz_s Q 45 0 1) n (ztb R) := by
      refine ⟨fun k hk => ⟨?_, ?_, ?_, ?_⟩, ?_, ?_, ?_⟩
      · rw [rd_s, if_neg (by simp), f3.at (by decide), f2.at (by decide)]; exact (k1 k hk).1
      · rw [rd_s, if_neg (by simp), f3.at (by decide)]; exact (k2 k hk).1
      · rw [rd_s, if_neg (by simp), f3.at (by decide), f2.at (by decide)]; exact (k1 k hk).2
      · rw [rd_s, if_neg (by simp), f3.at (by decide)]; exact (k2 k hk).2
      · rw [rd_s, if_neg (by simp)]; exact c3
      · rw [rd_s, if_neg (by simp)]; exact c4
      · rw [rd_s, if_neg (by simp)]; exact c5
    refine ⟨?_, hT, f⟩
    obtain ⟨g1, g2, g3, g4, g5⟩ := h
    refine ⟨?_, ?_, Or.inr ⟨by rw [rd_s, if_pos ⟨rfl, rfl⟩], hT⟩, ?_, ?_⟩
    · obtain ⟨u1, u2, u3, u4, u5, u6, u7⟩ := g1
      refine ⟨u1.row (f.at (by decide)) (f.at (by decide)) (f 7 (by decide)).1 (f 8 (by decide)).1 (f 9 (by decide)).1 (f.at (by decide)) (f.at (by decide)) (f 63 (by decide)).1 (f 64 (by decide)).1, u2.fr f (by decide) (by decide), ?_, ?_, u5.at (f 12 (by decide)).1, ?_, ?_⟩
      · rw [f.at (by decide)]; exact u3
      · rw [f.at (by decide)]; exact u4
      · unfold zLv at u6 ⊢
        rw [(f 10 (by decide)).1, (f 11 (by decide)).1]; exact u6
      · rw [rd_s, if_neg (by simp), f3.at (by decide)]
        have := t2 0 (p2_pos n)
        rw [om_0] at this
        exact this
    · unfold zKn at g2 ⊢
      rw [(f 62 (by decide)).1, (f 66 (by decide)).1, (f 67 (by decide)).1, (f 68 (by decide)).2]; exact g2
    · unfold zWc at g4 ⊢
      rw [(f 53 (by decide)).1, (f 55 (by decide)).2]; exact g4
    · unfold zSq at g5 ⊢
      rw [(f 53 (by decide)).1, (f 54 (by decide)).1, (f 69 (by decide)).1, (f 62 (by decide)).1]; exact g5
  · rw [if_neg (by rw [h1]; decide)]
    exact ow_some ⟨h, h2, fr.refl⟩
