/-! The law's cases sequences, take, at, exchange, number. -/
def zH4 (M : oz_M) (n : Nat) (R : Nat → Nat → Bool) : Prop := zCo M n R ∧ zKn M n (ztb R) ∧ zMs M n (ztb R) ∧ zWc M n (ztb R)
theorem zH4.line {M N : oz_M} {n : Nat} {R : Nat → Nat → Bool} (h : zH4 M n R) (f : fr [53, 54, 62, 69] M N) (h53 : N.1 53 0 = M.1 53 0) (h62 : ∀ j, j ≠ 12 → j ≠ 0 → N.1 62 j = M.1 62 j) : zH4 N n R := by
  obtain ⟨g1, g2, g3, g4⟩ := h
  refine ⟨?_, ?_, ?_, ?_⟩
  · obtain ⟨u1, u2, u3, u4, u5, u6, u7⟩ := g1
    refine ⟨u1.row (f.at (by decide)) (f.at (by decide)) (f 7 (by decide)).1 (f 8 (by decide)).1 (f 9 (by decide)).1 (h62 2 (by decide) (by decide)) (h62 1 (by decide) (by decide)) (f 63 (by decide)).1 (f 64 (by decide)).1, u2.fr f (by decide) (by decide), ?_, ?_, u5.at (f 12 (by decide)).1, ?_, ?_⟩
    · rw [f.at (by decide)]; exact u3
    · rw [h62 6 (by decide) (by decide)]; exact u4
    · unfold zLv at u6 ⊢
      rw [(f 10 (by decide)).1, (f 11 (by decide)).1]; exact u6
    · rw [f.at (by decide)]; exact u7
  · unfold zKn at g2 ⊢
    rw [h62 10 (by decide) (by decide), (f 66 (by decide)).1, (f 67 (by decide)).1, (f 68 (by decide)).2]; exact g2
  · unfold zMs at g3 ⊢
    rw [(f 45 (by decide)).1, (f 47 (by decide)).1, (f 48 (by decide)).1, (f 50 (by decide)).1, (f 51 (by decide)).1]; exact g3
  · unfold zWc at g4 ⊢
    rw [h53, (f 55 (by decide)).2]; exact g4
theorem s_know4 {M : oz_M} {n : Nat} {R : Nat → Nat → Bool} (h : zH4 M n R) : ow (f_Model_know M) (fun r => zH4 r.2 n R ∧ zKt r.2 n (ztb R) ∧ fr [62, 66, 67, 68] M r.2 ∧ ∀ k, k ≠ 10 → r.2.1 62 k = M.1 62 k) := by
  have hW : zW n R := h.1.1.1
  have hac := h.1.1.2.1
  refine ow_mono (s_know hW.2.1 (zord hW hac) h.1.1.2.2.2.2.2.1.1 h.1.1.2.2.2.2.2.2 h.2.1) (fun r hr => ?_)
  obtain ⟨f, k1, k2, k3⟩ := hr
  obtain ⟨h1, h2, h3, h4⟩ := h
  refine ⟨⟨?_, Or.inr ⟨k2, k3⟩, ?_, ?_⟩, k3, f, k1⟩
  · obtain ⟨g1, g2, g3, g4, g5, g6, g7⟩ := h1
    refine ⟨g1.row (f.at (by decide)) (f.at (by decide)) (f 7 (by decide)).1 (f 8 (by decide)).1 (f 9 (by decide)).1 (k1 2 (by decide)) (k1 1 (by decide)) (f 63 (by decide)).1 (f 64 (by decide)).1, g2.fr f (by decide) (by decide), ?_, ?_, g5.at (f 12 (by decide)).1, ?_, ?_⟩
    · rw [f.at (by decide)]; exact g3
    · rw [k1 6 (by decide)]; exact g4
    · unfold zLv at g6 ⊢
      rw [(f 10 (by decide)).1, (f 11 (by decide)).1]; exact g6
    · rw [f.at (by decide)]; exact g7
  · unfold zMs at h3 ⊢
    rw [(f 45 (by decide)).1, (f 47 (by decide)).1, (f 48 (by decide)).1, (f 50 (by decide)).1, (f 51 (by decide)).1]; exact h3
  · unfold zWc at h4 ⊢
    rw [(f 53 (by decide)).1, (f 55 (by decide)).2]; exact h4
theorem zH.four {M : oz_M} {n : Nat} {R : Nat → Nat → Bool} (h : zH M n R) : zH4 M n R := ⟨h.1, h.2.1, h.2.2.1, h.2.2.2.1⟩
theorem zH4.with {M : oz_M} {n : Nat} {R : Nat → Nat → Bool} (h : zH4 M n R) (k : zSq M n (ztb R)) : zH M n R := ⟨h.1, h.2.1, h.2.2.1, h.2.2.2, k⟩
theorem in0 : oz_in 0 16384 = some 0 := oz_in_nI (j := 0) (by decide) (by decide)
theorem us_13 {M : oz_M} {n : Nat} {R : Nat → Nat → Bool} (h : zH M n R) {p1 p2 p3 : Int32} : ow (f_L13 p1 p2 p3 M) (fun N => zH N n R) := by
  unfold f_L13 f_Law_sequences f_Hall_sequences
  simp only [s_wants h.st, b2_some, el_inr]
  obtain ⟨⟨v, N⟩, e, hv, hH, h53, hT⟩ := s_total h
  dsimp only at hv hH h53 hT
  rw [e]
  simp only [b2_some, el_inr, zin01, Option.bind_some]
  have hF := (hH.fo 0 v).fz 0
  unfold f_Model_sequences
  rw [if_neg (hH.fo 0 v).rst]
  simp only [Option.bind_some]
  rw [if_neg (um_0 _)]
  obtain ⟨⟨u, N2⟩, e2, g1, g2, g3, g4⟩ := s_knowH hF
  dsimp only at g1 g2 g3 g4
  rw [e2]
  simp only [b2_some, in0, Option.bind_some]
  unfold f_Model_thrown
  simp only [Option.bind_some]
  have t0 : N2.1 62 0 = 0 := g3.trans (um_at _ _)
  have t74 : N2.2 74 0 = v := by rw [g4, rd_sl, rd_ll, if_pos ⟨rfl, rfl⟩]
  rw [if_pos t0, if_pos trivial, t74, hv, (g2 0 (p2_pos n)).2.2, cmp_self, if_pos rfl]
  exact ow_some g1
theorem us_14 {M : oz_M} {n : Nat} {R : Nat → Nat → Bool} (h : zH M n R) {p1 p2 p3 : Int32} : ow (f_L14 p1 p2 p3 M) (fun N => zH N n R) := by
  have hn := h.n
  have ho := h.ord
  unfold f_L14
  generalize ((Int32.toInt64 p1) <<< (Int32.toInt64 32 &&& 63)) ||| ((Int32.toInt64 p2) &&& 4294967295) = x
  have hw := wy_le (lt := ztb R) hn (p2_pos n)
  have c0 : ∀ k, k < wy (ztb R) n 0 → ¬ lg_cmp (Int64.ofNat k) 0 < 0 := fun k hk q => by
    have := (lc_lt (a := k) (b := 0) (by omega) (by omega)).mp q
    omega
  rcases lg_cases x (W := wy (ztb R) n 0) (by omega) with ⟨k, hk, rfl⟩ | h0 | ⟨h0, h1⟩
  · have c1 : lg_cmp (Int64.ofNat k) (Int64.ofNat (wy (ztb R) n 0)) < 0 := (lc_lt (by omega) (by omega)).mpr hk
    unfold f_Law_take f_Hall_take
    simp only [s_wants h.st, b2_some, el_inr]
    rw [if_neg (c0 k hk)]
    obtain ⟨⟨v, N⟩, e, hv, hH, h53, hT⟩ := s_total h
    dsimp only at hv hH h53 hT
    rw [e]
    simp only [b2_some]
    rw [hv, if_pos c1]
    obtain ⟨⟨u, N1⟩, e1, f1, w1, w2, w3⟩ := s_write hn ho hH.at6 hT hk
    dsimp only at f1 w1 w2 w3
    rw [e1]
    simp only [b2_some, el_inr]
    have H1 : zH4 N1 n R := hH.four.line (f1.sub (by decide)) (w2 0 (by decide)) (fun j _ _ => f1.at (by decide))
    unfold f_Model_take
    rw [if_neg (by rw [f1.at (by decide)]; exact hH.rst)]
    simp only [Option.bind_some]
    rw [if_neg (um_0 _)]
    have H2 : zH4 (oz_s N1 62 0 0) n R := H1.line (fr.refl.s (by decide)) (by rw [rd_s, if_neg (by simp)]) (fun j _ hj => by rw [rd_s, if_neg (by simp [hj])])
    obtain ⟨⟨u3, N3⟩, e3, H3, K3, f3, g3⟩ := s_know4 H2
    dsimp only at H3 K3 f3 g3
    rw [e3]
    simp only [b2_some, in0, Option.bind_some]
    rw [if_neg (c0 k hk), (K3 0 (p2_pos n)).2.2, if_pos c1]
    simp only [Option.bind_some]
    rw [if_neg (um_0 _)]
    have H4 : zH4 (oz_s N3 62 0 0) n R := H3.line (fr.refl.s (by decide)) (by rw [rd_s, if_neg (by simp)]) (fun j _ hj => by rw [rd_s, if_neg (by simp [hj])])
    have K4 : zKt (oz_s N3 62 0 0) n (ztb R) := fun S hS => by
      rw [rd_s, if_neg (by simp), rd_s, if_neg (by simp)]; exact K3 S hS
    obtain ⟨y, e5, f5, s5⟩ := s_rtake hn ho H4.1.1.2.2.2.2.2.1.1 H4.1.1.2.2.2.2.2.2 K4 hk
    simp only [Option.bind_some] at e5
    rw [e5]
    simp only [Option.bind_some, b2_some]
    unfold f_Model_thrown
    simp only [Option.bind_some]
    have f6 : fr [62, 69] (oz_s N3 62 0 0) (oz_s y.2.2.2 62 12 1) := (f5.sub (by decide)).s (by decide)
    have t0 : (oz_s y.2.2.2 62 12 1).1 62 0 = 0 := by rw [rd_s, if_neg (by simp), f5.at (by decide), um_at]
    rw [if_pos t0]
    refine ow_some ((H4.line (f6.sub (by decide)) (f6.at (by decide)) (fun j hj _ => by rw [rd_s, if_neg (by simp [hj]), f5.at (by decide)])).with (Or.inr ⟨?_, by rw [rd_s, if_pos ⟨rfl, rfl⟩], ?_, sq (ztb R) n k, sq_zsq hn ho hk, fun i hi => ⟨?_, ?_⟩⟩))
    · rw [f6.at (by decide), rd_s, if_neg (by simp), f3.at (by decide), rd_s, if_neg (by simp)]; exact w1
    · rw [f6.at (by decide), rd_s, if_neg (by simp), f3.at (by decide), rd_s, if_neg (by simp), w2 0 (by decide)]; exact h53
    · rw [f6.at (by decide), rd_s, if_neg (by simp), f3.at (by decide), rd_s, if_neg (by simp)]; exact w3 i hi
    · rw [rd_s, if_neg (by simp)]; exact s5 i hi
  · unfold f_Law_take f_Hall_take
    simp only [s_wants h.st, b2_some, el_inr]
    rw [if_pos h0]
    simp only [b2_some, el_inl]
    rw [if_neg (by decide), if_pos trivial]
    simp only [b2_some]
    unfold f_Model_take
    rw [if_neg h.rst]
    simp only [Option.bind_some]
    rw [if_neg (um_0 _)]
    obtain ⟨⟨u, N2⟩, e2, g1, g2, g3, g4⟩ := s_knowH (h.fz 0)
    dsimp only at g1 g2 g3 g4
    rw [e2]
    simp only [b2_some]
    rw [if_pos h0]
    simp only [Option.bind_some]
    rw [if_pos (um_posk _ (by decide))]
    unfold f_Model_thrown
    simp only [b2_some, Option.bind_some]
    rw [if_pos (um_at _ _)]
    exact ow_some (g1.fz 2)
  · unfold f_Law_take f_Hall_take
    simp only [s_wants h.st, b2_some, el_inr]
    rw [if_neg h0]
    obtain ⟨⟨v, N⟩, e, hv, hH, h53, hT⟩ := s_total h
    dsimp only at hv hH h53 hT
    rw [e]
    simp only [b2_some]
    rw [hv, if_neg h1]
    simp only [b2_some, el_inl]
    rw [if_neg (by decide), if_pos trivial]
    simp only [b2_some]
    unfold f_Model_take
    rw [if_neg hH.rst]
    simp only [Option.bind_some]
    rw [if_neg (um_0 _)]
    obtain ⟨⟨u, N2⟩, e2, g1, g2, g3, g4⟩ := s_knowH (hH.fz 0)
    dsimp only at g1 g2 g3 g4
    rw [e2]
    simp only [b2_some, in0, Option.bind_some]
    rw [if_neg h0, (g2 0 (p2_pos n)).2.2, if_neg h1]
    simp only [Option.bind_some]
    rw [if_pos (um_posk _ (by decide))]
    unfold f_Model_thrown
    simp only [b2_some, Option.bind_some]
    rw [if_pos (um_at _ _)]
    exact ow_some (g1.fz 2)
theorem us_15 {M : oz_M} {n : Nat} {R : Nat → Nat → Bool} (h : zH M n R) {p1 p2 p3 : Int32} : ow (f_L15 p1 p2 p3 M) (fun N => zH N n R) := by
  have hn := h.n
  rcases h.2.2.2.2 with ⟨c1, c2⟩ | ⟨c1, c2, c3, q, hq, hr⟩
  · rw [ul_15 c1 c2]; exact ow_some (h.fz 0)
  · unfold f_L15 f_Hall_at f_Model_at
    have e12 : (oz_s M 62 0 0).1 62 12 = 1 := by rw [rd_s, if_neg (by simp)]; exact c2
    have e1 : (oz_s M 62 0 0).1 62 1 = nI n := by rw [rd_s, if_neg (by simp)]; exact h.at62
    simp only [Option.bind_some]
    rw [c1, e12, e1, h.at6, if_neg (show ¬ (1 : Int32) = 0 by decide), if_neg (show ¬ (1 : Int32) = 0 by decide)]
    rcases el_cases p1 hn with ⟨i, hi, rfl⟩ | hx
    · rw [if_neg (nI_pos (by omega)), if_neg (nI_pos (by omega)), if_pos (nI_lt hi (by omega)), if_pos (nI_lt hi (by omega)), show oz_in (nI i) 14 = some i from oz_in_nI (by omega) (by decide)]
      simp only [Option.bind_some, b2_some]
      rw [if_pos (by rw [rd_s, if_neg (by simp), (hr i hi).1, (hr i hi).2])]
      exact ow_some (h.fz 0)
    · have key : ∀ {X : Type} (a b : X), (if p1 < 0 then a else if p1 < nI n then b else a) = a := fun a b => by
        by_cases h0 : p1 < 0
        · rw [if_pos h0]
        · rw [if_neg h0, if_neg (hx.resolve_left h0)]
      rw [key, key]
      simp only [Option.bind_some, b2_some, if_true]
      exact ow_some (h.fz 0)
theorem us_16 {M : oz_M} {n : Nat} {R : Nat → Nat → Bool} (h : zH M n R) {p1 p2 p3 : Int32} : ow (f_L16 p1 p2 p3 M) (fun N => zH N n R) := by
  have hn := h.n
  have hn1 := h.W.1
  have ho := h.ord
  rcases h.2.2.2.2 with ⟨c1, c2⟩ | ⟨c1, c2, c3, q, hq, hr⟩
  · rw [ul_16 c1 c2]; exact ow_some (h.fz 0)
  · unfold f_L16 f_Hall_exchange
    have epred : nI n - 1 = nI (n - 1) := by
      have := nI_pred (n - 1)
      rwa [show n - 1 + 1 = n by omega] at this
    rw [c1, h.at6, if_neg (by decide), epred]
    have hM : ∀ N : oz_M, N.1 62 12 = 1 → N.1 62 1 = nI n → ∀ {X : Type} (a b : X), (if (oz_s N 62 0 0).1 62 12 = 0 then a else b) = b := fun N e _ X a b => by
      have e2 : (oz_s N 62 0 0).1 62 12 = 1 := by rw [rd_s, if_neg (by simp)]; exact e
      rw [e2, if_neg (by decide)]
    rcases el_cases p1 (show n - 1 ≤ 14 by omega) with ⟨i, hi, rfl⟩ | hx
    · rw [if_neg (nI_pos (by omega)), if_pos (nI_lt hi (by omega))]
      unfold f_Line_swap
      rw [show oz_in (nI i) 14 = some i from oz_in_nI (by omega) (by decide), nI_1, show oz_in (nI (i + 1)) 14 = some (i + 1) from oz_in_nI (by omega) (by decide)]
      simp only [Option.bind_some]
      have hqi := hq.1 i (by omega)
      have hqj := hq.1 (i + 1) (by omega)
      rw [(hr i (by omega)).1, (hr (i + 1) (by omega)).1, show oz_in (nI (q i)) 14 = some (q i) from oz_in_nI (by omega) (by decide)]
      simp only [Option.bind_some]
      rw [(h.rows hqi).2.2, s_chas _ (by omega)]
      have ebit : (aprt (ztb R) n (q i)).testBit (q (i + 1)) = apt (ztb R) (q i) (q (i + 1)) := by
        unfold aprt
        rw [mk_bit]; simp [hqj]
      rw [ebit]
      simp only [Option.bind_some]
      cases hap : apt (ztb R) (q i) (q (i + 1)) with
      | false =>
        rw [bi_f, if_pos rfl]
        simp only [show oz_z 0 = some 0 from rfl, Option.bind_some, b2_some, if_true]
        unfold f_Model_exchange
        simp only [Option.bind_some]
        rw [hM M c2 h.at62, if_neg (nI_pos (by omega)), show (oz_s M 62 0 0).1 62 1 = nI n from (h.fz 0).at62, epred, if_pos (nI_lt hi (by omega)), show oz_in (nI i) 14 = some i from oz_in_nI (by omega) (by decide), nI_1, show oz_in (nI (i + 1)) 14 = some (i + 1) from oz_in_nI (by omega) (by decide)]
        simp only [Option.bind_some]
        rw [rd_s, if_neg (by simp), rd_s, if_neg (by simp), (hr i (by omega)).2, (hr (i + 1) (by omega)).2, s_apart (h.fz 0).L (by omega) (by omega)]
        show ow (oz_b2 ((some (bi (apt (ztb R) (q i) (q (i + 1))))).bind _) _) _
        rw [hap]
        simp only [Option.bind_some, bi_f, if_true, b2_some]
        exact ow_some (h.fz 0)
      | true =>
        rw [if_neg bi_ne]
        simp only [show oz_z 1 = some 1 from rfl, Option.bind_some, b2_some]
        rw [if_neg (by decide)]
        simp only [b2_some]
        generalize hN : oz_s (oz_s M 54 i (nI (q (i + 1)))) 54 (i + 1) (nI (q i)) = N
        have f : fr [54] M N := by rw [← hN]; exact (fr.refl.s (by decide)).s (by decide)
        have N4 : zH4 N n R := h.four.line (f.sub (by decide)) (f.at (by decide)) (fun j _ _ => f.at (by decide))
        have e12 : N.1 62 12 = 1 := by rw [f.at (by decide)]; exact c2
        have e1 : N.1 62 1 = nI n := by rw [f.at (by decide)]; exact h.at62
        have N5 : zH4 (oz_s N 62 0 0) n R := N4.line (fr.refl.s (by decide)) (by rw [rd_s, if_neg (by simp)]) (fun j _ hj => by rw [rd_s, if_neg (by simp [hj])])
        have r69 : ∀ j, N.1 69 j = M.1 69 j := fun j => f.at (by decide)
        unfold f_Model_exchange
        simp only [Option.bind_some]
        rw [hM N e12 e1, if_neg (nI_pos (by omega)), show (oz_s N 62 0 0).1 62 1 = nI n from N5.1.1.2.2.2.2.2.1.1, epred, if_pos (nI_lt hi (by omega)), show oz_in (nI i) 14 = some i from oz_in_nI (by omega) (by decide), nI_1, show oz_in (nI (i + 1)) 14 = some (i + 1) from oz_in_nI (by omega) (by decide)]
        simp only [Option.bind_some]
        have a1 : (oz_s N 62 0 0).1 69 i = nI (q i) := by rw [rd_s, if_neg (by simp), r69, (hr i (by omega)).2]
        have a2 : (oz_s N 62 0 0).1 69 (i + 1) = nI (q (i + 1)) := by rw [rd_s, if_neg (by simp), r69, (hr (i + 1) (by omega)).2]
        rw [a1, a2, s_apart N5.1.1.2.2.2.2.2.2 (by omega) (by omega)]
        show ow (oz_b2 ((some (bi (apt (ztb R) (q i) (q (i + 1))))).bind _) _) _
        rw [hap]
        simp only [Option.bind_some]
        rw [if_neg bi_ne]
        simp only [b2_some, if_true]
        have f2 : fr [62, 69] N (oz_s (oz_s (oz_s N 62 0 0) 69 i (nI (q (i + 1)))) 69 (i + 1) (nI (q i))) := ((fr.refl.s (by decide)).s (by decide)).s (by decide)
        have s2 : fr [69] (oz_s N 62 0 0) (oz_s (oz_s (oz_s N 62 0 0) 69 i (nI (q (i + 1)))) 69 (i + 1) (nI (q i))) := (fr.refl.s (by decide)).s (by decide)
        let g : Nat → Nat := fun j => if j = i then i + 1 else if j = i + 1 then i else j
        have hg : ∀ j, j < n → g j < n := fun j hj => by
          show (if j = i then i + 1 else if j = i + 1 then i else j) < n
          by_cases e : j = i
          · rw [if_pos e]; omega
          · rw [if_neg e]
            by_cases e' : j = i + 1
            · rw [if_pos e']; omega
            · rw [if_neg e']; exact hj
        have gi : g i = i + 1 := by show (if i = i then i + 1 else _) = _; rw [if_pos rfl]
        have gj : g (i + 1) = i := by
          show (if i + 1 = i then i + 1 else if i + 1 = i + 1 then i else i + 1) = i
          rw [if_neg (by omega), if_pos rfl]
        have go : ∀ j, j ≠ i → j ≠ i + 1 → g j = j := fun j h1 h2 => by
          show (if j = i then i + 1 else if j = i + 1 then i else j) = j
          rw [if_neg h1, if_neg h2]
        have gg : ∀ j, g (g j) = j := fun j => by
          by_cases e : j = i
          · rw [e, gi, gj]
          · by_cases e' : j = i + 1
            · rw [e', gj, gi]
            · rw [go j e e', go j e e']
        refine ow_some ((N5.line (s2.sub (by decide)) (s2.at (by decide)) (fun j _ _ => s2.at (by decide))).with (Or.inr ⟨?_, ?_, ?_, fun j => q (g j), ⟨fun j hj => hq.1 _ (hg j hj), fun a b ha hb e => ?_, fun y hy => ?_, fun a b ha hb hl => ?_⟩, fun j hj => ⟨?_, ?_⟩⟩))
        · rw [f2.at (by decide), f.at (by decide)]; exact c1
        · rw [s2.at (by decide), rd_s, if_neg (by simp)]; exact e12
        · rw [f2.at (by decide), f.at (by decide)]; exact c3
        · have := hq.2.1 _ _ (hg a ha) (hg b hb) e
          rw [← gg a, this, gg b]
        · obtain ⟨j, h1, h2⟩ := hq.2.2.1 y hy
          exact ⟨g j, hg j h1, by show q (g (g j)) = y; rw [gg]; exact h2⟩
        · have hlt := hq.2.2.2 _ _ (hg a ha) (hg b hb) hl
          have hnot : ¬ (g a = i ∧ g b = i + 1) := fun ⟨x1, x2⟩ => by
            have hl' : ztb R (q (g a)) (q (g b)) = true := hl
            rw [x1, x2] at hl'
            unfold apt at hap
            rw [hl'] at hap
            simp at hap
          by_cases ea : a = i
          · rw [ea, gi] at hlt hnot
            by_cases eb : b = i + 1
            · omega
            · by_cases eb2 : b = i
              · rw [eb2, gi] at hlt; omega
              · rw [go b eb2 eb] at hlt; omega
          · by_cases ea2 : a = i + 1
            · rw [ea2, gj] at hlt hnot
              by_cases eb : b = i
              · rw [eb, gi] at hnot; exact absurd ⟨rfl, rfl⟩ hnot
              · by_cases eb2 : b = i + 1
                · rw [eb2, gj] at hlt; omega
                · rw [go b eb eb2] at hlt; omega
            · rw [go a ea ea2] at hlt
              by_cases eb : b = i
              · rw [eb, gi] at hlt; omega
              · by_cases eb2 : b = i + 1
                · rw [eb2, gj] at hlt; omega
                · rw [go b eb eb2] at hlt; exact hlt
        · rw [f2.at (by decide), ← hN, rd_s, rd_s]
          by_cases e' : j = i + 1
          · subst e'
            simp [gj]
          · by_cases e : j = i
            · subst e
              simp [gi]
            · rw [if_neg (by simp [e']), if_neg (by simp [e]), (hr j hj).1]
              show nI (q j) = nI (q (g j))
              rw [go j e e']
        · rw [rd_s, rd_s]
          by_cases e' : j = i + 1
          · subst e'
            simp [gj]
          · by_cases e : j = i
            · subst e
              simp [gi]
            · rw [if_neg (by simp [e']), if_neg (by simp [e]), rd_s, if_neg (by simp), r69, (hr j hj).2]
              show nI (q j) = nI (q (g j))
              rw [go j e e']
    · have key : ∀ {X : Type} (a b : X), (if p1 < 0 then a else if p1 < nI (n - 1) then b else a) = a := fun a b => by
        by_cases h0 : p1 < 0
        · rw [if_pos h0]
        · rw [if_neg h0, if_neg (hx.resolve_left h0)]
      rw [key]
      simp only [b2_some]
      unfold f_Model_exchange
      simp only [Option.bind_some]
      rw [hM M c2 h.at62, show (oz_s M 62 0 0).1 62 1 = nI n from (h.fz 0).at62, epred, key]
      simp only [b2_some, if_true]
      exact ow_some (h.fz 0)
