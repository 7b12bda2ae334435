/-! The law's cases level, most, first. -/
theorem lawA {a : Option ((Nat ⊕ Int32) × oz_M)} {g : oz_M → Nat → Option (Int32 × oz_M)} {v : Int32} {n : Nat} {R : Nat → Nat → Bool} (h : ow a (fun r => r.1 = .inr v ∧ zH r.2 n R)) : ow (oz_b2 a fun w M1 => oz_el (g M1) (fun v => (oz_in 0 1).bind fun j51 => (some (oz_l M1 74 j51 (Int32.toInt64 v))).bind fun M52 => some (0, M52)) w) (fun r => r.1 = 0 ∧ r.2.2 74 0 = Int32.toInt64 v ∧ zH r.2 n R) := by
  refine ow_b2 h (fun w M1 hw => ?_)
  obtain ⟨h1, h2⟩ := hw
  dsimp only at h1 h2
  subst h1
  rw [el_inr, zin01]
  exact ow_let (ow_let (ow_some ⟨rfl, by rw [rd_ll, if_pos ⟨rfl, rfl⟩], h2.fo 0 _⟩))
theorem ref_up {X : Type} {y c : Int32} {a b : X} (hy : y < 0 ∨ c < y) : (if y < 0 then a else (if c < y then a else b)) = a := by
  by_cases h0 : y < 0
  · rw [if_pos h0]
  · rw [if_neg h0, if_pos (hy.resolve_left h0)]
theorem ok_up {X : Type} {w m : Nat} {c : Int32} {a a' b : X} (hc : c = nI m) (hw : w ≤ m) (hm : m < 2 ^ 31) : (if nI w < 0 then a else (if c < nI w then a' else b)) = b := by
  rw [if_neg (nI_pos (by omega)), hc, if_neg (nI_nlt hw (by omega))]
theorem s_up {w m : Nat} {c : Int32} (hc : c = nI m) (h : w ≤ m) (hm : m < 2 ^ 31) (M : oz_M) : f_Hall_wantUpTo (nI w) c M = some (.inr (), M) := by
  rw [hc]; exact s_upto h hm M
theorem s_up_no {x c : Int32} (h : x < 0 ∨ c < x) (M : oz_M) : f_Hall_wantUpTo x c M = some (.inl 2, M) := by
  unfold f_Hall_wantUpTo
  by_cases h0 : x < 0
  · rw [if_pos h0]
  · rw [if_neg h0, if_pos (h.resolve_left h0)]
theorem um_posk (M : oz_M) {k : Int32} (h : 0 < k) : 0 < (oz_s M 62 0 k).1 62 0 := by rw [um_at]; exact h
theorem um_0 (M : oz_M) : ¬ 0 < (oz_s M 62 0 0).1 62 0 := by rw [um_at]; decide
theorem us_7 {M : oz_M} {n : Nat} {R : Nat → Nat → Bool} (h : zH M n R) {p1 p2 p3 : Int32} : ow (f_L7 p1 p2 p3 M) (fun N => zH N n R) := by
  unfold f_L7
  rcases el_cases p1 h.n with ⟨x, hx, rfl⟩ | hx
  · rcases upto_cases p2 (m := 1) (by decide) with ⟨w, hw, rfl⟩ | hy
    · refine law_ok (P := fun N => zH N n R) (lawA (ow_is (s_Hall_level h hx hw) ⟨rfl, h⟩)) (fun N hN _ => s_Model_level hN hx hw)
    · refine law_thr (k := 3) (by decide) (P := fun N => N = M) ?_ (fun N hN => ?_)
      · unfold f_Law_level f_Hall_level
        simp only [s_wants h.st, b2_some, el_inr, el_inl, h.at6, s_want hx h.n, s_up_no (c := 1) hy]
        exact ow_some ⟨rfl, rfl⟩
      · subst hN
        unfold f_Model_level
        rw [if_neg h.rst, s_isEl h.at62 h.n hx]
        simp only [Option.bind_some]
        rw [if_neg (by decide), ref_up (c := 1) hy]
        simp only [Option.bind_some]
        rw [if_pos (um_posk _ (by decide))]
        exact ow_some ⟨um_at _ _, h.fz 3⟩
  · refine law_thr (k := 2) (by decide) (P := fun N => N = M) ?_ (fun N hN => ?_)
    · unfold f_Law_level f_Hall_level
      simp only [s_wants h.st, b2_some, el_inr, el_inl, h.at6, s_want_no hx]
      exact ow_some ⟨rfl, rfl⟩
    · subst hN
      unfold f_Model_level
      rw [if_neg h.rst, s_isEl_no h.at62 hx]
      simp only [Option.bind_some, if_true]
      rw [if_pos (um_posk _ (by decide))]
      exact ow_some ⟨um_at _ _, h.fz 2⟩
/-- the kind's relation: what may not stand together more than k -/
def knd (lt : Nat → Nat → Bool) (c : Nat) : Nat → Nat → Bool := if c = 0 then apt lt else cmp lt
theorem s_isHeld {N : oz_M} {n : Nat} {lt : Nat → Nat → Bool} (hn : n ≤ 14) (hK : zKt N n lt) {c k S : Nat} (hc : c ≤ 1) (hk : k ≤ 14) (hS : S < 2 ^ n) : f_Model_isHeld (nI c) (nI k) (nI S) N = some (bi (decide (om (knd lt c) S ≤ k))) := by
  have hp := p2_14 hn
  have o1 := om_14 (G := knd lt c) hn hS
  unfold f_Model_isHeld
  rw [show oz_in (nI S) 16384 = some S from oz_in_nI (by omega) (by decide)]
  simp only [Option.bind_some]
  have e : (if nI c = 0 then some (N.1 67 S) else some (N.1 66 S)) = some (nI (om (knd lt c) S)) := by
    unfold knd
    by_cases h0 : c = 0
    · subst h0
      rw [if_pos (show nI 0 = 0 from rfl), if_pos rfl, (hK S hS).2.1]
    · have : c = 1 := by omega
      subst this
      rw [if_neg (show ¬ nI 1 = 0 by decide), if_neg (by decide), (hK S hS).1]
  rw [e]
  simp only [Option.bind_some]
  by_cases h : om (knd lt c) S ≤ k
  · rw [if_neg (nI_nlt h (by omega))]
    simp [h]; rfl
  · rw [if_pos (nI_lt (by omega) (by omega))]
    simp [h]; rfl
theorem s_firstHeld {M : oz_M} {n : Nat} {R : Nat → Nat → Bool} (h : zH M n R) {c k : Nat} (hc : c ≤ 1) (hk : k ≤ 14) : ow (f_Model_firstHeld (nI c) (nI k) M) (fun r => r.1 = nI (fo (fun s => decide (om (knd (ztb R) c) s ≤ k)) (2 ^ n)) ∧ r.2.1 62 0 = M.1 62 0 ∧ r.2.2 74 = M.2 74 ∧ zH r.2 n R) := by
  have hn := h.n
  have hp := p2_14 hn
  unfold f_Model_firstHeld
  refine ow_b2 (s_knowH h) (fun _ N hN => ?_)
  obtain ⟨hH, hK, h0, h74⟩ := hN
  dsimp only at hH hK h0 h74
  refine ow_bind (P := fun y => y.1 = nI (fo (fun s => decide (om (knd (ztb R) c) s ≤ k)) (2 ^ n))) ?_ (fun y hy => ow_some ⟨hy, h0, h74, hH⟩)
  rw [hH.at62, nI_shl (by omega)]
  refine ow_for (2 ^ n) (fun s t => t.2 = nI s ∧ t.1 = nI (fo (fun s => decide (om (knd (ztb R) c) s ≤ k)) s)) (fun s t hs hJ => ?_) (fun t hJ => ?_) 0 _ (Nat.zero_le _) ⟨rfl, rfl⟩
  · obtain ⟨q1, q2⟩ := hJ
    rw [q1, q2, if_pos (nI_lt hs (by omega)), s_isHeld hn hK hc hk hs, s_sizeOf, s_sizeOf]
    simp only [Option.bind_some]
    have hsz := sz_le hs hn
    have hfz : sz (fo (fun s => decide (om (knd (ztb R) c) s ≤ k)) s) ≤ 14 := by
      rcases (fo_is (fun s => decide (om (knd (ztb R) c) s ≤ k)) s).1 with e | ⟨_, e⟩
      · rw [e, sz_0]; omega
      · have := sz_le (n := n) (Nat.lt_trans e hs) hn; omega
    by_cases hb : om (knd (ztb R) c) s ≤ k
    · rw [decide_eq_true hb, if_neg bi_ne]
      refine ow_ite (fun hc => ?_) (fun hc => ?_)
      · have hc' := (nI_ltI (by omega) (by omega)).mp hc
        refine ow_some ⟨nI_1 s, ?_⟩
        simp only [fo]; rw [if_pos ⟨decide_eq_true hb, hc'⟩]
      · refine ow_some ⟨nI_1 s, ?_⟩
        simp only [fo]; rw [if_neg (fun q => hc (nI_lt q.2 (by omega)))]
    · rw [decide_eq_false hb, bi_f, if_pos rfl]
      refine ow_some ⟨nI_1 s, ?_⟩
      simp only [fo]; rw [if_neg (fun q => hb (of_decide_eq_true q.1))]
  · obtain ⟨q1, q2⟩ := hJ
    rw [q1, if_neg (nI_nlt (Nat.le_refl _) (by omega))]
    exact ow_some q2
theorem s_asks {M : oz_M} {n : Nat} {R : Nat → Nat → Bool} (h : zH M n R) {c k : Nat} (hc : c ≤ 1) (hk : k ≤ 14) : f_Model_asks (nI c) (nI k) M = some (1, oz_s M 62 0 0) := by
  unfold f_Model_asks
  rw [if_neg h.rst, ok_up (c := 1) (m := 1) rfl hc (by decide), ok_up (c := 14) (m := 14) rfl hk (by decide)]
  simp only [Option.bind_some]
  rw [if_pos (um_at _ _)]
  rfl
theorem s_asks_no {M : oz_M} {n : Nat} {R : Nat → Nat → Bool} (h : zH M n R) {x y : Int32} (hxy : (x < 0 ∨ nI 1 < x) ∨ (∃ c, c ≤ 1 ∧ x = nI c) ∧ (y < 0 ∨ nI 14 < y)) : f_Model_asks x y M = some (0, oz_s M 62 0 2) := by
  unfold f_Model_asks
  rw [if_neg h.rst]
  rcases hxy with hx | ⟨⟨c, hc, rfl⟩, hy⟩
  · rw [ref_up (c := 1) hx]
    simp only [Option.bind_some]
    rw [if_neg (by rw [um_at]; decide)]
    rfl
  · rw [ok_up (c := 1) (m := 1) rfl hc (by decide), ref_up (c := 14) hy]
    simp only [Option.bind_some]
    rw [if_neg (by rw [um_at]; decide)]
    rfl
theorem s_Hall_most {M : oz_M} {n : Nat} {R : Nat → Nat → Bool} (h : zH M n R) {c k : Nat} (hc : c ≤ 1) (hk : k ≤ 14) : ow (f_Hall_most (nI c) (nI k) M) (fun r => r.1 = .inr (nI (most (knd (ztb R) c) n k)) ∧ zH r.2 n R) ∧ ow (f_Hall_first (nI c) (nI k) M) (fun r => r.1 = .inr (nI (fo (fun s => decide (om (knd (ztb R) c) s ≤ k)) (2 ^ n))) ∧ zH r.2 n R) := by
  unfold f_Hall_most f_Hall_first
  simp only [s_wants h.st, b2_some, el_inr, s_up (c := 1) (m := 1) rfl hc (by decide), s_up (c := 14) (m := 14) rfl hk (by decide)]
  constructor
  · refine ow_b2 (s_measure h) (fun _ N hN => ?_)
    rw [show oz_in (nI c) 2 = some c from oz_in_nI (by omega) (by decide), show oz_in (nI k) 15 = some k from oz_in_nI (by omega) (by decide)]
    refine ow_let (ow_let (ow_some ⟨?_, hN.1⟩))
    have := hN.2.1.1 k hk
    dsimp only at this
    unfold knd
    by_cases h0 : c = 0
    · subst h0; simp only [if_true, Nat.add_zero]; rw [this.1]
    · have : c = 1 := by omega
      subst this; simp only [show ¬ (1 : Nat) = 0 by decide, if_false]; rw [show 47 + 1 = 48 from rfl, (hN.2.1.1 k hk).2.1]
  · refine ow_b2 (s_measure h) (fun _ N hN => ?_)
    rw [show oz_in (nI c) 2 = some c from oz_in_nI (by omega) (by decide), show oz_in (nI k) 15 = some k from oz_in_nI (by omega) (by decide)]
    refine ow_let (ow_let (ow_some ⟨?_, hN.1⟩))
    have := hN.2.1.1 k hk
    dsimp only at this
    unfold knd
    by_cases h0 : c = 0
    · subst h0; simp only [if_true, Nat.add_zero]; rw [this.2.2.1]
    · have : c = 1 := by omega
      subst this; simp only [show ¬ (1 : Nat) = 0 by decide, if_false]; rw [show 50 + 1 = 51 from rfl, (hN.2.1.1 k hk).2.2.2]
theorem us_10 {M : oz_M} {n : Nat} {R : Nat → Nat → Bool} (h : zH M n R) {p1 p2 p3 : Int32} : ow (f_L10 p1 p2 p3 M) (fun N => zH N n R) := by
  unfold f_L10
  rcases upto_cases p1 (m := 1) (by decide) with ⟨c, hc, rfl⟩ | hx
  · rcases upto_cases p2 (m := 14) (by decide) with ⟨k, hk, rfl⟩ | hy
    · refine law_ok (P := fun N => zH N n R) (lawA (s_Hall_most h hc hk).1) (fun N hN _ => ?_)
      unfold f_Model_most
      rw [s_asks hN hc hk]
      simp only [b2_some]
      rw [if_neg (by decide)]
      refine ow_b2 (s_firstHeld (hN.fz 0) hc hk) (fun v N2 h2 => ?_)
      obtain ⟨g1, g2, g3, g4⟩ := h2
      dsimp only at g1 g2 g3 g4
      rw [g1, s_sizeOf]
      exact ow_let (ow_some ⟨rfl, g2.trans (um_at _ _), by show N2.2 74 0 = _; rw [g3]; rfl, g4⟩)
    · refine law_thr (k := 2) (by decide) (P := fun N => N = M) ?_ (fun N hN => ?_)
      · unfold f_Law_most f_Hall_most
        simp only [s_wants h.st, b2_some, el_inr, el_inl, s_up (c := 1) (m := 1) rfl hc (by decide), s_up_no (c := 14) hy]
        exact ow_some ⟨rfl, rfl⟩
      · subst hN
        unfold f_Model_most
        rw [s_asks_no h (Or.inr ⟨⟨c, hc, rfl⟩, hy⟩)]
        simp only [b2_some, if_true]
        exact ow_some ⟨um_at _ _, h.fz 2⟩
  · refine law_thr (k := 2) (by decide) (P := fun N => N = M) ?_ (fun N hN => ?_)
    · unfold f_Law_most f_Hall_most
      simp only [s_wants h.st, b2_some, el_inr, el_inl, s_up_no (c := 1) hx]
      exact ow_some ⟨rfl, rfl⟩
    · subst hN
      unfold f_Model_most
      rw [s_asks_no h (Or.inl hx)]
      simp only [b2_some, if_true]
      exact ow_some ⟨um_at _ _, h.fz 2⟩
theorem us_11 {M : oz_M} {n : Nat} {R : Nat → Nat → Bool} (h : zH M n R) {p1 p2 p3 : Int32} : ow (f_L11 p1 p2 p3 M) (fun N => zH N n R) := by
  unfold f_L11
  rcases upto_cases p1 (m := 1) (by decide) with ⟨c, hc, rfl⟩ | hx
  · rcases upto_cases p2 (m := 14) (by decide) with ⟨k, hk, rfl⟩ | hy
    · refine law_ok (P := fun N => zH N n R) (lawA (s_Hall_most h hc hk).2) (fun N hN _ => ?_)
      unfold f_Model_first
      rw [s_asks hN hc hk]
      simp only [b2_some]
      rw [if_neg (by decide)]
      refine ow_b2 (s_firstHeld (hN.fz 0) hc hk) (fun v N2 h2 => ?_)
      obtain ⟨g1, g2, g3, g4⟩ := h2
      dsimp only at g1 g2 g3 g4
      exact ow_some ⟨g1, g2.trans (um_at _ _), by show N2.2 74 0 = _; rw [g3]; rfl, g4⟩
    · refine law_thr (k := 2) (by decide) (P := fun N => N = M) ?_ (fun N hN => ?_)
      · unfold f_Law_first f_Hall_first
        simp only [s_wants h.st, b2_some, el_inr, el_inl, s_up (c := 1) (m := 1) rfl hc (by decide), s_up_no (c := 14) hy]
        exact ow_some ⟨rfl, rfl⟩
      · subst hN
        unfold f_Model_first
        rw [s_asks_no h (Or.inr ⟨⟨c, hc, rfl⟩, hy⟩)]
        simp only [b2_some, if_true]
        exact ow_some ⟨um_at _ _, h.fz 2⟩
  · refine law_thr (k := 2) (by decide) (P := fun N => N = M) ?_ (fun N hN => ?_)
    · unfold f_Law_first f_Hall_first
      simp only [s_wants h.st, b2_some, el_inr, el_inl, s_up_no (c := 1) hx]
      exact ow_some ⟨rfl, rfl⟩
    · subst hN
      unfold f_Model_first
      rw [s_asks_no h (Or.inl hx)]
      simp only [b2_some, if_true]
      exact ow_some ⟨um_at _ _, h.fz 2⟩
