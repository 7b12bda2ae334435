/-! know, while something is settled; level. -/
theorem zH.W {M : oz_M} {n : Nat} {R : Nat → Nat → Bool} (h : zH M n R) : zW n R := h.1.1.1
theorem zH.n {M : oz_M} {n : Nat} {R : Nat → Nat → Bool} (h : zH M n R) : n ≤ 14 := h.1.1.1.2.1
theorem zH.ac {M : oz_M} {n : Nat} {R : Nat → Nat → Bool} (h : zH M n R) : ∀ a, ¬ zT R a a := h.1.1.2.1
theorem zH.ord {M : oz_M} {n : Nat} {R : Nat → Nat → Bool} (h : zH M n R) : ord n (ztb R) := zord h.W h.ac
theorem zH.O {M : oz_M} {n : Nat} {R : Nat → Nat → Bool} (h : zH M n R) : zO M n R := h.1.1.2.2.2.1
theorem zH.at6 {M : oz_M} {n : Nat} {R : Nat → Nat → Bool} (h : zH M n R) : M.1 6 0 = nI n := h.O.1.1
theorem zH.st {M : oz_M} {n : Nat} {R : Nat → Nat → Bool} (h : zH M n R) : ¬ M.1 0 7 = 0 := by rw [h.1.1.2.2.1]; decide
theorem zH.rst {M : oz_M} {n : Nat} {R : Nat → Nat → Bool} (h : zH M n R) : ¬ M.1 62 2 = 0 := by rw [h.1.1.2.2.2.2.1]; decide
theorem zH.R {M : oz_M} {n : Nat} {R : Nat → Nat → Bool} (h : zH M n R) : zR M n R := h.1.1.2.2.2.2.2.1
theorem zH.at62 {M : oz_M} {n : Nat} {R : Nat → Nat → Bool} (h : zH M n R) : M.1 62 1 = nI n := h.R.1
theorem zH.L {M : oz_M} {n : Nat} {R : Nat → Nat → Bool} (h : zH M n R) : zLt M n R := h.1.1.2.2.2.2.2.2
theorem zH.rows {M : oz_M} {n : Nat} {R : Nat → Nat → Bool} (h : zH M n R) {x : Nat} (hx : x < n) : M.1 7 x = nI (blw (ztb R) n x) ∧ M.1 8 x = nI (blw (op (ztb R)) n x) ∧ M.1 9 x = nI (aprt (ztb R) n x) := zO_rows h.W h.ac h.O hx
theorem zH.fz {M : oz_M} {n : Nat} {R : Nat → Nat → Bool} (h : zH M n R) (v : Int32) : zH (oz_s M 62 0 v) n R := h.zj zk_s.zj
theorem zH.fo {M : oz_M} {n : Nat} {R : Nat → Nat → Bool} (h : zH M n R) (k : Nat) (v : Int64) : zH (oz_l M 74 k v) n R := h.zj zk_l.zj
theorem s_knowH {M : oz_M} {n : Nat} {R : Nat → Nat → Bool} (h : zH M n R) : ow (f_Model_know M) (fun r => zH r.2 n R ∧ zKt r.2 n (ztb R) ∧ r.2.1 62 0 = M.1 62 0 ∧ r.2.2 74 = M.2 74) := by
  refine ow_mono (s_know h.n h.ord h.at62 h.L h.2.1) (fun r hr => ?_)
  obtain ⟨f, k1, k2, k3⟩ := hr
  obtain ⟨h1, h2, h3, h4, h5⟩ := h
  refine ⟨⟨?_, Or.inr ⟨k2, k3⟩, ?_, ?_, ?_⟩, k3, k1 0 (by decide), (f 74 (by decide)).2⟩
  · obtain ⟨g1, g2, g3, g4, g5, g6, g7⟩ := h1
    refine ⟨g1.row (f.at (by decide)) (f.at (by decide)) (f 7 (by decide)).1 (f 8 (by decide)).1 (f 9 (by decide)).1 (k1 2 (by decide)) (k1 1 (by decide)) (f 63 (by decide)).1 (f 64 (by decide)).1, g2.fr f (by decide) (by decide), ?_, ?_, g5.at (f 12 (by decide)).1, ?_, ?_⟩
    · rw [f.at (by decide)]; exact g3
    · rw [k1 6 (by decide)]; exact g4
    · unfold zLv at g6 ⊢
      rw [(f 10 (by decide)).1, (f 11 (by decide)).1]; exact g6
    · rw [f.at (by decide)]; exact g7
  · unfold zMs at h3 ⊢
    rw [(f 45 (by decide)).1, (f 47 (by decide)).1, (f 48 (by decide)).1, (f 50 (by decide)).1, (f 51 (by decide)).1]; exact h3
  · unfold zWc at h4 ⊢
    rw [(f 53 (by decide)).1, (f 55 (by decide)).2]; exact h4
  · unfold zSq at h5 ⊢
    rw [(f 53 (by decide)).1, (f 54 (by decide)).1, (f 69 (by decide)).1, k1 12 (by decide)]; exact h5
theorem mk_0 {P : Nat → Bool} : mk P 0 = 0 := rfl
theorem mk_cong {P Q : Nat → Bool} {n : Nat} (h : ∀ i, i < n → P i = Q i) : mk P n = mk Q n := bit_ext (fun i => by
  rw [mk_bit, mk_bit]
  by_cases hi : i < n
  · rw [h i hi]
  · simp [hi])
/-- a set gathered by a test -/
theorem s_gather {n : Nat} (hn : n ≤ 14) {t : Int32 → Option Int32} {B : Int32} (hB : B = nI n) (P : Nat → Bool) (ht : ∀ y, y < n → t (nI y) = some (bi (P y))) : oz_lp (fun (s : Int32 × Int32) => (if s.2 < B then ((t s.2).bind fun (z : Int32) => if z = 0 then (some (.inl (s.1, s.2 + 1))) else (some (.inl (s.1 ||| (1 <<< (s.2 &&& 31)), s.2 + 1)))) else (some (.inr (s.1, s.2))) : Option ((Int32 × Int32) ⊕ (Int32 × Int32)))) (0, 0) = some (nI (mk P n), nI n) := by
  refine ow_eq ?_
  refine ow_for n (fun k s => s.2 = nI k ∧ s.1 = nI (mk P k)) (fun k s hk hJ => ?_) (fun s hJ => ?_) 0 _ (by omega) ⟨rfl, rfl⟩
  · obtain ⟨q1, q2⟩ := hJ
    rw [q1, q2, hB, if_pos (nI_lt hk (by omega)), ht k hk]
    refine ow_let ?_
    cases hp : P k with
    | false => rw [bi_f, if_pos rfl]; exact ow_some ⟨nI_1 k, by simp [mk, hp]⟩
    | true => rw [if_neg bi_ne]; exact ow_some ⟨nI_1 k, by show nI (mk P k) ||| (1 <<< (nI k &&& 31)) = _; rw [nI_ins (by omega)]; simp [mk, hp, ins]⟩
  · obtain ⟨q1, q2⟩ := hJ
    rw [q1, hB, if_neg (nI_nlt (Nat.le_refl _) (by omega))]
    refine ow_some ?_
    show (s.1, nI n) = _
    rw [q2]
theorem s_Hall_level {M : oz_M} {n : Nat} {R : Nat → Nat → Bool} (h : zH M n R) {x w : Nat} (hx : x < n) (hw : w ≤ 1) : f_Hall_level (nI x) (nI w) M = some (.inr (nI (if w = 0 then lev (ztb R) n x else lev (op (ztb R)) n x)), M) := by
  have hn := h.n
  unfold f_Hall_level
  simp only [s_wants h.st, b2_some, el_inr, h.at6, s_want hx hn, show f_Hall_wantUpTo (nI w) 1 M = some (.inr (), M) from s_upto (m := 1) hw (by decide) M]
  have hl := h.1.2.2.2.2.2.1 x hx
  rw [show oz_in (nI x) 14 = some x from oz_in_nI (by omega) (by decide)]
  simp only [Option.bind_some]
  by_cases e : w = 0
  · subst e
    rw [if_pos (show (nI 0 : Int32) = 0 from rfl), if_pos rfl, hl.1]
  · have : w = 1 := by omega
    subst this
    rw [if_neg (by decide), if_neg (by decide), hl.2]
theorem s_Model_level {M : oz_M} {n : Nat} {R : Nat → Nat → Bool} (h : zH M n R) {x w : Nat} (hx : x < n) (hw : w ≤ 1) : ow (f_Model_level (nI x) (nI w) M) (fun r => r.1 = nI (if w = 0 then lev (ztb R) n x else lev (op (ztb R)) n x) ∧ r.2.1 62 0 = 0 ∧ r.2.2 74 0 = M.2 74 0 ∧ zH r.2 n R) := by
  have hn := h.n
  unfold f_Model_level
  rw [if_neg h.rst, s_isEl h.at62 hn hx]
  simp only [Option.bind_some]
  rw [if_neg (by decide), if_neg (nI_pos (by omega)), if_neg (show ¬ (1 : Int32) < nI w from nI_nlt (a := 1) hw (by omega))]
  simp only [Option.bind_some]
  rw [if_neg (by rw [um_at]; decide)]
  refine ow_b2 (s_knowH (h.fz 0)) (fun _ N hN => ?_)
  obtain ⟨hH, hK, h0, h74⟩ := hN
  dsimp only at hH hK h0 h74
  have fin : ∀ (P : Nat → Bool), (∀ S, S = mk P n → om (cmp (ztb R)) S + 1 = (if w = 0 then lev (ztb R) n x else lev (op (ztb R)) n x)) → ow ((some (nI (mk P n), nI n)).bind fun (y17 : Int32 × Int32) => (oz_in y17.1 16384).bind fun j18 => some ((N.1 66 j18) + 1, N)) (fun r => r.1 = nI (if w = 0 then lev (ztb R) n x else lev (op (ztb R)) n x) ∧ r.2.1 62 0 = 0 ∧ r.2.2 74 0 = M.2 74 0 ∧ zH r.2 n R) := by
    intro P hP
    have hl := mk_lt P n
    have hp := p2_14 hn
    refine ow_let (ow_bind (ow_in rfl (show mk P n < 16384 by omega) (by omega)) (fun j hj => ow_some ⟨?_, ?_, ?_, hH⟩))
    · subst hj
      show N.1 66 (mk P n) + 1 = _
      rw [(hK _ hl).1, ← hP _ rfl]
      exact nI_1 _
    · exact h0.trans (um_at _ _)
    · show N.2 74 0 = _
      rw [h74]; rfl
  by_cases e : w = 0
  · subst e
    simp only [show (nI 0 : Int32) = 0 from rfl, if_true]
    have := s_gather hn (t := fun y => f_Model_isLess y (nI x) N) hH.at62 (fun y => ztb R y x) (fun y hy => s_less hH.L (by omega) (by omega))
    rw [this]
    refine fin _ (fun S hS => ?_)
    rw [if_pos rfl]
    unfold lev blw
    rw [hS, Nat.add_comm]
  · have e1 : w = 1 := by omega
    subst e1
    simp only [show ¬ (nI 1 : Int32) = 0 by decide, if_false]
    have := s_gather hn (t := fun y => f_Model_isLess (nI x) y N) hH.at62 (fun y => ztb R x y) (fun y hy => s_less hH.L (by omega) (by omega))
    rw [this]
    refine fin _ (fun S hS => ?_)
    rw [if_neg (by decide)]
    unfold lev blw
    rw [hS, Nat.add_comm, cmp_op]
    rfl
