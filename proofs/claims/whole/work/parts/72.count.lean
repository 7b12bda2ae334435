/-! The law's case count. -/
theorem sm_swap (f : Nat → Nat → Nat) (n : Nat) : ∀ m, sm (fun a => sm (fun b => f a b) n) m = sm (fun b => sm (fun a => f a b) m) n
  | 0 => (sm_zero n).symm
  | m + 1 => by
    simp only [sm]
    rw [sm_swap f n m, ← sm_add]
theorem wid {n : Nat} {lt : Nat → Nat → Bool} (ho : ord n lt) (hn : n ≤ 14) : most (cmp lt) n 1 = om (apt lt) (2 ^ n - 1) := by
  have hf := p2_m1 n
  apply Nat.le_antisymm
  · unfold most
    have h1 := fo_om (G := cmp lt) (n := n) (k := 1)
    refine om_ge (lt14 hn hf) (fun i hi => ?_) ((anti_clq ho).mpr ((om_anti ho (lt14 hn h1.1)).mp h1.2))
    rw [Nat.testBit_two_pow_sub_one]
    simp; exact bit_in h1.1 hi
  · obtain ⟨T, h1, h2, h3⟩ := om_ex (apt lt) (2 ^ n - 1)
    have hT := sub_lt h1 hf
    rw [← h3]
    exact most_ge hT ((om_anti ho (lt14 hn hT)).mpr ((anti_clq ho).mp h2))
theorem s_ends2 {M : oz_M} {n S i : Nat} {lt : Nat → Nat → Bool} (hn : n ≤ 14) (ho : ord n lt) (h6 : M.1 6 0 = nI n) (hS : S < 2 ^ n) (hi : ∀ x, x < n → M.1 i x = nI (blw (op lt) n x)) : f_Order_ends (nI S) i M = some (nI (mxs lt n S)) := by
  refine ow_eq (ow_mono (s_ends hn h6 (nI S) i) (fun v hv => zb_mask (fun b hb => ?_)))
  have h1 := hv b hb
  have h2 := mxs_bit (lt := lt) hS b
  have : zb v b = true ↔ (mxs lt n S).testBit b = true := by
    rw [h1, h2, zb_nI S hb]
    constructor
    · rintro ⟨g1, g2, g3⟩
      refine ⟨g2, fun j hj => ?_⟩
      have hj32 : j < 32 := by have := bit_in hS hj; omega
      have := g3 j hj32
      rw [hi b g1, zb_nI _ hj32, zb_nI _ hj32, blw_bit (ord_op ho)] at this
      cases hl : lt b j with
      | false => rfl
      | true => exact absurd ⟨hl, hj⟩ this
    · rintro ⟨g1, g2⟩
      have hb' := bit_in hS g1
      refine ⟨hb', g1, fun c hc => ?_⟩
      rw [hi b hb', zb_nI _ hc, zb_nI _ hc, blw_bit (ord_op ho)]
      rintro ⟨k1, k2⟩
      have := g2 c k2
      have k1 : lt b c = true := k1
      rw [this] at k1; cases k1
  cases h3 : zb v b <;> cases h4 : (mxs lt n S).testBit b <;> simp [h3, h4] at this ⊢
theorem zH.ends {M : oz_M} {n S : Nat} {R : Nat → Nat → Bool} (h : zH M n R) (hS : S < 2 ^ n) : f_Order_ends (nI S) 8 M = some (nI (mxs (ztb R) n S)) ∧ f_Order_ends (nI S) 7 M = some (nI (mxs (op (ztb R)) n S)) :=
  ⟨s_ends2 h.n h.ord h.at6 hS (fun x hx => (h.rows hx).2.1), s_ends2 h.n (ord_op h.ord) h.at6 hS (fun x hx => (h.rows hx).1)⟩
theorem s_height {M : oz_M} {n : Nat} {R : Nat → Nat → Bool} (h : zH M n R) : f_Order_height M = some (nI (om (cmp (ztb R)) (2 ^ n - 1))) := by
  have hn := h.n
  unfold f_Order_height f_Order_everything
  rw [h.at6, nI_all (by omega)]
  refine ow_eq (ow_let (ow_bind (s_greatest (i := 10) hn h.at6 (S := nI (2 ^ n - 1)) (f := lev (ztb R) n) (fun x hx _ => ⟨(h.1.2.2.2.2.2.1 x hx).1, by have := lev_le (lt := ztb R) (n := n) (x := x) hn; omega⟩)) (fun v hv => ow_some ?_)))
  rw [hv, lev_all h.ord hn]
  congr 1
  exact zmx_cong n (fun x hx => ⟨by rw [zb_nI _ (by omega), Nat.testBit_two_pow_sub_one], fun _ => rfl⟩)
theorem s_pairs {M : oz_M} {n : Nat} {R : Nat → Nat → Bool} (h : zH M n R) : f_Order_pairs M = some (nI (sm (fun x => cnt (fun y => ztb R y x) n) n)) := by
  have hn := h.n
  unfold f_Order_pairs
  refine ow_eq (ow_bind (P := fun y => y.1 = nI (sm (fun x => cnt (fun y => ztb R y x) n) n)) ?_ (fun y hy => ow_some hy))
  rw [h.at6]
  refine ow_for n (fun k s => s.2 = nI k ∧ s.1 = nI (sm (fun x => cnt (fun y => ztb R y x) n) k)) (fun k s hk hJ => ?_) (fun s hJ => ?_) 0 _ (Nat.zero_le _) ⟨rfl, rfl⟩
  · obtain ⟨q1, q2⟩ := hJ
    rw [q1, q2, if_pos (nI_lt hk (by omega)), show oz_in (nI k) 14 = some k from oz_in_nI (by omega) (by decide)]
    simp only [Option.bind_some]
    rw [(h.rows hk).1, s_bitCount, nI_bc (lt14 hn blw_lt)]
    refine ow_let (ow_some ⟨nI_1 k, ?_⟩)
    show nI _ + nI (sz (blw (ztb R) n k)) = _
    unfold blw
    rw [sz_mk hn]
    exact nI_add _ _
  · obtain ⟨q1, q2⟩ := hJ
    rw [q1, if_neg (nI_nlt (Nat.le_refl _) (by omega))]
    exact ow_some q2
theorem mxs_cov {n : Nat} {R : Nat → Nat → Bool} (hW : zW n R) (ho : ord n (ztb R)) (hn : n ≤ 14) (x : Nat) : sz (mxs (ztb R) n (blw (ztb R) n x)) = cnt (fun y => zcov R y x) n := by
  rw [sz_n mxs_lt hn]
  refine cnt_eq (fun y hy => ?_)
  rw [mxs_bit blw_lt, blw_bit ho, zcov_iff, ztb_iff]
  refine and_congr Iff.rfl ⟨fun h c hc => ?_, fun h c hc => ?_⟩
  · have := h c (by rw [blw_bit ho]; exact ztb_iff.mpr hc.2)
    rw [ztb_iff.mpr hc.1] at this; cases this
  · rw [blw_bit ho] at hc
    cases hl : ztb R y c with
    | false => rfl
    | true => exact absurd ⟨ztb_iff.mp hl, ztb_iff.mp hc⟩ (h c)
theorem s_coverPairs {M : oz_M} {n : Nat} {R : Nat → Nat → Bool} (h : zH M n R) : f_Order_coverPairs M = some (nI (sm (fun x => cnt (fun y => zcov R y x) n) n)) := by
  have hn := h.n
  unfold f_Order_coverPairs
  refine ow_eq (ow_bind (P := fun y => y.1 = nI (sm (fun x => cnt (fun y => zcov R y x) n) n)) ?_ (fun y hy => ow_some hy))
  rw [h.at6]
  refine ow_for n (fun k s => s.2 = nI k ∧ s.1 = nI (sm (fun x => cnt (fun y => zcov R y x) n) k)) (fun k s hk hJ => ?_) (fun s hJ => ?_) 0 _ (Nat.zero_le _) ⟨rfl, rfl⟩
  · obtain ⟨q1, q2⟩ := hJ
    rw [q1, q2, if_pos (nI_lt hk (by omega)), show oz_in (nI k) 14 = some k from oz_in_nI (by omega) (by decide)]
    simp only [Option.bind_some]
    rw [(h.rows hk).1, (h.ends blw_lt).1]
    simp only [Option.bind_some]
    rw [s_bitCount, nI_bc (lt14 hn mxs_lt), mxs_cov h.W h.ord hn]
    refine ow_let (ow_some ⟨nI_1 k, ?_⟩)
    exact nI_add _ _
  · obtain ⟨q1, q2⟩ := hJ
    rw [q1, if_neg (nI_nlt (Nat.le_refl _) (by omega))]
    exact ow_some q2
theorem s_isClosed {M : oz_M} {n S : Nat} {R : Nat → Nat → Bool} (hn : n ≤ 14) (ho : ord n (ztb R)) (h62 : M.1 62 1 = nI n) (hL : zLt M n R) : f_Model_isClosed (nI S) M = some (bi (tb (clo (ztb R) S))) := by
  let Q : Nat → Nat → Bool := fun a b => !(S.testBit b && (ztb R a b && !S.testBit a))
  have e : al (fun a => al (Q a) n) n = tb (clo (ztb R) S) := by
    refine tb_eq ?_
    rw [al_iff]
    constructor
    · intro h a b hb hl
      have := (al_iff n).mp (h a (ho.2.2 a b hl).1) b (ho.2.2 a b hl).2
      have this : (!(S.testBit b && (ztb R a b && !S.testBit a))) = true := this
      rw [hb, hl] at this
      simpa using this
    · intro h a ha
      rw [al_iff]
      intro b hb
      show (!(S.testBit b && (ztb R a b && !S.testBit a))) = true
      cases h1 : S.testBit b with
      | false => rfl
      | true =>
        cases h2 : ztb R a b with
        | false => rfl
        | true => rw [h a b h1 h2]; rfl
  rw [← e]
  unfold f_Model_isClosed
  refine ow_eq (ow_bind (P := fun y => y.1 = bi (al (fun a => al (Q a) n) n)) ?_ (fun y hy => by rw [hy, z_bi]; exact ow_some rfl))
  rw [h62]
  refine ow_for n (fun k s => s.2 = nI k ∧ s.1 = bi (al (fun a => al (Q a) n) k)) (fun k s hk hJ => ?_) (fun s hJ => ?_) 0 _ (by omega) ⟨rfl, rfl⟩
  · obtain ⟨q1, q2⟩ := hJ
    rw [q1, q2, if_pos (nI_lt hk (by omega))]
    refine ow_bind (P := fun y => y.1 = bi (al (fun a => al (Q a) n) k && al (Q k) n)) ?_ (fun y hy => ow_some ⟨nI_1 k, hy⟩)
    refine ow_for n (fun l t => t.2 = nI l ∧ t.1 = bi (al (fun a => al (Q a) n) k && al (Q k) l)) (fun l t hl hJ => ?_) (fun t hJ => ?_) 0 _ (by omega) ⟨rfl, by simp [al]⟩
    · obtain ⟨g1, g2⟩ := hJ
      rw [g1, g2, if_pos (nI_lt hl (by omega)), s_mhas S (by omega), s_mhas S (by omega), s_less hL (by omega) (by omega)]
      have e1 : (al (fun a => al (Q a) n) k && al (Q k) (l + 1)) = ((al (fun a => al (Q a) n) k && al (Q k) l) && !(S.testBit l && (ztb R k l && !S.testBit k))) := by
        show (_ && (al (Q k) l && Q k l)) = _
        rw [Bool.and_assoc]
      show ow (if bi (al (fun a => al (Q a) n) k && al (Q k) l) = 0 then _ else (some (bi (S.testBit l))).bind fun v3 => if v3 = 0 then _ else (some (bi (ztb R k l))).bind fun v4 => if v4 = 0 then _ else (some (bi (S.testBit k))).bind _) _
      rw [e1] at *
      cases (al (fun a => al (Q a) n) k && al (Q k) l) with
      | false => exact ow_ite (fun _ => ow_some ⟨nI_1 l, rfl⟩) (fun h => absurd rfl h)
      | true =>
        refine ow_ite (fun h => absurd h (by decide)) (fun _ => ow_let ?_)
        cases S.testBit l with
        | false => exact ow_ite (fun _ => ow_some ⟨nI_1 l, rfl⟩) (fun h => absurd rfl h)
        | true =>
          refine ow_ite (fun h => absurd h (by decide)) (fun _ => ow_let ?_)
          cases ztb R k l with
          | false => exact ow_ite (fun _ => ow_some ⟨nI_1 l, rfl⟩) (fun h => absurd rfl h)
          | true =>
            refine ow_ite (fun h => absurd h (by decide)) (fun _ => ow_let ?_)
            cases S.testBit k with
            | false => exact ow_ite (fun _ => ow_some ⟨nI_1 l, rfl⟩) (fun h => absurd rfl h)
            | true => exact ow_ite (fun h => absurd h (by decide)) (fun _ => ow_some ⟨nI_1 l, rfl⟩)
    · obtain ⟨g1, g2⟩ := hJ
      rw [g1, if_neg (nI_nlt (Nat.le_refl _) (by omega))]
      exact ow_some g2
  · obtain ⟨q1, q2⟩ := hJ
    rw [q1, if_neg (nI_nlt (Nat.le_refl _) (by omega))]
    exact ow_some q2
noncomputable def cnv (n : Nat) (R : Nat → Nat → Bool) (w : Nat) : Nat := if w = 0 then om (cmp (ztb R)) (2 ^ n - 1) else if w = 1 then om (apt (ztb R)) (2 ^ n - 1) else if w = 2 then n else if w = 3 then sm (fun x => cnt (fun y => ztb R y x) n) n else if w = 4 then sm (fun x => cnt (fun y => zcov R y x) n) n else if w = 5 then cnt (fun T => tb (anti (ztb R) T)) (2 ^ n) else cnt (fun T => tb (wide (ztb R) n (om (apt (ztb R)) (2 ^ n - 1)) T)) (2 ^ n)
theorem s_Hall_count {M : oz_M} {n : Nat} {R : Nat → Nat → Bool} (h : zH M n R) {w : Nat} (hw : w ≤ 6) : ow (f_Hall_count (nI w) M) (fun r => r.1 = .inr (nI (cnv n R w)) ∧ zH r.2 n R) := by
  unfold f_Hall_count
  simp only [s_wants h.st, b2_some, el_inr, s_up (c := 6) (m := 6) rfl hw (by decide)]
  have e0 : w = 0 ∨ w = 1 ∨ w = 2 ∨ w = 3 ∨ w = 4 ∨ w = 5 ∨ w = 6 := by omega
  rcases e0 with rfl | rfl | rfl | rfl | rfl | rfl | rfl
  · rw [if_pos (by decide), s_height h]
    exact ow_some ⟨rfl, h⟩
  · rw [if_neg (by decide), if_pos (by decide)]
    refine ow_b2 (s_measure h) (fun _ N hN => ?_)
    rw [show oz_in 1 2 = some 1 from oz_in_nI (j := 1) (by decide) (by decide), show oz_in 1 15 = some 1 from oz_in_nI (j := 1) (by decide) (by decide)]
    refine ow_let (ow_let (ow_some ⟨?_, hN.1⟩))
    show Sum.inr (N.1 48 1) = _
    rw [(hN.2.1.1 1 (by omega)).2.1, wid h.ord h.n]; rfl
  · rw [if_neg (by decide), if_neg (by decide), if_pos (by decide)]
    exact ow_some ⟨by rw [h.at6]; rfl, h⟩
  · rw [if_neg (by decide), if_neg (by decide), if_neg (by decide), if_pos (by decide), s_pairs h]
    exact ow_some ⟨rfl, h⟩
  · rw [if_neg (by decide), if_neg (by decide), if_neg (by decide), if_neg (by decide), if_pos (by decide), s_coverPairs h]
    exact ow_some ⟨rfl, h⟩
  · rw [if_neg (by decide), if_neg (by decide), if_neg (by decide), if_neg (by decide), if_neg (by decide), if_pos (by decide)]
    refine ow_b2 (s_measure h) (fun _ N hN => ow_some ⟨?_, hN.1⟩)
    show Sum.inr (N.1 45 3) = _
    rw [hN.2.1.2.1]; rfl
  · rw [if_neg (by decide), if_neg (by decide), if_neg (by decide), if_neg (by decide), if_neg (by decide), if_neg (by decide)]
    refine ow_b2 (s_measure h) (fun _ N hN => ow_some ⟨?_, hN.1⟩)
    show Sum.inr (N.1 45 4) = _
    rw [hN.2.1.2.2.1, wid h.ord h.n]; rfl
/-- a count by a test -/
theorem s_tally {n : Nat} (hn : n < 2 ^ 30) {t : Int32 → Option Int32} {B : Int32} (hB : B = nI n) (P : Nat → Bool) (ht : ∀ y, y < n → t (nI y) = some (bi (P y))) (c : Nat) : oz_lp (fun (s : Int32 × Int32) => (if s.2 < B then ((t s.2).bind fun (z : Int32) => if z = 0 then (some (.inl (s.1, s.2 + 1))) else (some (.inl (s.1 + 1, s.2 + 1)))) else (some (.inr (s.1, s.2))) : Option ((Int32 × Int32) ⊕ (Int32 × Int32)))) (nI c, 0) = some (nI (c + cnt P n), nI n) := by
  refine ow_eq ?_
  refine ow_for n (fun k s => s.2 = nI k ∧ s.1 = nI (c + cnt P k)) (fun k s hk hJ => ?_) (fun s hJ => ?_) 0 _ (by omega) ⟨rfl, rfl⟩
  · obtain ⟨q1, q2⟩ := hJ
    rw [q1, q2, hB, if_pos (nI_lt hk (by omega)), ht k hk]
    refine ow_let ?_
    cases hp : P k with
    | false => rw [bi_f, if_pos rfl]; exact ow_some ⟨nI_1 k, by simp [cnt, hp]⟩
    | true => rw [if_neg bi_ne]; exact ow_some ⟨nI_1 k, by simp only [cnt, hp]; exact nI_1 _⟩
  · obtain ⟨q1, q2⟩ := hJ
    rw [q1, hB, if_neg (nI_nlt (Nat.le_refl _) (by omega))]
    refine ow_some ?_
    show (s.1, nI n) = _
    rw [q2]
theorem s_tally2 {n : Nat} (hn : n ≤ 14) {t : Int32 → Int32 → Option Int32} {B : Int32} (hB : B = nI n) (P : Nat → Nat → Bool) (ht : ∀ x y, x < n → y < n → t (nI x) (nI y) = some (bi (P x y))) : oz_lp (fun (s20 : Int32 × Int32) => (if s20.2 < B then ((oz_lp (fun (s : Int32 × Int32) => (if s.2 < B then ((t s20.2 s.2).bind fun (z : Int32) => if z = 0 then (some (.inl (s.1, s.2 + 1))) else (some (.inl (s.1 + 1, s.2 + 1)))) else (some (.inr (s.1, s.2))) : Option ((Int32 × Int32) ⊕ (Int32 × Int32)))) (s20.1, 0)).bind fun (y28 : Int32 × Int32) => some (.inl (y28.1, s20.2 + 1))) else (some (.inr (s20.1, s20.2))) : Option ((Int32 × Int32) ⊕ (Int32 × Int32)))) (0, 0) = some (nI (sm (fun a => cnt (P a) n) n), nI n) := by
  refine ow_eq ?_
  refine ow_for n (fun k s => s.2 = nI k ∧ s.1 = nI (sm (fun a => cnt (P a) n) k)) (fun k s hk hJ => ?_) (fun s hJ => ?_) 0 _ (by omega) ⟨rfl, rfl⟩
  · obtain ⟨q1, q2⟩ := hJ
    rw [q1, q2, if_pos (by rw [hB]; exact nI_lt hk (by omega)), s_tally (by omega) hB (P k) (fun y hy => ht k y hk hy)]
    exact ow_let (ow_some ⟨nI_1 k, rfl⟩)
  · obtain ⟨q1, q2⟩ := hJ
    rw [q1, if_neg (by rw [hB]; exact nI_nlt (Nat.le_refl _) (by omega))]
    refine ow_some ?_
    show (s.1, nI n) = _
    rw [q2]
/-- a count over all sets up to the last -/
theorem s_tallyS {N : Nat} (hN : 0 < N) (hN2 : N < 2 ^ 30) {t : Int32 → Option Int32} {B : Int32} (hB : B = nI (N - 1)) (P : Nat → Bool) (ht : ∀ y, y < N → t (nI y) = some (bi (P y))) : oz_lp (fun (s : Int32 × Int32) => (if B < s.2 then (some (.inr (s.1, s.2))) else ((t s.2).bind fun (z : Int32) => if z = 0 then (some (.inl (s.1, s.2 + 1))) else (some (.inl (s.1 + 1, s.2 + 1)))) : Option ((Int32 × Int32) ⊕ (Int32 × Int32)))) (0, 0) = some (nI (cnt P N), nI N) := by
  refine ow_eq ?_
  refine ow_for N (fun k s => s.2 = nI k ∧ s.1 = nI (cnt P k)) (fun k s hk hJ => ?_) (fun s hJ => ?_) 0 _ (by omega) ⟨rfl, rfl⟩
  · obtain ⟨q1, q2⟩ := hJ
    rw [q1, q2, hB, if_neg (nI_nlt (by omega) (by omega)), ht k hk]
    refine ow_let ?_
    cases hp : P k with
    | false => rw [bi_f, if_pos rfl]; exact ow_some ⟨nI_1 k, by simp [cnt, hp]⟩
    | true => rw [if_neg bi_ne]; exact ow_some ⟨nI_1 k, by simp only [cnt, hp]; exact nI_1 _⟩
  · obtain ⟨q1, q2⟩ := hJ
    rw [q1, hB, if_pos (nI_lt (by omega) (by omega))]
    refine ow_some ?_
    show (s.1, nI N) = _
    rw [q2]
