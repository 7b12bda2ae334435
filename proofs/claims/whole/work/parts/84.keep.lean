/-! keep. -/
def nb (S x : Nat) : Nat := cnt S.testBit x
theorem nb_mono {S x y : Nat} (h : x < y) (hx : S.testBit x = true) : nb S x < nb S y := by
  unfold nb
  have : ∀ y, x < y → cnt S.testBit x < cnt S.testBit y := by
    intro y
    induction y with
    | zero => intro h; omega
    | succ y ih =>
      intro h
      simp only [cnt]
      by_cases e : x = y
      · subst e; rw [hx]; simp
      · have := ih (by omega); omega
  exact this y h
theorem nb_inj {S x y : Nat} (hx : S.testBit x = true) (hy : S.testBit y = true) (h : nb S x = nb S y) : x = y := by
  by_cases h1 : x < y
  · have := nb_mono h1 hx; omega
  · by_cases h2 : y < x
    · have := nb_mono h2 hy; omega
    · omega
theorem nb_lt {S x : Nat} (hS : S < 2 ^ 14) (hx : S.testBit x = true) : nb S x < sz S := nb_mono (bit_in hS hx) hx
theorem low_bit (S x : Nat) : ∀ i, (S &&& (2 ^ x - 1)).testBit i = (S.testBit i && decide (i < x)) := fun i => by
  rw [Nat.testBit_and, Nat.testBit_two_pow_sub_one]
theorem sz_low {S x : Nat} (hx : x ≤ 14) : sz (S &&& (2 ^ x - 1)) = nb S x := by
  have hl : S &&& (2 ^ x - 1) < 2 ^ x := Nat.lt_of_le_of_lt Nat.and_le_right (p2_m1 x)
  rw [sz_n hl hx]
  unfold nb
  exact cnt_eq (fun q hq => by rw [low_bit]; simp [hq])
theorem s_numberIn {S x : Nat} (hS : S < 2 ^ 14) (hx : x < 14) (M : oz_M) : f_Arcs_numberIn (nI S) (nI x) M = some (nI (nb S x)) := by
  unfold f_Arcs_numberIn
  rw [nI_all (by omega), nI_and, s_bitCount, nI_bc (Nat.lt_of_le_of_lt Nat.and_le_left hS), sz_low (by omega)]
  rfl
/-- the order on the set, numbered anew -/
noncomputable def kR (lt : Nat → Nat → Bool) (S : Nat) : Nat → Nat → Bool := fun a b => tb (∃ x y, S.testBit x = true ∧ S.testBit y = true ∧ nb S x = a ∧ nb S y = b ∧ lt x y = true)
theorem kR_at {lt : Nat → Nat → Bool} {S x b : Nat} (hx : S.testBit x = true) : kR lt S (nb S x) b = true ↔ ∃ y, S.testBit y = true ∧ lt x y = true ∧ nb S y = b := by
  unfold kR
  rw [tb_iff]
  constructor
  · rintro ⟨x', y, h1, h2, h3, h4, h5⟩
    have := nb_inj h1 hx h3
    subst this
    exact ⟨y, h2, h5, h4⟩
  · rintro ⟨y, h1, h2, h3⟩
    exact ⟨x, y, hx, h1, rfl, h3, h2⟩
theorem kR_W {lt : Nat → Nat → Bool} {S : Nat} (hS : S < 2 ^ 14) (h0 : S ≠ 0) : zW (sz S) (kR lt S) := by
  refine ⟨?_, sz_le hS (Nat.le_refl _), fun a b h => ?_⟩
  · refine Nat.le_of_not_lt (fun q => h0 ?_)
    exact (sub_eq (n := 14) (Nat.le_refl _) hS (fun i hi => by rw [Nat.zero_testBit] at hi; cases hi) (by rw [sz_0]; omega)).symm
  · obtain ⟨x, y, h1, h2, h3, h4, _⟩ := tb_iff.mp h
    rw [← h3, ← h4]
    exact ⟨nb_lt hS h1, nb_lt hS h2⟩
theorem kR_ac {lt : Nat → Nat → Bool} {n S : Nat} (ho : ord n lt) : ∀ a, ¬ zT (kR lt S) a a := fun a h => by
  obtain ⟨x, y, h1, h2, h3, h4, h5⟩ := h (fun a b => ∃ x y, S.testBit x = true ∧ S.testBit y = true ∧ nb S x = a ∧ nb S y = b ∧ lt x y = true) (fun a b q => tb_iff.mp q) (fun a b c p q => by
    obtain ⟨x, y, h1, h2, h3, h4, h5⟩ := p
    obtain ⟨x', y', k1, k2, k3, k4, k5⟩ := q
    have := nb_inj h2 k1 (h4.trans k3.symm)
    subst this
    exact ⟨x, y', h1, k2, h3, k4, ho.2.1 _ _ _ h5 k5⟩)
  have := nb_inj h1 h2 (h3.trans h4.symm)
  rw [this, ho.1] at h5
  cases h5
theorem s_renumbered {M : oz_M} {n S T : Nat} (hn : n ≤ 14) (hS : S < 2 ^ n) (hT : sub T S) : ow (f_Arcs_renumbered (nI T) (nI S) (nI n) M) (fun v => ∀ b, b < 32 → (zb v b = true ↔ ∃ y, T.testBit y = true ∧ nb S y = b)) := by
  have hS14 := lt14 hn hS
  unfold f_Arcs_renumbered
  refine ow_bind (P := fun y => ∀ b, b < 32 → (zb y.1 b = true ↔ ∃ y, T.testBit y = true ∧ nb S y = b)) ?_ (fun y hy => ow_some hy)
  refine ow_for n (fun k s => s.2 = nI k ∧ ∀ b, b < 32 → (zb s.1 b = true ↔ ∃ y, y < k ∧ T.testBit y = true ∧ nb S y = b)) (fun k s hk hJ => ?_) (fun s hJ => ?_) 0 _ (Nat.zero_le _) ⟨rfl, fun b hb => ?_⟩
  · obtain ⟨q1, q2⟩ := hJ
    rw [q1, if_pos (nI_lt hk (by omega)), s_chas T (by omega), s_numberIn hS14 (by omega)]
    refine ow_let ?_
    cases hb : T.testBit k with
    | false =>
      rw [bi_f, if_pos rfl]
      refine ow_some ⟨nI_1 k, fun b hb2 => ?_⟩
      show zb s.1 b = true ↔ _
      rw [q2 b hb2]
      constructor
      · rintro ⟨y, h1, h2⟩; exact ⟨y, by omega, h2⟩
      · rintro ⟨y, h1, h2, h3⟩
        by_cases e : y = k
        · rw [e, hb] at h2; cases h2
        · exact ⟨y, by omega, h2, h3⟩
    | true =>
      rw [if_neg bi_ne]
      have hnb : nb S k < 14 := by
        have := nb_lt hS14 (hT k hb)
        have := sz_le hS14 (Nat.le_refl _)
        omega
      refine ow_let (ow_some ⟨nI_1 k, fun b hb2 => ?_⟩)
      show zb (s.1 ||| (1 <<< (nI (nb S k) &&& 31))) b = true ↔ _
      rw [zb_or, zb_one (nb S k) (by omega) b hb2, Bool.or_eq_true, decide_eq_true_eq, q2 b hb2]
      constructor
      · rintro (⟨y, h1, h2⟩ | h)
        · exact ⟨y, by omega, h2⟩
        · exact ⟨k, by omega, hb, h.symm⟩
      · rintro ⟨y, h1, h2, h3⟩
        by_cases e : y = k
        · exact Or.inr (by rw [← h3, e])
        · exact Or.inl ⟨y, by omega, h2, h3⟩
  · obtain ⟨q1, q2⟩ := hJ
    rw [q1, if_neg (nI_nlt (Nat.le_refl _) (by omega))]
    refine ow_some (fun b hb => ?_)
    show zb s.1 b = true ↔ _
    rw [q2 b hb]
    constructor
    · rintro ⟨y, h1, h2⟩; exact ⟨y, h2⟩
    · rintro ⟨y, h2, h3⟩; exact ⟨y, bit_in hS (hT y h2), h2, h3⟩
  · show zb 0 b = true ↔ _
    rw [zb_0]
    exact ⟨fun h => (by cases h), fun ⟨y, h, _⟩ => (by omega)⟩
theorem s_restrict {M : oz_M} {n S : Nat} {lt : Nat → Nat → Bool} (hn : n ≤ 14) (ho : ord n lt) (hS : S < 2 ^ n) (h6 : M.1 6 0 = nI n) (h8 : ∀ x, x < n → M.1 8 x = nI (blw (op lt) n x)) : ow (f_Arcs_restrict (nI S) M) (fun r => fr [1, 2] M r.2 ∧ zA r.2 (sz S) (kR lt S)) := by
  have hS14 := lt14 hn hS
  have hsz := sz_le hS14 (Nat.le_refl _)
  unfold f_Arcs_restrict
  rw [s_bitCount, nI_bc hS14]
  refine ow_let (ow_b2 (s_clear (n := sz S) M) (fun _ M3 h3 => ?_))
  obtain ⟨f3, a3⟩ := h3
  dsimp only at f3 a3
  refine ow_bind (P := fun y => fr [1, 2] M y.2 ∧ zA y.2 (sz S) (kR lt S)) ?_ (fun y hy => ow_some hy)
  let Q : Nat → Nat → Nat → Prop := fun k a b => ∃ x y, x < k ∧ S.testBit x = true ∧ S.testBit y = true ∧ nb S x = a ∧ nb S y = b ∧ lt x y = true
  refine ow_for n (fun k s => s.1 = nI k ∧ fr [1, 2] M s.2 ∧ s.2.1 1 0 = nI (sz S) ∧ ∀ a, a < 14 → ∀ b, b < 32 → (zb (s.2.1 2 a) b = true ↔ Q k a b)) (fun k s hk hJ => ?_) (fun s hJ => ?_) 0 _ (Nat.zero_le _) ⟨rfl, f3, a3.1, fun a ha b hb => ?_⟩
  · obtain ⟨q1, q2, q3, q4⟩ := hJ
    have s6 : s.2.1 6 0 = nI n := by rw [q2.at (by decide)]; exact h6
    have s8 : s.2.1 8 k = nI (blw (op lt) n k) := by rw [q2.at (by decide)]; exact h8 k hk
    rw [q1, s6, if_pos (nI_lt hk (by omega)), s_chas S (by omega), s_numberIn hS14 (by omega), show oz_in (nI k) 14 = some k from oz_in_nI (by omega) (by decide)]
    simp only [Option.bind_some]
    rw [s8, nI_and]
    cases hb : S.testBit k with
    | false =>
      rw [bi_f, if_pos rfl]
      refine ow_some ⟨nI_1 k, q2, q3, fun a ha b hb2 => ?_⟩
      show zb (s.2.1 2 a) b = true ↔ _
      rw [q4 a ha b hb2]
      constructor
      · rintro ⟨x, y, h1, h2⟩; exact ⟨x, y, by omega, h2⟩
      · rintro ⟨x, y, h1, h2, h3⟩
        by_cases e : x = k
        · rw [e, hb] at h2; cases h2
        · exact ⟨x, y, by omega, h2, h3⟩
    | true =>
      rw [if_neg bi_ne]
      have hnb := nb_lt hS14 hb
      refine ow_bind (s_renumbered (T := blw (op lt) n k &&& S) hn hS (fun i hi => by rw [Nat.testBit_and] at hi; simp only [Bool.and_eq_true] at hi; exact hi.2)) (fun v hv => ?_)
      rw [show oz_in (nI (nb S k)) 14 = some (nb S k) from oz_in_nI (by omega) (by decide)]
      refine ow_let (ow_let (ow_some ⟨nI_1 k, q2.s (by decide), ?_, fun a ha b hb2 => ?_⟩))
      · rw [rd_s, if_neg (by simp)]; exact q3
      · show zb ((oz_s s.2 2 (nb S k) v).1 2 a) b = true ↔ _
        rw [rd_s]
        by_cases ea : a = nb S k
        · rw [if_pos ⟨rfl, ea⟩, hv b hb2]
          constructor
          · rintro ⟨y, h1, h2⟩
            rw [Nat.testBit_and, blw_bit (ord_op ho), Bool.and_eq_true] at h1
            exact ⟨k, y, by omega, hb, h1.2, ea.symm, h2, h1.1⟩
          · rintro ⟨x, y, h1, h2, h3, h4, h5, h6⟩
            have := nb_inj h2 hb (h4.trans ea)
            subst this
            exact ⟨y, by rw [Nat.testBit_and, blw_bit (ord_op ho), Bool.and_eq_true]; exact ⟨h6, h3⟩, h5⟩
        · rw [if_neg (by simp [ea]), q4 a ha b hb2]
          constructor
          · rintro ⟨x, y, h1, h2⟩; exact ⟨x, y, by omega, h2⟩
          · rintro ⟨x, y, h1, h2, h3, h4, h5⟩
            by_cases e : x = k
            · exact absurd (by rw [← h4, e]) ea
            · exact ⟨x, y, by omega, h2, h3, h4, h5⟩
  · obtain ⟨q1, q2, q3, q4⟩ := hJ
    have s6 : s.2.1 6 0 = nI n := by rw [q2.at (by decide)]; exact h6
    rw [q1, s6, if_neg (nI_nlt (Nat.le_refl _) (by omega))]
    refine ow_some ⟨q2, q3, fun a ha b hb => ?_⟩
    show zb (s.2.1 2 a) b = _
    refine tb_eq ?_
    rw [q4 a ha b hb]
    constructor
    · rintro ⟨x, y, h1, h2⟩; exact ⟨x, y, h2⟩
    · rintro ⟨x, y, h2⟩; exact ⟨x, y, bit_in hS h2.1, h2⟩
  · show zb (M3.1 2 a) b = true ↔ _
    rw [a3.2 a ha b hb]
    exact ⟨fun h => (by cases h), fun ⟨x, y, h, _⟩ => (by omega)⟩
theorem s_Model_keep {M : oz_M} {n S : Nat} {R : Nat → Nat → Bool} (hn : n ≤ 14) (ho : ord n (ztb R)) (hS : S < 2 ^ n) (h0 : S ≠ 0) (h2 : ¬ M.1 62 2 = 0) (h62 : M.1 62 1 = nI n) (hL : zLt M n R) {Q : oz_M → Prop} (k : ∀ N, fr [62, 63, 73] M N → zR N (sz S) (kR (ztb R) S) → ow (f_Model_settle N) (fun r => r.2.1 62 0 = 0 ∧ r.2.2 74 = N.2 74 ∧ Q r.2)) : ow (f_Model_keep (nI S) M) (fun r => r.1 = nI (sz S) ∧ r.2.1 62 0 = 0 ∧ r.2.2 74 0 = M.2 74 0 ∧ Q r.2) := by
  have hS14 := lt14 hn hS
  have hp := p2_14 hn
  have hsz := sz_le hS14 (Nat.le_refl _)
  unfold f_Model_keep
  rw [if_neg h2, h62, nI_shl (by omega), if_pos (show 0 < nI S from nI_lt (a := 0) (by omega) (by omega)), if_pos (nI_lt hS (by omega))]
  simp only [Option.bind_some]
  rw [if_neg (um_0 _)]
  refine ow_bind (P := fun y => y.1 = nI (sz S) ∧ fr [62, 73] M y.2.2 ∧ y.2.2.1 62 0 = 0 ∧ y.2.2.1 62 1 = nI n ∧ ∀ x, S.testBit x = true → y.2.2.1 73 (nb S x) = nI x) ?_ (fun y hy => ?_)
  · have f0 : fr [62, 73] M (oz_s M 62 0 0) := fr.refl.s (by decide)
    have e1 : (oz_s M 62 0 0).1 62 1 = nI n := by rw [rd_s, if_neg (by simp)]; exact h62
    refine ow_for n (fun k s => s.2.1 = nI k ∧ s.1 = nI (nb S k) ∧ fr [62, 73] M s.2.2 ∧ s.2.2.1 62 0 = 0 ∧ s.2.2.1 62 1 = nI n ∧ ∀ x, x < k → S.testBit x = true → s.2.2.1 73 (nb S x) = nI x) (fun k s hk hJ => ?_) (fun s hJ => ?_) 0 _ (Nat.zero_le _) ⟨rfl, rfl, f0, um_at _ _, e1, fun x h => by omega⟩
    · obtain ⟨q1, q2, q3, q4, q5, q6⟩ := hJ
      rw [q1, q2, q5, if_pos (nI_lt hk (by omega)), s_mhas S (by omega)]
      refine ow_let ?_
      cases hb : S.testBit k with
      | false =>
        rw [bi_f, if_pos rfl]
        refine ow_some ⟨nI_1 k, ?_, q3, q4, q5, fun x hx hsx => ?_⟩
        · show nI (nb S k) = nI (nb S (k + 1))
          unfold nb
          simp only [cnt, hb]
          rfl
        · by_cases e : x = k
          · rw [e, hb] at hsx; cases hsx
          · exact q6 x (by omega) hsx
      | true =>
        rw [if_neg bi_ne]
        have hnb := nb_lt hS14 hb
        rw [show oz_in (nI (nb S k)) 14 = some (nb S k) from oz_in_nI (by omega) (by decide)]
        refine ow_let (ow_let (ow_some ⟨nI_1 k, ?_, q3.s (by decide), ?_, ?_, fun x hx hsx => ?_⟩))
        · show nI (nb S k) + 1 = nI (nb S (k + 1))
          unfold nb
          simp only [cnt, hb]
          exact nI_1 _
        · rw [rd_s, if_neg (by simp)]; exact q4
        · rw [rd_s, if_neg (by simp)]; exact q5
        · show (oz_s s.2.2 73 (nb S k) (nI k)).1 73 (nb S x) = nI x
          rw [rd_s]
          by_cases e : x = k
          · rw [if_pos ⟨rfl, by rw [e]⟩, e]
          · rw [if_neg (fun q => e (nb_inj hsx hb q.2))]
            exact q6 x (by omega) hsx
    · obtain ⟨q1, q2, q3, q4, q5, q6⟩ := hJ
      rw [q1, q5, if_neg (nI_nlt (Nat.le_refl _) (by omega))]
      refine ow_some ⟨?_, q3, q4, q5, fun x hx => q6 x (bit_in hS hx) hx⟩
      show s.1 = _
      rw [q2, sz_n hS hn]; rfl
  · obtain ⟨y1, y2, y3, y4, y5⟩ := hy
    have hsur : ∀ a, a < sz S → ∃ x, S.testBit x = true ∧ nb S x = a := fun a ha => by
      have : ∀ k, a < nb S k → ∃ x, S.testBit x = true ∧ nb S x = a := by
        intro k
        induction k with
        | zero => intro h; simp [nb, cnt] at h
        | succ k ih =>
          intro h
          unfold nb at h
          simp only [cnt] at h
          cases hb : S.testBit k with
          | false => rw [hb] at h; exact ih (by unfold nb; simpa using h)
          | true =>
            rw [hb] at h
            by_cases e : a = nb S k
            · exact ⟨k, hb, e.symm⟩
            · exact ih (by unfold nb at e ⊢; simp at h; omega)
      exact this 14 ha
    rw [y1]
    refine ow_bind (P := fun z => fr [62, 63, 73] M z.2 ∧ z.2.1 62 0 = 0 ∧ z.2.2 = y.2.2.2 ∧ ∀ a, a < 14 → ∀ b, b < 14 → z.2.1 63 (14 * a + b) = bi (kR (ztb R) S a b)) ?_ (fun z hz => ?_)
    · have val : ∀ N : oz_M, fr [63] y.2.2 N → ∀ a b, a < 14 → b < 14 → ∀ (m : oz_M), N = m → ow (if nI a < nI (sz S) then (if nI b < nI (sz S) then ((oz_in (nI a) 14).bind fun j19 => (oz_in (nI b) 14).bind fun j20 => (f_Model_isLess (N.1 73 j19) (N.1 73 j20) N).bind fun v21 => if v21 = 0 then ((oz_in ((14 * nI a) + nI b) 196).bind fun j22 => (some (oz_s N 63 j22 (vp_nar .boolean 0))).bind fun M23 => some (.inl (nI b + 1, M23))) else ((oz_in ((14 * nI a) + nI b) 196).bind fun j24 => (some (oz_s N 63 j24 (vp_nar .boolean 1))).bind fun M25 => some (.inl (nI b + 1, M25)))) else ((oz_in ((14 * nI a) + nI b) 196).bind fun j17 => (some (oz_s N 63 j17 (vp_nar .boolean 0))).bind fun M18 => some (.inl (nI b + 1, M18)))) else ((oz_in ((14 * nI a) + nI b) 196).bind fun j15 => (some (oz_s N 63 j15 (vp_nar .boolean 0))).bind fun M16 => some (.inl (nI b + 1, M16))) : Option ((Int32 × oz_M) ⊕ (Int32 × oz_M))) (fun r => r = .inl (nI (b + 1), oz_s N 63 (14 * a + b) (bi (kR (ztb R) S a b)))) := by
        intro N fN a b ha hb _ _
        have hin : oz_in (nI (14 * a + b)) 196 = some (14 * a + b) := oz_in_nI (by omega) (by decide)
        have z0 : vp_nar .boolean (0 : Int32) = bi false := nar_b false
        have z1 : vp_nar .boolean (1 : Int32) = bi true := nar_b true
        have no : ¬ (a < sz S ∧ b < sz S) → kR (ztb R) S a b = false := fun q => by
          cases hk : kR (ztb R) S a b with
          | false => rfl
          | true => exact absurd ((kR_W hS14 h0).2.2 a b hk) q
        rw [nI_14, hin, z0, z1, nI_1]
        refine ow_ite (fun c1 => ?_) (fun c1 => ?_)
        · have c1' := (nI_ltI (by omega) (by omega)).mp c1
          refine ow_ite (fun c2 => ?_) (fun c2 => ?_)
          · have c2' := (nI_ltI (by omega) (by omega)).mp c2
            obtain ⟨x, x1, x2⟩ := hsur a c1'
            obtain ⟨w, w1, w2⟩ := hsur b c2'
            have r1 : N.1 73 a = nI x := by rw [fN.at (by decide), ← x2]; exact y5 x x1
            have r2 : N.1 73 b = nI w := by rw [fN.at (by decide), ← w2]; exact y5 w w1
            rw [show oz_in (nI a) 14 = some a from oz_in_nI ha (by decide), show oz_in (nI b) 14 = some b from oz_in_nI hb (by decide)]
            simp only [Option.bind_some]
            have hx14 := bit_in hS14 x1
            have hw14 := bit_in hS14 w1
            have LN : zLt N n R := (hL.fr y2 (by decide)).fr fN (by decide)
            rw [r1, r2, s_less LN hx14 hw14]
            have ek : kR (ztb R) S a b = ztb R x w := by
              have := kR_at (lt := ztb R) (b := b) x1
              rw [x2] at this
              cases hl : ztb R x w with
              | true => exact this.mpr ⟨w, w1, hl, w2⟩
              | false =>
                cases hk : kR (ztb R) S a b with
                | false => rfl
                | true =>
                  obtain ⟨w', k1, k2, k3⟩ := this.mp hk
                  have := nb_inj k1 w1 (k3.trans w2.symm)
                  rw [this, hl] at k2; cases k2
            rw [ek]
            refine ow_let ?_
            cases ztb R x w with
            | false => exact ow_ite (fun _ => ow_some rfl) (fun q => absurd rfl q)
            | true => exact ow_ite (fun q => absurd q (by decide)) (fun _ => ow_some rfl)
          · rw [no (fun q => c2 (nI_lt q.2 (by omega)))]
            exact ow_let (ow_let (ow_some rfl))
        · rw [no (fun q => c1 (nI_lt q.1 (by omega)))]
          exact ow_let (ow_let (ow_some rfl))
      refine ow_for 14 (fun a s => s.1 = nI a ∧ fr [63] y.2.2 s.2 ∧ s.2.2 = y.2.2.2 ∧ ∀ a', a' < a → ∀ b, b < 14 → s.2.1 63 (14 * a' + b) = bi (kR (ztb R) S a' b)) (fun a s ha hJ => ?_) (fun s hJ => ?_) 0 _ (Nat.zero_le _) ⟨rfl, fr.refl, rfl, fun a h => by omega⟩
      · obtain ⟨q1, q2, q2', q3⟩ := hJ
        rw [q1, if_pos (show nI a < 14 from nI_lt (b := 14) ha (by omega))]
        refine ow_bind (P := fun z => fr [63] y.2.2 z.2 ∧ z.2.2 = y.2.2.2 ∧ ∀ a', a' < a + 1 → ∀ b, b < 14 → z.2.1 63 (14 * a' + b) = bi (kR (ztb R) S a' b)) ?_ (fun z hz => ow_some ⟨nI_1 a, hz.1, hz.2.1, hz.2.2⟩)
        refine ow_for 14 (fun b t => t.1 = nI b ∧ fr [63] y.2.2 t.2 ∧ t.2.2 = y.2.2.2 ∧ (∀ a', a' < a → ∀ b, b < 14 → t.2.1 63 (14 * a' + b) = bi (kR (ztb R) S a' b)) ∧ ∀ b', b' < b → t.2.1 63 (14 * a + b') = bi (kR (ztb R) S a b')) (fun b t hb hJ => ?_) (fun t hJ => ?_) 0 _ (Nat.zero_le _) ⟨rfl, q2, q2', q3, fun b h => by omega⟩
        · obtain ⟨g1, g2, g2', g3, g4⟩ := hJ
          rw [g1, if_pos (show nI b < 14 from nI_lt (b := 14) hb (by omega))]
          refine ow_mono (val t.2 g2 a b ha hb t.2 rfl) (fun r hr => ?_)
          rw [hr]
          refine ⟨rfl, g2.s (by decide), g2', fun a' ha' b' hb' => ?_, fun b' hb' => ?_⟩
          · rw [rd_s, if_neg (by omega)]; exact g3 a' ha' b' hb'
          · rw [rd_s]
            by_cases e : b' = b
            · rw [if_pos ⟨rfl, by rw [e]⟩, e]
            · rw [if_neg (by omega)]; exact g4 b' (by omega)
        · obtain ⟨g1, g2, g2', g3, g4⟩ := hJ
          rw [g1, if_neg (show ¬ nI 14 < 14 from nI_nlt (b := 14) (Nat.le_refl _) (by omega))]
          refine ow_some ⟨g2, g2', fun a' ha' b hb => ?_⟩
          by_cases e : a' = a
          · rw [e]; exact g4 b hb
          · exact g3 a' (by omega) b hb
      · obtain ⟨q1, q2, q2', q3⟩ := hJ
        rw [q1, if_neg (show ¬ nI 14 < 14 from nI_nlt (b := 14) (Nat.le_refl _) (by omega))]
        refine ow_some ⟨(y2.sub (by decide)).trans (q2.sub (by decide)), ?_, q2', q3⟩
        show s.2.1 62 0 = 0
        rw [q2.at (by decide)]; exact y3
    · obtain ⟨z1, z2, z2', z3⟩ := hz
      refine ow_let ?_
      have hR : zR (oz_s z.2 62 1 (nI (sz S))) (sz S) (kR (ztb R) S) := ⟨by rw [rd_s, if_pos ⟨rfl, rfl⟩], fun a ha b hb => by rw [rd_s, if_neg (by simp)]; exact z3 a ha b hb⟩
      obtain ⟨⟨u, N⟩, e, t0, t74, hQ⟩ := k _ (z1.s (by decide)) hR
      dsimp only at t0 t74 hQ
      rw [e]
      simp only [b2_some]
      refine ow_some ⟨rfl, t0, ?_, hQ⟩
      show N.2 74 0 = _
      rw [t74, rd_sl, (z1 74 (by decide)).2]
theorem keep_cases (x : Int32) {n : Nat} (hn : n ≤ 14) : (∃ S, S < 2 ^ n ∧ S ≠ 0 ∧ x = nI S) ∨ ¬ (0 < x) ∨ (0 < x ∧ nI (2 ^ n - 1) < x ∧ ¬ x < nI (2 ^ n)) := by
  have hp := p2_14 hn
  have hpp := p2_pos n
  by_cases h0 : 0 < x
  · have hx0 : ¬ x < 0 := by
      rw [Int32.lt_iff_toInt_lt] at h0 ⊢
      have e0 : (0 : Int32).toInt = 0 := rfl
      omega
    obtain ⟨j, hj, rfl⟩ := nI_of hx0
    have hj0 : j ≠ 0 := fun q => by rw [q] at h0; exact absurd h0 (by decide)
    by_cases h1 : j < 2 ^ n
    · exact Or.inl ⟨j, h1, hj0, rfl⟩
    · exact Or.inr (Or.inr ⟨h0, nI_lt (by omega) hj, nI_nlt (by omega) hj⟩)
  · exact Or.inr (Or.inl h0)
theorem us_22 {M : oz_M} {n : Nat} {R : Nat → Nat → Bool} (h : zH M n R) {p1 p2 p3 : Int32} : ow (f_L22 p1 p2 p3 M) (fun N => ∃ m R', zH N m R') := by
  have hn := h.n
  have ho := h.ord
  have hp := p2_14 hn
  unfold f_L22
  rcases keep_cases p1 hn with ⟨S, hS, hS0, rfl⟩ | hx | ⟨h0, h1, h2⟩
  · have hS14 := lt14 hn hS
    have hKW := kR_W (lt := ztb R) hS14 hS0
    have hKac := kR_ac (S := S) ho
    obtain ⟨⟨u1, M1⟩, e1, f1, g1⟩ := s_unsettle M
    dsimp only at f1 g1
    obtain ⟨⟨u2, M2⟩, e2, f2, g2⟩ := s_restrict (M := M1) hn ho hS (by rw [f1.at (by decide)]; exact h.at6) (fun x hx => by rw [f1.at (by decide)]; exact (h.rows hx).2.1)
    dsimp only at f2 g2
    have f12 : fr [0, 1, 2, 3, 53] M M2 := (f1.sub (by decide)).trans (f2.sub (by decide))
    obtain ⟨⟨u3, M3⟩, e3, f3, k6, k3, k4⟩ := adopt_settle hKW hKac g2 (g1.fr f2 (by decide) (by decide) (by decide)) (by rw [f12.at (by decide)]; exact h.1.2.2.2.2.2.2)
    dsimp only at f3 k6 k3 k4
    have f13 : fr [0, 1, 2, 3, 53, 6, 7, 8, 9, 10, 11, 12, 45] M M3 := (f12.sub (by decide)).trans (f3.sub (by decide))
    refine law_ok (v := nI (sz S)) (P := fun N => fr [74] M3 N) ?_ (fun N hN h74 => ?_)
    · unfold f_Law_keep f_Hall_keep
      simp only [s_wants h.st, b2_some, el_inr]
      unfold f_Order_everything
      rw [h.at6, nI_all (by omega), if_pos (show 0 < nI S from nI_lt (a := 0) (by omega) (by omega))]
      simp only [Option.bind_some]
      rw [if_neg (nI_nlt (by omega) (by omega)), e1]
      simp only [b2_some]
      rw [e2]
      simp only [b2_some]
      rw [e3]
      simp only [b2_some, el_inr, zin01, Option.bind_some]
      refine ow_some ⟨rfl, ?_, fr.refl.l (by decide)⟩
      rw [rd_ll, if_pos ⟨rfl, rfl⟩, k6]
    · have g : fr [0, 1, 2, 3, 53, 6, 7, 8, 9, 10, 11, 12, 45, 74] M N := (f13.sub (by decide)).trans (hN.sub (by decide))
      refine s_Model_keep (Q := fun N => ∃ m R', zH N m R') hn ho hS hS0 (by rw [g.at (by decide)]; exact h.rst) (by rw [g.at (by decide)]; exact h.at62) (h.L.fr g (by decide)) (fun N2 f4 hR => ?_)
      refine ow_mono (k4 N2 ((hN.sub (by decide)).trans (f4.sub (by decide))) hR) (fun r hr => ⟨hr.2.1, hr.2.2.1, _, _, hr.2.2.2⟩)
  · refine law_thr (k := 2) (by decide) (P := fun N => N = M) ?_ (fun N hN => ?_)
    · unfold f_Law_keep f_Hall_keep
      simp only [s_wants h.st, b2_some, el_inr]
      rw [if_neg hx]
      exact ow_some ⟨rfl, rfl⟩
    · subst hN
      unfold f_Model_keep
      rw [if_neg h.rst, if_neg hx]
      simp only [Option.bind_some]
      rw [if_pos (um_posk _ (by decide))]
      exact ow_some ⟨um_at _ _, _, _, h.fz 2⟩
  · refine law_thr (k := 2) (by decide) (P := fun N => N = M) ?_ (fun N hN => ?_)
    · unfold f_Law_keep f_Hall_keep
      simp only [s_wants h.st, b2_some, el_inr]
      unfold f_Order_everything
      rw [if_pos h0, h.at6, nI_all (by omega)]
      simp only [Option.bind_some]
      rw [if_pos h1]
      exact ow_some ⟨rfl, rfl⟩
    · subst hN
      unfold f_Model_keep
      rw [if_neg h.rst, if_pos h0, h.at62, nI_shl (by omega), if_neg h2]
      simp only [Option.bind_some]
      rw [if_pos (um_posk _ (by decide))]
      exact ow_some ⟨um_at _ _, _, _, h.fz 2⟩
