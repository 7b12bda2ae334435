/-! The law's case sign. -/
def isMu (lt : Nat → Nat → Bool) (n a : Nat) (μ : Nat → Int32) (x : Nat) : Prop := μ x = if x = a then 1 else if lt a x = true then -smI (fun y => if lt y x = true then μ y else 0) n else 0
theorem s_signOf {M : oz_M} {n : Nat} {R : Nat → Nat → Bool} (h : zH M n R) {a b : Nat} (ha : a < n) (hb : b < n) : ow (f_Order_signOf (nI a) (nI b) M) (fun r => fr [13] M r.2 ∧ ∃ μ, (∀ x, x < n → isMu (ztb R) n a μ x) ∧ r.1 = μ b) := by
  have hn := h.n
  have ho := h.ord
  obtain ⟨p, hp1, hp2, hp3⟩ := h.1.2.2.2.2.1
  unfold f_Order_signOf
  refine ow_bind (P := fun y => fr [13] M y.2 ∧ ∀ x, x < n → isMu (ztb R) n a (y.2.1 13) x) ?_ (fun y hy => ?_)
  · refine ow_for n (fun k s => s.1 = nI k ∧ fr [13] M s.2 ∧ ∀ x, x < n → p x < k → isMu (ztb R) n a (s.2.1 13) x) (fun k s hk hJ => ?_) (fun s hJ => ?_) 0 _ (Nat.zero_le _) ⟨rfl, fr.refl, fun x _ h => by omega⟩
    · obtain ⟨q1, q2, q3⟩ := hJ
      obtain ⟨x, hx, hpx, h12⟩ := hp2 k hk
      have e12 : s.2.1 12 k = nI x := by rw [q2.at (by decide)]; exact h12
      have e7 : s.2.1 7 x = nI (blw (ztb R) n x) := by rw [q2.at (by decide)]; exact (h.rows hx).1
      have e8 : s.2.1 8 a = nI (blw (op (ztb R)) n a) := by rw [q2.at (by decide)]; exact (h.rows ha).2.1
      have e6 : s.2.1 6 0 = nI n := by rw [q2.at (by decide)]; exact h.at6
      rw [q1, e6, if_pos (nI_lt hk (by omega)), show oz_in (nI k) 14 = some k from oz_in_nI (by omega) (by decide), show oz_in (nI a) 14 = some a from oz_in_nI (by omega) (by decide)]
      simp only [Option.bind_some]
      rw [e8, e12, s_chas _ (by omega), blw_bit (ord_op ho), show oz_in (nI x) 14 = some x from oz_in_nI (by omega) (by decide)]
      simp only [Option.bind_some]
      rw [e7, s_sumI hn e6]
      refine ow_bind (P := fun z => z = if ztb R a x = true then -smI (fun y => if ztb R y x = true then s.2.1 13 y else 0) n else 0) ?_ (fun z hz => ?_)
      · show ow (if bi (ztb R a x) = 0 then _ else _) _
        cases ztb R a x with
        | false => exact ow_some rfl
        | true =>
          rw [if_neg bi_ne]
          refine ow_let (ow_some ?_)
          rw [if_pos rfl]
          congr 1
          exact smI_cong n (fun y _ => by rw [blw_bit ho])
      · have hold : ∀ v, ∀ y, y < n → p y < k → isMu (ztb R) n a ((oz_s s.2 13 x v).1 13) y := fun v y hy hpy => by
          have hne : y ≠ x := fun q => by rw [q] at hpy; omega
          have := q3 y hy hpy
          unfold isMu at this ⊢
          have e1 : (oz_s s.2 13 x v).1 13 y = s.2.1 13 y := by rw [rd_s, if_neg (by simp [hne])]
          rw [e1, this]
          have e2 : smI (fun y_1 => if ztb R y_1 y = true then s.2.1 13 y_1 else 0) n = smI (fun y_1 => if ztb R y_1 y = true then (oz_s s.2 13 x v).1 13 y_1 else 0) n := smI_cong n (fun w hw => by
            cases hl : ztb R w y with
            | false => rfl
            | true =>
              have h1 := hp3 w y hl
              have hwx : w ≠ x := fun q => by rw [q] at h1; omega
              have e3 : (oz_s s.2 13 x v).1 13 w = s.2.1 13 w := by rw [rd_s, if_neg (by simp [hwx])]
              rw [e3])
          rw [e2]
        have hnew : ∀ v, v = (if x = a then 1 else if ztb R a x = true then -smI (fun y => if ztb R y x = true then s.2.1 13 y else 0) n else 0) → isMu (ztb R) n a ((oz_s s.2 13 x v).1 13) x := fun v hv => by
          unfold isMu
          have e1 : (oz_s s.2 13 x v).1 13 x = v := by rw [rd_s, if_pos ⟨rfl, rfl⟩]
          rw [e1, hv]
          have e2 : smI (fun y_1 => if ztb R y_1 x = true then s.2.1 13 y_1 else 0) n = smI (fun y_1 => if ztb R y_1 x = true then (oz_s s.2 13 x (if x = a then 1 else if ztb R a x = true then -smI (fun y => if ztb R y x = true then s.2.1 13 y else 0) n else 0)).1 13 y_1 else 0) n := smI_cong n (fun w hw => by
            cases hl : ztb R w x with
            | false => rfl
            | true =>
              have hwx : w ≠ x := fun q => by rw [q, ho.1] at hl; cases hl
              have e3 : ∀ v, (oz_s s.2 13 x v).1 13 w = s.2.1 13 w := fun v => by rw [rd_s, if_neg (by simp [hwx])]
              rw [e3])
          rw [← e2]
        have hall : ∀ v, v = (if x = a then 1 else if ztb R a x = true then -smI (fun y => if ztb R y x = true then s.2.1 13 y else 0) n else 0) → ∀ y, y < n → p y < k + 1 → isMu (ztb R) n a ((oz_s s.2 13 x v).1 13) y := fun v hv y hy hpy => by
          by_cases e : y = x
          · rw [e]; exact hnew v hv
          · refine hold v y hy ?_
            have : p y ≠ k := fun q => by
              have a1 := (hp1 y hy).2
              have a2 := (hp1 x hx).2
              rw [q] at a1
              rw [hpx] at a2
              exact e ((nI_eq (by omega) (by omega)).mp (a1.symm.trans a2))
            omega
        refine ow_ite (fun e => ?_) (fun e => ?_)
        · have ex : x = a := (nI_eq (by omega) (by omega)).mp e
          refine ow_some ⟨nI_1 k, (q2.s (by decide)).s (by decide), fun y hy hpy => ?_⟩
          have hrow : (oz_s (oz_s s.2 13 x z) 13 x 1).1 13 = (oz_s s.2 13 x 1).1 13 := by
            funext w
            rw [rd_s, rd_s, rd_s]
            by_cases ew : w = x <;> simp [ew]
          show isMu (ztb R) n a ((oz_s (oz_s s.2 13 x z) 13 x 1).1 13) y
          rw [hrow]
          exact hall 1 (by rw [if_pos ex]) y hy hpy
        · have ex : ¬ x = a := fun q => e (by rw [q])
          exact ow_some ⟨nI_1 k, q2.s (by decide), hall z (by rw [if_neg ex]; exact hz)⟩
    · obtain ⟨q1, q2, q3⟩ := hJ
      have e6 : s.2.1 6 0 = nI n := by rw [q2.at (by decide)]; exact h.at6
      rw [q1, e6, if_neg (nI_nlt (Nat.le_refl _) (by omega))]
      exact ow_some ⟨q2, fun x hx => q3 x hx (hp1 x hx).1⟩
  · rw [show oz_in (nI b) 14 = some b from oz_in_nI (by omega) (by decide)]
    exact ow_let (ow_some ⟨hy.1, y.2.1 13, hy.2, rfl⟩)
theorem nar_b (b : Bool) : vp_nar .boolean (bi b) = bi b := by cases b <;> decide
/-- what is told is right -/
def zTl (N : oz_M) (lt : Nat → Nat → Bool) (n a : Nat) (μ : Nat → Int32) (t : Nat → Bool) : Prop := t a = true ∧ ∀ x, x < n → N.1 72 x = bi (t x) ∧ (t x = true → le lt a x ∧ N.1 71 x = μ x)
theorem mu_0 {lt : Nat → Nat → Bool} {n a x : Nat} {μ : Nat → Int32} (h : isMu lt n a μ x) (hl : ¬ le lt a x) : μ x = 0 := by
  unfold isMu at h
  rw [h, if_neg (fun q => hl (Or.inl q.symm)), if_neg (fun q => hl (Or.inr q))]
theorem s_tell {M : oz_M} {n : Nat} {R : Nat → Nat → Bool} (hn : n ≤ 14) (ho : ord n (ztb R)) (h62 : M.1 62 1 = nI n) (hL : zLt M n R) {a x : Nat} (ha : a < n) (hx : x < n) {μ : Nat → Int32} (hμ : ∀ x, x < n → isMu (ztb R) n a μ x) {t : Nat → Bool} (ht : zTl M (ztb R) n a μ t) : ow (f_Model_tell (nI a) (nI x) M) (fun r => fr [71, 72] M r.2 ∧ ∃ t', zTl r.2 (ztb R) n a μ t' ∧ (∀ y, t y = true → t' y = true) ∧ ((ztb R a x = true ∧ ∀ c, c < n → le (ztb R) a c → ztb R c x = true → t c = true) → t' x = true)) := by
  unfold f_Model_tell
  rw [show oz_in (nI x) 14 = some x from oz_in_nI (by omega) (by decide)]
  simp only [Option.bind_some]
  rw [(ht.2 x hx).1, s_less hL (by omega) (by omega)]
  refine ow_bind (P := fun z => z = bi (!t x && ztb R a x)) ?_ (fun z hz => ?_)
  · cases t x with
    | true => exact ow_some rfl
    | false =>
      refine ow_let ?_
      cases ztb R a x <;> exact ow_some rfl
  · rw [hz]
    let P : Nat → Bool := fun c => !(tb (le (ztb R) a c) && ztb R c x) || t c
    let v : Nat → Int32 := fun c => if (tb (le (ztb R) a c) && ztb R c x) = true then M.1 71 c else 0
    refine ow_bind (P := fun y => y.1 = bi ((!t x && ztb R a x) && al P n) ∧ y.2.1 = smI v n) ?_ (fun y hy => ?_)
    · rw [h62]
      refine ow_for n (fun k s => s.2.2 = nI k ∧ s.1 = bi ((!t x && ztb R a x) && al P k) ∧ s.2.1 = smI v k) (fun k s hk hJ => ?_) (fun s hJ => ?_) 0 _ (Nat.zero_le _) ⟨rfl, by simp [al], rfl⟩
      · obtain ⟨q1, q2, q3⟩ := hJ
        have e1 : ((!t x && ztb R a x) && al P (k + 1)) = (((!t x && ztb R a x) && al P k) && P k) := by
          show ((!t x && ztb R a x) && (al P k && P k)) = _
          rw [Bool.and_assoc (!t x && ztb R a x)]
        have e2 : smI v (k + 1) = smI v k + v k := rfl
        rw [q1, q2, q3, if_pos (nI_lt hk (by omega)), s_atMost hL (by omega) (by omega), s_less hL (by omega) (by omega), show oz_in (nI k) 14 = some k from oz_in_nI (by omega) (by decide), e1, e2]
        simp only [Option.bind_some]
        rw [(ht.2 k hk).1]
        have hz0 : ∀ i : Int32, i + 0 = i := fun i => Int32.add_zero i
        cases h1 : tb (le (ztb R) a k) with
        | false =>
          rw [bi_f, if_pos rfl]
          have p1 : P k = true := by show (!(tb (le (ztb R) a k) && ztb R k x) || t k) = true; rw [h1]; rfl
          have p2 : v k = 0 := by show (if (tb (le (ztb R) a k) && ztb R k x) = true then M.1 71 k else 0) = 0; rw [h1]; rfl
          rw [p1, p2, hz0, Bool.and_true]
          exact ow_some ⟨nI_1 k, rfl, rfl⟩
        | true =>
          rw [if_neg bi_ne]
          cases h2 : ztb R k x with
          | false =>
            refine ow_ite (fun _ => ?_) (fun h => absurd rfl h)
            have p1 : P k = true := by show (!(tb (le (ztb R) a k) && ztb R k x) || t k) = true; rw [h1, h2]; rfl
            have p2 : v k = 0 := by show (if (tb (le (ztb R) a k) && ztb R k x) = true then M.1 71 k else 0) = 0; rw [h1, h2]; rfl
            rw [p1, p2, hz0, Bool.and_true]
            exact ow_some ⟨nI_1 k, rfl, rfl⟩
          | true =>
            refine ow_ite (fun h => absurd h (by decide)) (fun _ => ?_)
            have p1 : P k = t k := by show (!(tb (le (ztb R) a k) && ztb R k x) || t k) = t k; rw [h1, h2]; rfl
            have p2 : v k = M.1 71 k := by show (if (tb (le (ztb R) a k) && ztb R k x) = true then M.1 71 k else 0) = _; rw [h1, h2]; rfl
            rw [p1, p2]
            refine ow_bind (P := fun z => z = bi (((!t x && ztb R a x) && al P k) && t k)) ?_ (fun z hz => ow_some ⟨nI_1 k, hz, rfl⟩)
            cases ((!t x && ztb R a x) && al P k) with
            | false => exact ow_some rfl
            | true => cases t k <;> exact ow_some rfl
      · obtain ⟨q1, q2, q3⟩ := hJ
        rw [q1, if_neg (nI_nlt (Nat.le_refl _) (by omega))]
        exact ow_some ⟨q2, q3⟩
    · rw [hy.1, hy.2]
      cases hm : ((!t x && ztb R a x) && al P n) with
      | false =>
        rw [bi_f, if_pos rfl]
        refine ow_some ⟨fr.refl, t, ht, fun _ q => q, fun q => ?_⟩
        cases htx : t x with
        | true => rfl
        | false =>
          have : al P n = true := (al_iff n).mpr (fun c hc => by
            show (!(tb (le (ztb R) a c) && ztb R c x) || t c) = true
            cases h1 : tb (le (ztb R) a c) with
            | false => rfl
            | true =>
              cases h2 : ztb R c x with
              | false => rfl
              | true => rw [q.2 c hc (tb_iff.mp h1) h2]; rfl)
          rw [htx, q.1, this] at hm
          cases hm
      | true =>
        rw [if_neg bi_ne]
        simp only [Bool.and_eq_true, Bool.not_eq_true'] at hm
        obtain ⟨⟨m1, m2⟩, m3⟩ := hm
        have hsum : -smI v n = μ x := by
          have hne : ¬ x = a := fun q => by rw [q, ho.1] at m2; cases m2
          have := hμ x hx
          unfold isMu at this
          rw [this, if_neg hne, if_pos m2]
          congr 1
          refine smI_cong n (fun c hc => ?_)
          show (if (tb (le (ztb R) a c) && ztb R c x) = true then M.1 71 c else 0) = _
          cases h2 : ztb R c x with
          | false => simp
          | true =>
            cases h1 : tb (le (ztb R) a c) with
            | false => rw [mu_0 (hμ c hc) (tb_no.mp h1)]; rfl
            | true =>
              have := (al_iff n).mp m3 c hc
              have this : (!(tb (le (ztb R) a c) && ztb R c x) || t c) = true := this
              rw [h1, h2] at this
              have htc : t c = true := by simpa using this
              rw [((ht.2 c hc).2 htc).2]; rfl
        refine ow_some ⟨(fr.refl.s (by decide)).s (by decide), fun y => t y || decide (y = x), ⟨by simp only [ht.1]; rfl, fun y hy => ⟨?_, fun hty => ?_⟩⟩, fun y q => by simp only [q]; rfl, fun _ => by simp⟩
        · show (oz_s (oz_s M 71 x (-smI v n)) 72 x (vp_nar .boolean 1)).1 72 y = _
          rw [rd_s]
          by_cases e : y = x
          · rw [if_pos ⟨rfl, e⟩]; simp [e]; exact nar_b true
          · rw [if_neg (by simp [e]), rd_s, if_neg (by simp), (ht.2 y hy).1]; simp [e]
        · show le (ztb R) a y ∧ (oz_s (oz_s M 71 x (-smI v n)) 72 x (vp_nar .boolean 1)).1 71 y = _
          rw [rd_s, if_neg (by simp), rd_s]
          by_cases e : y = x
          · rw [if_pos ⟨rfl, e⟩, hsum, e]; exact ⟨Or.inr m2, rfl⟩
          · rw [if_neg (by simp [e])]
            simp only [e, decide_false, Bool.or_false] at hty
            exact (ht.2 y hy).2 hty
theorem s_Model_sign {M : oz_M} {n : Nat} {R : Nat → Nat → Bool} (h : zH M n R) {a b : Nat} (ha : a < n) (hb : b < n) {μ : Nat → Int32} (hμ : ∀ x, x < n → isMu (ztb R) n a μ x) : ow (f_Model_sign (nI a) (nI b) M) (fun r => r.1 = μ b ∧ r.2.1 62 0 = 0 ∧ r.2.2 74 0 = M.2 74 0 ∧ zH r.2 n R) := by
  have hn := h.n
  have ho := h.ord
  unfold f_Model_sign
  rw [if_neg h.rst, s_isEl h.at62 hn ha, s_isEl h.at62 hn hb]
  simp only [Option.bind_some]
  rw [if_neg (by decide), if_neg (by decide)]
  simp only [Option.bind_some]
  rw [if_neg (um_0 _)]
  have hH := h.fz 0
  generalize hN : oz_s M 62 0 0 = N at hH
  have e0 : N.1 62 0 = 0 := by rw [← hN]; exact um_at _ _
  have e74 : N.2 74 0 = M.2 74 0 := by rw [← hN]; rfl
  rw [s_atMost hH.L (by omega) (by omega)]
  refine ow_let ?_
  cases hle : tb (le (ztb R) a b) with
  | false =>
    rw [bi_f, if_pos rfl]
    exact ow_some ⟨(mu_0 (hμ b hb) (tb_no.mp hle)).symm, e0, e74, hH⟩
  | true =>
    rw [if_neg bi_ne]
    have hle := tb_iff.mp hle
    refine ow_bind (P := fun y => fr [71, 72] N y.2 ∧ zTl y.2 (ztb R) n a μ (fun x => decide (x = a))) ?_ (fun y hy => ?_)
    · refine ow_for n (fun k s => s.1 = nI k ∧ fr [71, 72] N s.2 ∧ ∀ x, x < k → s.2.1 72 x = bi (decide (x = a)) ∧ s.2.1 71 x = bi (decide (x = a))) (fun k s hk hJ => ?_) (fun s hJ => ?_) 0 _ (Nat.zero_le _) ⟨rfl, fr.refl, fun x h => by omega⟩
      · obtain ⟨q1, q2, q3⟩ := hJ
        rw [q1, q2.at (by decide), hH.at62, if_pos (nI_lt hk (by omega)), show oz_in (nI k) 14 = some k from oz_in_nI (by omega) (by decide)]
        refine ow_bind (P := fun z => z = bi (decide (k = a))) ?_ (fun z hz => ?_)
        · by_cases e : k = a
          · rw [if_pos (by rw [e])]; exact ow_some (by simp [e]; rfl)
          · rw [if_neg (fun q => e ((nI_eq (by omega) (by omega)).mp q))]; exact ow_some (by simp [e]; rfl)
        · simp only [Option.bind_some]
          rw [hz, nar_b]
          have fin : ∀ v, v = bi (decide (k = a)) → ∀ x, x < k + 1 → (oz_s (oz_s s.2 72 k (bi (decide (k = a)))) 71 k v).1 72 x = bi (decide (x = a)) ∧ (oz_s (oz_s s.2 72 k (bi (decide (k = a)))) 71 k v).1 71 x = bi (decide (x = a)) := fun v hv x hx => by
            rw [rd_s, if_neg (by simp), rd_s, rd_s]
            by_cases e : x = k
            · subst e; simp [hv]
            · have := q3 x (by omega)
              rw [if_neg (by simp [e]), if_neg (by simp [e]), rd_s, if_neg (by simp)]
              exact this
          refine ow_ite (fun e => ?_) (fun e => ?_)
          · have e' : k = a := (nI_eq (by omega) (by omega)).mp e
            exact ow_some ⟨nI_1 k, (q2.s (by decide)).s (by decide), fin 1 (by simp [e']; rfl)⟩
          · have e' : ¬ k = a := fun q => e (by rw [q])
            exact ow_some ⟨nI_1 k, (q2.s (by decide)).s (by decide), fin 0 (by simp [e']; rfl)⟩
      · obtain ⟨q1, q2, q3⟩ := hJ
        rw [q1, q2.at (by decide), hH.at62, if_neg (nI_nlt (Nat.le_refl _) (by omega))]
        refine ow_some ⟨q2, by simp, fun x hx => ⟨(q3 x hx).1, fun hxa => ?_⟩⟩
        have e : x = a := of_decide_eq_true hxa
        have := hμ x hx
        unfold isMu at this
        rw [if_pos e] at this
        exact ⟨Or.inl e.symm, by rw [(q3 x hx).2, this]; simp [e]; rfl⟩
    · obtain ⟨y1, y2⟩ := hy
      rw [show oz_in (nI b) 14 = some b from oz_in_nI (by omega) (by decide)]
      simp only [Option.bind_some]
      refine ow_bind (P := fun N2 => fr [71, 72] N N2 ∧ ∃ t, zTl N2 (ztb R) n a μ t ∧ t b = true) ?_ (fun N2 h2 => ?_)
      · refine ow_while (fun (K : oz_M) => cnt (fun x => decide (K.1 72 x = 0)) n) (fun K => fr [71, 72] N K ∧ ∃ t, zTl K (ztb R) n a μ t) (fun K hK => ?_) y.2 ⟨y1, _, y2⟩
        obtain ⟨k1, t, k2⟩ := hK
        have k62 : K.1 62 1 = nI n := by rw [k1.at (by decide)]; exact hH.at62
        have kL : zLt K n R := hH.L.fr k1 (by decide)
        rw [(k2.2 b hb).1]
        cases htb : t b with
        | true =>
          rw [if_neg bi_ne]
          exact ow_some ⟨k1, t, k2, htb⟩
        | false =>
          rw [bi_f, if_pos rfl]
          -- a lowest one that is not told
          have hab : ztb R a b = true := hle.elim (fun e => by rw [← e, k2.1] at htb; cases htb) id
          obtain ⟨x0, ⟨u1, u2⟩, _, u3⟩ := ord_max (ord_op ho) (fun x => ztb R a x = true ∧ t x = false) _ b (Nat.le_refl _) ⟨hab, htb⟩
          have hx0 : x0 < n := (ho.2.2 a x0 u1).2
          have hlow : ∀ c, c < n → le (ztb R) a c → ztb R c x0 = true → t c = true := fun c hc hac hcx => by
            cases htc : t c with
            | true => rfl
            | false =>
              rcases hac with e | e
              · rw [← e, k2.1] at htc; cases htc
              · have := u3 c ⟨e, htc⟩
                have this : ztb R c x0 = false := this
                rw [hcx] at this; cases this
          refine ow_bind (P := fun z => fr [71, 72] N z.2 ∧ ∃ t', zTl z.2 (ztb R) n a μ t' ∧ (∀ y, t y = true → t' y = true) ∧ t' x0 = true) ?_ (fun z hz => ?_)
          · rw [show (K.1 62 1) = nI n from k62] at *
            refine ow_for n (fun k s => s.1 = nI k ∧ fr [71, 72] N s.2 ∧ ∃ t', zTl s.2 (ztb R) n a μ t' ∧ (∀ y, t y = true → t' y = true) ∧ (x0 < k → t' x0 = true)) (fun k s hk hJ => ?_) (fun s hJ => ?_) 0 _ (Nat.zero_le _) ⟨rfl, k1, t, k2, fun _ q => q, fun q => by omega⟩
            · obtain ⟨q1, q2, t', q3, q4, q5⟩ := hJ
              have s62 : s.2.1 62 1 = nI n := by rw [q2.at (by decide)]; exact hH.at62
              rw [q1, s62, if_pos (nI_lt hk (by omega))]
              refine ow_b2 (s_tell hn ho s62 (hH.L.fr q2 (by decide)) ha hk hμ q3) (fun _ P hP => ?_)
              obtain ⟨p1, t2, p2, p3, p4⟩ := hP
              refine ow_some ⟨nI_1 k, q2.trans p1, t2, p2, fun y q => p3 y (q4 y q), fun q => ?_⟩
              by_cases e : x0 = k
              · subst e
                exact p4 ⟨u1, fun c hc hac hcx => q4 c (hlow c hc hac hcx)⟩
              · exact p3 x0 (q5 (by omega))
            · obtain ⟨q1, q2, t', q3, q4, q5⟩ := hJ
              have s62 : s.2.1 62 1 = nI n := by rw [q2.at (by decide)]; exact hH.at62
              rw [q1, s62, if_neg (nI_nlt (Nat.le_refl _) (by omega))]
              exact ow_some ⟨q2, t', q3, q4, q5 hx0⟩
          · obtain ⟨z1, t', z2, z3, z4⟩ := hz
            refine ow_some ⟨⟨z1, t', z2⟩, ?_⟩
            have bz : ∀ c : Bool, (bi c = 0) ↔ c = false := fun c => by cases c <;> decide
            have hA : ∀ j, (decide (j < n) && decide (z.2.1 72 j = 0)) = true → (decide (j < n) && decide (K.1 72 j = 0)) = true := fun j hj => by
              simp only [Bool.and_eq_true, decide_eq_true_eq] at hj ⊢
              refine ⟨hj.1, ?_⟩
              rw [(k2.2 j hj.1).1, bz]
              have hj2 := hj.2
              rw [(z2.2 j hj.1).1, bz] at hj2
              cases hq : t j with
              | false => rfl
              | true => rw [z3 j hq] at hj2; cases hj2
            have hB : (decide (x0 < n) && decide (z.2.1 72 x0 = 0)) = false := by
              simp only [hx0, decide_true, Bool.true_and, decide_eq_false_iff_not]
              rw [(z2.2 x0 hx0).1, z4]; decide
            have hC : (decide (x0 < n) && decide (K.1 72 x0 = 0)) = true := by
              simp only [hx0, decide_true, Bool.true_and, decide_eq_true_eq]
              rw [(k2.2 x0 hx0).1, u2]; rfl
            have q := cnt_lt (p := fun j => decide (j < n) && decide (z.2.1 72 j = 0)) (q := fun j => decide (j < n) && decide (K.1 72 j = 0)) hA hB hC n hx0
            have c1 : ∀ (K : oz_M), cnt (fun x => decide (x < n) && decide (K.1 72 x = 0)) n = cnt (fun x => decide (K.1 72 x = 0)) n := fun K => cnt_eq (fun q hq => by simp [hq])
            rw [c1, c1] at q
            exact q
      · obtain ⟨f, t, g1, g2⟩ := h2
        refine ow_some ⟨((g1.2 b hb).2 g2).2, ?_, ?_, hH.zj (f.zj (by decide))⟩
        · show N2.1 62 0 = 0
          rw [f.at (by decide)]; exact e0
        · show N2.2 74 0 = _
          rw [f.atl (by decide)]; exact e74
theorem us_20 {M : oz_M} {n : Nat} {R : Nat → Nat → Bool} (h : zH M n R) {p1 p2 p3 : Int32} : ow (f_L20 p1 p2 p3 M) (fun N => zH N n R) := by
  have hn := h.n
  unfold f_L20
  rcases el_cases p1 hn with ⟨a, ha, rfl⟩ | hx
  · rcases el_cases p2 hn with ⟨b, hb, rfl⟩ | hy
    · obtain ⟨r, hr, f, μ, hμ, hv⟩ := s_signOf h ha hb
      refine law_ok (v := μ b) (P := fun N => zH N n R) (lawA ?_) (fun N hN _ => s_Model_sign hN ha hb hμ)
      unfold f_Hall_sign
      simp only [s_wants h.st, b2_some, el_inr, h.at6, s_want ha hn, s_want hb hn]
      rw [hr]
      exact ow_some ⟨by rw [← hv], h.zj (f.zj (by decide))⟩
    · refine law_thr (k := 2) (by decide) (P := fun N => N = M) ?_ (fun N hN => ?_)
      · unfold f_Law_sign f_Hall_sign
        simp only [s_wants h.st, b2_some, el_inr, el_inl, h.at6, s_want ha hn, s_want_no hy]
        exact ow_some ⟨rfl, rfl⟩
      · subst hN
        unfold f_Model_sign
        rw [if_neg h.rst, s_isEl h.at62 hn ha, s_isEl_no h.at62 hy]
        simp only [Option.bind_some, if_true]
        rw [if_neg (by decide)]
        simp only [Option.bind_some]
        rw [if_pos (um_posk _ (by decide))]
        exact ow_some ⟨um_at _ _, h.fz 2⟩
  · refine law_thr (k := 2) (by decide) (P := fun N => N = M) ?_ (fun N hN => ?_)
    · unfold f_Law_sign f_Hall_sign
      simp only [s_wants h.st, b2_some, el_inr, el_inl, h.at6, s_want_no hx]
      exact ow_some ⟨rfl, rfl⟩
    · subst hN
      unfold f_Model_sign
      rw [if_neg h.rst, s_isEl_no h.at62 hx]
      simp only [Option.bind_some, if_true]
      rw [if_pos (um_posk _ (by decide))]
      exact ow_some ⟨um_at _ _, h.fz 2⟩
