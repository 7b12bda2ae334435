/-! The law's case bound. -/
def le (lt : Nat → Nat → Bool) (a b : Nat) : Prop := a = b ∨ lt a b = true
def isB (lt : Nat → Nat → Bool) (a b x : Nat) : Prop := le lt x a ∧ le lt x b
def isM (lt : Nat → Nat → Bool) (n a b x : Nat) : Prop := isB lt a b x ∧ ∀ y, y < n → isB lt a b y → le lt y x
theorem isM_uni {lt : Nat → Nat → Bool} {n a b x y : Nat} (ho : ord n lt) (hx : x < n) (hy : y < n) (h1 : isM lt n a b x) (h2 : isM lt n a b y) : x = y := by
  rcases h1.2 y hy h2.1 with e | e
  · exact e.symm
  · rcases h2.2 x hx h1.1 with e' | e'
    · exact e'
    · have := ho.2.1 x y x e' e
      rw [ho.1] at this; cases this
def fnd (P : Nat → Bool) : Nat → Option Nat
  | 0 => none
  | k + 1 => if P k then some k else fnd P k
theorem fnd_some {P : Nat → Bool} {x : Nat} : ∀ {k}, fnd P k = some x → x < k ∧ P x = true
  | 0, h => by cases h
  | k + 1, h => by
    simp only [fnd] at h
    cases hp : P k with
    | true =>
      rw [hp] at h
      have : k = x := by simpa using h
      subst this
      exact ⟨by omega, hp⟩
    | false =>
      rw [hp] at h
      have := fnd_some (k := k) (by simpa using h)
      exact ⟨by omega, this.2⟩
theorem fnd_none {P : Nat → Bool} : ∀ {k}, (∀ x, x < k → P x = false) → fnd P k = none
  | 0, _ => rfl
  | k + 1, h => by
    simp only [fnd]
    rw [h k (by omega)]
    exact fnd_none (fun x hx => h x (by omega))
theorem fnd_uni {P : Nat → Bool} {k x : Nat} (hx : x < k) (hp : P x = true) (hu : ∀ y, y < k → P y = true → y = x) : fnd P k = some x := by
  cases h : fnd P k with
  | some y =>
    obtain ⟨h1, h2⟩ := fnd_some h
    rw [hu y h1 h2]
  | none =>
    exfalso
    have : ∀ k, x < k → fnd P k ≠ none := by
      intro k
      induction k with
      | zero => intro h; omega
      | succ k ih =>
        intro hk h
        simp only [fnd] at h
        cases hq : P k with
        | true => rw [hq] at h; simp at h
        | false =>
          rw [hq] at h
          by_cases e : x = k
          · rw [e, hq] at hp; cases hp
          · exact ih (by omega) (by simpa using h)
    exact this k hx h
def oI : Option Nat → Int32
  | none => -1
  | some x => nI x
noncomputable def bd (lt : Nat → Nat → Bool) (n a b : Nat) : Option Nat := fnd (fun x => tb (isM lt n a b x)) n
theorem s_atMost {M : oz_M} {n : Nat} {R : Nat → Nat → Bool} (h : zLt M n R) {a b : Nat} (ha : a < 14) (hb : b < 14) : f_Model_isAtMost (nI a) (nI b) M = some (bi (tb (le (ztb R) a b))) := by
  unfold f_Model_isAtMost
  by_cases e : a = b
  · subst e
    rw [if_pos rfl, tb_iff.mpr (show le (ztb R) a a from Or.inl rfl)]; rfl
  · rw [if_neg (fun q => e ((nI_eq (by omega) (by omega)).mp q)), s_less h ha hb]
    cases hl : ztb R a b with
    | false => rw [tb_no.mpr (show ¬ le (ztb R) a b from fun q => q.elim e (fun q => by rw [hl] at q; cases q))]; rfl
    | true => rw [tb_iff.mpr (show le (ztb R) a b from Or.inr hl)]; rfl
theorem s_isBound {M : oz_M} {n : Nat} {R : Nat → Nat → Bool} (h : zLt M n R) (d : Bool) {x a b : Nat} (hx : x < 14) (ha : a < 14) (hb : b < 14) : f_Model_isBound (bi d) (nI x) (nI a) (nI b) M = some (bi (tb (isB (lop d (ztb R)) a b x))) := by
  unfold f_Model_isBound
  have hle : ∀ u v, le (op (ztb R)) u v ↔ le (ztb R) v u := fun u v => ⟨fun q => q.imp Eq.symm id, fun q => q.imp Eq.symm id⟩
  cases d with
  | false =>
    rw [if_pos (show bi false = 0 from rfl), s_atMost h hx ha, s_atMost h hx hb]
    refine ow_eq (ow_let ?_)
    show ow _ (fun v => v = bi (tb (le (ztb R) x a ∧ le (ztb R) x b)))
    cases h1 : tb (le (ztb R) x a) with
    | false => rw [tb_no.mpr (show ¬ (le (ztb R) x a ∧ le (ztb R) x b) from fun q => tb_no.mp h1 q.1)]; exact ow_some rfl
    | true =>
      rw [if_neg bi_ne]
      refine ow_let ?_
      cases h2 : tb (le (ztb R) x b) with
      | false => rw [tb_no.mpr (show ¬ (le (ztb R) x a ∧ le (ztb R) x b) from fun q => tb_no.mp h2 q.2)]; exact ow_some rfl
      | true => rw [tb_iff.mpr ⟨tb_iff.mp h1, tb_iff.mp h2⟩]; exact ow_some rfl
  | true =>
    rw [if_neg bi_ne, s_atMost h ha hx, s_atMost h hb hx]
    refine ow_eq (ow_let ?_)
    show ow _ (fun v => v = bi (tb (le (op (ztb R)) x a ∧ le (op (ztb R)) x b)))
    rw [hle, hle]
    cases h1 : tb (le (ztb R) a x) with
    | false => rw [tb_no.mpr (show ¬ (le (ztb R) a x ∧ le (ztb R) b x) from fun q => tb_no.mp h1 q.1)]; exact ow_some rfl
    | true =>
      rw [if_neg bi_ne]
      refine ow_let ?_
      cases h2 : tb (le (ztb R) b x) with
      | false => rw [tb_no.mpr (show ¬ (le (ztb R) a x ∧ le (ztb R) b x) from fun q => tb_no.mp h2 q.2)]; exact ow_some rfl
      | true => rw [tb_iff.mpr ⟨tb_iff.mp h1, tb_iff.mp h2⟩]; exact ow_some rfl
theorem s_boundOf {M : oz_M} {n : Nat} {R : Nat → Nat → Bool} (hn : n ≤ 14) (h62 : M.1 62 1 = nI n) (h : zLt M n R) (d : Bool) {a b : Nat} (ha : a < n) (hb : b < n) : f_Model_boundOf (bi d) (nI a) (nI b) M = some (oI (bd (lop d (ztb R)) n a b)) := by
  unfold f_Model_boundOf
  refine ow_eq (ow_bind (P := fun y => y.1 = oI (bd (lop d (ztb R)) n a b)) ?_ (fun y hy => ow_some hy))
  rw [h62]
  refine ow_for n (fun k s => s.2 = nI k ∧ s.1 = oI (fnd (fun x => tb (isM (lop d (ztb R)) n a b x)) k)) (fun k s hk hJ => ?_) (fun s hJ => ?_) 0 _ (Nat.zero_le _) ⟨rfl, rfl⟩
  · obtain ⟨q1, q2⟩ := hJ
    rw [q1, q2, if_pos (nI_lt hk (by omega)), s_isBound h d (by omega) (by omega) (by omega)]
    refine ow_let ?_
    let Q : Nat → Bool := fun y => tb (isB (lop d (ztb R)) a b y → le (lop d (ztb R)) y k)
    have e : (tb (isB (lop d (ztb R)) a b k) && al Q n) = tb (isM (lop d (ztb R)) n a b k) := tb_eq (by
      rw [Bool.and_eq_true, tb_iff, al_iff]
      exact and_congr Iff.rfl ⟨fun q y hy => tb_iff.mp (q y hy), fun q y hy => tb_iff.mpr (q y hy)⟩)
    refine ow_bind (P := fun y => y.1 = bi (tb (isM (lop d (ztb R)) n a b k))) ?_ (fun y hy => ?_)
    · refine ow_for n (fun l t => t.2 = nI l ∧ t.1 = bi (tb (isB (lop d (ztb R)) a b k) && al Q l)) (fun l t hl hJ => ?_) (fun t hJ => ?_) 0 _ (Nat.zero_le _) ⟨rfl, by simp [al]⟩
      · obtain ⟨g1, g2⟩ := hJ
        rw [g1, g2, if_pos (nI_lt hl (by omega)), s_isBound h d (by omega) (by omega) (by omega), s_less h (by omega) (by omega), s_less h (by omega) (by omega)]
        have e1 : (tb (isB (lop d (ztb R)) a b k) && al Q (l + 1)) = ((tb (isB (lop d (ztb R)) a b k) && al Q l) && Q l) := by
          show (_ && (al Q l && Q l)) = _
          rw [Bool.and_assoc]
        rw [e1]
        cases (tb (isB (lop d (ztb R)) a b k) && al Q l) with
        | false => exact ow_ite (fun _ => ow_some ⟨nI_1 l, rfl⟩) (fun h => absurd rfl h)
        | true =>
          refine ow_ite (fun h => absurd h (by decide)) (fun _ => ?_)
          refine ow_ite (fun he => ow_some ⟨nI_1 l, ?_⟩) (fun he => ow_let ?_)
          · have : l = k := (nI_eq (by omega) (by omega)).mp he
            rw [show Q l = true from tb_iff.mpr (fun _ => Or.inl this)]; rfl
          · have hne : ¬ l = k := fun q => he (by rw [q])
            cases hB : tb (isB (lop d (ztb R)) a b l) with
            | false =>
              rw [bi_f, if_pos rfl]
              exact ow_some ⟨nI_1 l, by rw [show Q l = true from tb_iff.mpr (fun q => absurd q (tb_no.mp hB))]; rfl⟩
            | true =>
              rw [if_neg bi_ne]
              have hB' := tb_iff.mp hB
              have hQ : ∀ c, lop d (ztb R) l k = c → Q l = c := fun c hc => by
                cases c with
                | true => exact tb_iff.mpr (fun _ => Or.inr hc)
                | false => exact tb_no.mpr (fun q => (q hB').elim hne (fun r => by rw [hc] at r; cases r))
              cases d with
              | false =>
                rw [if_pos (show bi false = 0 from rfl)]
                have := hQ (ztb R l k) rfl
                rw [this]
                refine ow_let ?_
                cases ztb R l k with
                | false => exact ow_ite (fun _ => ow_some ⟨nI_1 l, rfl⟩) (fun h => absurd rfl h)
                | true => exact ow_ite (fun h => absurd h (by decide)) (fun _ => ow_some ⟨nI_1 l, rfl⟩)
              | true =>
                rw [if_neg bi_ne]
                have := hQ (ztb R k l) rfl
                rw [this]
                refine ow_let ?_
                cases ztb R k l with
                | false => exact ow_ite (fun _ => ow_some ⟨nI_1 l, rfl⟩) (fun h => absurd rfl h)
                | true => exact ow_ite (fun h => absurd h (by decide)) (fun _ => ow_some ⟨nI_1 l, rfl⟩)
      · obtain ⟨g1, g2⟩ := hJ
        rw [g1, if_neg (nI_nlt (Nat.le_refl _) (by omega))]
        exact ow_some (by rw [← e]; exact g2)
    · rw [hy]
      cases hm : tb (isM (lop d (ztb R)) n a b k) with
      | false => rw [bi_f, if_pos rfl]; exact ow_some ⟨nI_1 k, by simp only [fnd, hm]; rfl⟩
      | true => rw [if_neg bi_ne]; exact ow_some ⟨nI_1 k, by simp only [fnd, hm]; rfl⟩
  · obtain ⟨q1, q2⟩ := hJ
    rw [q1, if_neg (nI_nlt (Nat.le_refl _) (by omega))]
    exact ow_some q2
theorem s_beyond {M : oz_M} {n i a b : Nat} {lt : Nat → Nat → Bool} (hn : n ≤ 14) (ho : ord n lt) (h6 : M.1 6 0 = nI n) (hi : ∀ x, x < n → M.1 i x = nI (blw lt n x)) (ha : a < n) (hb : b < n) : ((f_Bounds_common i (nI a) (nI b) M).bind fun v1 => (f_Bounds_beyondAll v1 i M).bind fun v2 => some v2) = some (oI (bd lt n a b)) := by
  unfold f_Bounds_common
  rw [show oz_in (nI a) 14 = some a from oz_in_nI (by omega) (by decide), show oz_in (nI b) 14 = some b from oz_in_nI (by omega) (by decide)]
  simp only [Option.bind_some]
  rw [hi a ha, hi b hb, nI_ins (by omega), nI_ins (by omega), nI_and]
  generalize hC : (ins (blw lt n a) a &&& ins (blw lt n b) b) = C
  have hbit : ∀ x, C.testBit x = true ↔ isB lt a b x := fun x => by
    rw [← hC, Nat.testBit_and, ins_bit, ins_bit, blw_bit ho, blw_bit ho]
    unfold isB le
    simp only [Bool.and_eq_true, Bool.or_eq_true, decide_eq_true_eq]
    exact and_congr ⟨Or.symm, Or.symm⟩ ⟨Or.symm, Or.symm⟩
  have hCn : C < 2 ^ n := by
    rw [← hC]
    exact Nat.lt_of_le_of_lt Nat.and_le_left (ins_lt blw_lt ha)
  have htest : ∀ x, x < n → ((nI C &&& ((nI (blw lt n x) ||| (1 <<< (nI x &&& 31))) ^^^ (-1))) = 0 ↔ ∀ y, y < n → isB lt a b y → le lt y x) := fun x hx => by
    rw [nI_ins (by omega), zb_none]
    constructor
    · intro h y hy hB
      have := h y (by omega)
      rw [zb_nI _ (by omega), zb_xor, zb_nI _ (by omega), zb_m1 y (by omega), ins_bit, blw_bit ho] at this
      refine Classical.byContradiction (fun hno => this ⟨(hbit y).mpr hB, ?_⟩)
      have n1 : ¬ y = x := fun q => hno (Or.inl q)
      have n2 : lt y x = false := by
        cases hl : lt y x with
        | false => rfl
        | true => exact absurd (Or.inr hl) hno
      simp [n1, n2]
    · intro h c hc
      rw [zb_nI _ hc, zb_xor, zb_nI _ hc, zb_m1 c hc, ins_bit, blw_bit ho]
      rintro ⟨k1, k2⟩
      rcases h c (bit_in hCn k1) ((hbit c).mp k1) with e | e
      · simp [e] at k2
      · simp [e] at k2
  refine ow_eq ?_
  refine ow_bind (P := fun v => v = oI (bd lt n a b)) ?_ (fun v hv => ow_some hv)
  unfold f_Bounds_beyondAll
  rw [h6]
  refine ow_bind (P := fun y => oz_el (fun _ => bd lt n a b = none) (fun v => v = oI (bd lt n a b)) y) ?_ (fun y hy => ?_)
  · refine ow_for n (fun k s => s = nI k ∧ ∀ x, x < k → ¬ isM lt n a b x) (fun k s hk hJ => ?_) (fun s hJ => ?_) 0 _ (Nat.zero_le _) ⟨rfl, fun x hx => by omega⟩
    · obtain ⟨q1, q2⟩ := hJ
      rw [q1, if_pos (nI_lt hk (by omega)), s_chas C (by omega), show oz_in (nI k) 14 = some k from oz_in_nI (by omega) (by decide)]
      simp only [Option.bind_some]
      rw [hi k hk]
      have hstep : ¬ isM lt n a b k → ∀ x, x < k + 1 → ¬ isM lt n a b x := fun hno x hx => by
        by_cases e : x = k
        · rw [e]; exact hno
        · exact q2 x (by omega)
      cases hb2 : C.testBit k with
      | false =>
        rw [bi_f, if_pos rfl]
        exact ow_some ⟨nI_1 k, hstep (fun q => by rw [(hbit k).mpr q.1] at hb2; cases hb2)⟩
      | true =>
        rw [if_neg bi_ne]
        refine ow_ite (fun e => ow_some ?_) (fun e => ow_some ⟨nI_1 k, hstep (fun q => e ((htest k hk).mpr q.2))⟩)
        have hm : isM lt n a b k := ⟨(hbit k).mp hb2, (htest k hk).mp e⟩
        show nI k = oI (bd lt n a b)
        unfold bd
        rw [fnd_uni hk (tb_iff.mpr hm) (fun y hy h => isM_uni ho hy hk (tb_iff.mp h) hm)]
        rfl
    · obtain ⟨q1, q2⟩ := hJ
      rw [q1, if_neg (nI_nlt (Nat.le_refl _) (by omega))]
      exact ow_some (fnd_none (fun x hx => tb_no.mpr (q2 x hx)))
  · cases y with
    | inl y =>
      rw [el_inl] at hy ⊢
      exact ow_some (by rw [hy]; rfl)
    | inr v =>
      rw [el_inr] at hy ⊢
      exact ow_some hy
theorem s_lower {M : oz_M} {n : Nat} {lt : Nat → Nat → Bool} (hn : n ≤ 14) (ho : ord n lt) (h6 : M.1 6 0 = nI n) (h7 : ∀ x, x < n → M.1 7 x = nI (blw lt n x)) (h8 : ∀ x, x < n → M.1 8 x = nI (blw (op lt) n x)) {a b : Nat} (ha : a < n) (hb : b < n) : f_Bounds_lower (nI a) (nI b) M = some (oI (bd lt n a b)) ∧ f_Bounds_upper (nI a) (nI b) M = some (oI (bd (op lt) n a b)) :=
  ⟨s_beyond hn ho h6 h7 ha hb, s_beyond hn (ord_op ho) h6 h8 ha hb⟩
theorem us_18 {M : oz_M} {n : Nat} {R : Nat → Nat → Bool} (h : zH M n R) {p1 p2 p3 : Int32} : ow (f_L18 p1 p2 p3 M) (fun N => zH N n R) := by
  have hn := h.n
  unfold f_L18
  rcases el_cases p2 hn with ⟨a, ha, rfl⟩ | hx
  · rcases el_cases p3 hn with ⟨b, hb, rfl⟩ | hy
    · rcases upto_cases p1 (m := 1) (by decide) with ⟨w, hw, rfl⟩ | hz
      · have hwb : nI w = bi (decide (w = 1)) := by
          have : w = 0 ∨ w = 1 := by omega
          rcases this with rfl | rfl <;> rfl
        refine law_ok (v := oI (bd (lop (decide (w = 1)) (ztb R)) n a b)) (P := fun N => zH N n R) (lawA ?_) (fun N hN _ => ?_)
        · unfold f_Hall_bound
          simp only [s_wants h.st, b2_some, el_inr, h.at6, s_want ha hn, s_want hb hn, s_up (c := 1) (m := 1) rfl hw (by decide)]
          obtain ⟨l1, l2⟩ := s_lower hn h.ord h.at6 (fun x hx => (h.rows hx).1) (fun x hx => (h.rows hx).2.1) ha hb
          rw [l1, l2]
          have : w = 0 ∨ w = 1 := by omega
          rcases this with rfl | rfl
          · rw [if_pos (by decide)]; exact ow_let (ow_some ⟨rfl, h⟩)
          · rw [if_neg (by decide)]; exact ow_let (ow_some ⟨rfl, h⟩)
        · unfold f_Model_bound
          rw [if_neg hN.rst, s_isEl hN.at62 hn ha, s_isEl hN.at62 hn hb]
          simp only [Option.bind_some]
          rw [if_neg (by decide), if_neg (by decide), ok_up (c := 1) (m := 1) rfl hw (by decide)]
          simp only [Option.bind_some]
          have hF := hN.fz 0
          rw [if_neg (um_0 _), hwb, s_boundOf hn hF.at62 hF.L _ ha hb]
          exact ow_let (ow_some ⟨rfl, um_at _ _, rfl, hF⟩)
      · refine law_thr (k := 3) (by decide) (P := fun N => N = M) ?_ (fun N hN => ?_)
        · unfold f_Law_bound f_Hall_bound
          simp only [s_wants h.st, b2_some, el_inr, el_inl, h.at6, s_want ha hn, s_want hb hn, s_up_no (c := 1) hz]
          exact ow_some ⟨rfl, rfl⟩
        · subst hN
          unfold f_Model_bound
          rw [if_neg h.rst, s_isEl h.at62 hn ha, s_isEl h.at62 hn hb]
          simp only [Option.bind_some]
          rw [if_neg (by decide), if_neg (by decide), ref_up (c := 1) hz]
          simp only [Option.bind_some]
          rw [if_pos (um_posk _ (by decide))]
          exact ow_some ⟨um_at _ _, h.fz 3⟩
    · refine law_thr (k := 2) (by decide) (P := fun N => N = M) ?_ (fun N hN => ?_)
      · unfold f_Law_bound f_Hall_bound
        simp only [s_wants h.st, b2_some, el_inr, el_inl, h.at6, s_want ha hn, s_want_no hy]
        exact ow_some ⟨rfl, rfl⟩
      · subst hN
        unfold f_Model_bound
        rw [if_neg h.rst, s_isEl h.at62 hn ha, s_isEl_no h.at62 hy]
        simp only [Option.bind_some, if_true]
        rw [if_neg (by decide)]
        simp only [Option.bind_some]
        rw [if_pos (um_posk _ (by decide))]
        exact ow_some ⟨um_at _ _, h.fz 2⟩
  · refine law_thr (k := 2) (by decide) (P := fun N => N = M) ?_ (fun N hN => ?_)
    · unfold f_Law_bound f_Hall_bound
      simp only [s_wants h.st, b2_some, el_inr, el_inl, h.at6, s_want_no hx]
      exact ow_some ⟨rfl, rfl⟩
    · subst hN
      unfold f_Model_bound
      rw [if_neg h.rst, s_isEl_no h.at62 hx]
      simp only [Option.bind_some, if_true]
      rw [if_pos (um_posk _ (by decide))]
      exact ow_some ⟨um_at _ _, h.fz 2⟩
