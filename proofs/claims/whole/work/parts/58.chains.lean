/-! How many chains have L elements: by their top. -/
theorem cnt_part (P : Nat → Bool) (Q : Nat → Nat → Bool) (n : Nat) : ∀ N, (∀ s, s < N → (P s = true ↔ ∃ x, x < n ∧ Q x s = true)) → (∀ s x x', s < N → x < n → x' < n → Q x s = true → Q x' s = true → x = x') → cnt P N = sm (fun x => cnt (Q x) N) n
  | 0, _, _ => (sm_zero n).symm
  | N + 1, h1, h2 => by
    have ih := cnt_part P Q n N (fun s hs => h1 s (by omega)) (fun s x x' hs => h2 s x x' (by omega))
    simp only [cnt]
    rw [sm_add, ← ih]
    congr 1
    rw [← cnt_sm (fun x => Q x N) n]
    cases hp : P N with
    | false =>
      rw [cnt_zero (fun x hx => by
        cases hq : Q x N with
        | false => rfl
        | true => rw [(h1 N (by omega)).mpr ⟨x, hx, hq⟩] at hp; cases hp)]
      rfl
    | true =>
      obtain ⟨x, hx, hq⟩ := (h1 N (by omega)).mp hp
      rw [cnt_out (P := fun x => Q x N) (Q := fun _ => false) hx hq (fun q hq' => by
        simp only [Bool.false_eq_true, false_iff, not_and]
        exact fun h => fun hn => hn (h2 N q x (by omega) hq' hx h hq)), cnt_none]
      rfl
def topx (lt : Nat → Nat → Bool) (T x : Nat) : Prop := T.testBit x = true ∧ ∀ y, T.testBit y = true → y ≠ x → lt y x = true
noncomputable def ct (lt : Nat → Nat → Bool) (n L x : Nat) : Nat := cnt (fun s => tb (clq (cmp lt) s ∧ sz s = L ∧ topx lt s x)) (2 ^ n)
theorem ct_le {lt : Nat → Nat → Bool} {n L x : Nat} (hn : n ≤ 14) : ct lt n L x ≤ 16384 :=
  Nat.le_trans (cnt_leN _ _) (show 2 ^ n ≤ 2 ^ 14 from Nat.pow_le_pow_right (by omega) hn)
theorem top_uni {lt : Nat → Nat → Bool} {n T x y : Nat} (ho : ord n lt) (hx : topx lt T x) (hy : topx lt T y) : x = y := by
  refine Classical.byContradiction (fun hne => ?_)
  have h1 := hx.2 y hy.1 (fun e => hne e.symm)
  have h2 := hy.2 x hx.1 hne
  have := ho.2.1 x y x h2 h1
  rw [ho.1] at this; cases this
theorem top_ex {lt : Nat → Nat → Bool} {n T : Nat} (ho : ord n lt) (hn : n ≤ 14) (hT : T < 2 ^ n) (hc : clq (cmp lt) T) (h1 : 1 ≤ sz T) : ∃ x, x < n ∧ topx lt T x := by
  obtain ⟨x, hx, hTx⟩ := sz_pos hT hn h1
  obtain ⟨y, k1, _, k3⟩ := ord_max ho (fun y => T.testBit y = true) _ x (Nat.le_refl _) hTx
  refine ⟨y, bit_in hT k1, k1, fun z hz hne => ?_⟩
  have := hc z y hz k1 hne
  unfold cmp at this
  rw [k3 z hz, Bool.or_false] at this
  exact this
theorem ct_1 {lt : Nat → Nat → Bool} {n x : Nat} (hn : n ≤ 14) (hx : x < n) : ct lt n 1 x = 1 := by
  have h0 : ins 0 x < 2 ^ n := ins_lt (Nat.pow_pos (by omega)) hx
  have hb : ∀ i, (ins 0 x).testBit i = true ↔ i = x := fun i => by
    rw [ins_bit]; simp
  unfold ct
  rw [cnt_out (Q := fun _ => false) h0 (tb_iff.mpr ⟨fun a b ha hb' hne => absurd (((hb a).mp ha).trans ((hb b).mp hb').symm) hne, by rw [sz_ins (by omega) (Nat.zero_testBit x), sz_0], (hb x).mpr rfl, fun y hy hne => absurd ((hb y).mp hy) hne⟩) (fun s hs => ?_), cnt_none]
  simp only [Bool.false_eq_true, false_iff, not_and]
  intro h hne
  obtain ⟨_, h2, h3⟩ := tb_iff.mp h
  refine hne (sub_eq hn hs (fun i hi => ?_) ?_).symm
  · rw [(hb i).mp hi]; exact h3.1
  · rw [h2, sz_ins (by omega) (Nat.zero_testBit x), sz_0]; exact Nat.le_refl _
theorem ct_S {lt : Nat → Nat → Bool} {n L x : Nat} (ho : ord n lt) (hn : n ≤ 14) (hx : x < n) (hL : 1 ≤ L) : ct lt n (L + 1) x = sm (fun y => if lt y x = true then ct lt n L y else 0) n := by
  have p14 : ∀ s, s < 2 ^ n → s < 2 ^ 14 := fun s hs => Nat.lt_of_lt_of_le hs (Nat.pow_le_pow_right (by omega) (by omega))
  have e1 : ct lt n (L + 1) x = cnt (fun s => tb (clq (cmp lt) s ∧ sz s = L ∧ ∃ y, lt y x = true ∧ topx lt s y)) (2 ^ n) := by
    unfold ct
    apply Nat.le_antisymm
    · refine cnt_inj (fun s => del s x) (fun s hs h => ?_) (fun s s' hs hs' h h' e => ?_)
      · obtain ⟨h1, h2, h3⟩ := tb_iff.mp h
        have hl := sub_lt (del_sub (a := s) (x := x)) hs
        have hz := sz_del (p14 s hs) (show x < 14 by omega) h3.1
        have hc := clq_sub h1 (del_sub (x := x))
        obtain ⟨y, hy, ht⟩ := top_ex ho hn hl hc (by omega)
        have hy2 := ht.1
        rw [del_bit (p14 s hs) (by omega)] at hy2
        simp only [Bool.and_eq_true, Bool.not_eq_true', decide_eq_false_iff_not] at hy2
        exact ⟨hl, tb_iff.mpr ⟨hc, by omega, y, h3.2 y hy2.1 hy2.2, ht⟩⟩
      · obtain ⟨_, _, h3⟩ := tb_iff.mp h
        obtain ⟨_, _, h3'⟩ := tb_iff.mp h'
        refine bit_ext' hs hs' (fun i hi => ?_)
        by_cases ei : i = x
        · rw [ei, h3.1, h3'.1]
        · have := congrArg (fun z => Nat.testBit z i) e
          rw [del_bit (p14 s hs) (by omega), del_bit (p14 s' hs') (by omega)] at this
          simp only [ei, decide_false, Bool.not_false, Bool.and_true] at this
          rw [this]
    · have hnx : ∀ s, (∃ y, lt y x = true ∧ topx lt s y) → s.testBit x = false := by
        rintro s ⟨y, h1, h2⟩
        cases hb : s.testBit x with
        | false => rfl
        | true =>
          exfalso
          have hne : x ≠ y := fun e => by rw [e, ho.1] at h1; cases h1
          have := ho.2.1 x y x (h2.2 x hb hne) h1
          rw [ho.1] at this; cases this
      refine cnt_inj (fun s => ins s x) (fun s hs h => ?_) (fun s s' hs hs' h h' e => ?_)
      · obtain ⟨h1, h2, h3⟩ := tb_iff.mp h
        have hx0 := hnx s h3
        obtain ⟨y, k1, k2⟩ := h3
        have hbel : ∀ z, s.testBit z = true → lt z x = true := fun z hz => by
          by_cases e : z = y
          · rw [e]; exact k1
          · exact ho.2.1 z y x (k2.2 z hz e) k1
        refine ⟨ins_lt hs hx, tb_iff.mpr ⟨fun a b ha hb hne => ?_, by rw [sz_ins (by omega) hx0, h2], by rw [ins_bit]; simp, fun z hz hne => ?_⟩⟩
        · rw [ins_bit] at ha hb
          simp only [Bool.or_eq_true, decide_eq_true_eq] at ha hb
          unfold cmp
          rcases ha with ha | ha
          · rcases hb with hb | hb
            · exact h1 a b ha hb hne
            · rw [hb, hbel a ha]; rfl
          · rcases hb with hb | hb
            · rw [ha, hbel b hb]; simp
            · exact absurd (ha.trans hb.symm) hne
        · rw [ins_bit] at hz
          simp only [Bool.or_eq_true, decide_eq_true_eq] at hz
          exact hbel z (hz.resolve_right hne)
      · have q := hnx s (tb_iff.mp h).2.2
        have q' := hnx s' (tb_iff.mp h').2.2
        refine bit_ext' hs hs' (fun i hi => ?_)
        by_cases ei : i = x
        · rw [ei, q, q']
        · have := congrArg (fun z => Nat.testBit z i) e
          simp only [ins_bit, ei, decide_false, Bool.or_false] at this
          rw [this]
  rw [e1, cnt_part _ (fun y s => tb (lt y x = true ∧ clq (cmp lt) s ∧ sz s = L ∧ topx lt s y)) n (2 ^ n) (fun s hs => ?_) (fun s y y' _ _ _ h h' => top_uni ho (tb_iff.mp h).2.2.2 (tb_iff.mp h').2.2.2)]
  · refine sm_eq n (fun y hy => ?_)
    cases hl : lt y x with
    | false =>
      rw [if_neg (by simp)]
      exact cnt_zero (fun s _ => tb_no.mpr (fun h => by have := h.1; cases this))
    | true =>
      rw [if_pos rfl]
      unfold ct
      exact cnt_eq (fun s _ => by rw [tb_iff, tb_iff]; simp)
  · rw [tb_iff]
    constructor
    · rintro ⟨h1, h2, y, h3, h4⟩
      exact ⟨y, bit_in hs h4.1, tb_iff.mpr ⟨h3, h1, h2, h4⟩⟩
    · rintro ⟨y, _, h⟩
      obtain ⟨h3, h1, h2, h4⟩ := tb_iff.mp h
      exact ⟨h1, h2, y, h3, h4⟩
theorem ct_all {lt : Nat → Nat → Bool} {n L : Nat} (ho : ord n lt) (hn : n ≤ 14) (hL : 1 ≤ L) : cnt (fun s => tb (clq (cmp lt) s ∧ sz s = L)) (2 ^ n) = sm (fun y => ct lt n L y) n := by
  refine cnt_part _ (fun y s => tb (clq (cmp lt) s ∧ sz s = L ∧ topx lt s y)) n (2 ^ n) (fun s hs => ?_) (fun s y y' _ _ _ h h' => top_uni ho (tb_iff.mp h).2.2 (tb_iff.mp h').2.2)
  rw [tb_iff]
  constructor
  · rintro ⟨h1, h2⟩
    obtain ⟨y, hy, ht⟩ := top_ex ho hn hs h1 (by omega)
    exact ⟨y, hy, tb_iff.mpr ⟨h1, h2, ht⟩⟩
  · rintro ⟨y, _, h⟩
    exact ⟨(tb_iff.mp h).1, (tb_iff.mp h).2.1⟩
