/-! The reference's small methods, as answers. -/
def bi (b : Bool) : Int32 := if b then 1 else 0
theorem bi_t : bi true = 1 := rfl
theorem bi_f : bi false = 0 := rfl
theorem bi_ne : ¬ bi true = 0 := by decide
theorem ow_eq {X : Type} {o : Option X} {x : X} (h : ow o (fun v => v = x)) : o = some x := by
  obtain ⟨y, h1, h2⟩ := h
  rw [h1, h2]
theorem ow_is {X : Type} {o : Option X} {x : X} {Q : X → Prop} (h : o = some x) (k : Q x) : ow o Q := ⟨x, h, k⟩
theorem z_bi (b : Bool) : oz_z (bi b) = some (bi b) := by cases b <;> rfl
theorem s_mhas (m : Nat) {i : Nat} (hi : i < 32) (M : oz_M) : f_Model_has (nI m) (nI i) M = some (bi (m.testBit i)) := by
  unfold f_Model_has
  rw [zb_has hi, zb_nI m hi]
  cases m.testBit i <;> rfl
theorem s_chas (m : Nat) {i : Nat} (hi : i < 32) (M : oz_M) : f_Hall_has (nI m) (nI i) M = some (bi (m.testBit i)) := by
  refine ow_eq (ow_mono (s_has (x := nI m) hi M) (fun v h => ?_))
  rw [h, zb_nI m hi]; rfl
theorem s_sizeOf (m : Nat) (M : oz_M) : f_Model_sizeOf (nI m) M = some (nI (sz m)) := by
  unfold f_Model_sizeOf
  refine ow_eq (ow_bind (P := fun y => y.1 = nI (sz m)) ?_ (fun y hy => ow_some hy))
  refine ow_for 14 (fun k s => s.2 = nI k ∧ s.1 = nI (cnt m.testBit k)) (fun k s hk hJ => ?_) (fun s hJ => ?_) 0 _ (by omega) ⟨rfl, rfl⟩
  · obtain ⟨q1, q2⟩ := hJ
    rw [q1, q2, if_pos (show nI k < 14 from nI_lt (b := 14) hk (by omega)), s_mhas m (by omega)]
    refine ow_let ?_
    cases hb : m.testBit k with
    | false => rw [bi_f, if_pos rfl]; exact ow_some ⟨nI_1 k, by simp only [cnt, hb]; rfl⟩
    | true => rw [if_neg bi_ne]; exact ow_some ⟨nI_1 k, by simp only [cnt, hb]; exact nI_1 _⟩
  · obtain ⟨q1, q2⟩ := hJ
    rw [q1, if_neg (show ¬ nI 14 < 14 from nI_nlt (b := 14) (Nat.le_refl _) (by omega))]
    exact ow_some q2
theorem bi_and (b c : Bool) : bi (b && c) = if bi b = 0 then 0 else bi c := by cases b <;> cases c <;> rfl
/-- a test of all pairs, the greater number first -/
def pr (P : Nat → Nat → Bool) : Nat → Nat → Bool
  | _, 0 => true
  | a, b + 1 => pr P a b && P a b
def prs (P : Nat → Nat → Bool) : Nat → Bool
  | 0 => true
  | a + 1 => prs P a && pr P a a
theorem pr_iff {P : Nat → Nat → Bool} {a : Nat} : ∀ b, pr P a b = true ↔ ∀ y, y < b → P a y = true
  | 0 => by simp [pr]
  | b + 1 => by
    simp only [pr, Bool.and_eq_true]
    rw [pr_iff b]
    constructor
    · rintro ⟨h1, h2⟩ y hy
      by_cases e : y = b
      · rw [e]; exact h2
      · exact h1 y (by omega)
    · exact fun h => ⟨fun y hy => h y (by omega), h b (by omega)⟩
theorem prs_iff {P : Nat → Nat → Bool} : ∀ a, prs P a = true ↔ ∀ x y, x < a → y < x → P x y = true
  | 0 => by simp [prs]
  | a + 1 => by
    simp only [prs, Bool.and_eq_true]
    rw [prs_iff a, pr_iff]
    constructor
    · rintro ⟨h1, h2⟩ x y hx hy
      by_cases e : x = a
      · subst e; exact h2 y hy
      · exact h1 x y (by omega) hy
    · exact fun h => ⟨fun x y hx hy => h x y (by omega) hy, fun y hy => h a y (by omega) hy⟩
theorem prs_clq {n S : Nat} {G : Nat → Nat → Bool} (hsym : ∀ a b, G a b = true → G b a = true) (hS : S < 2 ^ n) : prs (fun x y => !(S.testBit x && (S.testBit y && !G x y))) n = tb (clq G S) := by
  have h : prs (fun x y => !(S.testBit x && (S.testBit y && !G x y))) n = true ↔ clq G S := by
    rw [prs_iff]
    constructor
    · intro h x y hx hy hne
      have key : ∀ x y, S.testBit x = true → S.testBit y = true → y < x → G x y = true := fun x y hx hy hlt => by
        have := h x y (bit_in hS hx) hlt
        rw [hx, hy] at this
        simpa using this
      by_cases hlt : y < x
      · exact key x y hx hy hlt
      · exact hsym _ _ (key y x hy hx (by omega))
    · intro h x y hx hy
      cases h1 : S.testBit x with
      | false => simp
      | true =>
        cases h2 : S.testBit y with
        | false => simp
        | true => rw [h x y h1 h2 (by omega)]; simp
  cases ht : tb (clq G S) with
  | true => exact h.mpr (tb_iff.mp ht)
  | false =>
    cases hp : prs (fun x y => !(S.testBit x && (S.testBit y && !G x y))) n with
    | false => rfl
    | true => exact absurd (h.mp hp) (tb_no.mp ht)
theorem apt_cmp {lt : Nat → Nat → Bool} {a b : Nat} (h : a ≠ b) : apt lt a b = !cmp lt a b := by
  unfold apt cmp
  simp [h]
theorem pr_cong {P Q : Nat → Nat → Bool} {a : Nat} : ∀ b, (∀ y, y < b → P a y = Q a y) → pr P a b = pr Q a b
  | 0, _ => rfl
  | b + 1, h => by
    simp only [pr]
    rw [pr_cong b (fun y hy => h y (by omega)), h b (by omega)]
theorem prs_cong {P Q : Nat → Nat → Bool} : ∀ a, (∀ x y, x < a → y < x → P x y = Q x y) → prs P a = prs Q a
  | 0, _ => rfl
  | a + 1, h => by
    simp only [prs]
    rw [prs_cong a (fun x y hx hy => h x y (by omega) hy), pr_cong a (fun y hy => h a y (by omega) hy)]
theorem s_isChain {M : oz_M} {n S : Nat} {R : Nat → Nat → Bool} (hn : n ≤ 14) (h62 : M.1 62 1 = nI n) (hL : zLt M n R) (hS : S < 2 ^ n) : f_Model_isChain (nI S) M = some (bi (tb (clq (cmp (ztb R)) S))) := by
  let P : Nat → Nat → Bool := fun x y => !(S.testBit x && (S.testBit y && apt (ztb R) x y))
  have e : tb (clq (cmp (ztb R)) S) = prs P n := by
    rw [← prs_clq (cmp_sym _) hS]
    exact prs_cong n (fun x y hx hy => by show _ = !(S.testBit x && (S.testBit y && apt (ztb R) x y)); rw [apt_cmp (by omega)])
  rw [e]
  unfold f_Model_isChain
  refine ow_eq (ow_bind (P := fun y => y.1 = bi (prs P n)) ?_ (fun y hy => by rw [hy, z_bi]; exact ow_some rfl))
  refine ow_for n (fun k s => s.2 = nI k ∧ s.1 = bi (prs P k)) (fun k s hk hJ => ?_) (fun s hJ => ?_) 0 _ (by omega) ⟨rfl, rfl⟩
  · obtain ⟨q1, q2⟩ := hJ
    rw [q1, q2, h62, if_pos (nI_lt hk (by omega))]
    refine ow_bind (P := fun y => y.1 = bi (prs P k && pr P k k)) ?_ (fun y hy => ow_some ⟨nI_1 k, hy⟩)
    refine ow_for k (fun l t => t.2 = nI l ∧ t.1 = bi (prs P k && pr P k l)) (fun l t hl hJ => ?_) (fun t hJ => ?_) 0 _ (by omega) ⟨rfl, by simp [pr]⟩
    · obtain ⟨g1, g2⟩ := hJ
      rw [g1, g2, if_pos (nI_lt hl (by omega)), s_mhas S (by omega), s_mhas S (by omega), s_apart hL (by omega) (by omega)]
      have e1 : (prs P k && pr P k (l + 1)) = ((prs P k && pr P k l) && !(S.testBit k && (S.testBit l && apt (ztb R) k l))) := by
        simp only [pr]; rw [Bool.and_assoc]
      show ow (if bi (prs P k && pr P k l) = 0 then _ else (some (bi (S.testBit k))).bind fun v3 => if v3 = 0 then _ else (some (bi (S.testBit l))).bind fun v4 => if v4 = 0 then _ else (some (bi (apt (ztb R) k l))).bind _) _
      rw [e1] at *
      cases (prs P k && pr P k l) with
      | false => exact ow_ite (fun _ => ow_some ⟨nI_1 l, rfl⟩) (fun h => absurd rfl h)
      | true =>
        refine ow_ite (fun h => absurd h (by decide)) (fun _ => ow_let ?_)
        cases S.testBit k with
        | false => exact ow_ite (fun _ => ow_some ⟨nI_1 l, rfl⟩) (fun h => absurd rfl h)
        | true =>
          refine ow_ite (fun h => absurd h (by decide)) (fun _ => ow_let ?_)
          cases S.testBit l with
          | false => exact ow_ite (fun _ => ow_some ⟨nI_1 l, rfl⟩) (fun h => absurd rfl h)
          | true =>
            refine ow_ite (fun h => absurd h (by decide)) (fun _ => ow_let ?_)
            cases apt (ztb R) k l with
            | false => exact ow_ite (fun _ => ow_some ⟨nI_1 l, rfl⟩) (fun h => absurd rfl h)
            | true => exact ow_ite (fun h => absurd h (by decide)) (fun _ => ow_some ⟨nI_1 l, rfl⟩)
    · obtain ⟨g1, g2⟩ := hJ
      rw [g1, if_neg (nI_nlt (Nat.le_refl _) (by omega))]
      exact ow_some g2
  · obtain ⟨q1, q2⟩ := hJ
    rw [q1, h62, if_neg (nI_nlt (Nat.le_refl _) (by omega))]
    exact ow_some q2
theorem s_isAnti {M : oz_M} {n S : Nat} {R : Nat → Nat → Bool} (hn : n ≤ 14) (h62 : M.1 62 1 = nI n) (hL : zLt M n R) (hS : S < 2 ^ n) : f_Model_isAntichain (nI S) M = some (bi (tb (clq (apt (ztb R)) S))) := by
  let P : Nat → Nat → Bool := fun x y => !(S.testBit x && (S.testBit y && !apt (ztb R) x y))
  have e : tb (clq (apt (ztb R)) S) = prs P n := by
    rw [← prs_clq (apt_sym _) hS]
  rw [e]
  unfold f_Model_isAntichain
  refine ow_eq (ow_bind (P := fun y => y.1 = bi (prs P n)) ?_ (fun y hy => by rw [hy, z_bi]; exact ow_some rfl))
  refine ow_for n (fun k s => s.2 = nI k ∧ s.1 = bi (prs P k)) (fun k s hk hJ => ?_) (fun s hJ => ?_) 0 _ (by omega) ⟨rfl, rfl⟩
  · obtain ⟨q1, q2⟩ := hJ
    rw [q1, q2, h62, if_pos (nI_lt hk (by omega))]
    refine ow_bind (P := fun y => y.1 = bi (prs P k && pr P k k)) ?_ (fun y hy => ow_some ⟨nI_1 k, hy⟩)
    refine ow_for k (fun l t => t.2 = nI l ∧ t.1 = bi (prs P k && pr P k l)) (fun l t hl hJ => ?_) (fun t hJ => ?_) 0 _ (by omega) ⟨rfl, by simp [pr]⟩
    · obtain ⟨g1, g2⟩ := hJ
      rw [g1, g2, if_pos (nI_lt hl (by omega)), s_mhas S (by omega), s_mhas S (by omega), s_apart hL (by omega) (by omega)]
      have e1 : (prs P k && pr P k (l + 1)) = ((prs P k && pr P k l) && !(S.testBit k && (S.testBit l && !apt (ztb R) k l))) := by
        simp only [pr]; rw [Bool.and_assoc]
      show ow (if bi (prs P k && pr P k l) = 0 then _ else (some (bi (S.testBit k))).bind fun v3 => if v3 = 0 then _ else (some (bi (S.testBit l))).bind fun v4 => if v4 = 0 then _ else (some (bi (apt (ztb R) k l))).bind _) _
      rw [e1] at *
      cases (prs P k && pr P k l) with
      | false => exact ow_ite (fun _ => ow_some ⟨nI_1 l, rfl⟩) (fun h => absurd rfl h)
      | true =>
        refine ow_ite (fun h => absurd h (by decide)) (fun _ => ow_let ?_)
        cases S.testBit k with
        | false => exact ow_ite (fun _ => ow_some ⟨nI_1 l, rfl⟩) (fun h => absurd rfl h)
        | true =>
          refine ow_ite (fun h => absurd h (by decide)) (fun _ => ow_let ?_)
          cases S.testBit l with
          | false => exact ow_ite (fun _ => ow_some ⟨nI_1 l, rfl⟩) (fun h => absurd rfl h)
          | true =>
            refine ow_ite (fun h => absurd h (by decide)) (fun _ => ow_let ?_)
            cases apt (ztb R) k l with
            | false => exact ow_ite (fun _ => ow_some ⟨nI_1 l, rfl⟩) (fun h => absurd rfl h)
            | true => exact ow_ite (fun h => absurd h (by decide)) (fun _ => ow_some ⟨nI_1 l, rfl⟩)
    · obtain ⟨g1, g2⟩ := hJ
      rw [g1, if_neg (nI_nlt (Nat.le_refl _) (by omega))]
      exact ow_some g2
  · obtain ⟨q1, q2⟩ := hJ
    rw [q1, h62, if_neg (nI_nlt (Nat.le_refl _) (by omega))]
    exact ow_some q2
/-- a test of all -/
def al (P : Nat → Bool) : Nat → Bool
  | 0 => true
  | b + 1 => al P b && P b
theorem al_iff {P : Nat → Bool} : ∀ b, al P b = true ↔ ∀ y, y < b → P y = true
  | 0 => by simp [al]
  | b + 1 => by
    simp only [al, Bool.and_eq_true]
    rw [al_iff b]
    constructor
    · rintro ⟨h1, h2⟩ y hy
      by_cases e : y = b
      · rw [e]; exact h2
      · exact h1 y (by omega)
    · exact fun h => ⟨fun y hy => h y (by omega), h b (by omega)⟩
theorem tb_eq {P : Prop} {b : Bool} (h : b = true ↔ P) : b = tb P := by
  cases hb : b with
  | true => exact (tb_iff.mpr (h.mp hb)).symm
  | false => exact (tb_no.mpr (fun q => by rw [h.mpr q] at hb; cases hb)).symm
theorem s_mayCome {M : oz_M} {n S x : Nat} {R : Nat → Nat → Bool} (hn : n ≤ 14) (ho : ord n (ztb R)) (h62 : M.1 62 1 = nI n) (hL : zLt M n R) (hx : x < n) : f_Model_mayCome (nI x) (nI S) M = some (bi (tb (may (ztb R) S x))) := by
  let P : Nat → Bool := fun y => !(ztb R y x && !S.testBit y)
  have e : (!S.testBit x && al P n) = tb (may (ztb R) S x) := by
    refine tb_eq ?_
    unfold may
    rw [Bool.and_eq_true, al_iff, Bool.not_eq_true']
    refine and_congr Iff.rfl ⟨fun h y hy => ?_, fun h y hy => ?_⟩
    · have := h y (ho.2.2 y x hy).1
      show S.testBit y = true
      have : (!(ztb R y x && !S.testBit y)) = true := this
      rw [hy] at this
      simpa using this
    · show (!(ztb R y x && !S.testBit y)) = true
      cases hl : ztb R y x with
      | false => rfl
      | true => rw [h y hl]; rfl
  rw [← e]
  unfold f_Model_mayCome
  rw [s_mhas S (by omega)]
  refine ow_eq (ow_let (ow_bind (P := fun z => z = bi (!S.testBit x)) (by cases S.testBit x <;> exact ow_some rfl) (fun z hz => ?_)))
  rw [hz]
  refine ow_bind (P := fun y => y.1 = bi (!S.testBit x && al P n)) ?_ (fun y hy => by rw [hy, z_bi]; exact ow_some rfl)
  refine ow_for n (fun l t => t.2 = nI l ∧ t.1 = bi (!S.testBit x && al P l)) (fun l t hl hJ => ?_) (fun t hJ => ?_) 0 _ (by omega) ⟨rfl, by simp [al]⟩
  · obtain ⟨g1, g2⟩ := hJ
    rw [g1, g2, h62, if_pos (nI_lt hl (by omega)), s_mhas S (by omega), s_less hL (by omega) (by omega)]
    have e1 : (!S.testBit x && al P (l + 1)) = ((!S.testBit x && al P l) && !(ztb R l x && !S.testBit l)) := by
      simp only [al]; rw [Bool.and_assoc]
    show ow (if bi (!S.testBit x && al P l) = 0 then _ else (some (bi (ztb R l x))).bind fun v3 => if v3 = 0 then _ else (some (bi (S.testBit l))).bind _) _
    rw [e1] at *
    cases (!S.testBit x && al P l) with
    | false => exact ow_ite (fun _ => ow_some ⟨nI_1 l, rfl⟩) (fun h => absurd rfl h)
    | true =>
      refine ow_ite (fun h => absurd h (by decide)) (fun _ => ow_let ?_)
      cases ztb R l x with
      | false => exact ow_ite (fun _ => ow_some ⟨nI_1 l, rfl⟩) (fun h => absurd rfl h)
      | true =>
        refine ow_ite (fun h => absurd h (by decide)) (fun _ => ow_let ?_)
        cases S.testBit l with
        | false => exact ow_ite (fun _ => ow_some ⟨nI_1 l, rfl⟩) (fun h => absurd rfl h)
        | true => exact ow_ite (fun h => absurd h (by decide)) (fun _ => ow_some ⟨nI_1 l, rfl⟩)
  · obtain ⟨g1, g2⟩ := hJ
    rw [g1, h62, if_neg (nI_nlt (Nat.le_refl _) (by omega))]
    exact ow_some g2
