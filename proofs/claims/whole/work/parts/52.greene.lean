/-! Chains and antichains against each other: a matching of links and loops, and its prices. -/
def gG (lt : Nat → Nat → Bool) (u v : Nat → Nat) (p q : Nat) : Prop := (lt p q = true ∧ u p = v q) ∨ (p = q ∧ u p = v q + 1)
def gS (n : Nat) (lt : Nat → Nat → Bool) (k m : Nat) : Prop := ∃ (f : Nat → Option Nat) (u v : Nat → Nat), mtc n (gG lt u v) f ∧ (∀ p, p < n → u p ≤ k) ∧ (∀ p q, p < n → q < n → lt p q = true → u p ≤ v q) ∧ (∀ p, p < n → u p ≤ v p + 1) ∧ (∀ p, p < n → f p = none → u p = k) ∧ (∀ q, q < n → (∀ p, p < n → f p ≠ some q) → v q = 0) ∧ cnt (fun p => (f p).isNone) n = m
theorem gS_0 (n : Nat) (lt : Nat → Nat → Bool) : gS n lt 0 n := by
  refine ⟨fun _ => none, fun _ => 0, fun _ => 0, ⟨fun _ _ _ h => (by cases h), fun _ _ _ _ _ h => (by cases h)⟩, fun _ _ => Nat.le_refl _, fun _ _ _ _ _ => Nat.le_refl _, fun _ _ => by omega, fun _ _ _ => rfl, fun _ _ _ => rfl, ?_⟩
  exact cnt_all n
theorem gS_step {n : Nat} {lt : Nat → Nat → Bool} {k m : Nat} (h : gS n lt k m) : (∃ m', m = m' + 1 ∧ gS n lt k m') ∨ gS n lt (k + 1) m := by
  obtain ⟨f, u, v, hm, h1, h2, h3, h4, h5, h6⟩ := h
  rcases mtc_more hm with ⟨f', x, hx, hfx, hm', hn, hr⟩ | ⟨A, hA1, hA2⟩
  · left
    refine ⟨cnt (fun p => (f' p).isNone) n, ?_, f', u, v, hm', h1, h2, h3, fun p hp h => h4 p hp ((hn p hp).mp h).1, fun q hq h => h5 q hq (fun p hp e => ?_), rfl⟩
    · rw [← h6]
      refine cnt_out hx (by rw [hfx]; rfl) (fun q hq => ?_)
      rw [Option.isNone_iff_eq_none, Option.isNone_iff_eq_none]
      exact hn q hq
    · obtain ⟨p', hp', e'⟩ := hr q ⟨p, hp, e⟩
      exact h p' hp' e'
  · right
    have hB : ∀ p q, p < n → f p = some q → (A p ↔ ∃ p', p' < n ∧ A p' ∧ gG lt u v p' q) := by
      intro p q hp hf
      constructor
      · intro ha; exact ⟨p, hp, ha, (hm.1 p q hp hf).2⟩
      · rintro ⟨p', hp', ha, hg⟩
        obtain ⟨p2, hp2, hf2, ha2⟩ := hA2 p' q hp' (hm.1 p q hp hf).1 ha hg
        rw [hm.2 p p2 q hp hp2 hf hf2]; exact ha2
    have hu : ∀ p, A p → (if tb (A p) = true then u p + 1 else u p) = u p + 1 := fun p h => if_pos (tb_iff.mpr h)
    have hu' : ∀ p, ¬ A p → (if tb (A p) = true then u p + 1 else u p) = u p := fun p h => if_neg (fun q => h (tb_iff.mp q))
    have hv : ∀ q, (∃ p', p' < n ∧ A p' ∧ gG lt u v p' q) → (if tb (∃ p', p' < n ∧ A p' ∧ gG lt u v p' q) = true then v q + 1 else v q) = v q + 1 := fun p h => if_pos (tb_iff.mpr h)
    have hv' : ∀ q, ¬ (∃ p', p' < n ∧ A p' ∧ gG lt u v p' q) → (if tb (∃ p', p' < n ∧ A p' ∧ gG lt u v p' q) = true then v q + 1 else v q) = v q := fun p h => if_neg (fun q => h (tb_iff.mp q))
    refine ⟨f, fun p => if tb (A p) = true then u p + 1 else u p, fun q => if tb (∃ p', p' < n ∧ A p' ∧ gG lt u v p' q) = true then v q + 1 else v q, ⟨fun p q hp hf => ⟨(hm.1 p q hp hf).1, ?_⟩, hm.2⟩, fun p hp => ?_, fun p q hp hq hl => ?_, fun p hp => ?_, fun p hp hf => ?_, fun q hq hf => ?_, h6⟩
    · have hb := hB p q hp hf
      show (lt p q = true ∧ (if tb (A p) = true then u p + 1 else u p) = (if tb (∃ p', p' < n ∧ A p' ∧ gG lt u v p' q) = true then v q + 1 else v q)) ∨ (p = q ∧ (if tb (A p) = true then u p + 1 else u p) = (if tb (∃ p', p' < n ∧ A p' ∧ gG lt u v p' q) = true then v q + 1 else v q) + 1)
      by_cases ha : A p
      · rw [hu p ha, hv q (hb.mp ha)]
        rcases (hm.1 p q hp hf).2 with ⟨g1, g2⟩ | ⟨g1, g2⟩
        · exact Or.inl ⟨g1, by rw [g2]⟩
        · exact Or.inr ⟨g1, by rw [g2]⟩
      · rw [hu' p ha, hv' q (fun q => ha (hb.mpr q))]
        exact (hm.1 p q hp hf).2
    · have := h1 p hp
      by_cases ha : A p
      · simp only [hu p ha]; omega
      · simp only [hu' p ha]; omega
    · have := h2 p q hp hq hl
      by_cases hb : ∃ p', p' < n ∧ A p' ∧ gG lt u v p' q
      · by_cases ha : A p
        · simp only [hu p ha, hv q hb]; omega
        · simp only [hu' p ha, hv q hb]; omega
      · by_cases ha : A p
        · have hne : u p ≠ v q := fun e => hb ⟨p, hp, ha, Or.inl ⟨hl, e⟩⟩
          simp only [hu p ha, hv' q hb]; omega
        · simp only [hu' p ha, hv' q hb]; omega
    · have := h3 p hp
      by_cases hb : ∃ p', p' < n ∧ A p' ∧ gG lt u v p' p
      · by_cases ha : A p
        · simp only [hu p ha, hv p hb]; omega
        · simp only [hu' p ha, hv p hb]; omega
      · by_cases ha : A p
        · have hne : u p ≠ v p + 1 := fun e => hb ⟨p, hp, ha, Or.inr ⟨rfl, e⟩⟩
          simp only [hu p ha, hv' p hb]; omega
        · simp only [hu' p ha, hv' p hb]; omega
    · simp only [hu p (hA1 p hp hf)]
      rw [h4 p hp hf]
    · have hb : ¬ ∃ p', p' < n ∧ A p' ∧ gG lt u v p' q := by
        rintro ⟨p', hp', ha, hg⟩
        obtain ⟨p2, hp2, hf2, -⟩ := hA2 p' q hp' hq ha hg
        exact hf p2 hp2 hf2
      simp only [hv' q hb]
      exact h5 q hq hf
/-- what the prices hold -/
theorem gS_sum {n : Nat} {lt : Nat → Nat → Bool} {k m : Nat} (h : gS n lt k m) (hirr : ∀ a, lt a a = false) (htr : ∀ a b c, lt a b = true → lt b c = true → lt a c = true) : ∃ S Q : Nat → Bool, (∀ T : Nat → Bool, (∀ x, x < n → T x = true → S x = true) → (∀ x y, x < n → y < n → T x = true → T y = true → lt x y = false) → cnt T n ≤ m) ∧ (∀ C : Nat → Bool, (∀ x, x < n → C x = true → Q x = true) → (∀ x y, x < n → y < n → C x = true → C y = true → x ≠ y → lt x y = true ∨ lt y x = true) → cnt C n ≤ k) ∧ n + k * m ≤ cnt S n + cnt Q n := by
  obtain ⟨f, u, v, hm, h1, h2, h3, h4, h5, h6⟩ := h
  refine ⟨fun p => !tb (f p = some p), fun p => tb (v p < u p), fun T hT hanti => ?_, fun C hC hch => ?_, ?_⟩
  · -- the up-set of T in S
    have hmem : ∀ x, x < n → T x = true → f x ≠ some x := fun x hx ht e => by
      have : (!tb (f x = some x)) = true := hT x hx ht
      rw [tb_iff.mpr e] at this; cases this
    let D : Nat → Prop := fun p => f p ≠ some p ∧ ∃ t, t < n ∧ T t = true ∧ (t = p ∨ lt t p = true)
    have hTD : ∀ x, x < n → T x = true → D x := fun x hx ht => ⟨hmem x hx ht, x, hx, ht, Or.inl rfl⟩
    have e1 := cnt_split (fun p => tb (D p)) (fun p => (f p).isNone) n
    have e2 := cnt_split (fun p => tb (D p)) T n
    have a1 : cnt (fun p => tb (D p) && (f p).isNone) n ≤ m := by
      rw [← h6]; exact cnt_mono (fun q hq h => by simp only [Bool.and_eq_true] at h; exact h.2)
    have a2 : cnt T n ≤ cnt (fun p => tb (D p) && T p) n := cnt_mono (fun q hq h => by
      simp only [Bool.and_eq_true]; exact ⟨tb_iff.mpr (hTD q hq h), h⟩)
    have a3 : cnt (fun p => tb (D p) && !(f p).isNone) n ≤ cnt (fun p => tb (D p) && !T p) n := by
      have key : ∀ p, p < n → (tb (D p) && !(f p).isNone) = true → ∃ q, f p = some q ∧ q < n ∧ lt p q = true ∧ D q ∧ T q = false := by
        intro p hp h
        simp only [Bool.and_eq_true] at h
        have hD := tb_iff.mp h.1
        cases hf : f p with
        | none => rw [hf] at h; simp at h
        | some q =>
          obtain ⟨hq, hg⟩ := hm.1 p q hp hf
          have hne : p ≠ q := fun e => hD.1 (by rw [hf, e])
          have hl : lt p q = true := hg.elim (fun g => g.1) (fun g => absurd g.1 hne)
          obtain ⟨t, ht, hTt, htp⟩ := hD.2
          have htq : lt t q = true := htp.elim (fun e => e ▸ hl) (fun e => htr t p q e hl)
          refine ⟨q, rfl, hq, hl, ⟨fun e => hne (hm.2 p q q hp hq hf e), t, ht, hTt, Or.inr htq⟩, ?_⟩
          cases hTq : T q with
          | false => rfl
          | true => have := hanti t q ht hq hTt hTq; rw [htq] at this; cases this
      refine cnt_inj (fun p => (f p).getD 0) (fun p hp h => ?_) (fun p p' hp hp' h h' e => ?_)
      · obtain ⟨q, hf, hq, _, hD, hT⟩ := key p hp h
        simp only [hf, Option.getD_some]
        exact ⟨hq, by simp only [hT, tb_iff.mpr hD]; rfl⟩
      · obtain ⟨q, hf, _⟩ := key p hp h
        obtain ⟨q', hf', _⟩ := key p' hp' h'
        simp only [hf, hf', Option.getD_some] at e
        subst e
        exact hm.2 p p' q hp hp' hf hf'
    omega
  · have hQ : ∀ x, x < n → C x = true → v x < u x := fun x hx h => tb_iff.mp (hC x hx h)
    have hlt : ∀ x y, x < n → y < n → C x = true → C y = true → lt x y = true → u x < u y := fun x y hx hy cx cy hl => by
      have := h2 x y hx hy hl
      have := hQ y hy cy
      omega
    have := cnt_inj (P := C) (Q := fun _ => true) (N := n) (N' := k) (fun x => u x - 1) (fun x hx hc => ⟨by have := hQ x hx hc; have := h1 x hx; omega, rfl⟩) (fun x y hx hy cx cy e => by
      by_cases hxy : x = y
      · exact hxy
      · have q1 := hQ x hx cx
        have q2 := hQ y hy cy
        rcases hch x y hx hy cx cy hxy with hl | hl
        · have := hlt x y hx hy cx cy hl; omega
        · have := hlt y x hy hx cy cx hl; omega)
    rwa [cnt_all] at this
  · -- sum u = sum v + loops + k m
    have s1 : sm u n ≤ sm v n + cnt (fun p => tb (v p < u p)) n := by
      rw [cnt_sm, ← sm_add]
      refine sm_le n (fun i hi => ?_)
      have := h3 i hi
      by_cases e : v i < u i
      · simp only [tb_iff.mpr e, if_true]; omega
      · simp only [tb_no.mpr e]; simp; omega
    have s2 : cnt (fun p => !tb (f p = some p)) n + cnt (fun p => tb (f p = some p)) n = n := by
      have := cnt_split (fun _ => true) (fun p => tb (f p = some p)) n
      rw [cnt_all] at this
      simp only [Bool.true_and] at this
      omega
    have s3 : sm (fun p => if (f p).isNone then k else (u p)) n = sm u n := sm_eq n (fun i hi => by
      cases hf : f i with
      | none => simp; exact (h4 i hi hf).symm
      | some q => simp)
    have s4 : k * m + (sm v n + cnt (fun p => tb (f p = some p)) n) ≤ sm (fun p => if (f p).isNone then k else (u p)) n := by
      have t1 : sm v n ≤ sm (fun p => match f p with | none => 0 | some q => v q) n := by
        have hpos : ∀ q, q < n → 0 < v q → ∃ p, p < n ∧ f p = some q := fun q hq hv => by
          by_cases hx : ∃ p, p < n ∧ f p = some q
          · exact hx
          · have := h5 q hq (fun p hp e => hx ⟨p, hp, e⟩); omega
        have hch : ∀ q, ∃ p, q < n → 0 < v q → p < n ∧ f p = some q := fun q => by
          by_cases hq : q < n ∧ 0 < v q
          · obtain ⟨p, hp⟩ := hpos q hq.1 hq.2
            exact ⟨p, fun _ _ => hp⟩
          · exact ⟨0, fun a b => absurd ⟨a, b⟩ hq⟩
        let g : Nat → Nat := fun q => Classical.choose (hch q)
        have hg : ∀ q, q < n → 0 < v q → g q < n ∧ f (g q) = some q := fun q => Classical.choose_spec (hch q)
        refine sm_inj n n v _ g (fun q hq hv => ⟨(hg q hq hv).1, ?_⟩) (fun q q' hq hq' hv hv' e => ?_)
        · rw [(hg q hq hv).2]; exact Nat.le_refl _
        · have a := (hg q hq hv).2
          rw [e, (hg q' hq' hv').2] at a
          cases a; rfl
      have t2 : sm (fun p => if (f p).isNone then k else 0) n = k * m := by
        rw [← h6, cnt_sm, ← sm_mul]
        exact sm_eq n (fun i _ => by cases f i <;> simp)
      have t3 := sm_add (fun p => if (f p).isNone then k else 0) (fun p => (match f p with | none => 0 | some q => v q) + (if tb (f p = some p) = true then 1 else 0)) n
      have t4 := sm_add (fun p => match f p with | none => 0 | some q => v q) (fun p => if tb (f p = some p) = true then 1 else 0) n
      have t5 : sm (fun i => (if (f i).isNone then k else 0) + ((match f i with | none => 0 | some q => v q) + (if tb (f i = some i) = true then 1 else 0))) n ≤ sm (fun p => if (f p).isNone then k else (u p)) n := by
        refine sm_le n (fun i hi => ?_)
        cases hf : f i with
        | none =>
          have : tb ((none : Option Nat) = some i) = false := tb_no.mpr (by simp)
          rw [this]
          show k + (0 + 0) ≤ k
          omega
        | some q =>
          rcases (hm.1 i q hi hf).2 with ⟨g1, g2⟩ | ⟨g1, g2⟩
          · have hne : ¬ (some q = some i) := fun e => by
              cases e; rw [hirr] at g1; cases g1
            rw [tb_no.mpr hne]
            show 0 + (v q + 0) ≤ u i
            omega
          · subst g1
            rw [tb_iff.mpr (rfl : some i = some i)]
            show 0 + (v i + 1) ≤ u i
            omega
      have t6 := cnt_sm (fun p => tb (f p = some p)) n
      omega
    omega
/-- for each k an m -/
theorem gS_k {n : Nat} {lt : Nat → Nat → Bool} : ∀ k, ∃ m, m ≤ n ∧ gS n lt k m
  | 0 => ⟨n, Nat.le_refl _, gS_0 n lt⟩
  | k + 1 => by
    obtain ⟨m, hmn, h⟩ := gS_k (n := n) (lt := lt) k
    have key : ∀ m, m ≤ n → gS n lt k m → ∃ m, m ≤ n ∧ gS n lt (k + 1) m := by
      intro m
      induction m with
      | zero =>
        intro h0 h
        rcases gS_step h with ⟨m', e, _⟩ | h
        · omega
        · exact ⟨0, h0, h⟩
      | succ m ih =>
        intro h0 h
        rcases gS_step h with ⟨m', e, h'⟩ | h'
        · have : m' = m := by omega
          subst this
          exact ih (by omega) h'
        · exact ⟨m + 1, h0, h'⟩
    exact key m hmn h
/-- for each m a k -/
theorem gS_m {n : Nat} {lt : Nat → Nat → Bool} (hirr : ∀ a, lt a a = false) (htr : ∀ a b c, lt a b = true → lt b c = true → lt a c = true) : ∀ d m, m + d = n → ∃ k, k ≤ n ∧ gS n lt k m
  | 0, m, h => ⟨0, Nat.zero_le _, (show m = n by omega) ▸ gS_0 m lt⟩
  | d + 1, m, h => by
    obtain ⟨k, hk, hS⟩ := gS_m (n := n) (lt := lt) hirr htr d (m + 1) (by omega)
    have key : ∀ e k, k + e = n → gS n lt k (m + 1) → ∃ k, k ≤ n ∧ gS n lt k m := by
      intro e
      induction e with
      | zero =>
        intro k hk hS
        rcases gS_step hS with ⟨m', e, h'⟩ | h'
        · have : m' = m := by omega
          subst this
          exact ⟨k, by omega, h'⟩
        · exfalso
          obtain ⟨S, Q, _, _, h3⟩ := gS_sum h' hirr htr
          have a := cnt_leN S n
          have b := cnt_leN Q n
          have c : (k + 1) * (m + 1) = (k + 1) * m + (k + 1) := Nat.mul_succ _ _
          have : k = n := by omega
          omega
      | succ e ih =>
        intro k hk hS
        rcases gS_step hS with ⟨m', e, h'⟩ | h'
        · have : m' = m := by omega
          subst this
          exact ⟨k, by omega, h'⟩
        · exact ih (k + 1) (by omega) h'
    exact key (n - k) k (by omega) hS
