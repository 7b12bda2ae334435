/-! The arcs, in the class's rows (1, 2) and in the reference's (62, 63). -/
def zW (n : Nat) (R : Nat → Nat → Bool) : Prop := 1 ≤ n ∧ n ≤ 14 ∧ ∀ a b, R a b = true → a < n ∧ b < n
def zA (M : oz_M) (n : Nat) (R : Nat → Nat → Bool) : Prop := M.1 1 0 = nI n ∧ ∀ a, a < 14 → ∀ b, b < 32 → zb (M.1 2 a) b = R a b
def zR (M : oz_M) (n : Nat) (R : Nat → Nat → Bool) : Prop := M.1 62 1 = nI n ∧ ∀ a, a < 14 → ∀ b, b < 14 → M.1 63 (14 * a + b) = if R a b then 1 else 0
def z0 : Nat → Nat → Bool := fun _ _ => false
def zup (R : Nat → Nat → Bool) (a b : Nat) (v : Bool) : Nat → Nat → Bool := fun c d => if c = a ∧ d = b then v else R c d
theorem zW_0 {n : Nat} (h1 : 1 ≤ n) (h2 : n ≤ 14) : zW n z0 := ⟨h1, h2, fun _ _ h => by cases h⟩
theorem zW_up {n : Nat} {R : Nat → Nat → Bool} (h : zW n R) {a b : Nat} (ha : a < n) (hb : b < n) (v : Bool) : zW n (zup R a b v) := ⟨h.1, h.2.1, fun c d q => by
  unfold zup at q
  by_cases e : c = a ∧ d = b
  · rw [e.1, e.2]; exact ⟨ha, hb⟩
  · rw [if_neg e] at q; exact h.2.2 c d q⟩
theorem b2_some {V X : Type} {v : V} {M : oz_M} {f : V → oz_M → Option X} : oz_b2 (some (v, M)) f = f v M := rfl
theorem el_inr {A B C : Type} {f : A → C} {g : B → C} {x : B} : oz_el f g (.inr x) = g x := rfl
theorem el_inl {A B C : Type} {f : A → C} {g : B → C} {x : A} : oz_el f g (.inl x) = f x := rfl
/-- the class has forgotten what was settled -/
def zU (M : oz_M) : Prop := M.1 0 7 = 0 ∧ M.1 3 0 = 0 ∧ M.1 53 1 = 0
/-- the reference too -/
def zV (M : oz_M) : Prop := M.1 62 2 = 0 ∧ M.1 62 6 = 0 ∧ M.1 62 12 = 0 ∧ M.1 62 10 = 0
theorem nI_cases (x : Int32) : (x < 1 ∨ 14 < x) ∨ ∃ n, 1 ≤ n ∧ n ≤ 14 ∧ x = nI n := by
  by_cases h1 : x < 1
  · exact Or.inl (Or.inl h1)
  by_cases h2 : 14 < x
  · exact Or.inl (Or.inr h2)
  have h0 : ¬ x < 0 := by
    rw [Int32.lt_iff_toInt_lt] at h1 ⊢
    have e0 : (0 : Int32).toInt = 0 := rfl
    have e1 : (1 : Int32).toInt = 1 := rfl
    omega
  obtain ⟨j, hj, rfl⟩ := nI_of h0
  rw [Int32.lt_iff_toInt_lt, nI_toInt hj] at h1 h2
  have e1 : (1 : Int32).toInt = 1 := rfl
  have e14 : (14 : Int32).toInt = 14 := rfl
  exact Or.inr ⟨j, by omega, by omega, rfl⟩
theorem nI_low {n : Nat} (h1 : 1 ≤ n) (h2 : n ≤ 14) : ¬ nI n < 1 ∧ ¬ 14 < nI n := ⟨nI_nlt (b := 1) h1 (by omega), nI_nlt (a := 14) h2 (by omega)⟩
theorem s_unsettle (M : oz_M) : ow (f_Hall_unsettle M) (fun r => fr [0, 3, 53] M r.2 ∧ zU r.2) := by
  refine ow_let (ow_let (ow_let (ow_some ⟨((fr.refl.s (by decide)).s (by decide)).s (by decide), ?_⟩)))
  unfold zU
  simp [rd_s]
theorem s_change (M : oz_M) : ow (f_Model_change M) (fun r => (∀ i, i ≠ 62 → r.2.1 i = M.1 i) ∧ r.2.2 = M.2 ∧ r.2.1 62 0 = M.1 62 0 ∧ r.2.1 62 1 = M.1 62 1 ∧ zV r.2) := by
  refine ow_let (ow_let (ow_let (ow_let (ow_some ⟨fun i hi => ?_, rfl, ?_, ?_, ?_⟩))))
  · funext k
    simp [rd_s, hi]
  · simp [rd_s]
  · simp [rd_s]
  · unfold zV
    simp [rd_s]
theorem s_clear {n : Nat} (M : oz_M) : ow (f_Arcs_clear (nI n) M) (fun r => fr [1, 2] M r.2 ∧ zA r.2 n z0) := by
  unfold f_Arcs_clear
  refine ow_let (ow_bind (P := fun y => fr [1, 2] M y.2 ∧ y.2.1 1 0 = nI n ∧ ∀ a, a < 14 → y.2.1 2 a = 0) ?_ (fun y h => ow_some ⟨h.1, h.2.1, fun a ha b hb => by rw [h.2.2 a ha, zb_0]; rfl⟩))
  refine ow_for 14 (fun k s => s.1 = nI k ∧ fr [1, 2] M s.2 ∧ s.2.1 1 0 = nI n ∧ ∀ a, a < k → s.2.1 2 a = 0) (fun k s hk hJ => ?_) (fun s hJ => ?_) 0 _ (by omega) ⟨rfl, fr.refl.s (by decide), by simp [rd_s], fun a ha => by omega⟩
  · obtain ⟨h1, h2, h3, h4⟩ := hJ
    rw [if_pos (by rw [h1]; exact nI_lt (b := 14) hk (by omega))]
    refine ow_bind (ow_in h1 hk (by omega)) (fun j hj => ow_let (ow_some ⟨?_, h2.s (by decide), ?_, fun a ha => ?_⟩))
    · show s.1 + 1 = _
      rw [h1]; exact nI_1 k
    · simpa [rd_s] using h3
    · subst hj
      simp only [rd_s]
      by_cases e : a = j
      · simp [e]
      · rw [if_neg (by simp [e])]
        exact h4 a (by omega)
  · obtain ⟨h1, h2, h3, h4⟩ := hJ
    rw [if_neg (by rw [h1]; exact nI_nlt (b := 14) (Nat.le_refl _) (by omega))]
    exact ow_some ⟨h2, h3, h4⟩
theorem s_Hall_begin {n : Nat} (h1 : 1 ≤ n) (h2 : n ≤ 14) (M : oz_M) : ow (f_Hall_begin (nI n) M) (fun r => r.1 = .inr () ∧ fr [0, 1, 2, 3, 53] M r.2 ∧ zA r.2 n z0 ∧ zU r.2) := by
  unfold f_Hall_begin
  rw [if_neg (nI_low h1 h2).1, if_neg (nI_low h1 h2).2]
  refine ow_b2 (s_unsettle M) (fun v M2 hu => ow_b2 (s_clear M2) (fun v M4 hc => ow_some ⟨rfl, ?_, hc.2, ?_⟩))
  · exact (hu.1.sub (by decide)).trans (hc.1.sub (by decide))
  · obtain ⟨q1, q2, q3⟩ := hu.2
    exact ⟨by rw [hc.1.at (by decide)]; exact q1, by rw [hc.1.at (by decide)]; exact q2, by rw [hc.1.at (by decide)]; exact q3⟩
theorem s_Hall_begin_no {x : Int32} (h : x < 1 ∨ 14 < x) (M : oz_M) : f_Hall_begin x M = some (.inl 2, M) := by
  unfold f_Hall_begin
  by_cases h1 : x < 1
  · rw [if_pos h1]
  · rw [if_neg h1, if_pos (h.resolve_left h1)]
theorem s_Model_begin {n : Nat} (h1 : 1 ≤ n) (h2 : n ≤ 14) (M : oz_M) : ow (f_Model_begin (nI n) M) (fun r => fr [62, 63] M r.2 ∧ zR r.2 n z0 ∧ zV r.2 ∧ r.2.1 62 0 = 0) := by
  unfold f_Model_begin
  rw [if_neg (nI_low h1 h2).1, if_neg (nI_low h1 h2).2]
  refine ow_let (ow_let ?_)
  rw [if_neg (by simp [rd_s])]
  refine ow_let (ow_bind (P := fun y => fr [62, 63] M y.2 ∧ y.2.1 62 0 = 0 ∧ y.2.1 62 1 = nI n ∧ ∀ a, a < 196 → y.2.1 63 a = 0) ?_ (fun y h => ow_b2 (s_change y.2) (fun v M2 hc => ow_some ⟨h.1.trans ?_, ⟨?_, fun a ha b hb => ?_⟩, hc.2.2.2.2, ?_⟩)))
  · refine ow_for 196 (fun k s => s.1 = nI k ∧ fr [62, 63] M s.2 ∧ s.2.1 62 0 = 0 ∧ s.2.1 62 1 = nI n ∧ ∀ a, a < k → s.2.1 63 a = 0) (fun k s hk hJ => ?_) (fun s hJ => ?_) 0 _ (by omega) ⟨rfl, (fr.refl.s (by decide)).s (by decide), by simp [rd_s], by simp [rd_s], fun a ha => by omega⟩
    · obtain ⟨q1, q2, q3, q4, q5⟩ := hJ
      rw [if_pos (by rw [q1]; exact nI_lt (b := 196) hk (by omega))]
      refine ow_bind (ow_in q1 hk (by omega)) (fun j hj => ow_let (ow_some ⟨?_, q2.s (by decide), ?_, ?_, fun a ha => ?_⟩))
      · show s.1 + 1 = _
        rw [q1]; exact nI_1 k
      · simpa [rd_s] using q3
      · simpa [rd_s] using q4
      · subst hj
        simp only [rd_s]
        by_cases e : a = j
        · rw [if_pos ⟨trivial, e⟩]; decide
        · rw [if_neg (by simp [e])]
          exact q5 a (by omega)
    · obtain ⟨q1, q2, q3, q4, q5⟩ := hJ
      rw [if_neg (by rw [q1]; exact nI_nlt (b := 196) (Nat.le_refl _) (by omega))]
      exact ow_some ⟨q2, q3, q4, q5⟩
  · intro i hi
    exact ⟨hc.1 i (fun e => hi (by rw [e]; decide)), by rw [hc.2.1]⟩
  · exact hc.2.2.2.1.trans h.2.2.1
  · rw [hc.1 63 (by decide)]
    exact h.2.2.2 _ (by omega)
  · exact hc.2.2.1.trans h.2.1
theorem s_Model_begin_no {x : Int32} (h : x < 1 ∨ 14 < x) (M : oz_M) : f_Model_begin x M = some ((), oz_s M 62 0 1) := by
  unfold f_Model_begin
  have e : (if x < 1 then (some 1 : Option Int32) else if 14 < x then some 1 else some 0) = some 1 := by
    by_cases h1 : x < 1
    · rw [if_pos h1]
    · rw [if_neg h1, if_pos (h.resolve_left h1)]
  rw [e]
  simp only [Option.bind_some]
  rw [if_pos (show 0 < (oz_s M 62 0 1).1 62 0 by rw [rd_s, if_pos ⟨rfl, rfl⟩]; decide)]
theorem el_cases (x : Int32) {n : Nat} (hn : n ≤ 14) : (∃ a, a < n ∧ x = nI a) ∨ (x < 0 ∨ ¬ x < nI n) := by
  by_cases h0 : x < 0
  · exact Or.inr (Or.inl h0)
  by_cases h1 : x < nI n
  · obtain ⟨j, hj, rfl⟩ := nI_of h0
    exact Or.inl ⟨j, (nI_ltI hj (by omega)).mp h1, rfl⟩
  · exact Or.inr (Or.inr h1)
theorem nI_mul (a b : Nat) : nI a * nI b = nI (a * b) := (Int32.ofNat_mul a b).symm
theorem nI_14 (a b : Nat) : 14 * nI a + nI b = nI (14 * a + b) := by
  rw [show (14 : Int32) = nI 14 from rfl, nI_mul, nI_add]
theorem s_want {a n : Nat} (h : a < n) (hn : n ≤ 14) (M : oz_M) : f_Hall_wantElement (nI a) (nI n) M = some (.inr (), M) := by
  unfold f_Hall_wantElement
  rw [if_neg (nI_pos (by omega)), if_pos (nI_lt h (by omega))]
theorem s_want_no {x : Int32} {n : Nat} (h : x < 0 ∨ ¬ x < nI n) (M : oz_M) : f_Hall_wantElement x (nI n) M = some (.inl 1, M) := by
  unfold f_Hall_wantElement
  by_cases h0 : x < 0
  · rw [if_pos h0]
  · rw [if_neg h0, if_neg (h.resolve_left h0)]
theorem s_add {M : oz_M} {n : Nat} {R : Nat → Nat → Bool} (hA : zA M n R) {a b : Nat} (ha : a < 14) (hb : b < 14) : ow (f_Arcs_add (nI a) (nI b) M) (fun r => r.1 = (if R a b then 0 else 1) ∧ fr [2] M r.2 ∧ zA r.2 n (zup R a b true)) := by
  unfold f_Arcs_add
  refine ow_bind (ow_in rfl ha (by omega)) (fun j hj => ?_)
  subst hj
  refine ow_bind (s_has (n := b) (by omega) M) (fun v hv => ?_)
  rw [hA.2 j ha b (by omega)] at hv
  subst hv
  refine ow_bind (P := fun z => z = (if R j b then 0 else 1)) (by cases R j b <;> exact ow_some rfl) (fun z hz => ?_)
  refine ow_bind (ow_in rfl ha (by omega)) (fun j1 hj => ?_)
  subst hj
  refine ow_bind (ow_in rfl ha (by omega)) (fun j2 hj => ?_)
  subst hj
  refine ow_let (ow_bind (ow_z (by rw [hz]; cases R j2 b <;> decide)) (fun w hw => ow_some ⟨hw.trans hz, fr.refl.s (by decide), ?_, fun c hc d hd => ?_⟩))
  · simpa [rd_s] using hA.1
  · simp only [rd_s]
    by_cases e : c = j2
    · subst e
      rw [if_pos ⟨trivial, rfl⟩, zb_or, zb_one b (by omega) d hd, hA.2 c hc d hd]
      unfold zup
      by_cases e2 : d = b
      · simp [e2]
      · simp [e2]
    · rw [if_neg (by simp [e]), hA.2 c hc d hd]
      unfold zup
      rw [if_neg (by simp [e])]
theorem s_remove {M : oz_M} {n : Nat} {R : Nat → Nat → Bool} (hA : zA M n R) {a b : Nat} (ha : a < 14) (hb : b < 14) : ow (f_Arcs_remove (nI a) (nI b) M) (fun r => r.1 = (if R a b then 1 else 0) ∧ fr [2] M r.2 ∧ zA r.2 n (zup R a b false)) := by
  unfold f_Arcs_remove
  refine ow_bind (ow_in rfl ha (by omega)) (fun j hj => ?_)
  subst hj
  refine ow_bind (s_has (n := b) (by omega) M) (fun v hv => ?_)
  rw [hA.2 j ha b (by omega)] at hv
  refine ow_bind (ow_in rfl ha (by omega)) (fun j1 hj => ?_)
  subst hj
  refine ow_bind (ow_in rfl ha (by omega)) (fun j2 hj => ?_)
  subst hj
  refine ow_let (ow_bind (ow_z (by rw [hv]; cases R j2 b <;> decide)) (fun w hw => ow_some ⟨hw.trans hv, fr.refl.s (by decide), ?_, fun c hc d hd => ?_⟩))
  · simpa [rd_s] using hA.1
  · simp only [rd_s]
    by_cases e : c = j2
    · subst e
      rw [if_pos ⟨trivial, rfl⟩, zb_and, zb_xor, zb_one b (by omega) d hd, zb_m1 d hd, hA.2 c hc d hd]
      unfold zup
      by_cases e2 : d = b
      · simp [e2]
      · simp [e2]
    · rw [if_neg (by simp [e]), hA.2 c hc d hd]
      unfold zup
      rw [if_neg (by simp [e])]
theorem zA.fr {is : List Nat} {M N : oz_M} {n : Nat} {R : Nat → Nat → Bool} (h : zA M n R) (k : fr is M N) (h1 : 1 ∉ is) (h2 : 2 ∉ is) : zA N n R := by
  refine ⟨by rw [k.at h1]; exact h.1, fun a ha b hb => ?_⟩
  rw [k.at h2]; exact h.2 a ha b hb
theorem zU.fr {is : List Nat} {M N : oz_M} (h : zU M) (k : fr is M N) (h0 : 0 ∉ is) (h1 : 3 ∉ is) (h2 : 53 ∉ is) : zU N :=
  ⟨by rw [k.at h0]; exact h.1, by rw [k.at h1]; exact h.2.1, by rw [k.at h2]; exact h.2.2⟩
theorem s_Hall_arc {M : oz_M} {n : Nat} {R : Nat → Nat → Bool} (hn : n ≤ 14) (hA : zA M n R) {a b : Nat} (ha : a < n) (hb : b < n) : ow (f_Hall_arc (nI a) (nI b) M) (fun r => r.1 = .inr (if R a b then 0 else 1) ∧ fr [0, 2, 3, 53] M r.2 ∧ zA r.2 n (zup R a b true) ∧ zU r.2) := by
  unfold f_Hall_arc
  simp only [hA.1, s_want ha hn, s_want hb hn, b2_some, el_inr]
  refine ow_b2 (s_unsettle M) (fun _ M1 hu => ow_b2 (s_add (hA.fr hu.1 (by decide) (by decide)) (by omega) (by omega)) (fun v M2 hc => ?_))
  refine ow_mono (P := fun r => r = (.inr v, M2)) ?_ (fun r hr => ?_)
  · have hv : v = (if R a b then 0 else 1) := hc.1
    rw [hv]
    cases R a b
    · exact ow_ite (fun h => absurd h (by decide)) (fun _ => ow_some rfl)
    · exact ow_ite (fun _ => ow_some rfl) (fun h => absurd rfl h)
  · subst hr
    exact ⟨congrArg Sum.inr hc.1, (hu.1.sub (by decide)).trans (hc.2.1.sub (by decide)), hc.2.2, hu.2.fr hc.2.1 (by decide) (by decide) (by decide)⟩
theorem s_Hall_drop {M : oz_M} {n : Nat} {R : Nat → Nat → Bool} (hn : n ≤ 14) (hA : zA M n R) {a b : Nat} (ha : a < n) (hb : b < n) : ow (f_Hall_drop (nI a) (nI b) M) (fun r => r.1 = .inr (if R a b then 1 else 0) ∧ fr [0, 2, 3, 53] M r.2 ∧ zA r.2 n (zup R a b false) ∧ zU r.2) := by
  unfold f_Hall_drop
  simp only [hA.1, s_want ha hn, s_want hb hn, b2_some, el_inr]
  refine ow_b2 (s_unsettle M) (fun _ M1 hu => ow_b2 (s_remove (hA.fr hu.1 (by decide) (by decide)) (by omega) (by omega)) (fun v M2 hc => ?_))
  refine ow_mono (P := fun r => r = (.inr v, M2)) ?_ (fun r hr => ?_)
  · have hv : v = (if R a b then 1 else 0) := hc.1
    rw [hv]
    cases R a b
    · exact ow_ite (fun _ => ow_some rfl) (fun h => absurd rfl h)
    · exact ow_ite (fun h => absurd h (by decide)) (fun _ => ow_some rfl)
  · subst hr
    exact ⟨congrArg Sum.inr hc.1, (hu.1.sub (by decide)).trans (hc.2.1.sub (by decide)), hc.2.2, hu.2.fr hc.2.1 (by decide) (by decide) (by decide)⟩
theorem s_Hall_arc_no {M : oz_M} {n : Nat} {R : Nat → Nat → Bool} (hn : n ≤ 14) (hA : zA M n R) {x y : Int32} (h : (x < 0 ∨ ¬ x < nI n) ∨ (y < 0 ∨ ¬ y < nI n)) : f_Hall_arc x y M = some (.inl 1, M) ∧ f_Hall_drop x y M = some (.inl 1, M) := by
  unfold f_Hall_arc f_Hall_drop
  rcases el_cases x hn with ⟨a, ha, rfl⟩ | hx
  · have hy := h.resolve_left (fun q => q.elim (nI_pos (by omega)) (fun q => q (nI_lt ha (by omega))))
    constructor <;>
    · simp only [hA.1, s_want ha hn, s_want_no hy, b2_some, el_inr, el_inl]
  · constructor <;>
    · simp only [hA.1, s_want_no hx, b2_some, el_inl]
