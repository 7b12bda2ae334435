/-! Sums and counts over 0 .. N - 1. -/
noncomputable def tb (P : Prop) : Bool := @decide P (Classical.propDecidable P)
theorem tb_iff {P : Prop} : tb P = true ↔ P := by
  unfold tb
  exact @decide_eq_true_iff P (Classical.propDecidable P)
theorem tb_no {P : Prop} : tb P = false ↔ ¬ P := by
  have h := @tb_iff P
  constructor
  · intro e hp
    rw [h.mpr hp] at e; cases e
  · intro hp
    cases e : tb P with
    | false => rfl
    | true => exact absurd (h.mp e) hp
def sm (f : Nat → Nat) : Nat → Nat
  | 0 => 0
  | N + 1 => sm f N + f N
theorem sm_le {f g : Nat → Nat} : ∀ (N : Nat), (∀ i, i < N → f i ≤ g i) → sm f N ≤ sm g N
  | 0, _ => Nat.le_refl _
  | N + 1, h => by
    have := sm_le N (fun i hi => h i (by omega))
    have := h N (by omega)
    simp only [sm]; omega
theorem sm_eq {f g : Nat → Nat} : ∀ (N : Nat), (∀ i, i < N → f i = g i) → sm f N = sm g N
  | 0, _ => rfl
  | N + 1, h => by
    have := sm_eq N (fun i hi => h i (by omega))
    have := h N (by omega)
    simp only [sm]; omega
theorem sm_add (f g : Nat → Nat) : ∀ (N : Nat), sm (fun i => f i + g i) N = sm f N + sm g N
  | 0 => rfl
  | N + 1 => by
    have := sm_add f g N
    simp only [sm]; omega
theorem sm_zero : ∀ (N : Nat), sm (fun _ => 0) N = 0
  | 0 => rfl
  | N + 1 => by simp only [sm]; rw [sm_zero N]
theorem sm_const (c : Nat) : ∀ (N : Nat), sm (fun _ => c) N = N * c
  | 0 => by simp [sm]
  | N + 1 => by simp only [sm]; rw [sm_const c N, Nat.succ_mul]
theorem sm_mul (c : Nat) (f : Nat → Nat) : ∀ (N : Nat), sm (fun i => c * f i) N = c * sm f N
  | 0 => rfl
  | N + 1 => by simp only [sm]; rw [sm_mul c f N, Nat.mul_add]
theorem sm_out (f : Nat → Nat) (p : Nat) : ∀ (N : Nat), p < N → sm f N = sm (fun i => if i = p then 0 else f i) N + f p
  | 0, h => by omega
  | N + 1, h => by
    simp only [sm]
    by_cases e : p = N
    · subst e
      have : sm f p = sm (fun i => if i = p then 0 else f i) p := sm_eq p (fun i hi => by rw [if_neg (by omega)])
      simp; omega
    · have ih := sm_out f p N (by omega)
      rw [if_neg (by omega)]; omega
theorem sm_ge (f : Nat → Nat) {p N : Nat} (h : p < N) : f p ≤ sm f N := by
  have := sm_out f p N h; omega
/-- a sum that another holds, term by term through g -/
theorem sm_inj (N' : Nat) : ∀ (N : Nat) (v w : Nat → Nat) (g : Nat → Nat), (∀ q, q < N → 0 < v q → g q < N' ∧ v q ≤ w (g q)) → (∀ q q', q < N → q' < N → 0 < v q → 0 < v q' → g q = g q' → q = q') → sm v N ≤ sm w N'
  | 0, _, _, _, _, _ => Nat.zero_le _
  | N + 1, v, w, g, h1, h2 => by
    simp only [sm]
    by_cases h0 : v N = 0
    · have := sm_inj N' N v w g (fun q hq => h1 q (by omega)) (fun q q' hq hq' => h2 q q' (by omega) (by omega))
      omega
    · obtain ⟨k1, k2⟩ := h1 N (by omega) (by omega)
      have e := sm_out w (g N) N' k1
      have := sm_inj N' N v (fun i => if i = g N then 0 else w i) g (fun q hq hv => ⟨(h1 q (by omega) hv).1, by
        show v q ≤ if g q = g N then 0 else w (g q)
        rw [if_neg (fun e2 => by have := h2 q N (by omega) (by omega) hv (by omega) e2; omega)]
        exact (h1 q (by omega) hv).2⟩) (fun q q' hq hq' => h2 q q' (by omega) (by omega))
      omega
theorem cnt_sm (P : Nat → Bool) : ∀ (N : Nat), cnt P N = sm (fun i => if P i then 1 else 0) N
  | 0 => rfl
  | N + 1 => by simp only [cnt, sm]; rw [cnt_sm P N]
theorem cnt_inj {P Q : Nat → Bool} {N N' : Nat} (g : Nat → Nat) (h1 : ∀ q, q < N → P q = true → g q < N' ∧ Q (g q) = true) (h2 : ∀ q q', q < N → q' < N → P q = true → P q' = true → g q = g q' → q = q') : cnt P N ≤ cnt Q N' := by
  rw [cnt_sm, cnt_sm]
  have pos : ∀ q, 0 < (if P q then 1 else 0 : Nat) → P q = true := fun q h => by
    cases hp : P q with
    | true => rfl
    | false => rw [hp] at h; simp at h
  refine sm_inj N' N _ _ g (fun q hq hv => ?_) (fun q q' hq hq' hv hv' e => h2 q q' hq hq' (pos q hv) (pos q' hv') e)
  obtain ⟨a, b⟩ := h1 q hq (pos q hv)
  exact ⟨a, by simp only [pos q hv, b]; exact Nat.le_refl _⟩
theorem cnt_mono {P Q : Nat → Bool} {N : Nat} (h : ∀ q, q < N → P q = true → Q q = true) : cnt P N ≤ cnt Q N :=
  cnt_inj (fun q => q) (fun q hq hp => ⟨hq, h q hq hp⟩) (fun _ _ _ _ _ _ e => e)
theorem cnt_eq {P Q : Nat → Bool} {N : Nat} (h : ∀ q, q < N → (P q = true ↔ Q q = true)) : cnt P N = cnt Q N :=
  Nat.le_antisymm (cnt_mono (fun q hq hp => (h q hq).mp hp)) (cnt_mono (fun q hq hp => (h q hq).mpr hp))
theorem cnt_all : ∀ (N : Nat), cnt (fun _ => true) N = N
  | 0 => rfl
  | N + 1 => by simp only [cnt]; rw [cnt_all N]; rfl
theorem cnt_none : ∀ (N : Nat), cnt (fun _ => false) N = 0
  | 0 => rfl
  | N + 1 => by simp only [cnt]; rw [cnt_none N]; rfl
theorem cnt_leN (P : Nat → Bool) (N : Nat) : cnt P N ≤ N := by
  have := cnt_mono (P := P) (Q := fun _ => true) (N := N) (fun _ _ _ => rfl)
  rwa [cnt_all] at this
/-- the whole falls into those that are Q and those that are not -/
theorem cnt_split (P Q : Nat → Bool) (N : Nat) : cnt P N = cnt (fun i => P i && Q i) N + cnt (fun i => P i && !Q i) N := by
  rw [cnt_sm, cnt_sm, cnt_sm, ← sm_add]
  refine sm_eq N (fun i _ => ?_)
  cases P i <;> cases Q i <;> rfl
theorem cnt_or (P Q : Nat → Bool) (N : Nat) : cnt (fun i => P i || Q i) N + cnt (fun i => P i && Q i) N = cnt P N + cnt Q N := by
  rw [cnt_sm, cnt_sm, cnt_sm, cnt_sm, ← sm_add, ← sm_add]
  refine sm_eq N (fun i _ => ?_)
  cases P i <;> cases Q i <;> rfl
theorem cnt_out {P Q : Nat → Bool} {N p : Nat} (hp : p < N) (h1 : P p = true) (h2 : ∀ q, q < N → (Q q = true ↔ P q = true ∧ q ≠ p)) : cnt P N = cnt Q N + 1 := by
  rw [cnt_sm, cnt_sm, sm_out _ p N hp]
  have e : sm (fun i => if i = p then 0 else if P i then 1 else 0) N = sm (fun i => if Q i then 1 else 0) N := sm_eq N (fun i hi => by
    have := h2 i hi
    by_cases e : i = p
    · rw [if_pos e]
      cases hq : Q i with
      | false => rfl
      | true => exact absurd e (this.mp hq).2
    · rw [if_neg e]
      cases hq : Q i with
      | true => rw [(this.mp hq).1]
      | false =>
        cases hP : P i with
        | false => rfl
        | true => rw [this.mpr ⟨hP, e⟩] at hq; cases hq)
  rw [e, h1]; rfl
theorem cnt_pos {P : Nat → Bool} {N p : Nat} (hp : p < N) (h : P p = true) : 1 ≤ cnt P N := by
  rw [cnt_sm]
  have := sm_ge (fun i => if P i then 1 else 0) hp
  simp only [h] at this
  exact this
theorem cnt_ex {P : Nat → Bool} : ∀ {N : Nat}, 1 ≤ cnt P N → ∃ p, p < N ∧ P p = true
  | 0, h => by simp [cnt] at h
  | N + 1, h => by
    cases hp : P N with
    | true => exact ⟨N, by omega, hp⟩
    | false =>
      simp only [cnt, hp] at h
      obtain ⟨p, h1, h2⟩ := cnt_ex (N := N) (by simpa using h)
      exact ⟨p, by omega, h2⟩
theorem cnt_zero {P : Nat → Bool} {N : Nat} (h : ∀ p, p < N → P p = false) : cnt P N = 0 := by
  rw [← cnt_none N]
  exact cnt_eq (fun q hq => by rw [h q hq])
