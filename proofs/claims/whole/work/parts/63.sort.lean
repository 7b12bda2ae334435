/-! sort: each element behind all that are less. -/
def en (d : Nat → Nat) (n k x : Nat) : Nat := cnt (fun z => decide (d z < k ∨ d z = k ∧ z < x)) n
theorem en_step {d : Nat → Nat} {n k x : Nat} (hx : x < n) : en d n k (x + 1) = en d n k x + if d x = k then 1 else 0 := by
  unfold en
  by_cases h : d x = k
  · rw [if_pos h]
    refine cnt_out hx (by simp [h]) (fun q hq => ?_)
    simp only [decide_eq_true_eq]
    constructor
    · rintro (a | ⟨a, b⟩)
      · exact ⟨Or.inl a, fun e => by rw [e] at a; omega⟩
      · exact ⟨Or.inr ⟨a, by omega⟩, by omega⟩
    · rintro ⟨a | ⟨a, b⟩, c⟩
      · exact Or.inl a
      · exact Or.inr ⟨a, by omega⟩
  · rw [if_neg h, Nat.add_zero]
    refine cnt_eq (fun q hq => ?_)
    simp only [decide_eq_true_eq]
    constructor
    · rintro (a | ⟨a, b⟩)
      · exact Or.inl a
      · exact Or.inr ⟨a, by have : q ≠ x := fun e => h (e ▸ a); omega⟩
    · rintro (a | ⟨a, b⟩)
      · exact Or.inl a
      · exact Or.inr ⟨a, by omega⟩
theorem en_next {d : Nat → Nat} {n k : Nat} : en d n (k + 1) 0 = en d n k n := cnt_eq (fun q hq => by
  simp only [decide_eq_true_eq]
  omega)
theorem en_0 {d : Nat → Nat} {n : Nat} : en d n 0 0 = 0 := cnt_zero (fun p _ => by simp)
theorem en_n {d : Nat → Nat} {n : Nat} (hd : ∀ x, x < n → d x < n) : en d n n 0 = n := by
  unfold en
  rw [cnt_eq (Q := fun _ => true) (fun q hq => by simp [hd q hq]), cnt_all]
theorem en_le {d : Nat → Nat} {n k x : Nat} : en d n k x ≤ n := cnt_leN _ _
def ps (d : Nat → Nat) (n y : Nat) : Nat := en d n (d y) y
theorem ps_lt {d : Nat → Nat} {n y : Nat} (hy : y < n) : ps d n y < n := by
  have h1 := en_step (d := d) (k := d y) hy
  rw [if_pos rfl] at h1
  have h2 := en_le (d := d) (n := n) (k := d y) (x := y + 1)
  unfold ps; omega
theorem ps_mono {d : Nat → Nat} {n y z : Nat} (hz : z < n) (h : d z < d y) : ps d n z < ps d n y := by
  unfold ps en
  refine cnt_lt (j := z) (fun q hq => ?_) (by simp) (by simp [h]) n hz
  simp only [decide_eq_true_eq] at hq ⊢
  omega
/-- the row sorted -/
def srt (M : oz_M) (n : Nat) (lt : Nat → Nat → Bool) : Prop := ∃ p : Nat → Nat, (∀ y, y < n → p y < n ∧ M.1 12 (p y) = nI y) ∧ (∀ i, i < n → ∃ y, y < n ∧ p y = i ∧ M.1 12 i = nI y) ∧ ∀ z y, lt z y = true → p z < p y
theorem srt.at {M N : oz_M} {n : Nat} {lt : Nat → Nat → Bool} (h : srt M n lt) (k : N.1 12 = M.1 12) : srt N n lt := by
  unfold srt; rw [k]; exact h
theorem blw_sz {lt : Nat → Nat → Bool} {n x y : Nat} (ho : ord n lt) (hn : n ≤ 14) (h : lt x y = true) : sz (blw lt n x) < sz (blw lt n y) := by
  unfold sz
  refine cnt_lt (j := x) (fun i hi => ?_) (by rw [blw_bit ho, ho.1]) (by rw [blw_bit ho]; exact h) 14 (by have := (ho.2.2 x y h).1; omega)
  rw [blw_bit ho] at hi ⊢
  exact ho.2.1 i x y hi h
theorem blw_szn {lt : Nat → Nat → Bool} {n x : Nat} (ho : ord n lt) (hn : n ≤ 14) (hx : x < n) : sz (blw lt n x) < n := by
  rw [sz_n blw_lt hn]
  have := cnt_lt (p := (blw lt n x).testBit) (q := fun _ => true) (j := x) (fun _ _ => rfl) (by rw [blw_bit ho, ho.1]) rfl n hx
  rwa [cnt_all] at this
theorem s_sort {M : oz_M} {n : Nat} {lt : Nat → Nat → Bool} (ho : ord n lt) (hn : n ≤ 14) (h6 : M.1 6 0 = nI n) (h7 : ∀ x, x < n → M.1 7 x = nI (blw lt n x)) : ow (f_Order_sort M) (fun r => fr [12] M r.2 ∧ srt r.2 n lt) := by
  have hd : ∀ x, x < n → sz (blw lt n x) < n := fun x hx => blw_szn ho hn hx
  unfold f_Order_sort
  let d : Nat → Nat := fun x => sz (blw lt n x)
  let I : Nat → Nat → Int32 → oz_M → Prop := fun k x e N => fr [12] M N ∧ e = nI (en d n k x) ∧ (∀ y, y < n → (d y < k ∨ d y = k ∧ y < x) → N.1 12 (ps d n y) = nI y) ∧ ∀ i, i < en d n k x → ∃ y, y < n ∧ ps d n y = i ∧ N.1 12 i = nI y
  refine ow_bind (P := fun y => I n 0 y.1 y.2.2) ?_ (fun y hy => ow_some ⟨hy.1, ps d n, fun y2 hy2 => ⟨ps_lt hy2, hy.2.2.1 y2 hy2 (Or.inl (hd y2 hy2))⟩, fun i hi => hy.2.2.2 i (by rw [en_n hd]; exact hi), fun z y h => ps_mono (ho.2.2 z y h).1 (blw_sz ho hn h)⟩)
  refine ow_for n (fun k s => s.2.1 = nI k ∧ I k 0 s.1 s.2.2) (fun k s hk hJ => ?_) (fun s hJ => ?_) 0 _ (by omega) ⟨rfl, fr.refl, (by rw [en_0]; rfl), fun y hy h => (by omega), fun i hi => (by rw [en_0] at hi; omega)⟩
  · obtain ⟨q1, q2⟩ := hJ
    have q6 : s.2.2.1 6 0 = nI n := by rw [q2.1.at (by decide)]; exact h6
    rw [q1, q6, if_pos (nI_lt hk (by omega))]
    refine ow_bind (P := fun y => I k n y.1 y.2.2) ?_ (fun y hy => ow_some ⟨nI_1 k, hy.1, by rw [en_next]; exact hy.2.1, fun z hz h => hy.2.2.1 z hz (by omega), fun i hi => hy.2.2.2 i (by rw [← en_next]; exact hi)⟩)
    refine ow_for n (fun x t => t.2.1 = nI x ∧ I k x t.1 t.2.2) (fun x t hx hJ => ?_) (fun t hJ => ?_) 0 _ (by omega) ⟨rfl, q2⟩
    · obtain ⟨g1, g2, g3, g4, g5⟩ := hJ
      have t6 : t.2.2.1 6 0 = nI n := by rw [g2.at (by decide)]; exact h6
      have t7 : t.2.2.1 7 x = nI (blw lt n x) := by rw [g2.at (by decide)]; exact h7 x hx
      rw [g1, t6, if_pos (nI_lt hx (by omega))]
      refine ow_bind (ow_in rfl (show x < 14 by omega) (by omega)) (fun j hj => ?_)
      subst hj
      rw [t7, s_bitCount, nI_bc (lt14 hn blw_lt)]
      refine ow_let (ow_ite (fun e => ?_) (fun e => ?_))
      · have e' : d j = k := (nI_eq (Nat.lt_trans (hd j hx) (by omega)) (by omega)).mp e
        have hlt : en d n k j < n := by
          have := en_step (d := d) (k := k) hx
          rw [if_pos e'] at this
          have := en_le (d := d) (n := n) (k := k) (x := j + 1)
          omega
        rw [g3]
        refine ow_bind (ow_in rfl (show en d n k j < 14 by omega) (by omega)) (fun i hi => ow_let (ow_some ⟨nI_1 j, g2.s (by decide), ?_, fun y hy h => ?_, fun i' hi' => ?_⟩))
        · rw [en_step hx, if_pos e']; exact nI_1 _
        · subst hi
          simp only [rd_s]
          by_cases ey : y = j
          · subst ey
            rw [if_pos ⟨trivial, by unfold ps; rw [e']⟩]
          · have := g4 y hy (by omega)
            by_cases ep : ps d n y = en d n k j
            · exfalso
              have hlt2 : ps d n y < en d n k j := by
                unfold ps en
                refine cnt_lt (j := y) (fun q hq => ?_) (by simp) ?_ n hy
                · simp only [decide_eq_true_eq] at hq ⊢
                  omega
                · simp only [decide_eq_true_eq]; omega
              omega
            · rw [if_neg (by simp [ep])]; exact this
        · subst hi
          simp only [rd_s]
          rw [en_step hx, if_pos e'] at hi'
          by_cases ei : i' = en d n k j
          · exact ⟨j, hx, by rw [ei]; unfold ps; rw [e'], by rw [if_pos ⟨trivial, ei⟩]⟩
          · obtain ⟨y, h1, h2, h3⟩ := g5 i' (by omega)
            exact ⟨y, h1, h2, by rw [if_neg (by simp [ei])]; exact h3⟩
      · have e' : ¬ d j = k := fun q => e (by rw [← q])
        refine ow_some ⟨nI_1 j, g2, ?_, fun y hy h => g4 y hy ?_, fun i hi => g5 i ?_⟩
        · rw [en_step hx, if_neg e']; exact g3
        · have : y = j → d y ≠ k := fun q => q ▸ e'
          omega
        · rw [en_step hx, if_neg e'] at hi; exact hi
    · obtain ⟨g1, g2⟩ := hJ
      have t6 : t.2.2.1 6 0 = nI n := by rw [g2.1.at (by decide)]; exact h6
      rw [g1, t6, if_neg (nI_nlt (Nat.le_refl _) (by omega))]
      exact ow_some g2
  · obtain ⟨q1, q2⟩ := hJ
    have q6 : s.2.2.1 6 0 = nI n := by rw [q2.1.at (by decide)]; exact h6
    rw [q1, q6, if_neg (nI_nlt (Nat.le_refl _) (by omega))]
    exact ow_some q2
