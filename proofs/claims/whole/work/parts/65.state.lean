/-! What stands while something is settled (zH), and while nothing is (zN). -/
def zsc : List Nat := [4, 5, 13, 15, 16, 17, 18, 19, 20, 21, 22, 23, 24, 25, 26, 27, 28, 29, 30, 31, 32, 33, 34, 35, 36, 37, 38, 39, 40, 41, 42, 43, 44, 56, 57, 58, 59, 60, 61, 65, 70, 71, 72, 73]
/-- only what is written anew before it is read differs -/
def zj (M N : oz_M) : Prop := (∀ i k, i ∉ zsc → ¬ (i = 62 ∧ k = 0) → N.1 i k = M.1 i k) ∧ ∀ i, i ∉ zsc → i ≠ 74 → N.2 i = M.2 i
theorem zj.refl {M : oz_M} : zj M M := ⟨fun _ _ _ _ => rfl, fun _ _ _ => rfl⟩
theorem zj.trans {M N P : oz_M} (h : zj M N) (k : zj N P) : zj M P := ⟨fun i j q r => (k.1 i j q r).trans (h.1 i j q r), fun i q r => (k.2 i q r).trans (h.2 i q r)⟩
theorem zk.zj {M N : oz_M} (h : zk M N) : zj M N := ⟨fun i k _ q => h.1 i k q, fun i _ q => h.2 i q⟩
theorem fr.zj {is : List Nat} {M N : oz_M} (h : fr is M N) (k : ∀ i, i ∈ is → i ∈ zsc) : zj M N := ⟨fun i j q _ => by rw [(h i (fun r => q (k i r))).1], fun i q _ => by rw [(h i (fun r => q (k i r))).2]⟩
def zCo (M : oz_M) (n : Nat) (R : Nat → Nat → Bool) : Prop := zG M n R ∧ zA M n R ∧ M.1 3 0 = 0 ∧ M.1 62 6 = 0 ∧ srt M n (ztb R) ∧ zLv M n (ztb R) ∧ M.1 52 0 = 0
def zKn (M : oz_M) (n : Nat) (lt : Nat → Nat → Bool) : Prop := M.1 62 10 = 0 ∨ M.1 62 10 = 1 ∧ ∀ S, S < 2 ^ n → M.1 66 S = nI (om (cmp lt) S) ∧ M.1 67 S = nI (om (apt lt) S) ∧ M.2 68 S = Int64.ofNat (wy lt n S)
def zMs (M : oz_M) (n : Nat) (lt : Nat → Nat → Bool) : Prop := M.1 45 0 = 0 ∨ M.1 45 0 = 1 ∧ (∀ k, k ≤ 14 → M.1 47 k = nI (most (apt lt) n k) ∧ M.1 48 k = nI (most (cmp lt) n k) ∧ M.1 50 k = nI (fo (fun s => decide (om (apt lt) s ≤ k)) (2 ^ n)) ∧ M.1 51 k = nI (fo (fun s => decide (om (cmp lt) s ≤ k)) (2 ^ n))) ∧ M.1 45 3 = nI (cnt (fun T => tb (anti lt T)) (2 ^ n)) ∧ M.1 45 4 = nI (cnt (fun T => tb (wide lt n (most (cmp lt) n 1) T)) (2 ^ n)) ∧ M.1 45 5 = nI (wun lt n (most (cmp lt) n 1) (2 ^ n))
noncomputable def wyc (lt : Nat → Nat → Bool) (n S : Nat) : Nat := if tb (clo lt S) = true then wy lt n S else 0
def zWc (M : oz_M) (n : Nat) (lt : Nat → Nat → Bool) : Prop := M.1 53 0 = 0 ∨ M.1 53 0 = 1 ∧ ∀ S, S < 2 ^ n → M.2 55 S = Int64.ofNat (wyc lt n S)
/-- a sequence that keeps the order -/
def zsq (n : Nat) (lt : Nat → Nat → Bool) (q : Nat → Nat) : Prop := (∀ i, i < n → q i < n) ∧ (∀ i j, i < n → j < n → q i = q j → i = j) ∧ (∀ y, y < n → ∃ i, i < n ∧ q i = y) ∧ ∀ i j, i < n → j < n → lt (q i) (q j) = true → i < j
def zSq (M : oz_M) (n : Nat) (lt : Nat → Nat → Bool) : Prop := (M.1 53 1 = 0 ∧ M.1 62 12 = 0) ∨ M.1 53 1 = 1 ∧ M.1 62 12 = 1 ∧ M.1 53 0 = 1 ∧ ∃ q, zsq n lt q ∧ ∀ i, i < n → M.1 54 i = nI (q i) ∧ M.1 69 i = nI (q i)
def zH (M : oz_M) (n : Nat) (R : Nat → Nat → Bool) : Prop := zCo M n R ∧ zKn M n (ztb R) ∧ zMs M n (ztb R) ∧ zWc M n (ztb R) ∧ zSq M n (ztb R)
def zN (M : oz_M) (n : Nat) (R : Nat → Nat → Bool) : Prop := zW n R ∧ zA M n R ∧ zR M n R ∧ M.1 0 7 = 0 ∧ M.1 53 1 = 0 ∧ M.1 62 2 = 0 ∧ M.1 62 12 = 0 ∧ M.1 52 0 = 0 ∧ ∃ r, r ≤ 14 ∧ M.1 3 0 = nI r ∧ M.1 62 6 = nI r ∧ ∀ i, i < r → M.1 4 i = M.1 65 i
theorem zG.row {M N : oz_M} {n : Nat} {R : Nat → Nat → Bool} (h : zG M n R) (k0 : N.1 0 7 = M.1 0 7) (k6 : N.1 6 0 = M.1 6 0) (k7 : N.1 7 = M.1 7) (k8 : N.1 8 = M.1 8) (k9 : N.1 9 = M.1 9) (k62 : N.1 62 2 = M.1 62 2) (k621 : N.1 62 1 = M.1 62 1) (k63 : N.1 63 = M.1 63) (k64 : N.1 64 = M.1 64) : zG N n R := by
  unfold zG zO zAb zR zLt zLb zl at h ⊢
  rw [k0, k6, k7, k8, k9, k62, k621, k63, k64]
  exact h
theorem zj.row {M N : oz_M} (h : zj M N) {i : Nat} (hi : i ∉ zsc) (h62 : i ≠ 62) : N.1 i = M.1 i := funext (fun k => h.1 i k hi (fun q => h62 q.1))
theorem zCo.zj {M N : oz_M} {n : Nat} {R : Nat → Nat → Bool} (h : zCo M n R) (k : zj M N) : zCo N n R := by
  obtain ⟨h1, h2, h3, h4, h5, h6, h7⟩ := h
  refine ⟨h1.row ?_ ?_ (k.row (by decide) (by decide)) (k.row (by decide) (by decide)) (k.row (by decide) (by decide)) ?_ ?_ (k.row (by decide) (by decide)) (k.row (by decide) (by decide)), ?_, ?_, ?_, h5.at (k.row (by decide) (by decide)), ?_, ?_⟩
  · rw [k.row (by decide) (by decide)]
  · rw [k.row (by decide) (by decide)]
  · exact k.1 62 2 (by decide) (by simp)
  · exact k.1 62 1 (by decide) (by simp)
  · unfold zA at h2 ⊢
    rw [k.row (i := 1) (by decide) (by decide), k.row (i := 2) (by decide) (by decide)]; exact h2
  · rw [k.row (by decide) (by decide)]; exact h3
  · rw [k.1 62 6 (by decide) (by simp)]; exact h4
  · unfold zLv at h6 ⊢
    rw [k.row (i := 10) (by decide) (by decide), k.row (i := 11) (by decide) (by decide)]; exact h6
  · rw [k.row (by decide) (by decide)]; exact h7
theorem zH.zj {M N : oz_M} {n : Nat} {R : Nat → Nat → Bool} (h : zH M n R) (k : zj M N) : zH N n R := by
  obtain ⟨h1, h2, h3, h4, h5⟩ := h
  refine ⟨h1.zj k, ?_, ?_, ?_, ?_⟩
  · unfold zKn at h2 ⊢
    rw [k.1 62 10 (by decide) (by simp), k.row (i := 66) (by decide) (by decide), k.row (i := 67) (by decide) (by decide), k.2 68 (by decide) (by decide)]; exact h2
  · unfold zMs at h3 ⊢
    rw [k.row (i := 45) (by decide) (by decide), k.row (i := 47) (by decide) (by decide), k.row (i := 48) (by decide) (by decide), k.row (i := 50) (by decide) (by decide), k.row (i := 51) (by decide) (by decide)]; exact h3
  · unfold zWc at h4 ⊢
    rw [k.row (i := 53) (by decide) (by decide), k.2 55 (by decide) (by decide)]; exact h4
  · unfold zSq at h5 ⊢
    rw [k.row (i := 53) (by decide) (by decide), k.row (i := 54) (by decide) (by decide), k.row (i := 69) (by decide) (by decide), k.1 62 12 (by decide) (by simp)]; exact h5
theorem zN.zk {M N : oz_M} {n : Nat} {R : Nat → Nat → Bool} (h : zN M n R) (k : zk M N) : zN N n R := by
  have r : ∀ i, i ≠ 62 → N.1 i = M.1 i := fun i hi => funext (fun j => k.1 i j (fun q => hi q.1))
  unfold zN zA zR at h ⊢
  rw [r 0 (by decide), r 1 (by decide), r 2 (by decide), r 3 (by decide), r 4 (by decide), r 52 (by decide), r 53 (by decide), r 63 (by decide), r 65 (by decide), k.1 62 1 (by simp), k.1 62 2 (by simp), k.1 62 6 (by simp), k.1 62 12 (by simp)]
  exact h
/-! the law's shapes -/
theorem law_ok {A : Option (Int32 × oz_M)} {B : oz_M → Option (Int32 × oz_M)} {v : Int32} {P Q : oz_M → Prop} (hA : ow A (fun r => r.1 = 0 ∧ r.2.2 74 0 = Int32.toInt64 v ∧ P r.2)) (hB : ∀ N, P N → N.2 74 0 = Int32.toInt64 v → ow (B N) (fun r => r.1 = v ∧ r.2.1 62 0 = 0 ∧ r.2.2 74 0 = N.2 74 0 ∧ Q r.2)) : ow (oz_b2 A fun v1 M2 => oz_b2 (B M2) fun v3 M4 => (f_Model_thrown M4).bind fun v5 => if v5 = v1 then (if v1 = 0 then ((oz_in 0 1).bind fun j6 => if (lg_cmp (M4.2 74 j6) (Int32.toInt64 v3)) = 0 then (some M4) else (none)) else (some M4)) else (none)) Q := by
  refine ow_b2 hA (fun v1 M2 h => ow_b2 (hB M2 h.2.2 h.2.1) (fun v3 M4 g => ?_))
  obtain ⟨h1, h2, _⟩ := h
  obtain ⟨g1, g2, g3, g4⟩ := g
  dsimp only at h1 h2 g1 g2 g3 g4
  unfold f_Model_thrown
  refine ow_let ?_
  rw [g2, h1, if_pos rfl, if_pos rfl, zin01]
  refine ow_let ?_
  rw [g3, h2, g1, cmp_self, if_pos rfl]
  exact ow_some g4
theorem law_thr {A : Option (Int32 × oz_M)} {B : oz_M → Option (Int32 × oz_M)} {k : Int32} (hk : k ≠ 0) {P Q : oz_M → Prop} (hA : ow A (fun r => r.1 = k ∧ P r.2)) (hB : ∀ N, P N → ow (B N) (fun r => r.2.1 62 0 = k ∧ Q r.2)) : ow (oz_b2 A fun v1 M2 => oz_b2 (B M2) fun v3 M4 => (f_Model_thrown M4).bind fun v5 => if v5 = v1 then (if v1 = 0 then ((oz_in 0 1).bind fun j6 => if (lg_cmp (M4.2 74 j6) (Int32.toInt64 v3)) = 0 then (some M4) else (none)) else (some M4)) else (none)) Q := by
  refine ow_b2 hA (fun v1 M2 h => ow_b2 (hB M2 h.2) (fun v3 M4 g => ?_))
  have h1 := h.1
  have g1 := g.1
  dsimp only at h1 g1
  unfold f_Model_thrown
  refine ow_let ?_
  rw [g1, h1, if_pos rfl, if_neg hk]
  exact ow_some g.2
