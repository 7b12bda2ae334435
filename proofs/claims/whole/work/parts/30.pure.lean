/-! The pure side. ow o Q: the program o ends, and what it ends with is as Q says. -/
def ow {X : Type} (o : Option X) (Q : X → Prop) : Prop := ∃ x, o = some x ∧ Q x
theorem ow_some {X : Type} {x : X} {Q : X → Prop} (h : Q x) : ow (some x) Q := ⟨x, rfl, h⟩
theorem ow_mono {X : Type} {o : Option X} {P Q : X → Prop} (h : ow o P) (k : ∀ x, P x → Q x) : ow o Q := by
  obtain ⟨x, h1, h2⟩ := h
  exact ⟨x, h1, k x h2⟩
theorem ow_bind {X Y : Type} {a : Option X} {f : X → Option Y} {P : X → Prop} {Q : Y → Prop} (h : ow a P) (k : ∀ x, P x → ow (f x) Q) : ow (a.bind f) Q := by
  obtain ⟨x, rfl, h2⟩ := h
  exact k x h2
theorem ow_let {X Y : Type} {x : X} {f : X → Option Y} {Q : Y → Prop} (h : ow (f x) Q) : ow ((some x).bind f) Q := h
theorem ow_b2 {V Y : Type} {a : Option (V × oz_M)} {f : V → oz_M → Option Y} {P : V × oz_M → Prop} {Q : Y → Prop} (h : ow a P) (k : ∀ v M, P (v, M) → ow (f v M) Q) : ow (oz_b2 a f) Q := by
  obtain ⟨⟨v, M⟩, rfl, h2⟩ := h
  exact k v M h2
theorem ow_ite {X : Type} {c : Prop} {dc : Decidable c} {a b : Option X} {Q : X → Prop} (h1 : c → ow a Q) (h2 : ¬ c → ow b Q) : ow (if c then a else b) Q := by
  by_cases h : c
  · rw [if_pos h]; exact h1 h
  · rw [if_neg h]; exact h2 h
theorem ow_in {x : Int32} {n k : Nat} (hx : x = nI k) (hk : k < n) (hn : n < 2 ^ 31) : ow (oz_in x n) (fun j => j = k) := by
  subst hx
  exact ⟨k, oz_in_nI hk hn, rfl⟩
theorem ow_z {v : Int32} (h : v = 0 ∨ v = 1) : ow (oz_z v) (fun w => w = v) := ⟨v, by unfold oz_z; rw [if_pos h], rfl⟩
/-- a loop of at most n rounds; J k: before the k-th -/
theorem ow_for {S Y : Type} {f : S → Option (S ⊕ Y)} {Q : Y → Prop} (n : Nat) (J : Nat → S → Prop) (hb : ∀ k s, k < n → J k s → ow (f s) (oz_el (J (k + 1)) Q)) (he : ∀ s, J n s → ow (f s) (oz_el (fun _ => False) Q)) : ∀ (k : Nat) (s : S), k ≤ n → J k s → ow (oz_lp f s) Q := by
  have key : ∀ (d k : Nat) (s : S), k + d = n → J k s → ow (oz_lp f s) Q := by
    intro d
    induction d with
    | zero =>
      intro k s h hJ
      have e : k = n := by omega
      subst e
      obtain ⟨x, h1, h2⟩ := he s hJ
      rw [oz_lp_eq, h1]
      cases x with
      | inl s' => exact h2.elim
      | inr y => exact ⟨y, rfl, h2⟩
    | succ d ih =>
      intro k s h hJ
      obtain ⟨x, h1, h2⟩ := hb k s (by omega) hJ
      rw [oz_lp_eq, h1]
      cases x with
      | inl s' => exact ih (k + 1) s' (by omega) h2
      | inr y => exact ⟨y, rfl, h2⟩
  exact fun k s h hJ => key (n - k) k s (by omega) hJ
/-- a loop by a measure -/
theorem ow_while {S Y : Type} {f : S → Option (S ⊕ Y)} {Q : Y → Prop} (μ : S → Nat) (J : S → Prop) (h : ∀ s, J s → ow (f s) (oz_el (fun s' => J s' ∧ μ s' < μ s) Q)) : ∀ s, J s → ow (oz_lp f s) Q := by
  have key : ∀ (d : Nat) (s : S), μ s < d → J s → ow (oz_lp f s) Q := by
    intro d
    induction d with
    | zero => intro s h; omega
    | succ d ih =>
      intro s hd hJ
      obtain ⟨x, h1, h2⟩ := h s hJ
      rw [oz_lp_eq, h1]
      cases x with
      | inl s' => exact ih s' (by have := h2.2; omega) h2.1
      | inr y => exact ⟨y, rfl, h2⟩
  exact fun s hJ => key (μ s + 1) s (by omega) hJ
/-! memory -/
theorem rd_s (M : oz_M) (i k : Nat) (v : Int32) (j l : Nat) : (oz_s M i k v).1 j l = if j = i ∧ l = k then v else M.1 j l := by
  unfold oz_s upd
  by_cases h : j = i
  · subst h
    by_cases h2 : l = k <;> simp [h2]
  · simp [h]
theorem rd_sl (M : oz_M) (i k : Nat) (v : Int32) : (oz_s M i k v).2 = M.2 := rfl
theorem rd_l (M : oz_M) (i k : Nat) (v : Int64) : (oz_l M i k v).1 = M.1 := rfl
theorem rd_ll (M : oz_M) (i k : Nat) (v : Int64) (j l : Nat) : (oz_l M i k v).2 j l = if j = i ∧ l = k then v else M.2 j l := by
  unfold oz_l vp_updL
  by_cases h : j = i
  · subst h
    by_cases h2 : l = k <;> simp [h2]
  · simp [h]
/-- only the rows of is differ -/
def fr (is : List Nat) (M N : oz_M) : Prop := ∀ i, i ∉ is → N.1 i = M.1 i ∧ N.2 i = M.2 i
theorem fr.refl {is : List Nat} {M : oz_M} : fr is M M := fun _ _ => ⟨rfl, rfl⟩
theorem fr.trans {is : List Nat} {M N P : oz_M} (h : fr is M N) (k : fr is N P) : fr is M P := fun i hi => ⟨(k i hi).1.trans (h i hi).1, (k i hi).2.trans (h i hi).2⟩
theorem fr.sub {is js : List Nat} {M N : oz_M} (h : fr is M N) (k : ∀ i, i ∈ is → i ∈ js) : fr js M N := fun i hi => h i (fun q => hi (k i q))
theorem fr.s {is : List Nat} {M N : oz_M} (h : fr is M N) {i k : Nat} {v : Int32} (hi : i ∈ is) : fr is M (oz_s N i k v) := h.trans fun j hj => oz_s_o j (fun q => hj (q ▸ hi))
theorem fr.l {is : List Nat} {M N : oz_M} (h : fr is M N) {i k : Nat} {v : Int64} (hi : i ∈ is) : fr is M (oz_l N i k v) := h.trans fun j hj => oz_l_o j (fun q => hj (q ▸ hi))
theorem fr.at {is : List Nat} {M N : oz_M} (h : fr is M N) {i k : Nat} (hi : i ∉ is) : N.1 i k = M.1 i k := by rw [(h i hi).1]
theorem fr.atl {is : List Nat} {M N : oz_M} (h : fr is M N) {i k : Nat} (hi : i ∉ is) : N.2 i k = M.2 i k := by rw [(h i hi).2]
/-! bits -/
def zb (x : Int32) (i : Nat) : Bool := x.toBitVec.getLsbD i
theorem zb_ext {x y : Int32} (h : ∀ i, i < 32 → zb x i = zb y i) : x = y := Int32.toBitVec_inj.mp (BitVec.eq_of_getLsbD_eq (fun i hi => h i hi))
theorem zb_or (x y : Int32) (i : Nat) : zb (x ||| y) i = (zb x i || zb y i) := by
  unfold zb
  rw [Int32.toBitVec_or, BitVec.getLsbD_or]
theorem zb_and (x y : Int32) (i : Nat) : zb (x &&& y) i = (zb x i && zb y i) := by
  unfold zb
  rw [Int32.toBitVec_and, BitVec.getLsbD_and]
theorem zb_xor (x y : Int32) (i : Nat) : zb (x ^^^ y) i = (zb x i ^^ zb y i) := by
  unfold zb
  rw [Int32.toBitVec_xor, BitVec.getLsbD_xor]
theorem zb_0 (i : Nat) : zb 0 i = false := BitVec.getLsbD_zero
theorem zb_m1 : ∀ i, i < 32 → zb (-1) i = true := by decide +kernel
theorem zb_one : ∀ k, k < 32 → ∀ i, i < 32 → zb (1 <<< (nI k &&& 31)) i = decide (i = k) := by decide +kernel
theorem zb_1 : ∀ i, i < 32 → zb 1 i = decide (i = 0) := by decide +kernel
theorem zb_mod : ∀ n, n < 32 → ((nI n &&& 31).toBitVec.smod 32).toNat = n := by decide +kernel
theorem zb_shr0 {n : Nat} (hn : n < 32) (x : Int32) : zb (x >>> (nI n &&& 31)) 0 = zb x n := by
  unfold zb
  rw [Int32.toBitVec_shiftRight]
  show (x.toBitVec.sshiftRight ((nI n &&& 31).toBitVec.smod 32).toNat).getLsbD 0 = _
  rw [zb_mod n hn, BitVec.getLsbD_sshiftRight]
  simp [hn]
/-- the class's and the reference's 'has' -/
theorem zb_has {n : Nat} (hn : n < 32) (x : Int32) : (x >>> (nI n &&& 31)) &&& 1 = if zb x n then 1 else 0 := by
  apply zb_ext
  intro i hi
  rw [zb_and, zb_1 i hi]
  by_cases h : i = 0
  · subst h
    rw [zb_shr0 hn]
    cases zb x n <;> decide
  · have e : zb (if zb x n then (1 : Int32) else 0) i = false := by
      cases zb x n
      · exact zb_0 i
      · rw [if_pos rfl, zb_1 i hi]; simp [h]
    rw [e]; simp [h]
theorem s_has {x : Int32} {n : Nat} (hn : n < 32) (M : oz_M) : ow (f_Hall_has x (nI n) M) (fun v => v = if zb x n then 1 else 0) := by
  unfold f_Hall_has
  rw [zb_has hn]
  cases zb x n
  · exact ow_ite (fun _ => ow_mono (ow_z (Or.inl rfl)) (fun _ h => h)) (fun h => absurd rfl h)
  · exact ow_ite (fun h => absurd h (by decide)) (fun _ => ow_mono (ow_z (Or.inr rfl)) (fun _ h => h))
