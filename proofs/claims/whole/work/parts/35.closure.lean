/-! The reference's closure. -/
/-- the least transitive relation that holds R -/
def zT (R : Nat → Nat → Bool) (a b : Nat) : Prop := ∀ S : Nat → Nat → Prop, (∀ x y, R x y = true → S x y) → (∀ x y z, S x y → S y z → S x z) → S a b
theorem zT.one {R : Nat → Nat → Bool} {a b : Nat} (h : R a b = true) : zT R a b := fun _ h1 _ => h1 a b h
theorem zT.trans {R : Nat → Nat → Bool} {a b c : Nat} (h : zT R a b) (k : zT R b c) : zT R a c := fun S h1 h2 => h2 a b c (h S h1 h2) (k S h1 h2)
def cnt (p : Nat → Bool) : Nat → Nat
  | 0 => 0
  | N + 1 => cnt p N + if p N then 1 else 0
theorem cnt_le {p q : Nat → Bool} (h : ∀ j, p j = true → q j = true) : ∀ N, cnt p N ≤ cnt q N
  | 0 => Nat.le_refl _
  | N + 1 => by
    have ih := cnt_le h N
    have h1 := h N
    simp only [cnt]
    cases hp : p N with
    | false => simp; omega
    | true => rw [h1 hp]; simp; omega
theorem cnt_lt {p q : Nat → Bool} (h : ∀ j, p j = true → q j = true) {j : Nat} (hp : p j = false) (hq : q j = true) : ∀ N, j < N → cnt p N < cnt q N
  | 0, hj => by omega
  | N + 1, hj => by
    simp only [cnt]
    by_cases e : j = N
    · subst e
      have := cnt_le h j
      rw [hp, hq]; simp; omega
    · have ih := cnt_lt h hp hq N (by omega)
      have h1 := h N
      cases hpN : p N with
      | false => simp; omega
      | true => rw [h1 hpN]; simp; omega
/-- less holds truth values -/
def zLb (M : oz_M) : Prop := ∀ j, j < 196 → M.1 64 j = 0 ∨ M.1 64 j = 1
def zl (M : oz_M) (a b : Nat) : Prop := M.1 64 (14 * a + b) = 1
theorem s_isLess {M : oz_M} (h : zLb M) {a b : Nat} (ha : a < 14) (hb : b < 14) : f_Model_isLess (nI a) (nI b) M = some (M.1 64 (14 * a + b)) := by
  unfold f_Model_isLess
  rw [nI_14, oz_in_nI (by omega) (by omega)]
  simp only [Option.bind_some]
  unfold oz_z
  rw [if_pos (h _ (by omega))]
theorem s_copy {M : oz_M} {n : Nat} {R : Nat → Nat → Bool} (hR : zR M n R) : ow (oz_lp (fun (s4 : Int32 × oz_M) => (if s4.1 < 196 then ((oz_in s4.1 196).bind fun j5 => (oz_in s4.1 196).bind fun j6 => (some (oz_s s4.2 64 j6 (vp_nar .boolean (s4.2.1 63 j5)))).bind fun M7 => some (.inl (s4.1 + 1, M7))) else (some (.inr (s4.1, s4.2))) : Option ((Int32 × oz_M) ⊕ (Int32 × oz_M)))) (0, M)) (fun y => fr [64] M y.2 ∧ ∀ a, a < 14 → ∀ b, b < 14 → y.2.1 64 (14 * a + b) = if R a b then 1 else 0) := by
  have hb : ∀ j, j < 196 → ∃ v : Bool, M.1 63 j = if v then 1 else 0 := fun j hj => ⟨R (j / 14) (j % 14), by
    have := hR.2 (j / 14) (by omega) (j % 14) (by omega)
    rwa [show 14 * (j / 14) + j % 14 = j by omega] at this⟩
  refine ow_for 196 (fun k s => s.1 = nI k ∧ fr [64] M s.2 ∧ ∀ j, j < k → s.2.1 64 j = M.1 63 j) (fun k s hk hJ => ?_) (fun s hJ => ?_) 0 _ (by omega) ⟨rfl, fr.refl, fun j hj => by omega⟩
  · obtain ⟨q1, q2, q3⟩ := hJ
    rw [if_pos (by rw [q1]; exact nI_lt (b := 196) hk (by omega))]
    refine ow_bind (ow_in q1 hk (by omega)) (fun j hj => ow_bind (ow_in q1 hk (by omega)) (fun j2 hj2 => ow_let (ow_some ⟨?_, q2.s (by decide), fun i hi => ?_⟩)))
    · show s.1 + 1 = _
      rw [q1]; exact nI_1 k
    · subst hj
      subst hj2
      simp only [rd_s]
      by_cases e : i = j2
      · rw [if_pos ⟨trivial, e⟩, q2.at (by decide), e]
        obtain ⟨v, hv⟩ := hb j2 hk
        rw [hv]
        cases v <;> decide
      · rw [if_neg (by simp [e])]
        exact q3 i (by omega)
  · obtain ⟨q1, q2, q3⟩ := hJ
    rw [if_neg (by rw [q1]; exact nI_nlt (b := 196) (Nat.le_refl _) (by omega))]
    exact ow_some ⟨q2, fun a ha b hb => by rw [q3 _ (by omega)]; exact hR.2 a ha b hb⟩
/-- in a round of the closure that began at M0 -/
def zC (R : Nat → Nat → Bool) (M0 : oz_M) (m : Int32) (M : oz_M) : Prop := fr [64] M0 M ∧ zLb M ∧ (∀ j, M0.1 64 j = 1 → M.1 64 j = 1) ∧ (∀ a b, a < 14 → b < 14 → zl M a b → zT R a b) ∧ (m = 0 ∧ M.1 64 = M0.1 64 ∨ m = 1 ∧ ∃ j, j < 196 ∧ M0.1 64 j = 0 ∧ M.1 64 j = 1)
def zcl (M0 : oz_M) (a b c : Nat) : Prop := zl M0 a b → zl M0 b c → zl M0 a c
theorem s_round {M0 : oz_M} {n : Nat} {R : Nat → Nat → Bool} (hn : n ≤ 14) (h62 : M0.1 62 1 = nI n) (hb : zLb M0) (hT : ∀ a b, a < 14 → b < 14 → zl M0 a b → zT R a b) : ow (oz_lp (fun (s11 : Int32 × Int32 × oz_M) => (if s11.2.1 < (s11.2.2.1 62 1) then ((oz_lp (fun (s12 : Int32 × Int32 × oz_M) => (if s12.2.1 < (s12.2.2.1 62 1) then ((oz_lp (fun (s13 : Int32 × Int32 × oz_M) => (if s13.2.1 < (s13.2.2.1 62 1) then ((f_Model_isLess s11.2.1 s12.2.1 s13.2.2).bind fun v14 => if v14 = 0 then (some (.inl (s13.1, s13.2.1 + 1, s13.2.2))) else ((f_Model_isLess s12.2.1 s13.2.1 s13.2.2).bind fun v15 => if v15 = 0 then (some (.inl (s13.1, s13.2.1 + 1, s13.2.2))) else ((f_Model_isLess s11.2.1 s13.2.1 s13.2.2).bind fun v16 => if v16 = 0 then ((oz_in ((14 * s11.2.1) + s13.2.1) 196).bind fun j17 => (some (oz_s s13.2.2 64 j17 (vp_nar .boolean 1))).bind fun M18 => some (.inl (1, s13.2.1 + 1, M18))) else (some (.inl (s13.1, s13.2.1 + 1, s13.2.2)))))) else (some (.inr (s13.1, s13.2.1, s13.2.2))) : Option ((Int32 × Int32 × oz_M) ⊕ (Int32 × Int32 × oz_M)))) (s12.1, 0, s12.2.2)).bind fun (y23 : Int32 × Int32 × oz_M) => some (.inl (y23.1, s12.2.1 + 1, y23.2.2))) else (some (.inr (s12.1, s12.2.1, s12.2.2))) : Option ((Int32 × Int32 × oz_M) ⊕ (Int32 × Int32 × oz_M)))) (s11.1, 0, s11.2.2)).bind fun (y25 : Int32 × Int32 × oz_M) => some (.inl (y25.1, s11.2.1 + 1, y25.2.2))) else (some (.inr (s11.1, s11.2.1, s11.2.2))) : Option ((Int32 × Int32 × oz_M) ⊕ (Int32 × Int32 × oz_M)))) (0, 0, M0))
    (fun y => zC R M0 y.1 y.2.2 ∧ (y.1 = 0 → ∀ a, a < n → ∀ b, b < n → ∀ c, c < n → zcl M0 a b c)) := by
  have hlt : ∀ {k : Nat} {M : oz_M} {m : Int32}, zC R M0 m M → (nI k < M.1 62 1 ↔ k < n) ∨ ¬ k < 2 ^ 31 := by
    intro k M m h
    by_cases hk : k < 2 ^ 31
    · rw [h.1.at (by decide), h62]
      exact Or.inl (nI_ltI hk (by omega))
    · exact Or.inr hk
  have hlt1 : ∀ {k : Nat} {M : oz_M} {m : Int32}, zC R M0 m M → k < n → nI k < M.1 62 1 := fun h hk => ((hlt h).resolve_right (by omega)).mpr hk
  have hlt2 : ∀ {M : oz_M} {m : Int32}, zC R M0 m M → ¬ nI n < M.1 62 1 := fun h q => Nat.lt_irrefl n (((hlt h).resolve_right (by omega)).mp q)
  refine ow_for n (fun ka s => s.2.1 = nI ka ∧ zC R M0 s.1 s.2.2 ∧ (s.1 = 0 → ∀ a, a < ka → ∀ b, b < n → ∀ c, c < n → zcl M0 a b c)) (fun ka sa hka hJ => ?_) (fun s hJ => ?_) 0 _ (by omega) ⟨rfl, ⟨fr.refl, hb, fun _ h => h, hT, Or.inl ⟨rfl, rfl⟩⟩, fun _ a ha => by omega⟩
  · obtain ⟨qa1, qa2, qa3⟩ := hJ
    rw [qa1, if_pos (hlt1 qa2 hka)]
    refine ow_bind (P := fun y => zC R M0 y.1 y.2.2 ∧ (y.1 = 0 → (∀ a, a < ka → ∀ b, b < n → ∀ c, c < n → zcl M0 a b c) ∧ ∀ b, b < n → ∀ c, c < n → zcl M0 ka b c)) ?_ (fun y hy => ow_some ⟨nI_1 ka, hy.1, fun h a ha b hb c hc => ?_⟩)
    · refine ow_for n (fun kb s => s.2.1 = nI kb ∧ zC R M0 s.1 s.2.2 ∧ (s.1 = 0 → (∀ a, a < ka → ∀ b, b < n → ∀ c, c < n → zcl M0 a b c) ∧ ∀ b, b < kb → ∀ c, c < n → zcl M0 ka b c)) (fun kb sb hkb hJ => ?_) (fun s hJ => ?_) 0 _ (by omega) ⟨rfl, qa2, fun h => ⟨qa3 h, fun b hb => by omega⟩⟩
      · obtain ⟨qb1, qb2, qb3⟩ := hJ
        rw [qb1, if_pos (hlt1 qb2 hkb)]
        refine ow_bind (P := fun y => zC R M0 y.1 y.2.2 ∧ (y.1 = 0 → ((∀ a, a < ka → ∀ b, b < n → ∀ c, c < n → zcl M0 a b c) ∧ ∀ b, b < kb → ∀ c, c < n → zcl M0 ka b c) ∧ ∀ c, c < n → zcl M0 ka kb c)) ?_ (fun y hy => ow_some ⟨nI_1 kb, hy.1, fun h => ⟨(hy.2 h).1.1, fun b hb c hc => ?_⟩⟩)
        · refine ow_for n (fun kc s => s.2.1 = nI kc ∧ zC R M0 s.1 s.2.2 ∧ (s.1 = 0 → ((∀ a, a < ka → ∀ b, b < n → ∀ c, c < n → zcl M0 a b c) ∧ ∀ b, b < kb → ∀ c, c < n → zcl M0 ka b c) ∧ ∀ c, c < kc → zcl M0 ka kb c)) (fun kc sc hkc hJ => ?_) (fun s hJ => ?_) 0 _ (by omega) ⟨rfl, qb2, fun h => ⟨qb3 h, fun c hc => by omega⟩⟩
          · obtain ⟨qc1, qc2, qc3⟩ := hJ
            obtain ⟨z1, z2, z3, z4, z5⟩ := qc2
            -- going on as it is
            have stay : (sc.1 = 0 → zcl M0 ka kb kc) → oz_el (fun s : Int32 × Int32 × oz_M => s.2.1 = nI (kc + 1) ∧ zC R M0 s.1 s.2.2 ∧ (s.1 = 0 → ((∀ a, a < ka → ∀ b, b < n → ∀ c, c < n → zcl M0 a b c) ∧ ∀ b, b < kb → ∀ c, c < n → zcl M0 ka b c) ∧ ∀ c, c < kc + 1 → zcl M0 ka kb c)) (fun y : Int32 × Int32 × oz_M => zC R M0 y.1 y.2.2 ∧ (y.1 = 0 → ((∀ a, a < ka → ∀ b, b < n → ∀ c, c < n → zcl M0 a b c) ∧ ∀ b, b < kb → ∀ c, c < n → zcl M0 ka b c) ∧ ∀ c, c < n → zcl M0 ka kb c)) (.inl (sc.1, nI kc + 1, sc.2.2)) := fun hc0 =>
              ⟨nI_1 kc, ⟨z1, z2, z3, z4, z5⟩, fun h => ⟨(qc3 h).1, fun c hc => by
                by_cases e : c = kc
                · rw [e]; exact hc0 h
                · exact (qc3 h).2 c (by omega)⟩⟩
            have same : sc.1 = 0 → sc.2.2.1 64 = M0.1 64 := fun h => by
              rcases z5 with z5 | z5
              · exact z5.2
              · exact absurd (h.symm.trans z5.1) (by decide)
            rw [qc1, if_pos (hlt1 ⟨z1, z2, z3, z4, z5⟩ hkc), s_isLess z2 (by omega) (by omega), s_isLess z2 (by omega) (by omega), s_isLess z2 (by omega) (by omega)]
            simp only [Option.bind_some]
            refine ow_ite (fun e1 => ow_some (stay (fun h q1 _ => ?_))) (fun e1 => ow_ite (fun e2 => ow_some (stay (fun h _ q2 => ?_))) (fun e2 => ow_ite (fun e3 => ?_) (fun e3 => ow_some (stay (fun h _ _ => ?_)))))
            · unfold zl at q1
              rw [← same h, e1] at q1
              exact absurd q1 (by decide)
            · unfold zl at q2
              rw [← same h, e2] at q2
              exact absurd q2 (by decide)
            · rw [nI_14]
              refine ow_bind (ow_in (k := 14 * ka + kc) rfl (by omega) (by omega)) (fun j hj => ?_)
              subst hj
              have g1 : zl sc.2.2 ka kb := (z2 _ (by omega)).resolve_left e1
              have g2 : zl sc.2.2 kb kc := (z2 _ (by omega)).resolve_left e2
              refine ow_some ⟨nI_1 kc, ⟨z1.s (by decide), fun j hj => ?_, fun j hj => ?_, fun a b ha hb hl => ?_, Or.inr ⟨rfl, 14 * ka + kc, by omega, ?_, ?_⟩⟩, fun h => absurd (show (1 : Int32) = 0 from h) (by decide)⟩
              · simp only [rd_s]
                by_cases e : j = 14 * ka + kc
                · rw [if_pos ⟨trivial, e⟩]; exact Or.inr (by decide)
                · rw [if_neg (by simp [e])]; exact z2 j hj
              · simp only [rd_s]
                by_cases e : j = 14 * ka + kc
                · rw [if_pos ⟨trivial, e⟩]; decide
                · rw [if_neg (by simp [e])]; exact z3 j hj
              · unfold zl at hl
                simp only [rd_s] at hl
                by_cases e : 14 * a + b = 14 * ka + kc
                · have ea : a = ka := by omega
                  have eb : b = kc := by omega
                  rw [ea, eb]
                  exact zT.trans (z4 ka kb (by omega) (by omega) g1) (z4 kb kc (by omega) (by omega) g2)
                · rw [if_neg (by simp [e])] at hl
                  exact z4 a b ha hb hl
              · rcases hb (14 * ka + kc) (by omega) with q | q
                · exact q
                · exact absurd ((z3 _ q).symm.trans e3) (by decide)
              · show (oz_s sc.2.2 64 (14 * ka + kc) (vp_nar .boolean 1)).1 64 (14 * ka + kc) = 1
                rw [rd_s, if_pos ⟨rfl, rfl⟩]; decide
            · unfold zl
              rw [← same h]
              exact (z2 _ (by omega)).resolve_left e3
          · obtain ⟨qc1, qc2, qc3⟩ := hJ
            rw [qc1, if_neg (hlt2 qc2)]
            exact ow_some ⟨qc2, qc3⟩
        · by_cases e : b = kb
          · rw [e]; exact (hy.2 h).2 c hc
          · exact (hy.2 h).1.2 b (by omega) c hc
      · obtain ⟨qb1, qb2, qb3⟩ := hJ
        rw [qb1, if_neg (hlt2 qb2)]
        exact ow_some ⟨qb2, qb3⟩
    · by_cases e : a = ka
      · rw [e]; exact (hy.2 h).2 b hb c hc
      · exact (hy.2 h).1 a (by omega) b hb c hc
  · obtain ⟨qa1, qa2, qa3⟩ := hJ
    rw [qa1, if_neg (hlt2 qa2)]
    exact ow_some ⟨qa2, qa3⟩
/-- less, as the reference leaves it: the closure of R -/
def zLt (M : oz_M) (n : Nat) (R : Nat → Nat → Bool) : Prop := zLb M ∧ ∀ a b, a < 14 → b < 14 → (zl M a b ↔ zT R a b)
theorem zT_in {n : Nat} {R : Nat → Nat → Bool} (hW : zW n R) {a b : Nat} (h : zT R a b) : a < n ∧ b < n := h (fun a b => a < n ∧ b < n) (fun x y q => hW.2.2 x y q) (fun _ _ _ p q => ⟨p.1, q.2⟩)
theorem s_close {M0 : oz_M} {n : Nat} {R : Nat → Nat → Bool} (hW : zW n R) (h62 : M0.1 62 1 = nI n) (hl : ∀ a, a < 14 → ∀ b, b < 14 → M0.1 64 (14 * a + b) = if R a b then 1 else 0) : ow (oz_lp (fun (s10 : Int32 × oz_M) => (if s10.1 = 0 then (some (.inr (s10.1, s10.2))) else ((oz_lp (fun (s11 : Int32 × Int32 × oz_M) => (if s11.2.1 < (s11.2.2.1 62 1) then ((oz_lp (fun (s12 : Int32 × Int32 × oz_M) => (if s12.2.1 < (s12.2.2.1 62 1) then ((oz_lp (fun (s13 : Int32 × Int32 × oz_M) => (if s13.2.1 < (s13.2.2.1 62 1) then ((f_Model_isLess s11.2.1 s12.2.1 s13.2.2).bind fun v14 => if v14 = 0 then (some (.inl (s13.1, s13.2.1 + 1, s13.2.2))) else ((f_Model_isLess s12.2.1 s13.2.1 s13.2.2).bind fun v15 => if v15 = 0 then (some (.inl (s13.1, s13.2.1 + 1, s13.2.2))) else ((f_Model_isLess s11.2.1 s13.2.1 s13.2.2).bind fun v16 => if v16 = 0 then ((oz_in ((14 * s11.2.1) + s13.2.1) 196).bind fun j17 => (some (oz_s s13.2.2 64 j17 (vp_nar .boolean 1))).bind fun M18 => some (.inl (1, s13.2.1 + 1, M18))) else (some (.inl (s13.1, s13.2.1 + 1, s13.2.2)))))) else (some (.inr (s13.1, s13.2.1, s13.2.2))) : Option ((Int32 × Int32 × oz_M) ⊕ (Int32 × Int32 × oz_M)))) (s12.1, 0, s12.2.2)).bind fun (y23 : Int32 × Int32 × oz_M) => some (.inl (y23.1, s12.2.1 + 1, y23.2.2))) else (some (.inr (s12.1, s12.2.1, s12.2.2))) : Option ((Int32 × Int32 × oz_M) ⊕ (Int32 × Int32 × oz_M)))) (s11.1, 0, s11.2.2)).bind fun (y25 : Int32 × Int32 × oz_M) => some (.inl (y25.1, s11.2.1 + 1, y25.2.2))) else (some (.inr (s11.1, s11.2.1, s11.2.2))) : Option ((Int32 × Int32 × oz_M) ⊕ (Int32 × Int32 × oz_M)))) (0, 0, s10.2)).bind fun (y27 : Int32 × Int32 × oz_M) => some (.inl (y27.1, y27.2.2))) : Option ((Int32 × oz_M) ⊕ (Int32 × oz_M)))) (1, M0)) (fun y => fr [64] M0 y.2 ∧ zLt y.2 n R) := by
  have hb0 : zLb M0 := fun j hj => by
    have := hl (j / 14) (by omega) (j % 14) (by omega)
    rw [show 14 * (j / 14) + j % 14 = j by omega] at this
    rw [this]
    cases R (j / 14) (j % 14) <;> decide
  refine ow_while (fun s => if s.1 = 0 then 0 else 1 + cnt (fun j => decide (j < 196 ∧ s.2.1 64 j = 0)) 196) (fun s => fr [64] M0 s.2 ∧ zLb s.2 ∧ (∀ a b, a < 14 → b < 14 → R a b = true → zl s.2 a b) ∧ (∀ a b, a < 14 → b < 14 → zl s.2 a b → zT R a b) ∧ (s.1 = 0 ∧ (∀ a, a < n → ∀ b, b < n → ∀ c, c < n → zcl s.2 a b c) ∨ s.1 = 1)) (fun s hJ => ?_) _ ⟨fr.refl, hb0, fun a b ha hb hr => ?_, fun a b ha hb q => ?_, Or.inr rfl⟩
  · obtain ⟨q1, q2, q3, q4, q5⟩ := hJ
    refine ow_ite (fun e => ow_some ⟨q1, q2, fun a b ha hb => ⟨q4 a b ha hb, fun ht => ?_⟩⟩) (fun e => ?_)
    · have hcl := (q5.resolve_right (fun q => absurd (e.symm.trans q) (by decide))).2
      have hab := zT_in hW ht
      have := ht (fun x y => (x < n ∧ y < n) ∧ zl s.2 x y) (fun x y hxy => ⟨hW.2.2 x y hxy, q3 x y (by have := (hW.2.2 x y hxy).1; have := hW.2.1; omega) (by have := (hW.2.2 x y hxy).2; have := hW.2.1; omega) hxy⟩) (fun x y z p q => ⟨⟨p.1.1, q.1.2⟩, hcl x p.1.1 y p.1.2 z q.1.2 p.2 q.2⟩)
      exact this.2
    · refine ow_bind (s_round hW.2.1 (by rw [q1.at (by decide)]; exact h62) q2 q4) (fun y hy => ow_some ?_)
      obtain ⟨⟨z1, z2, z3, z4, z5⟩, z6⟩ := hy
      refine ⟨⟨q1.trans z1, z2, fun a b ha hb hr => z3 _ (q3 a b ha hb hr), z4, ?_⟩, ?_⟩
      · rcases z5 with ⟨p1, p2⟩ | ⟨p1, -⟩
        · refine Or.inl ⟨p1, fun a ha b hb c hc => ?_⟩
          have := z6 p1 a ha b hb c hc
          unfold zcl zl at this ⊢
          dsimp only
          rw [p2]
          exact this
        · exact Or.inr p1
      · dsimp only
        rw [if_neg e]
        rcases z5 with ⟨p1, p2⟩ | ⟨p1, j, hj, g0, g1⟩
        · rw [if_pos p1]
          omega
        · rw [if_neg (by rw [p1]; decide)]
          have := cnt_lt (p := fun j => decide (j < 196 ∧ y.2.2.1 64 j = 0)) (q := fun j => decide (j < 196 ∧ s.2.1 64 j = 0)) (fun i hi => by
            simp only [decide_eq_true_eq] at hi ⊢
            refine ⟨hi.1, ?_⟩
            rcases q2 i hi.1 with h | h
            · exact h
            · exact absurd ((z3 i h).symm.trans hi.2) (by decide)) (j := j) (by simp [g1]) (by simp [g0, hj]) 196 hj
          omega
  · show M0.1 64 _ = 1
    rw [hl a ha b hb, hr]; rfl
  · refine zT.one ?_
    have h1 : M0.1 64 (14 * a + b) = 1 := q
    rw [hl a ha b hb] at h1
    cases hr : R a b with
    | true => rfl
    | false => rw [hr] at h1; exact absurd h1 (by decide)
