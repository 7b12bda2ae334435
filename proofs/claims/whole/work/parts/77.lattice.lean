/-! The law's case lattice. -/
theorem mem16 : ∀ k, k < 14 → 16 + k ∈ zsc := by decide
theorem mem31 : ∀ k, k < 14 → 31 + k ∈ zsc := by decide
theorem nI_nm1 {x : Nat} (h : x < 2 ^ 31) : ¬ nI x = -1 := fun e => by
  have := nI_toInt h
  rw [e] at this
  have e1 : (-1 : Int32).toInt = -1 := by decide
  rw [e1] at this
  omega
theorem bd_lt {lt : Nat → Nat → Bool} {n a b x : Nat} (h : bd lt n a b = some x) : x < n := (fnd_some h).1
theorem oI_m1 {lt : Nat → Nat → Bool} {n a b : Nat} (hn : n ≤ 14) : oI (bd lt n a b) = -1 ↔ bd lt n a b = none := by
  cases h : bd lt n a b with
  | none => simp [oI]
  | some x =>
    have := bd_lt h
    simp only [oI]
    exact ⟨fun q => absurd q (nI_nm1 (by omega)), fun q => by cases q⟩
theorem oI_neg {lt : Nat → Nat → Bool} {n a b : Nat} (hn : n ≤ 14) : oI (bd lt n a b) < 0 ↔ bd lt n a b = none := by
  cases h : bd lt n a b with
  | none => simp only [oI, iff_true]; decide
  | some x =>
    have := bd_lt h
    simp only [oI]
    exact ⟨fun q => absurd q (nI_pos (by omega)), fun q => by cases q⟩
def comp (lt : Nat → Nat → Bool) (n : Nat) : Prop := ∀ a b, a < n → b < n → bd lt n a b ≠ none ∧ bd (op lt) n a b ≠ none
def dis (lt : Nat → Nat → Bool) (n : Nat) : Prop := ∀ a b c, a < n → b < n → c < n → bd lt n a ((bd (op lt) n b c).getD 0) = bd (op lt) n ((bd lt n a b).getD 0) ((bd lt n a c).getD 0)
def rgt (N : oz_M) (lt : Nat → Nat → Bool) (n a b : Nat) : Prop := N.1 (16 + a) b = oI (bd lt n a b) ∧ N.1 (31 + a) b = oI (bd (op lt) n a b) ∧ bd lt n a b ≠ none ∧ bd (op lt) n a b ≠ none
theorem s_complete {M : oz_M} {n : Nat} {lt : Nat → Nat → Bool} (hn : n ≤ 14) (ho : ord n lt) (h6 : M.1 6 0 = nI n) (h7 : ∀ x, x < n → M.1 7 x = nI (blw lt n x)) (h8 : ∀ x, x < n → M.1 8 x = nI (blw (op lt) n x)) : ow (f_Bounds_complete M) (fun r => fr zsc M r.2 ∧ ((r.1 = 0 ∧ ¬ comp lt n) ∨ (r.1 = 1 ∧ comp lt n ∧ ∀ a b, a < n → b < n → rgt r.2 lt n a b))) := by
  unfold f_Bounds_complete
  refine ow_bind (P := oz_el (fun y => fr zsc M y.2 ∧ ∀ a b, a < n → b < n → rgt y.2 lt n a b) (fun r => r.1 = 0 ∧ fr zsc M r.2 ∧ ¬ comp lt n)) ?_ (fun y hy => ?_)
  · refine ow_for n (fun k s => s.1 = nI k ∧ fr zsc M s.2 ∧ ∀ a b, a < k → b < n → rgt s.2 lt n a b) (fun k s hk hJ => ?_) (fun s hJ => ?_) 0 _ (Nat.zero_le _) ⟨rfl, fr.refl, fun a b h => by omega⟩
    · obtain ⟨q1, q2, q3⟩ := hJ
      rw [q1, q2.at (by decide), h6, if_pos (nI_lt hk (by omega))]
      refine ow_bind (P := oz_el (fun y => fr zsc M y.2 ∧ ∀ a b, a < k + 1 → b < n → rgt y.2 lt n a b) (fun r => r.1 = 0 ∧ fr zsc M r.2 ∧ ¬ comp lt n)) ?_ (fun y hy => ?_)
      · refine ow_for n (fun l t => t.1 = nI l ∧ fr zsc M t.2 ∧ (∀ a b, a < k → b < n → rgt t.2 lt n a b) ∧ ∀ b, b < l → rgt t.2 lt n k b) (fun l t hl hJ => ?_) (fun t hJ => ?_) 0 _ (Nat.zero_le _) ⟨rfl, q2, q3, fun b h => by omega⟩
        · obtain ⟨g1, g2, g3, g4⟩ := hJ
          have t6 : t.2.1 6 0 = nI n := by rw [g2.at (by decide)]; exact h6
          have t7 : ∀ x, x < n → t.2.1 7 x = nI (blw lt n x) := fun x hx => by rw [g2.at (by decide)]; exact h7 x hx
          have t8 : ∀ x, x < n → t.2.1 8 x = nI (blw (op lt) n x) := fun x hx => by rw [g2.at (by decide)]; exact h8 x hx
          have l1 := (s_lower hn ho t6 t7 t8 hk hl).1
          rw [g1, t6, if_pos (nI_lt hl (by omega)), show oz_in (nI k) 14 = some k from oz_in_nI (by omega) (by decide), show oz_in (nI l) 14 = some l from oz_in_nI (by omega) (by decide)]
          simp only [Option.bind_some]
          rw [l1]
          simp only [Option.bind_some]
          have l2 := (s_lower (M := oz_s t.2 (16 + k) l (oI (bd lt n k l))) hn ho (by rw [rd_s, if_neg (by omega)]; exact t6) (fun x hx => by rw [rd_s, if_neg (by omega)]; exact t7 x hx) (fun x hx => by rw [rd_s, if_neg (by omega)]; exact t8 x hx) hk hl).2
          rw [l2]
          simp only [Option.bind_some]
          have f2 : fr zsc M (oz_s (oz_s t.2 (16 + k) l (oI (bd lt n k l))) (31 + k) l (oI (bd (op lt) n k l))) := (g2.s (mem16 k (by omega))).s (mem31 k (by omega))
          have r1 : (oz_s (oz_s t.2 (16 + k) l (oI (bd lt n k l))) (31 + k) l (oI (bd (op lt) n k l))).1 (16 + k) l = oI (bd lt n k l) := by
            rw [rd_s, if_neg (by omega), rd_s, if_pos ⟨rfl, rfl⟩]
          have r2 : (oz_s (oz_s t.2 (16 + k) l (oI (bd lt n k l))) (31 + k) l (oI (bd (op lt) n k l))).1 (31 + k) l = oI (bd (op lt) n k l) := by
            rw [rd_s, if_pos ⟨rfl, rfl⟩]
          rw [r1, r2]
          refine ow_ite (fun e => ?_) (fun e => ?_)
          · refine ow_let (ow_some ?_)
            exact ⟨rfl, f2, fun q => (q k l hk hl).1 ((oI_m1 hn).mp e)⟩
          · refine ow_ite (fun e' => ?_) (fun e' => ?_)
            · refine ow_let (ow_some ?_)
              exact ⟨rfl, f2, fun q => (q k l hk hl).2 ((oI_m1 hn).mp e')⟩
            · refine ow_some ⟨nI_1 l, f2, fun a b ha hb => ?_, fun b hb => ?_⟩
              · have := g3 a b ha hb
                unfold rgt at this ⊢
                rw [rd_s, if_neg (by omega), rd_s, if_neg (by omega), rd_s, if_neg (by omega), rd_s, if_neg (by omega)]
                exact this
              · by_cases eb : b = l
                · subst eb
                  exact ⟨r1, r2, fun q => e ((oI_m1 hn).mpr q), fun q => e' ((oI_m1 hn).mpr q)⟩
                · have := g4 b (by omega)
                  unfold rgt at this ⊢
                  rw [rd_s, if_neg (by omega), rd_s, if_neg (by omega), rd_s, if_neg (by omega), rd_s, if_neg (by omega)]
                  exact this
        · obtain ⟨g1, g2, g3, g4⟩ := hJ
          rw [g1, g2.at (by decide), h6, if_neg (nI_nlt (Nat.le_refl _) (by omega))]
          refine ow_some ⟨g2, fun a b ha hb => ?_⟩
          by_cases e : a = k
          · rw [e]; exact g4 b hb
          · exact g3 a b (by omega) hb
      · cases y with
        | inl y => rw [el_inl] at hy ⊢; exact ow_some ⟨nI_1 k, hy.1, hy.2⟩
        | inr r => rw [el_inr] at hy ⊢; exact ow_some hy
    · obtain ⟨q1, q2, q3⟩ := hJ
      rw [q1, q2.at (by decide), h6, if_neg (nI_nlt (Nat.le_refl _) (by omega))]
      exact ow_some ⟨q2, q3⟩
  · cases y with
    | inl y =>
      rw [el_inl] at hy ⊢
      exact ow_let (ow_some ⟨hy.1, Or.inr ⟨rfl, fun a b ha hb => (hy.2 a b ha hb).2.2, hy.2⟩⟩)
    | inr r =>
      rw [el_inr] at hy ⊢
      exact ow_some ⟨hy.2.1, Or.inl ⟨hy.1, hy.2.2⟩⟩
theorem bd_get {lt : Nat → Nat → Bool} {n a b : Nat} (h : bd lt n a b ≠ none) : bd lt n a b = some ((bd lt n a b).getD 0) ∧ (bd lt n a b).getD 0 < n := by
  cases e : bd lt n a b with
  | none => exact absurd e h
  | some x => exact ⟨rfl, bd_lt e⟩
theorem oI_inj {lt lt' : Nat → Nat → Bool} {n a b c d : Nat} (hn : n ≤ 14) : oI (bd lt n a b) = oI (bd lt' n c d) ↔ bd lt n a b = bd lt' n c d := by
  constructor
  · intro h
    cases e : bd lt n a b with
    | none =>
      rw [e] at h
      exact ((oI_m1 hn).mp h.symm).symm
    | some x =>
      rw [e] at h
      cases e' : bd lt' n c d with
      | none => rw [e'] at h; exact absurd h (nI_nm1 (by have := bd_lt e; omega))
      | some y =>
        rw [e'] at h
        rw [(nI_eq (by have := bd_lt e; omega) (by have := bd_lt e'; omega)).mp h]
  · intro h; rw [h]
theorem s_distr {M : oz_M} {n : Nat} {lt : Nat → Nat → Bool} (hn : n ≤ 14) (h6 : M.1 6 0 = nI n) (hc : comp lt n) (hr : ∀ a b, a < n → b < n → rgt M lt n a b) : f_Bounds_distributive M = some (bi (tb (dis lt n))) := by
  have mg : ∀ a b, a < n → b < n → M.1 (16 + a) b = nI ((bd lt n a b).getD 0) ∧ (bd lt n a b).getD 0 < n := fun a b ha hb => by
    have h1 := hr a b ha hb
    have h2 := bd_get h1.2.2.1
    rw [h1.1]
    exact ⟨by rw [h2.1]; rfl, h2.2⟩
  have jg : ∀ a b, a < n → b < n → M.1 (31 + a) b = nI ((bd (op lt) n a b).getD 0) ∧ (bd (op lt) n a b).getD 0 < n := fun a b ha hb => by
    have h1 := hr a b ha hb
    have h2 := bd_get h1.2.2.2
    rw [h1.2.1]
    exact ⟨by rw [h2.1]; rfl, h2.2⟩
  let D : Nat → Nat → Nat → Prop := fun a b c => bd lt n a ((bd (op lt) n b c).getD 0) = bd (op lt) n ((bd lt n a b).getD 0) ((bd lt n a c).getD 0)
  unfold f_Bounds_distributive
  rw [h6]
  refine ow_eq (ow_bind (P := oz_el (fun _ => dis lt n) (fun r => r = 0 ∧ ¬ dis lt n)) ?_ (fun y hy => ?_))
  · refine ow_for n (fun k s => s = nI k ∧ ∀ a b c, a < k → b < n → c < n → D a b c) (fun k s hk hJ => ?_) (fun s hJ => ?_) 0 _ (Nat.zero_le _) ⟨rfl, fun a b c h => by omega⟩
    · obtain ⟨q1, q2⟩ := hJ
      rw [q1, if_pos (nI_lt hk (by omega))]
      refine ow_bind (P := oz_el (fun _ => ∀ b c, b < n → c < n → D k b c) (fun r => r = 0 ∧ ¬ dis lt n)) ?_ (fun y hy => ?_)
      · refine ow_for n (fun l s => s = nI l ∧ ∀ b c, b < l → c < n → D k b c) (fun l s hl hJ => ?_) (fun s hJ => ?_) 0 _ (Nat.zero_le _) ⟨rfl, fun b c h => by omega⟩
        · obtain ⟨g1, g2⟩ := hJ
          rw [g1, if_pos (nI_lt hl (by omega))]
          refine ow_bind (P := oz_el (fun _ => ∀ c, c < n → D k l c) (fun r => r = 0 ∧ ¬ dis lt n)) ?_ (fun y hy => ?_)
          · refine ow_for n (fun c s => s = nI c ∧ ∀ c', c' < c → D k l c') (fun c s hc2 hJ => ?_) (fun s hJ => ?_) 0 _ (Nat.zero_le _) ⟨rfl, fun c h => by omega⟩
            · obtain ⟨u1, u2⟩ := hJ
              rw [u1, if_pos (nI_lt hc2 (by omega)), show oz_in (nI k) 14 = some k from oz_in_nI (by omega) (by decide), show oz_in (nI l) 14 = some l from oz_in_nI (by omega) (by decide), show oz_in (nI c) 14 = some c from oz_in_nI (by omega) (by decide)]
              simp only [Option.bind_some]
              obtain ⟨j1, j2⟩ := jg l c hl hc2
              obtain ⟨m1, m2⟩ := mg k l hk hl
              obtain ⟨m3, m4⟩ := mg k c hk hc2
              rw [j1, m1, m3, show oz_in (nI ((bd (op lt) n l c).getD 0)) 14 = some ((bd (op lt) n l c).getD 0) from oz_in_nI (by omega) (by decide), show oz_in (nI ((bd lt n k l).getD 0)) 14 = some ((bd lt n k l).getD 0) from oz_in_nI (by omega) (by decide), show oz_in (nI ((bd lt n k c).getD 0)) 14 = some ((bd lt n k c).getD 0) from oz_in_nI (by omega) (by decide)]
              simp only [Option.bind_some]
              rw [(hr k _ hk j2).1, (hr _ _ m2 m4).2.1]
              refine ow_ite (fun e => ow_some ⟨nI_1 c, fun c' hc' => ?_⟩) (fun e => ow_let (ow_some ?_))
              · by_cases ec : c' = c
                · rw [ec]; exact (oI_inj hn).mp e
                · exact u2 c' (by omega)
              · exact ⟨rfl, fun q => e ((oI_inj hn).mpr (q k l c hk hl hc2))⟩
            · obtain ⟨u1, u2⟩ := hJ
              rw [u1, if_neg (nI_nlt (Nat.le_refl _) (by omega))]
              exact ow_some u2
          · cases y with
            | inl y =>
              rw [el_inl] at hy ⊢
              refine ow_some ⟨nI_1 l, fun b c hb hc3 => ?_⟩
              by_cases e : b = l
              · rw [e]; exact hy c hc3
              · exact g2 b c (by omega) hc3
            | inr r => rw [el_inr] at hy ⊢; exact ow_some hy
        · obtain ⟨g1, g2⟩ := hJ
          rw [g1, if_neg (nI_nlt (Nat.le_refl _) (by omega))]
          exact ow_some g2
      · cases y with
        | inl y =>
          rw [el_inl] at hy ⊢
          refine ow_some ⟨nI_1 k, fun a b c ha hb hc3 => ?_⟩
          by_cases e : a = k
          · rw [e]; exact hy b c hb hc3
          · exact q2 a b c (by omega) hb hc3
        | inr r => rw [el_inr] at hy ⊢; exact ow_some hy
    · obtain ⟨q1, q2⟩ := hJ
      rw [q1, if_neg (nI_nlt (Nat.le_refl _) (by omega))]
      exact ow_some (fun a b c ha hb hc3 => q2 a b c ha hb hc3)
  · cases y with
    | inl y =>
      rw [el_inl] at hy ⊢
      rw [tb_iff.mpr hy]; exact ow_some rfl
    | inr r =>
      rw [el_inr] at hy ⊢
      rw [tb_no.mpr hy.2]; exact ow_some hy.1
noncomputable def latv (n : Nat) (lt : Nat → Nat → Bool) : Int32 := if tb (comp lt n) = true then (if tb (dis lt n) = true then 2 else 1) else 0
theorem s_Hall_lattice {M : oz_M} {n : Nat} {R : Nat → Nat → Bool} (h : zH M n R) : ow (f_Hall_lattice M) (fun r => r.1 = .inr (latv n (ztb R)) ∧ zH r.2 n R) := by
  have hn := h.n
  unfold f_Hall_lattice
  simp only [s_wants h.st, b2_some, el_inr]
  refine ow_b2 (s_complete hn h.ord h.at6 (fun x hx => (h.rows hx).1) (fun x hx => (h.rows hx).2.1)) (fun v N hN => ?_)
  obtain ⟨f, hv⟩ := hN
  dsimp only at f hv
  have hH := h.zj (f.zj (fun _ q => q))
  unfold latv
  rcases hv with ⟨v0, hc⟩ | ⟨v1, hc, hr⟩
  · rw [v0, if_pos rfl, tb_no.mpr hc]
    exact ow_some ⟨rfl, hH⟩
  · rw [v1, if_neg (by decide), tb_iff.mpr hc, s_distr hn hH.at6 hc hr]
    refine ow_let ?_
    cases tb (dis (ztb R) n) with
    | false => exact ow_some ⟨rfl, hH⟩
    | true => exact ow_some ⟨rfl, hH⟩
theorem s_Model_lattice {M : oz_M} {n : Nat} {R : Nat → Nat → Bool} (h : zH M n R) : ow (f_Model_lattice M) (fun r => r.1 = latv n (ztb R) ∧ r.2.1 62 0 = 0 ∧ r.2.2 74 0 = M.2 74 0 ∧ zH r.2 n R) := by
  have hn := h.n
  unfold f_Model_lattice
  rw [if_neg h.rst]
  simp only [Option.bind_some]
  rw [if_neg (um_0 _)]
  have hH := h.fz 0
  generalize hN : oz_s M 62 0 0 = N at hH
  have e0 : N.1 62 0 = 0 := by rw [← hN]; exact um_at _ _
  have e74 : N.2 74 0 = M.2 74 0 := by rw [← hN]; rfl
  have b0 : ∀ a b, a < n → b < n → f_Model_boundOf 0 (nI a) (nI b) N = some (oI (bd (ztb R) n a b)) := fun a b ha hb => s_boundOf hn hH.at62 hH.L false ha hb
  have b1 : ∀ a b, a < n → b < n → f_Model_boundOf 1 (nI a) (nI b) N = some (oI (bd (op (ztb R)) n a b)) := fun a b ha hb => s_boundOf hn hH.at62 hH.L true ha hb
  rw [hH.at62]
  unfold latv
  refine ow_bind (P := oz_el (fun _ => comp (ztb R) n) (fun r => r = (0, N) ∧ ¬ comp (ztb R) n)) ?_ (fun y hy => ?_)
  · refine ow_for n (fun k s => s = nI k ∧ ∀ a b, a < k → b < n → bd (ztb R) n a b ≠ none ∧ bd (op (ztb R)) n a b ≠ none) (fun k s hk hJ => ?_) (fun s hJ => ?_) 0 _ (Nat.zero_le _) ⟨rfl, fun a b h => by omega⟩
    · obtain ⟨q1, q2⟩ := hJ
      rw [q1, if_pos (nI_lt hk (by omega))]
      refine ow_bind (P := oz_el (fun _ => ∀ b, b < n → bd (ztb R) n k b ≠ none ∧ bd (op (ztb R)) n k b ≠ none) (fun r => r = (0, N) ∧ ¬ comp (ztb R) n)) ?_ (fun y hy => ?_)
      · refine ow_for n (fun l s => s = nI l ∧ ∀ b, b < l → bd (ztb R) n k b ≠ none ∧ bd (op (ztb R)) n k b ≠ none) (fun l s hl hJ => ?_) (fun s hJ => ?_) 0 _ (Nat.zero_le _) ⟨rfl, fun b h => by omega⟩
        · obtain ⟨g1, g2⟩ := hJ
          rw [g1, if_pos (nI_lt hl (by omega)), b0 k l hk hl, b1 k l hk hl]
          refine ow_let (ow_ite (fun e => ow_some ⟨rfl, fun q => (q k l hk hl).1 ((oI_neg hn).mp e)⟩) (fun e => ow_let (ow_ite (fun e' => ow_some ⟨rfl, fun q => (q k l hk hl).2 ((oI_neg hn).mp e')⟩) (fun e' => ow_some ⟨nI_1 l, fun b hb => ?_⟩))))
          by_cases eb : b = l
          · rw [eb]; exact ⟨fun q => e ((oI_neg hn).mpr q), fun q => e' ((oI_neg hn).mpr q)⟩
          · exact g2 b (by omega)
        · obtain ⟨g1, g2⟩ := hJ
          rw [g1, if_neg (nI_nlt (Nat.le_refl _) (by omega))]
          exact ow_some g2
      · cases y with
        | inl y =>
          rw [el_inl] at hy ⊢
          refine ow_some ⟨nI_1 k, fun a b ha hb => ?_⟩
          by_cases e : a = k
          · rw [e]; exact hy b hb
          · exact q2 a b (by omega) hb
        | inr r => rw [el_inr] at hy ⊢; exact ow_some hy
    · obtain ⟨q1, q2⟩ := hJ
      rw [q1, if_neg (nI_nlt (Nat.le_refl _) (by omega))]
      exact ow_some q2
  · cases y with
    | inr r =>
      rw [el_inr] at hy ⊢
      rw [hy.1]
      exact ow_some ⟨by rw [tb_no.mpr hy.2]; rfl, e0, e74, hH⟩
    | inl y =>
      rw [el_inl] at hy ⊢
      have hc : comp (ztb R) n := hy
      rw [tb_iff.mpr hc, if_pos rfl]
      let D : Nat → Nat → Nat → Prop := fun a b c => bd (ztb R) n a ((bd (op (ztb R)) n b c).getD 0) = bd (op (ztb R)) n ((bd (ztb R) n a b).getD 0) ((bd (ztb R) n a c).getD 0)
      refine ow_bind (P := oz_el (fun _ => dis (ztb R) n) (fun r => r = (1, N) ∧ ¬ dis (ztb R) n)) ?_ (fun y hy => ?_)
      · refine ow_for n (fun k s => s = nI k ∧ ∀ a b c, a < k → b < n → c < n → D a b c) (fun k s hk hJ => ?_) (fun s hJ => ?_) 0 _ (Nat.zero_le _) ⟨rfl, fun a b c h => by omega⟩
        · obtain ⟨q1, q2⟩ := hJ
          rw [q1, if_pos (nI_lt hk (by omega))]
          refine ow_bind (P := oz_el (fun _ => ∀ b c, b < n → c < n → D k b c) (fun r => r = (1, N) ∧ ¬ dis (ztb R) n)) ?_ (fun y hy => ?_)
          · refine ow_for n (fun l s => s = nI l ∧ ∀ b c, b < l → c < n → D k b c) (fun l s hl hJ => ?_) (fun s hJ => ?_) 0 _ (Nat.zero_le _) ⟨rfl, fun b c h => by omega⟩
            · obtain ⟨g1, g2⟩ := hJ
              rw [g1, if_pos (nI_lt hl (by omega))]
              refine ow_bind (P := oz_el (fun _ => ∀ c, c < n → D k l c) (fun r => r = (1, N) ∧ ¬ dis (ztb R) n)) ?_ (fun y hy => ?_)
              · refine ow_for n (fun c s => s = nI c ∧ ∀ c', c' < c → D k l c') (fun c s hc2 hJ => ?_) (fun s hJ => ?_) 0 _ (Nat.zero_le _) ⟨rfl, fun c h => by omega⟩
                · obtain ⟨u1, u2⟩ := hJ
                  have j := bd_get (hc l c hl hc2).2
                  have m := bd_get (hc k l hk hl).1
                  have m' := bd_get (hc k c hk hc2).1
                  rw [u1, if_pos (nI_lt hc2 (by omega)), b1 l c hl hc2, b0 k l hk hl, b0 k c hk hc2, j.1, m.1, m'.1]
                  simp only [Option.bind_some, oI, Option.getD_some]
                  rw [b0 k _ hk j.2, b1 _ _ m.2 m'.2]
                  simp only [Option.bind_some]
                  refine ow_ite (fun e => ow_some ⟨nI_1 c, fun c' hc' => ?_⟩) (fun e => ow_some ⟨rfl, fun q => e ((oI_inj hn).mpr (q k l c hk hl hc2))⟩)
                  by_cases ec : c' = c
                  · rw [ec]; exact (oI_inj hn).mp e
                  · exact u2 c' (by omega)
                · obtain ⟨u1, u2⟩ := hJ
                  rw [u1, if_neg (nI_nlt (Nat.le_refl _) (by omega))]
                  exact ow_some u2
              · cases y with
                | inl y =>
                  rw [el_inl] at hy ⊢
                  refine ow_some ⟨nI_1 l, fun b c hb hc3 => ?_⟩
                  by_cases e : b = l
                  · rw [e]; exact hy c hc3
                  · exact g2 b c (by omega) hc3
                | inr r => rw [el_inr] at hy ⊢; exact ow_some hy
            · obtain ⟨g1, g2⟩ := hJ
              rw [g1, if_neg (nI_nlt (Nat.le_refl _) (by omega))]
              exact ow_some g2
          · cases y with
            | inl y =>
              rw [el_inl] at hy ⊢
              refine ow_some ⟨nI_1 k, fun a b c ha hb hc3 => ?_⟩
              by_cases e : a = k
              · rw [e]; exact hy b c hb hc3
              · exact q2 a b c (by omega) hb hc3
            | inr r => rw [el_inr] at hy ⊢; exact ow_some hy
        · obtain ⟨q1, q2⟩ := hJ
          rw [q1, if_neg (nI_nlt (Nat.le_refl _) (by omega))]
          exact ow_some (fun a b c ha hb hc3 => q2 a b c ha hb hc3)
      · cases y with
        | inl y =>
          rw [el_inl] at hy ⊢
          exact ow_some ⟨by rw [tb_iff.mpr hy]; rfl, e0, e74, hH⟩
        | inr r =>
          rw [el_inr] at hy ⊢
          rw [hy.1]
          exact ow_some ⟨by rw [tb_no.mpr hy.2]; rfl, e0, e74, hH⟩
theorem us_19 {M : oz_M} {n : Nat} {R : Nat → Nat → Bool} (h : zH M n R) {p1 p2 p3 : Int32} : ow (f_L19 p1 p2 p3 M) (fun N => zH N n R) := by
  unfold f_L19
  exact law_ok (P := fun N => zH N n R) (lawA (s_Hall_lattice h)) (fun N hN _ => s_Model_lattice hN)
