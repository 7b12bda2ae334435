/-! The reference's ring: closes, findRing, settle. -/
def rst (n first : Nat) (R : Nat → Nat → Bool) (p t : Nat) (r : Nat → Nat) (N : oz_M) : Prop := r 0 = first ∧ (∀ j, j < p → N.1 65 j = nI (r j) ∧ r j < n) ∧ (∀ j, j + 1 < p → R (r j) (r (j + 1)) = true) ∧ N.1 70 p = nI t ∧ t ≤ n
def lxo (W : Nat → Nat) (p t : Nat) (r : Nat → Nat) : Prop := (∃ d, d < p ∧ (∀ j, j < d → r j = W j) ∧ r d < W d) ∨ ((∀ j, j < p → r j = W j) ∧ t ≤ W p)
theorem nI_m (p : Nat) (h : 1 ≤ p) : nI p + (-1) = nI (p - 1) := by
  have := nI_pred (p - 1)
  rw [show p - 1 + 1 = p by omega] at this
  rw [← this]
  exact (Int32.sub_eq_add_neg _ _).symm
theorem nI_s1 (p : Nat) (h : 1 ≤ p) : nI p - 1 = nI (p - 1) := by
  have := nI_pred (p - 1)
  rwa [show p - 1 + 1 = p by omega] at this
theorem s_closes {M : oz_M} {n first l : Nat} {R : Nat → Nat → Bool} (hW : zW n R) (hR : zR M n R) (hf : first < n) (hl1 : 1 ≤ l) (hl : l ≤ n) : ow (f_Model_closes (nI first) (nI l) M) (fun r => fr [65, 70] M r.2 ∧ ((r.1 = 0 ∧ ¬ rng R l first) ∨ (r.1 = 1 ∧ zP R l first first ∧ (rng R l first → ∀ i, i < l → r.2.1 65 i = nI (fw R l first i))))) := by
  have hn := hW.2.1
  unfold f_Model_closes
  rw [show oz_in 0 14 = some 0 from oz_in_nI (j := 0) (by decide) (by decide)]
  refine ow_let (ow_let ?_)
  have f2 : fr [65, 70] M (oz_s M 65 0 (nI first)) := fr.refl.s (by decide)
  by_cases hone : l = 1
  · subst hone
    rw [if_pos (show nI 1 = 1 from rfl), s_isArc (hR.fr f2 (by decide) (by decide)) (by omega) (by omega), ]
    refine ow_let ?_
    rw [z_bi]
    refine ow_let (ow_some ⟨f2, ?_⟩)
    cases hr : R first first with
    | false =>
      left
      refine ⟨rfl, fun q => ?_⟩
      obtain ⟨c, h1, h2⟩ := q.2.1
      have : c = first := h2
      rw [this, hr] at h1; cases h1
    | true =>
      right
      refine ⟨rfl, ⟨first, hr, rfl⟩, fun _ i hi => ?_⟩
      have : i = 0 := by omega
      subst this
      show (oz_s M 65 0 (nI first)).1 65 0 = nI (fw R 1 first 0)
      rw [rd_s, if_pos ⟨rfl, rfl⟩]; rfl
  · rw [if_neg (show ¬ nI l = 1 from fun q => hone ((nI_eq (a := l) (b := 1) (by omega) (by omega)).mp q)), show oz_in 1 15 = some 1 from oz_in_nI (j := 1) (by decide) (by decide), nI_s1 l hl1]
    refine ow_let (ow_let ?_)
    let W := fw R l first
    refine ow_bind (P := oz_el (fun y => fr [65, 70] M y.2 ∧ ¬ rng R l first) (fun r => r.1 = 1 ∧ fr [65, 70] M r.2 ∧ zP R l first first ∧ (rng R l first → ∀ i, i < l → r.2.1 65 i = nI (fw R l first i)))) ?_ (fun y hy => ?_)
    · refine ow_while mm (fun s => ∃ p, s.1 = nI p ∧ p ≤ l - 1 ∧ fr [65, 70] M s.2 ∧ (p = 0 → ¬ rng R l first) ∧ (1 ≤ p → ∃ r t, rst n first R p t r s.2 ∧ (rng R l first → lxo W p t r))) (fun s hJ => ?_) _ ⟨1, rfl, by omega, f2.s (by decide), fun h => (by omega), fun _ => ⟨fun _ => first, 0, ⟨rfl, fun j hj => ⟨?_, hf⟩, fun j hj => (by omega), by rw [rd_s, if_pos ⟨rfl, rfl⟩]; rfl, Nat.zero_le _⟩, fun _ => Or.inr ⟨fun j hj => ?_, Nat.zero_le _⟩⟩⟩
      · obtain ⟨p, c1, c2, c3, c4, c5⟩ := hJ
        obtain ⟨s1, N⟩ := s
        dsimp only at c1 c3 c5
        subst c1
        by_cases hp0 : p = 0
        · subst hp0
          rw [if_neg (show ¬ (0 : Int32) < nI 0 by decide)]
          exact ow_some ⟨c3, c4 rfl⟩
        · have hp1 : 1 ≤ p := by omega
          obtain ⟨r, t, ⟨r0, r1, r2, r3, r4⟩, hlx⟩ := c5 hp1
          have hRN := hR.fr c3 (by decide) (by decide)
          have r14 : ∀ j, j < p → N.1 65 j = nI (r j) ∧ r j ≤ 14 := fun j hj => ⟨(r1 j hj).1, by have := (r1 j hj).2; omega⟩
          have hmm := mm_at hp1 (by omega) r14 r3 (by omega)
          have hbg := vv_big (p := p) (r := r) (t := t) (by omega) (fun j hj => (r14 j hj).2) (by omega)
          obtain ⟨x, ex, x1, x2, x3, x4⟩ := s_firstAt hn hRN hp1 (by omega) r1 r3 r4
          -- where W stands on the way, it fits
          have hWfit : rng R l first → (∀ j, j < p → r j = W j) → fit R p r (W p) ∧ W p < n := fun hrng heq => by
            have hcw := fw_cw hrng
            have hsim := cw_simple hrng hcw
            have harc := hcw.2.2 (p - 1) (by omega)
            rw [show p - 1 + 1 = p by omega] at harc
            refine ⟨⟨?_, ?_, fun k hk => ?_⟩, (hW.2.2 _ _ harc).2⟩
            · rw [r0]; exact hsim.2 p (by omega) (by omega)
            · rw [heq (p - 1) (by omega)]; exact harc
            · rw [heq k hk]; exact hsim.1 k p hk (by omega)
          rw [if_pos (show 0 < nI p from nI_lt (a := 0) (by omega) (by omega)), ex, hRN.1, nI_m p hp1]
          simp only [Option.bind_some]
          by_cases hxn : x = n
          · -- nothing fits: back
            rw [if_pos (by rw [hxn])]
            have hfirst : rng R l first → ∃ d, d < p ∧ (∀ j, j < d → r j = W j) ∧ r d < W d := fun hrng => by
              rcases hlx hrng with h | ⟨h1, h2⟩
              · exact h
              · obtain ⟨w1, w2⟩ := hWfit hrng h1
                exact absurd w1 (x3 (W p) h2 (by omega))
            by_cases hp2 : p = 1
            · subst hp2
              rw [if_neg (show ¬ (0 : Int32) < nI (1 - 1) by decide), show oz_in (nI (1 - 1)) 15 = some 0 from oz_in_nI (j := 0) (by decide) (by decide)]
              refine ow_let (ow_let (ow_some ⟨⟨0, rfl, by omega, c3.s (by decide), fun _ hrng => ?_, fun h => (by omega)⟩, ?_⟩))
              · obtain ⟨d, d1, _, d3⟩ := hfirst hrng
                have : d = 0 := by omega
                rw [this, r0] at d3
                exact absurd d3 (Nat.lt_irrefl first)
              · rw [hmm]
                show mm (0, _) < _
                have e0 : mm ((0 : Int32), oz_s N 70 0 0) = 0 := by unfold mm; rw [if_pos rfl]
                rw [e0]
                have : 16 * 16 ^ 18 + 14 < 16 ^ 20 := by decide
                omega
            · obtain ⟨q, rfl⟩ : ∃ q, p = q + 1 := ⟨p - 1, by omega⟩
              have hrq := r1 q (by omega)
              simp only [Nat.add_sub_cancel]
              rw [if_pos (show (0 : Int32) < nI q from nI_lt (a := 0) (by omega) (by omega)), show oz_in (nI q) 14 = some q from oz_in_nI (by omega) (by decide), show oz_in (nI q) 15 = some q from oz_in_nI (by omega) (by decide)]
              simp only [Option.bind_some]
              rw [hrq.1, nI_1]
              have g70 : (oz_s N 70 q (nI (r q + 1))).1 70 q = nI (r q + 1) := by rw [rd_s, if_pos ⟨rfl, rfl⟩]
              have g65 : ∀ j, (oz_s N 70 q (nI (r q + 1))).1 65 j = N.1 65 j := fun j => by rw [rd_s, if_neg (by simp)]
              refine ow_some ⟨⟨q, rfl, by omega, c3.s (by decide), fun h => (by omega), fun _ => ⟨r, r q + 1, ⟨r0, fun j hj => by rw [g65]; exact r1 j (by omega), fun j hj => r2 j (by omega), g70, by omega⟩, fun hrng => ?_⟩⟩, ?_⟩
              · obtain ⟨d, d1, d2, d3⟩ := hfirst hrng
                by_cases ed : d = q
                · subst ed
                  exact Or.inr ⟨d2, d3⟩
                · exact Or.inl ⟨d, by omega, d2, d3⟩
              · have hm2 := mm_at (N := oz_s N 70 q (nI (r q + 1))) (p := q) (by omega) (by omega) (fun j hj => by rw [g65]; exact r14 j (by omega)) g70 (by omega)
                show mm (nI q, oz_s N 70 q (nI (r q + 1))) < _
                rw [hm2, hmm]
                have hb := vv_back (p := q) (r := r) (t := t) (by omega) (by omega)
                exact mm_lt hbg (vv_big (by omega) (fun j hj => (r14 j (by omega)).2) (by omega)) (by omega) (by omega) (by omega)
          · have hx : x < n := by omega
            have hfit := x4 hx
            rw [if_neg (fun q => hxn ((nI_eq (by omega) (by omega)).mp q))]
            have hpast : rng R l first → (∀ j, j < p → r j = W j) → t ≤ W p → x ≤ W p := fun hrng heq ht => by
              obtain ⟨w1, w2⟩ := hWfit hrng heq
              refine Nat.le_of_not_lt (fun q => x3 (W p) ht q w1)
            by_cases hpl : p = l - 1
            · rw [if_pos (by rw [hpl]), s_isArc hRN (by omega) (by omega)]
              refine ow_let ?_
              cases harc : R x first with
              | false =>
                rw [bi_f, if_pos rfl, show oz_in (nI p) 15 = some p from oz_in_nI (by omega) (by decide), nI_1]
                have g70 : (oz_s N 70 p (nI (x + 1))).1 70 p = nI (x + 1) := by rw [rd_s, if_pos ⟨rfl, rfl⟩]
                have g65 : ∀ j, (oz_s N 70 p (nI (x + 1))).1 65 j = N.1 65 j := fun j => by rw [rd_s, if_neg (by simp)]
                refine ow_let (ow_let (ow_some ⟨⟨p, rfl, c2, c3.s (by decide), fun h => (by omega), fun _ => ⟨r, x + 1, ⟨r0, fun j hj => by rw [g65]; exact r1 j hj, r2, g70, by omega⟩, fun hrng => ?_⟩⟩, ?_⟩))
                · rcases hlx hrng with h | ⟨h1, h2⟩
                  · exact Or.inl h
                  · have hle := hpast hrng h1 h2
                    have hne : x ≠ W p := fun q => by
                      have hcw := fw_cw hrng
                      have := hcw.2.2 p (by omega)
                      rw [show p + 1 = l by omega, hcw.2.1] at this
                      have this : R (W p) first = true := this
                      rw [← q, harc] at this; cases this
                    exact Or.inr ⟨h1, by omega⟩
                · have hm2 := mm_at (N := oz_s N 70 p (nI (x + 1))) hp1 (by omega) (fun j hj => by rw [g65]; exact r14 j hj) g70 (by omega)
                  show mm (nI p, oz_s N 70 p (nI (x + 1))) < _
                  rw [hm2, hmm]
                  have hb := vv_up (p := p) (r := r) (show t < x + 1 by omega)
                  exact mm_lt hbg (vv_big (by omega) (fun j hj => (r14 j hj).2) (by omega)) (by omega) (by omega) (by omega)
              | true =>
                rw [if_neg bi_ne, show oz_in (nI p) 14 = some p from oz_in_nI (by omega) (by decide)]
                simp only [Option.bind_some]
                rw [if_pos (by rw [hpl])]
                -- the walk
                let w : Nat → Nat := fun j => if j < p then r j else if j = p then x else first
                have wlt : ∀ j, j < p → w j = r j := fun j hj => by show (if j < p then r j else _) = _; rw [if_pos hj]
                have wp : w p = x := by show (if p < p then r p else if p = p then x else first) = x; rw [if_neg (by omega), if_pos rfl]
                have wl : w l = first := by show (if l < p then r l else if l = p then x else first) = first; rw [if_neg (by omega), if_neg (by omega)]
                have hcw : cw R l first w := by
                  refine ⟨by rw [wlt 0 (by omega)]; exact r0, wl, fun i hi => ?_⟩
                  by_cases h1 : i + 1 < p
                  · rw [wlt i (by omega), wlt (i + 1) h1]; exact r2 i h1
                  · by_cases h2 : i + 1 = p
                    · rw [wlt i (by omega), h2, wp]
                      have := hfit.2.1
                      rwa [show p - 1 = i by omega] at this
                    · have : i = p := by omega
                      rw [this, wp, show p + 1 = l by omega, wl]; exact harc
                have hzp : zP R l first first := by
                  have := walk_zP hcw.2.2 l 0 (by omega)
                  rwa [Nat.zero_add, hcw.1, hcw.2.1] at this
                refine ow_let (ow_some ⟨rfl, c3.s (by decide), hzp, fun hrng i hi => ?_⟩)
                have hall : (∀ j, j < p → r j = W j) ∧ x = W p := by
                  rcases hlx hrng with ⟨d, d1, d2, d3⟩ | ⟨h1, h2⟩
                  · exfalso
                    have := fw_first hrng hcw (d := d) (by omega) (fun j hj => by rw [wlt j (by omega)]; exact d2 j hj)
                    rw [wlt d d1] at this
                    have d3 : r d < fw R l first d := d3
                    omega
                  · refine ⟨h1, ?_⟩
                    have h3 := hpast hrng h1 h2
                    have h4 := fw_first hrng hcw (d := p) (by omega) (fun j hj => by rw [wlt j hj]; exact h1 j hj)
                    rw [wp] at h4
                    have h4 : W p ≤ x := h4
                    omega
                show (oz_s N 65 p (nI x)).1 65 i = nI (W i)
                rw [rd_s]
                by_cases ei : i = p
                · rw [if_pos ⟨rfl, ei⟩, ei, hall.2]
                · rw [if_neg (by simp [ei]), (r1 i (by omega)).1, hall.1 i (by omega)]
            · rw [if_neg (fun q => hpl ((nI_eq (by omega) (by omega)).mp q)), show oz_in (nI p) 14 = some p from oz_in_nI (by omega) (by decide), nI_1, show oz_in (nI (p + 1)) 15 = some (p + 1) from oz_in_nI (by omega) (by decide)]
              simp only [Option.bind_some]
              rw [if_neg (fun q => hpl ((nI_eq (by omega) (by omega)).mp q))]
              let rn : Nat → Nat := fun j => if j = p then x else r j
              have rno : ∀ j, j < p → rn j = r j := fun j hj => by show (if j = p then x else r j) = _; rw [if_neg (by omega)]
              have rnp : rn p = x := by show (if p = p then x else r p) = x; rw [if_pos rfl]
              have g70 : (oz_s (oz_s N 65 p (nI x)) 70 (p + 1) 0).1 70 (p + 1) = nI 0 := by rw [rd_s, if_pos ⟨rfl, rfl⟩]; rfl
              have g65 : ∀ j, j < p + 1 → (oz_s (oz_s N 65 p (nI x)) 70 (p + 1) 0).1 65 j = nI (rn j) ∧ rn j < n := fun j hj => by
                rw [rd_s, if_neg (by simp), rd_s]
                by_cases ej : j = p
                · rw [if_pos ⟨rfl, ej⟩, ej, rnp]; exact ⟨rfl, hx⟩
                · rw [if_neg (by simp [ej]), rno j (by omega)]; exact r1 j (by omega)
              refine ow_some ⟨⟨p + 1, rfl, by omega, (c3.s (by decide)).s (by decide), fun h => (by omega), fun _ => ⟨rn, 0, ⟨by rw [rno 0 (by omega)]; exact r0, g65, fun j hj => ?_, g70, Nat.zero_le _⟩, fun hrng => ?_⟩⟩, ?_⟩
              · by_cases ej : j + 1 = p
                · rw [rno j (by omega), ej, rnp]
                  have := hfit.2.1
                  rwa [show p - 1 = j by omega] at this
                · rw [rno j (by omega), rno (j + 1) (by omega)]; exact r2 j (by omega)
              · rcases hlx hrng with ⟨d, d1, d2, d3⟩ | ⟨h1, h2⟩
                · exact Or.inl ⟨d, by omega, fun j hj => by rw [rno j (by omega)]; exact d2 j hj, by rw [rno d d1]; exact d3⟩
                · have hle := hpast hrng h1 h2
                  by_cases ex2 : x = W p
                  · refine Or.inr ⟨fun j hj => ?_, Nat.zero_le _⟩
                    by_cases ej : j = p
                    · rw [ej, rnp, ex2]
                    · rw [rno j (by omega)]; exact h1 j (by omega)
                  · exact Or.inl ⟨p, by omega, fun j hj => by rw [rno j hj]; exact h1 j hj, by rw [rnp]; omega⟩
              · have hm2 := mm_at (N := oz_s (oz_s N 65 p (nI x)) 70 (p + 1) 0) (p := p + 1) (r := rn) (t := 0) (by omega) (by omega) (fun j hj => ⟨(g65 j hj).1, by have := (g65 j hj).2; omega⟩) g70 (by omega)
                show mm (nI (p + 1), oz_s (oz_s N 65 p (nI x)) 70 (p + 1) 0) < _
                rw [hm2, hmm]
                have hb := vv_on (p := p) (r := rn) (t := t) (by rw [rnp]; exact x1)
                rw [vv_cong (r := rn) (r' := r) (fun j hj => rno j hj)] at hb
                exact mm_lt hbg (vv_big (by omega) (fun j hj => by have := (g65 j hj).2; omega) (by omega)) (by omega) (by omega) (by omega)
      · show (oz_s (oz_s M 65 0 (nI first)) 70 1 0).1 65 j = nI first
        have : j = 0 := by omega
        rw [this, rd_s, if_neg (by simp), rd_s, if_pos ⟨rfl, rfl⟩]
      · have : j = 0 := by omega
        rw [this]; rfl
    · cases y with
      | inl y => rw [el_inl] at hy ⊢; exact ow_let (ow_some ⟨hy.1, Or.inl ⟨rfl, hy.2⟩⟩)
      | inr r => rw [el_inr] at hy ⊢; exact ow_some ⟨hy.2.1, Or.inr ⟨hy.1, hy.2.2⟩⟩
