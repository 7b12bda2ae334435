/-! Settled anew: where no arcs lead round; turn. -/
theorem zH_new {N : oz_M} {n : Nat} {R : Nat → Nat → Bool} (hW : zW n R) (hac : ∀ a, ¬ zT R a a) (hA : zA N n R) (hO : zO N n R) (hs : srt N n (ztb R)) (hl : zLv N n (ztb R)) (h07 : N.1 0 7 = 1) (h45 : N.1 45 0 = 0) (h530 : N.1 53 0 = 0) (h531 : N.1 53 1 = 0) (h3 : N.1 3 0 = 0) (hS : zS N n R) (h52 : N.1 52 0 = 0) : zH N n R := by
  obtain ⟨s1, s2, s3, s4, s5, s6⟩ := hS
  exact ⟨⟨⟨hW, hac, h07, hO, s3, s1, s2⟩, hA, h3, s4, hs, hl, h52⟩, Or.inl s6, Or.inl h45, Or.inl h530, Or.inl ⟨h531, s5⟩⟩
/-- both sides settled, the arcs already there -/
theorem adopt_settle {M : oz_M} {n : Nat} {R : Nat → Nat → Bool} (hW : zW n R) (hac : ∀ a, ¬ zT R a a) (hA : zA M n R) (hU : zU M) (h52 : M.1 52 0 = 0) : ow (f_Hall_adopt M) (fun r => fr [0, 6, 7, 8, 9, 10, 11, 12, 45, 53] M r.2 ∧ r.2.1 6 0 = nI n ∧ r.2.1 3 0 = 0 ∧ ∀ N, fr [62, 63, 64, 70, 71, 72, 73, 74] r.2 N → zR N n R → ow (f_Model_settle N) (fun r => r.1 = 0 ∧ r.2.1 62 0 = 0 ∧ r.2.2 74 = N.2 74 ∧ zH r.2 n R)) := by
  refine ow_mono (s_adopt hW hac hA) (fun r hr => ?_)
  obtain ⟨f, hO, hs, hl, h07, h45, h530, h531⟩ := hr
  refine ⟨f, hO.1.1, by rw [f.at (by decide)]; exact hU.2.1, fun N fN hR => ?_⟩
  refine ow_mono (s_Model_settle hW hR hac) (fun q hq => ?_)
  obtain ⟨q1, q2, q3, q4⟩ := hq
  have g : fr [62, 63, 64, 70, 71, 72, 73, 74] r.2 q.2 := fN.trans (q2.sub (by decide))
  refine ⟨q1, q4, (q2 74 (by decide)).2, zH_new hW hac ((hA.fr f (by decide) (by decide)).fr g (by decide) (by decide)) ?_ (hs.at (g 12 (by decide)).1) ?_ ?_ ?_ ?_ ?_ ?_ q3 ?_⟩
  · unfold zO zAb
    rw [(g 6 (by decide)).1, (g 7 (by decide)).1, (g 8 (by decide)).1, (g 9 (by decide)).1]
    exact hO
  · unfold zLv
    rw [(g 10 (by decide)).1, (g 11 (by decide)).1]
    exact hl
  · rw [g.at (by decide)]; exact h07
  · rw [g.at (by decide)]; exact h45
  · rw [g.at (by decide)]; exact h530
  · rw [g.at (by decide), h531]; exact hU.2.2
  · rw [g.at (by decide), f.at (by decide)]; exact hU.2.1
  · rw [g.at (by decide), f.at (by decide)]; exact h52
theorem us_3a {M : oz_M} {n : Nat} {R : Nat → Nat → Bool} {p1 p2 p3 : Int32} (hW : zW n R) (hA : zA M n R) (hR : zR M n R) (h52 : M.1 52 0 = 0) (hac : ∀ a, ¬ zT R a a) : ow (f_L3 p1 p2 p3 M) (fun N => zH N n R) := by
  unfold f_L3 f_Hall_settle
  obtain ⟨⟨u1, M1⟩, e1, f1, g1⟩ := s_unsettle M
  dsimp only at f1 g1
  rw [e1]
  simp only [b2_some]
  obtain ⟨⟨u2, M2⟩, e2, f2, g2⟩ := s_seek hW (hA.fr f1 (by decide) (by decide)) hac
  dsimp only at f2 g2
  rw [e2]
  simp only [b2_some]
  rw [if_pos g2]
  have f12 : fr [0, 3, 5, 53] M M2 := (f1.sub (by decide)).trans (f2.sub (by decide))
  have hU2 : zU M2 := ⟨by rw [f2.at (by decide)]; exact g1.1, g2, by rw [f2.at (by decide)]; exact g1.2.2⟩
  obtain ⟨⟨u3, M3⟩, e3, f3, k6, k3, k4⟩ := adopt_settle hW hac (hA.fr f12 (by decide) (by decide)) hU2 (by rw [f12.at (by decide)]; exact h52)
  dsimp only at f3 k6 k3 k4
  rw [e3]
  simp only [b2_some]
  obtain ⟨⟨u4, M4⟩, e4, v4, _, _, H⟩ := k4 M3 fr.refl ((hR.fr f12 (by decide) (by decide)).fr f3 (by decide) (by decide))
  dsimp only at v4 H
  rw [e4]
  simp only [b2_some]
  rw [k3, v4, if_pos rfl]
  exact ow_some H
/-! turn -/
def rsw (R : Nat → Nat → Bool) (a b : Nat) : Nat → Nat → Bool := fun c d => if (c < a ∧ d < a) ∨ (c = a ∧ d < b) ∨ (d = a ∧ c < b) then R d c else R c d
theorem rsw_0 (R : Nat → Nat → Bool) : rsw R 0 0 = R := by
  funext c d
  unfold rsw
  rw [if_neg (by omega)]
theorem rsw_next (R : Nat → Nat → Bool) (a : Nat) : rsw R a a = rsw R (a + 1) 0 := by
  funext c d
  unfold rsw
  by_cases e : c = a ∧ d = a
  · obtain ⟨rfl, rfl⟩ := e
    rw [if_neg (by omega), if_pos (by omega)]
  · by_cases h : (c < a ∧ d < a) ∨ (c = a ∧ d < a) ∨ (d = a ∧ c < a)
    · rw [if_pos h, if_pos (by omega)]
    · rw [if_neg h, if_neg (by omega)]
theorem rsw_end {n : Nat} {R : Nat → Nat → Bool} (hW : zW n R) : rsw R n 0 = op R := by
  funext c d
  unfold rsw op
  by_cases h : c < n ∧ d < n
  · rw [if_pos (by omega)]
  · rw [if_neg (by omega)]
    have no : ∀ x y, ¬ (x < n ∧ y < n) → R x y = false := fun x y hxy => by
      cases hr : R x y with
      | false => rfl
      | true => exact absurd (hW.2.2 x y hr) hxy
    rw [no c d h, no d c (fun q => h ⟨q.2, q.1⟩)]
theorem rsw_at {R : Nat → Nat → Bool} {a b : Nat} (hb : b < a) : rsw R a b a b = R a b ∧ rsw R a b b a = R b a := by
  unfold rsw
  exact ⟨if_neg (by omega), if_neg (by omega)⟩
theorem rsw_step {R : Nat → Nat → Bool} {a b c d : Nat} (hb : b < a) : rsw R a (b + 1) c d = if c = a ∧ d = b then R b a else if c = b ∧ d = a then R a b else rsw R a b c d := by
  by_cases e1 : c = a ∧ d = b
  · obtain ⟨rfl, rfl⟩ := e1
    rw [if_pos ⟨rfl, rfl⟩]
    unfold rsw
    rw [if_pos (by omega)]
  · rw [if_neg e1]
    by_cases e2 : c = b ∧ d = a
    · obtain ⟨rfl, rfl⟩ := e2
      rw [if_pos ⟨rfl, rfl⟩]
      unfold rsw
      rw [if_pos (by omega)]
    · rw [if_neg e2]
      unfold rsw
      by_cases h : (c < a ∧ d < a) ∨ (c = a ∧ d < b) ∨ (d = a ∧ c < b)
      · rw [if_pos h, if_pos (by omega)]
      · rw [if_neg h, if_neg (by omega)]
theorem op_W {n : Nat} {R : Nat → Nat → Bool} (hW : zW n R) : zW n (op R) := ⟨hW.1, hW.2.1, fun a b h => (hW.2.2 b a h).symm⟩
theorem op_T {R : Nat → Nat → Bool} {a b : Nat} (h : zT (op R) a b) : zT R b a := h (fun x y => zT R y x) (fun x y q => zT.one q) (fun x y z p q => zT.trans q p)
theorem s_reverse {M : oz_M} {n : Nat} {R : Nat → Nat → Bool} (hW : zW n R) (hA : zA M n R) : ow (f_Arcs_reverse M) (fun r => fr [2] M r.2 ∧ zA r.2 n (op R)) := by
  have hn := hW.2.1
  unfold f_Arcs_reverse
  refine ow_bind (P := fun y => fr [2] M y.2 ∧ zA y.2 n (rsw R n 0)) ?_ (fun y hy => ow_some ⟨hy.1, by rw [← rsw_end hW]; exact hy.2⟩)
  refine ow_for n (fun a s => s.1 = nI a ∧ fr [2] M s.2 ∧ zA s.2 n (rsw R a 0)) (fun a s ha hJ => ?_) (fun s hJ => ?_) 0 _ (Nat.zero_le _) ⟨rfl, fr.refl, by rw [rsw_0]; exact hA⟩
  · obtain ⟨q1, q2, q3⟩ := hJ
    rw [q1, q3.1, if_pos (nI_lt ha (by omega))]
    refine ow_bind (P := fun y => fr [2] M y.2 ∧ zA y.2 n (rsw R a a)) ?_ (fun y hy => ow_some ⟨nI_1 a, hy.1, by rw [← rsw_next]; exact hy.2⟩)
    refine ow_for a (fun b t => t.1 = nI b ∧ fr [2] M t.2 ∧ zA t.2 n (rsw R a b)) (fun b t hb hJ => ?_) (fun t hJ => ?_) 0 _ (Nat.zero_le _) ⟨rfl, q2, q3⟩
    · obtain ⟨g1, g2, g3⟩ := hJ
      rw [g1, if_pos (nI_lt hb (by omega)), show oz_in (nI a) 14 = some a from oz_in_nI (by omega) (by decide), show oz_in (nI b) 14 = some b from oz_in_nI (by omega) (by decide)]
      simp only [Option.bind_some]
      obtain ⟨x1, x2⟩ := rsw_at (R := R) hb
      have b1 := g3.2 a (by omega) b (by omega)
      have b2 := g3.2 b (by omega) a (by omega)
      rw [x1] at b1
      rw [x2] at b2
      obtain ⟨v, ev, hv⟩ := s_has (x := t.2.1 2 a) (n := b) (by omega) t.2
      obtain ⟨w, ew, hw⟩ := s_has (x := t.2.1 2 b) (n := a) (by omega) t.2
      rw [ev, ew]
      simp only [Option.bind_some]
      rw [hv, hw, b1, b2]
      have same : R a b = R b a → rsw R a (b + 1) = rsw R a b := fun e => by
        funext c d
        rw [rsw_step hb]
        by_cases e1 : c = a ∧ d = b
        · obtain ⟨rfl, rfl⟩ := e1
          rw [if_pos ⟨rfl, rfl⟩, x1, e]
        · rw [if_neg e1]
          by_cases e2 : c = b ∧ d = a
          · obtain ⟨rfl, rfl⟩ := e2
            rw [if_pos ⟨rfl, rfl⟩, x2, e]
          · rw [if_neg e2]
      refine ow_ite (fun e => ?_) (fun e => ?_)
      · have e' : R a b = R b a := by
          cases h1 : R a b <;> cases h2 : R b a <;> rw [h1, h2] at e <;> first | rfl | exact absurd e (by decide)
        exact ow_some ⟨nI_1 b, g2, by rw [same e']; exact g3⟩
      · have e' : R b a = !R a b := by
          cases h1 : R a b <;> cases h2 : R b a <;> rw [h1, h2] at e <;> first | rfl | exact absurd rfl e
        have ene : ¬ b = a := by omega
        have r1 : (oz_s t.2 2 a (t.2.1 2 a ^^^ 1 <<< (nI b &&& 31))).1 2 b = t.2.1 2 b := by rw [rd_s, if_neg (by simp [ene])]
        rw [r1]
        refine ow_some ⟨nI_1 b, (g2.s (by decide)).s (by decide), ?_, fun c hc d hd => ?_⟩
        · rw [rd_s, if_neg (by simp), rd_s, if_neg (by simp)]; exact g3.1
        · rw [rsw_step hb, rd_s]
          by_cases ec : c = b
          · subst ec
            rw [if_pos ⟨rfl, rfl⟩, zb_xor, zb_one a (by omega) d hd, g3.2 c (by omega) d hd]
            rw [if_neg (by omega)]
            by_cases ed : d = a
            · subst ed
              rw [if_pos ⟨rfl, rfl⟩, x2, e']
              cases R d c <;> simp
            · rw [if_neg (by omega)]
              simp [ed]
          · rw [if_neg (by simp [ec]), rd_s]
            by_cases ec2 : c = a
            · subst ec2
              rw [if_pos ⟨rfl, rfl⟩, zb_xor, zb_one b (by omega) d hd, g3.2 c (by omega) d hd]
              by_cases ed : d = b
              · subst ed
                rw [if_pos ⟨rfl, rfl⟩, x1, e']
                cases R c d <;> simp
              · rw [if_neg (by omega), if_neg (by omega)]
                simp [ed]
            · rw [if_neg (by simp [ec2]), g3.2 c hc d hd, if_neg (by omega), if_neg (by omega)]
    · obtain ⟨g1, g2, g3⟩ := hJ
      rw [g1, if_neg (nI_nlt (Nat.le_refl _) (by omega))]
      exact ow_some ⟨g2, g3⟩
  · obtain ⟨q1, q2, q3⟩ := hJ
    rw [q1, q3.1, if_neg (nI_nlt (Nat.le_refl _) (by omega))]
    exact ow_some ⟨q2, q3⟩
theorem s_isArc {M : oz_M} {n : Nat} {R : Nat → Nat → Bool} (hR : zR M n R) {a b : Nat} (ha : a < 14) (hb : b < 14) : f_Model_isArc (nI a) (nI b) M = some (bi (R a b)) := by
  unfold f_Model_isArc
  rw [nI_14, show oz_in (nI (14 * a + b)) 196 = some (14 * a + b) from oz_in_nI (by omega) (by decide)]
  simp only [Option.bind_some]
  rw [hR.2 a ha b hb]
  exact z_bi (R a b)
theorem s_rswap {M : oz_M} {n : Nat} {R : Nat → Nat → Bool} (hW : zW n R) (hR : zR M n R) : ow (oz_lp (fun (s4 : Int32 × oz_M) => (if s4.1 < (s4.2.1 62 1) then ((oz_lp (fun (s5 : Int32 × oz_M) => (if s5.1 < s4.1 then ((f_Model_isArc s4.1 s5.1 s5.2).bind fun v6 => (f_Model_isArc s5.1 s4.1 s5.2).bind fun v7 => (oz_in ((14 * s4.1) + s5.1) 196).bind fun j8 => (some (oz_s s5.2 63 j8 (vp_nar .boolean v7))).bind fun M9 => (oz_in ((14 * s5.1) + s4.1) 196).bind fun j10 => (some (oz_s M9 63 j10 (vp_nar .boolean v6))).bind fun M11 => some (.inl (s5.1 + 1, M11))) else (some (.inr (s5.1, s5.2))) : Option ((Int32 × oz_M) ⊕ (Int32 × oz_M)))) (0, s4.2)).bind fun (y13 : Int32 × oz_M) => some (.inl (s4.1 + 1, y13.2))) else (some (.inr (s4.1, s4.2))) : Option ((Int32 × oz_M) ⊕ (Int32 × oz_M)))) (0, M)) (fun y => fr [63] M y.2 ∧ zR y.2 n (op R)) := by
  have hn := hW.2.1
  rw [← rsw_end hW]
  refine ow_for n (fun a s => s.1 = nI a ∧ fr [63] M s.2 ∧ zR s.2 n (rsw R a 0)) (fun a s ha hJ => ?_) (fun s hJ => ?_) 0 _ (Nat.zero_le _) ⟨rfl, fr.refl, by rw [rsw_0]; exact hR⟩
  · obtain ⟨q1, q2, q3⟩ := hJ
    rw [q1, q3.1, if_pos (nI_lt ha (by omega))]
    refine ow_bind (P := fun y => fr [63] M y.2 ∧ zR y.2 n (rsw R a a)) ?_ (fun y hy => ow_some ⟨nI_1 a, hy.1, by rw [← rsw_next]; exact hy.2⟩)
    refine ow_for a (fun b t => t.1 = nI b ∧ fr [63] M t.2 ∧ zR t.2 n (rsw R a b)) (fun b t hb hJ => ?_) (fun t hJ => ?_) 0 _ (Nat.zero_le _) ⟨rfl, q2, q3⟩
    · obtain ⟨g1, g2, g3⟩ := hJ
      obtain ⟨x1, x2⟩ := rsw_at (R := R) hb
      rw [g1, if_pos (nI_lt hb (by omega)), s_isArc g3 (by omega) (by omega), s_isArc g3 (by omega) (by omega), x1, x2, nI_14, nI_14, show oz_in (nI (14 * a + b)) 196 = some (14 * a + b) from oz_in_nI (by omega) (by decide), show oz_in (nI (14 * b + a)) 196 = some (14 * b + a) from oz_in_nI (by omega) (by decide)]
      simp only [Option.bind_some]
      rw [nar_b, nar_b]
      refine ow_some ⟨nI_1 b, (g2.s (by decide)).s (by decide), ?_, fun c hc d hd => ?_⟩
      · rw [rd_s, if_neg (by simp), rd_s, if_neg (by simp)]; exact g3.1
      · by_cases e2 : c = b ∧ d = a
        · obtain ⟨rfl, rfl⟩ := e2
          have er : rsw R d (c + 1) c d = R d c := by rw [rsw_step hb, if_neg (by omega), if_pos ⟨rfl, rfl⟩]
          rw [er, rd_s, if_pos ⟨rfl, rfl⟩]; rfl
        · have n2 : ¬ (14 * c + d = 14 * b + a) := fun q => e2 (by omega)
          rw [rd_s, if_neg (by simp [n2]), rd_s]
          by_cases e1 : c = a ∧ d = b
          · obtain ⟨rfl, rfl⟩ := e1
            have er : rsw R c (d + 1) c d = R d c := by rw [rsw_step hb, if_pos ⟨rfl, rfl⟩]
            rw [er, if_pos ⟨rfl, rfl⟩]; rfl
          · have n1 : ¬ (14 * c + d = 14 * a + b) := fun q => e1 (by omega)
            have er : rsw R a (b + 1) c d = rsw R a b c d := by rw [rsw_step hb, if_neg e1, if_neg e2]
            rw [er, if_neg (by simp [n1]), g3.2 c hc d hd]
    · obtain ⟨g1, g2, g3⟩ := hJ
      rw [g1, if_neg (nI_nlt (Nat.le_refl _) (by omega))]
      exact ow_some ⟨g2, g3⟩
  · obtain ⟨q1, q2, q3⟩ := hJ
    rw [q1, q3.1, if_neg (nI_nlt (Nat.le_refl _) (by omega))]
    exact ow_some ⟨q2, q3⟩
theorem us_21 {M : oz_M} {n : Nat} {R : Nat → Nat → Bool} (h : zH M n R) {p1 p2 p3 : Int32} : ow (f_L21 p1 p2 p3 M) (fun N => zH N n (op R)) := by
  have hac : ∀ a, ¬ zT (op R) a a := fun a q => h.ac a (op_T q)
  unfold f_L21 f_Law_turn f_Hall_turn
  simp only [s_wants h.st, b2_some, el_inr]
  obtain ⟨⟨u1, M1⟩, e1, f1, g1⟩ := s_unsettle M
  dsimp only at f1 g1
  rw [e1]
  simp only [b2_some]
  obtain ⟨⟨u2, M2⟩, e2, f2, g2⟩ := s_reverse h.W (h.1.2.1.fr f1 (by decide) (by decide))
  dsimp only at f2 g2
  rw [e2]
  simp only [b2_some]
  have f12 : fr [0, 2, 3, 53] M M2 := (f1.sub (by decide)).trans (f2.sub (by decide))
  obtain ⟨⟨u3, M3⟩, e3, f3, k6, k3, k4⟩ := adopt_settle (op_W h.W) hac g2 (g1.fr f2 (by decide) (by decide) (by decide)) (by rw [f12.at (by decide)]; exact h.1.2.2.2.2.2.2)
  dsimp only at f3 k6 k3 k4
  rw [e3]
  simp only [b2_some, el_inr]
  have f13 : fr [0, 2, 3, 53, 6, 7, 8, 9, 10, 11, 12, 45] M M3 := (f12.sub (by decide)).trans (f3.sub (by decide))
  unfold f_Model_turn
  rw [if_neg (by rw [f13.at (by decide)]; exact h.rst)]
  simp only [Option.bind_some]
  rw [if_neg (um_0 _)]
  have hR3 : zR (oz_s M3 62 0 0) n R := by
    have := h.R.fr f13 (by decide) (by decide)
    refine ⟨by rw [rd_s, if_neg (by simp)]; exact this.1, fun a ha b hb => by rw [rd_s, if_neg (by simp)]; exact this.2 a ha b hb⟩
  obtain ⟨y, ey, fy, ry⟩ := s_rswap h.W hR3
  simp only [Option.bind_some] at ey
  rw [ey]
  simp only [Option.bind_some]
  have fN : fr [62, 63, 64, 70, 71, 72, 73, 74] M3 y.2 := by
    have a : fr [62, 63, 64, 70, 71, 72, 73, 74] M3 (oz_s M3 62 0 0) := fr.refl.s (by decide)
    exact a.trans (fy.sub (by decide))
  obtain ⟨⟨u4, M4⟩, e4, v4, t4, _, H⟩ := k4 y.2 fN ry
  dsimp only at v4 t4 H
  rw [e4]
  simp only [b2_some]
  unfold f_Model_thrown
  simp only [Option.bind_some]
  rw [if_pos t4]
  exact ow_some H
