/-! One more link, or what bars it. -/
theorem que.fr {M N : oz_M} {n S : Nat} {lt : Nat → Nat → Bool} {f : Nat → Option Nat} {x e O : Nat} {qe : Nat → Nat} (h : que M n S lt f x e O qe) (k60 : N.1 60 = M.1 60) (k61 : N.1 61 = M.1 61) : que N n S lt f x e O qe := by
  unfold que at h ⊢
  rw [k60, k61]; exact h
theorem que_le {M : oz_M} {n S : Nat} {lt : Nat → Nat → Bool} {f : Nat → Option Nat} {x e O : Nat} {qe : Nat → Nat} (hS : S < 2 ^ n) (h : que M n S lt f x e O qe) : e ≤ n := by
  have := cnt_inj (P := fun _ => true) (Q := fun _ => true) (N := e) (N' := n) qe (fun j hj _ => ⟨bit_in hS (h.2.1 j hj).1, rfl⟩) (fun i j hi hj _ _ e => h.2.2.1 i j hi hj e)
  rwa [cnt_all, cnt_all] at this
theorem lk.fr {M N : oz_M} {n S : Nat} {lt : Nat → Nat → Bool} {f g : Nat → Option Nat} (h : lk M n S lt f g) (k58 : N.1 58 = M.1 58) (k59 : N.1 59 = M.1 59) : lk N n S lt f g := by
  unfold lk at h ⊢
  rw [k58, k59]; exact h
theorem s_linkOn {M : oz_M} {n S : Nat} {lt : Nat → Nat → Bool} {f g : Nat → Option Nat} {x : Nat} {A : Nat → Prop} (hn : n ≤ 14) (hS : S < 2 ^ n) (ho : ord n lt) (h6 : M.1 6 0 = nI n) (h8 : ∀ x, x < n → M.1 8 x = nI (blw (op lt) n x)) (hl : lk M n S lt f g) (hx : S.testBit x = true) (hfx : f x = none) (hA : cert S lt x f A) : ow (f_Parts_linkOn (nI x) (nI S) M) (fun r => fr [58, 59, 60, 61] M r.2 ∧ ∃ f' g' A', lk r.2 n S lt f' g' ∧ cert S lt (x + 1) f' A' ∧ ∀ p, x < p → f p = none → f' p = none) := by
  have hin : ∀ p, S.testBit p = true → p < n := fun p hp => bit_in hS hp
  have hS14 := lt14 hn hS
  have hszS := sz_le hS hn
  let D : oz_M → Prop := fun N => ∃ f' g' A', lk N n S lt f' g' ∧ cert S lt (x + 1) f' A' ∧ ∀ p, x < p → f p = none → f' p = none
  unfold f_Parts_linkOn
  rw [show oz_in 0 15 = some 0 from oz_in_nI (j := 0) (by decide) (by decide)]
  refine ow_let (ow_let ?_)
  -- what stands while the queue grows
  let I : Nat → Nat → (Nat → Nat) → oz_M → Prop := fun O e qe N => fr [60, 61] M N ∧ sub O S ∧ e + sz O = 1 + sz S ∧ 1 ≤ e ∧ que N n S lt f x e O qe
  refine ow_bind (P := oz_el (fun y => fr [58, 59, 60, 61] M y.2.2.2 ∧ D y.2.2.2) (fun r => fr [58, 59, 60, 61] M r.2 ∧ D r.2)) ?_ (fun y hy => ?_)
  · have f0 : fr [60, 61] M (oz_s M 61 0 (nI x)) := fr.refl.s (by decide)
    refine ow_for n (fun i s => s.2.2.1 = nI i ∧ ∃ O e qe, s.1 = nI O ∧ s.2.1 = nI e ∧ I O e qe s.2.2.2 ∧ i ≤ e ∧ ∀ j, j < i → ∀ b, S.testBit b = true → lt (qe j) b = true → O.testBit b = false) (fun i s hi hJ => ?_) (fun s hJ => ?_) 0 _ (Nat.zero_le _) ⟨rfl, S, 1, fun _ => x, rfl, rfl, ⟨f0, fun _ h => h, rfl, Nat.le_refl _, rfl, fun j hj => ⟨hx, ?_⟩, fun i j hi hj _ => (by omega), fun j h1 h2 => (by omega), fun b h1 h2 => (by rw [h1] at h2; cases h2)⟩, Nat.zero_le _, fun j hj => (by omega)⟩
    · obtain ⟨q1, O, e, qe, q2, q3, ⟨i1, i2, i3, i4, i5⟩, q4, q5⟩ := hJ
      have hen := que_le hS i5
      rw [q1, q2, q3, i1.at (by decide), h6, if_pos (nI_lt hi (by omega))]
      refine ow_ite (fun hc => ?_) (fun hc => ?_)
      · have hie := (nI_ltI (by omega) (by omega)).mp hc
        rw [show oz_in (nI i) 15 = some i from oz_in_nI (by omega) (by decide)]
        simp only [Option.bind_some]
        have hqi := i5.2.1 i hie
        have hqin := hin _ hqi.1
        rw [hqi.2]
        refine ow_bind (P := oz_el (fun y => ∃ O e qe', y.1 = nI O ∧ y.2.1 = nI e ∧ I O e qe' y.2.2.2 ∧ i + 1 ≤ e ∧ ∀ j, j < i + 1 → ∀ b, S.testBit b = true → lt (qe' j) b = true → O.testBit b = false) (fun r => fr [58, 59, 60, 61] M r.2 ∧ D r.2)) ?_ (fun y hy => ?_)
        · refine ow_for n (fun b t => t.2.2.1 = nI b ∧ ∃ O e qe', t.1 = nI O ∧ t.2.1 = nI e ∧ I O e qe' t.2.2.2 ∧ i + 1 ≤ e ∧ qe' i = qe i ∧ (∀ j, j < i → ∀ b, S.testBit b = true → lt (qe' j) b = true → O.testBit b = false) ∧ ∀ b', b' < b → S.testBit b' = true → lt (qe i) b' = true → O.testBit b' = false) (fun b t hb hJ => ?_) (fun t hJ => ?_) 0 _ (Nat.zero_le _) ⟨rfl, O, e, qe, rfl, rfl, ⟨i1, i2, i3, i4, i5⟩, hie, rfl, q5, fun b' h => (by omega)⟩
          · obtain ⟨g1, O, e, qe', g2, g3, ⟨i1, i2, i3, i4, i5⟩, g4, g5, g6, g7⟩ := hJ
            have hen := que_le hS i5
            have t8 : t.2.2.2.1 8 (qe i) = nI (blw (op lt) n (qe i)) := by rw [i1.at (by decide)]; exact h8 _ hqin
            have hO14 : O < 2 ^ 14 := sub_lt i2 hS14
            rw [g1, g2, g3, i1.at (show (6 : Nat) ∉ [60, 61] by decide), h6, if_pos (nI_lt hb (by omega)), show oz_in (nI (qe i)) 14 = some (qe i) from oz_in_nI (by omega) (by decide)]
            simp only [Option.bind_some]
            rw [t8, nI_and, s_chas _ (by omega), Nat.testBit_and, blw_bit (ord_op ho)]
            simp only [Option.bind_some]
            have hskip : (op lt b (qe i) && O.testBit b) = false → ∀ b', b' < b + 1 → S.testBit b' = true → lt (qe i) b' = true → O.testBit b' = false := fun hk b' hb' h1 h2 => by
              by_cases e : b' = b
              · subst e
                have h2' : op lt b' (qe i) = true := h2
                rw [h2'] at hk
                simpa using hk
              · exact g7 b' (by omega) h1 h2
            cases hk : (op lt b (qe i) && O.testBit b) with
            | false =>
              rw [bi_f, if_pos rfl]
              exact ow_some ⟨nI_1 b, O, e, qe', rfl, rfl, ⟨i1, i2, i3, i4, i5⟩, g4, g5, g6, hskip hk⟩
            | true =>
              rw [if_neg bi_ne]
              simp only [Bool.and_eq_true] at hk
              have hlt : lt (qe i) b = true := hk.1
              have hbS := i2 b hk.2
              rw [show oz_in (nI b) 14 = some b from oz_in_nI (by omega) (by decide)]
              simp only [Option.bind_some]
              have e59 : (oz_s t.2.2.2 60 b (nI (qe i))).1 59 b = oI (g b) := by
                rw [rd_s, if_neg (by simp), i1.at (by decide)]; exact (hl.1 b hb).2
              rw [e59]
              have hgb : ∀ p, g b = some p → p < n := fun p hp => hin p (hl.2.2 p b ((hl.2.1 p b).mpr hp)).1
              have fr9 : fr [60, 61] M (oz_s t.2.2.2 60 b (nI (qe i))) := i1.s (by decide)
              -- the queue as it is, b reached
              have q9 : que (oz_s t.2.2.2 60 b (nI (qe i))) n S lt f x e O qe' := by
                obtain ⟨u1, u2, u3, u4, u5⟩ := i5
                refine ⟨u1, fun j hj => ⟨(u2 j hj).1, by rw [rd_s, if_neg (by simp)]; exact (u2 j hj).2⟩, u3, fun j h1 h2 => ?_, u5⟩
                obtain ⟨b2, r, v1, v2, v3, v4, v5⟩ := u4 j h1 h2
                refine ⟨b2, r, v1, v2, ?_, v4, v5⟩
                have : b2 ≠ b := fun q => by rw [q, hk.2] at v5; cases v5
                rw [rd_s, if_neg (by simp [this])]; exact v3
              refine ow_ite (fun hc2 => ?_) (fun hc2 => ?_)
              · have hg0 : g b = none := (oI_is hn hgb).mp hc2
                refine ow_b2 (s_relink (e := e) (r0 := i) hn hS (by rw [fr9.at (by decide)]; exact h6) (hl.fr (fr9 58 (by decide)).1 (fr9 59 (by decide)).1) hfx q9 hen hA hbS hg0 (by omega) (by rw [rd_s, if_pos ⟨rfl, rfl⟩, g5]) (by rw [g5]; exact hlt)) (fun _ N hN => ?_)
                obtain ⟨fN, f', g', n1, n2, n3⟩ := hN
                dsimp only at fN n1
                refine ow_some ⟨(fr9.sub (by decide)).trans (fN.sub (by decide)), f', g', A, n1, ⟨fun p hp hSp hfp => ?_, hA.2.1, fun p q hAp hSq hlq => ?_⟩, fun p hp hfp => (n2 p).mpr ⟨hfp, by omega⟩⟩
                · obtain ⟨w1, w2⟩ := (n2 p).mp hfp
                  exact hA.1 p (by omega) hSp w1
                · obtain ⟨p', w1, w2⟩ := hA.2.2 p q hAp hSq hlq
                  exact ⟨p', by rw [n3 p' w2]; exact w1, w2⟩
              · obtain ⟨p, hgp⟩ : ∃ p, g b = some p := by
                  cases hg : g b with
                  | none => exact absurd ((oI_is hn hgb).mpr hg) hc2
                  | some p => exact ⟨p, rfl⟩
                have hfp : f p = some b := (hl.2.1 p b).mpr hgp
                have hpS := (hl.2.2 p b hfp).1
                have hszO : 1 ≤ sz O := cnt_pos (show b < 14 by omega) hk.2
                rw [hgp, show oz_in (nI e) 15 = some e from oz_in_nI (by omega) (by decide), nI_del hO14 (by omega)]
                simp only [Option.bind_some]
                have hdb : ∀ i, (del O b).testBit i = (O.testBit i && !decide (i = b)) := fun i => del_bit hO14 (by omega) i
                obtain ⟨u1, u2, u3, u4, u5⟩ := q9
                have hpnew : ∀ j, j < e → qe' j ≠ p := fun j hj hjp => by
                  by_cases hj0 : j = 0
                  · rw [hj0, u1] at hjp
                    rw [← hjp, hfx] at hfp; cases hfp
                  · obtain ⟨b2, r, v1, _, _, _, v5⟩ := u4 j (by omega) hj
                    rw [hjp, hfp] at v1
                    cases v1
                    rw [hk.2] at v5; cases v5
                let qn : Nat → Nat := fun j => if j = e then p else qe' j
                have qno : ∀ j, j < e → qn j = qe' j := fun j hj => by
                  show (if j = e then p else qe' j) = _
                  rw [if_neg (by omega)]
                have qne : qn e = p := by show (if e = e then p else qe' e) = p; rw [if_pos rfl]
                refine ow_some ⟨nI_1 b, del O b, e + 1, qn, rfl, nI_1 e, ⟨fr9.s (by decide), fun i hi => i2 i (by rw [hdb] at hi; simp only [Bool.and_eq_true] at hi; exact hi.1), ?_, by omega, ?_, fun j hj => ?_, fun a c ha hc3 hac => ?_, fun j h1 h2 => ?_, fun c hc3 hc4 => ?_⟩, by omega, by rw [qno i (by omega)]; exact g5, fun j hj b2 hb2 hl2 => ?_, fun b2 hb2 hb3 hb4 => ?_⟩
                · have := sz_del hO14 (show b < 14 by omega) hk.2
                  omega
                · rw [qno 0 (by omega)]; exact u1
                · by_cases ej : j = e
                  · rw [ej, qne]
                    exact ⟨hpS, by show (oz_s (oz_s t.2.2.2 60 b (nI (qe i))) 61 e (oI (some p))).1 61 e = _; rw [rd_s, if_pos ⟨rfl, rfl⟩]; rfl⟩
                  · rw [qno j (by omega)]
                    exact ⟨(u2 j (by omega)).1, by
                      show (oz_s (oz_s t.2.2.2 60 b (nI (qe i))) 61 e (oI (some p))).1 61 j = _
                      rw [rd_s, if_neg (by simp [ej])]; exact (u2 j (by omega)).2⟩
                · by_cases ea : a = e
                  · by_cases ec : c = e
                    · omega
                    · rw [ea, qne, qno c (by omega)] at hac
                      exact absurd hac.symm (hpnew c (by omega))
                  · by_cases ec : c = e
                    · rw [ec, qne, qno a (by omega)] at hac
                      exact absurd hac (hpnew a (by omega))
                    · rw [qno a (by omega), qno c (by omega)] at hac
                      exact u3 a c (by omega) (by omega) hac
                · by_cases ej : j = e
                  · refine ⟨b, i, by rw [ej, qne]; exact hfp, by omega, ?_, by rw [qno i (by omega), g5]; exact hlt, by rw [hdb]; simp⟩
                    show (oz_s (oz_s t.2.2.2 60 b (nI (qe i))) 61 e (oI (some p))).1 60 b = _
                    rw [rd_s, if_neg (by simp), rd_s, if_pos ⟨rfl, rfl⟩, qno i (by omega), g5]
                  · obtain ⟨b2, r, v1, v2, v3, v4, v5⟩ := u4 j h1 (by omega)
                    refine ⟨b2, r, by rw [qno j (by omega)]; exact v1, v2, ?_, by rw [qno r (by omega)]; exact v4, by rw [hdb, v5]; rfl⟩
                    show (oz_s (oz_s t.2.2.2 60 b (nI (qe i))) 61 e (oI (some p))).1 60 b2 = _
                    rw [rd_s, if_neg (by simp), qno r (by omega)]; exact v3
                · by_cases ec : c = b
                  · exact ⟨e, by omega, by omega, by rw [qne, ec]; exact hfp⟩
                  · rw [hdb] at hc4
                    simp only [ec, decide_false, Bool.not_false, Bool.and_true] at hc4
                    obtain ⟨j, j1, j2, j3⟩ := u5 c hc3 hc4
                    exact ⟨j, j1, by omega, by rw [qno j j2]; exact j3⟩
                · rw [qno j (by omega)] at hl2
                  rw [hdb, g6 j hj b2 hb2 hl2]; rfl
                · rw [hdb]
                  by_cases eb : b2 = b
                  · simp [eb]
                  · rw [g7 b2 (by omega) hb3 hb4]; rfl
          · obtain ⟨g1, O, e, qe', g2, g3, ⟨i1, i2, i3, i4, i5⟩, g4, g5, g6, g7⟩ := hJ
            rw [g1, i1.at (by decide), h6, if_neg (nI_nlt (Nat.le_refl _) (by omega))]
            refine ow_some ⟨O, e, qe', g2, g3, ⟨i1, i2, i3, i4, i5⟩, g4, fun j hj b hb hlb => ?_⟩
            by_cases ej : j = i
            · rw [ej, g5] at hlb
              exact g7 b (hin b hb) hb hlb
            · exact g6 j (by omega) b hb hlb
        · cases y with
          | inl y =>
            rw [el_inl] at hy ⊢
            obtain ⟨O, e, qe', y1, y2, y3, y4, y5⟩ := hy
            exact ow_some ⟨nI_1 i, O, e, qe', y1, y2, y3, y4, y5⟩
          | inr r => rw [el_inr] at hy ⊢; exact ow_some hy
      · -- the queue is at its end
        have hie : e ≤ i := Nat.le_of_not_lt (fun q => hc (nI_lt q (by omega)))
        refine ow_some ⟨i1.sub (by decide), f, g, fun p => A p ∨ ∃ j, j < e ∧ qe j = p, hl.fr (i1 58 (by decide)).1 (i1 59 (by decide)).1, ⟨fun p hp hSp hfp => ?_, fun p hp => ?_, fun p q hp hSq hlq => ?_⟩, fun p _ h => h⟩
        · by_cases ep : p = x
          · exact Or.inr ⟨0, by omega, by rw [i5.1, ep]⟩
          · exact Or.inl (hA.1 p (by omega) hSp hfp)
        · rcases hp with hp | ⟨j, hj, rfl⟩
          · exact hA.2.1 p hp
          · exact (i5.2.1 j hj).1
        · rcases hp with hp | ⟨j, hj, rfl⟩
          · obtain ⟨p', w1, w2⟩ := hA.2.2 p q hp hSq hlq
            exact ⟨p', w1, Or.inl w2⟩
          · have := q5 j (by omega) q hSq hlq
            obtain ⟨j', j1, j2, j3⟩ := i5.2.2.2.2 q hSq this
            exact ⟨qe j', j3, Or.inr ⟨j', j2, rfl⟩⟩
    · obtain ⟨q1, O, e, qe, q2, q3, ⟨i1, i2, i3, i4, i5⟩, q4, q5⟩ := hJ
      have hen := que_le hS i5
      rw [q1, i1.at (by decide), h6, if_neg (nI_nlt (Nat.le_refl _) (by omega))]
      refine ow_some ⟨i1.sub (by decide), f, g, fun p => A p ∨ ∃ j, j < e ∧ qe j = p, hl.fr (i1 58 (by decide)).1 (i1 59 (by decide)).1, ⟨fun p hp hSp hfp => ?_, fun p hp => ?_, fun p q hp hSq hlq => ?_⟩, fun p _ h => h⟩
      · by_cases ep : p = x
        · exact Or.inr ⟨0, by omega, by rw [i5.1, ep]⟩
        · exact Or.inl (hA.1 p (by omega) hSp hfp)
      · rcases hp with hp | ⟨j, hj, rfl⟩
        · exact hA.2.1 p hp
        · exact (i5.2.1 j hj).1
      · rcases hp with hp | ⟨j, hj, rfl⟩
        · obtain ⟨p', w1, w2⟩ := hA.2.2 p q hp hSq hlq
          exact ⟨p', w1, Or.inl w2⟩
        · have := q5 j (by omega) q hSq hlq
          obtain ⟨j', j1, j2, j3⟩ := i5.2.2.2.2 q hSq this
          exact ⟨qe j', j3, Or.inr ⟨j', j2, rfl⟩⟩
    · have : j = 0 := by omega
      subst this
      show (oz_s M 61 0 (nI x)).1 61 0 = nI x
      rw [rd_s, if_pos ⟨rfl, rfl⟩]
  · cases y with
    | inl y => rw [el_inl] at hy ⊢; exact ow_some hy
    | inr r => rw [el_inr] at hy ⊢; exact ow_some hy
