/-! The law's loop, out of f_step alone. -/
theorem oz_scrAt {G : oz_G} {b0 L : Nat} {xs : Nat → Int32} (h : oz_Len G b0 L xs) (hL : L ≤ 2048) {k : Nat} (hk : k < L) : oz_Scr G b0 (nI k) (xs k) :=
  ⟨L, xs, h, nI_in hk (by omega), by rw [nI_clamp (by omega)]⟩
theorem oz_law_le {L k : Nat} (hL : L ≤ 2048) (hk : k ≤ 2051) (h : ¬ Int32.ofNat L - 4 < nI k) : k + 4 ≤ L := by
  have e : (Int32.ofNat L - 4).toInt = (L : Int) - 4 := by
    rw [Int32.toInt_sub, show (Int32.ofNat L).toInt = (L : Int) from nI_toInt (by omega), show (4 : Int32).toInt = 4 from rfl]
    exact Int.bmod_eq_of_le (by omega) (by omega)
  rw [Int32.lt_iff_toInt_lt, e, nI_toInt (by omega)] at h
  omega
set_option maxRecDepth 20000 in
theorem w_step {G : oz_G} {b0 : Nat} {i p0 p1 p2 p3 : Int32} {M : oz_M} (cx : oz_C G code "OrderHallLaw") (cx1 : oz_C (oz_G1 G) code "OrderHallLaw") (hfl : G.1.2.1.stackTraces = false) (hRm : oz_big G.1.2.2.2.1 10) (hcs : G.2.2.1.1 + 1 ≤ G.1.2.2.2.1.cells ∧ G.2.2.1.2.1 + 6 ≤ G.1.2.2.2.1.slots) (hnL : oz_nL G = 8) (h0 : oz_Scr G b0 i p0) (h1 : oz_Scr G b0 (i + 1) p1) (h2 : oz_Scr G b0 (i + 2) p2) (h3 : oz_Scr G b0 (i + 3) p3) : oz_R G 32 [(4, .int i), (3, .ref (oz_b G + 74)), (2, .ref (oz_b G + 62)), (1, .ref (oz_b G + 0)), (0, .ref b0)] [] M (f_step p0 p1 p2 p3 M) (fun M1 => oz_Z (oz_G1 G) 1357 [(4, .int i), (3, .ref (oz_b G + 74)), (2, .ref (oz_b G + 62)), (1, .ref (oz_b G + 0)), (0, .ref b0)] [] M1) := by
  unfold f_step
  refine oz_aload_n (q := 33) cx d_Law_32 rfl rfl 4 rfl ?_
  refine oz_iload (q := 35) cx d_Law_33 rfl 0 rfl ?_
  refine oz_sld (q := 36) cx h0 d_Law_35 rfl ?_
  refine oz_bipush (q := 38) cx d_Law_36 rfl (v := 31) rfl ?_
  refine oz_iand (q := 39) cx d_Law_38 rfl ?_
  refine oz_ite (fun e0 => oz_tin cx 0 e0 d_Law_39 (by decide) (by decide) rfl rfl (w_L0 cx cx1 hfl hRm hcs hnL h1 h2 h3)) (fun e0 => ?_)
  refine oz_ite (fun e1 => oz_tin cx 1 e1 d_Law_39 (by decide) (by decide) rfl rfl (w_L1 cx cx1 hfl hRm hcs hnL h1 h2 h3)) (fun e1 => ?_)
  refine oz_ite (fun e2 => oz_tin cx 2 e2 d_Law_39 (by decide) (by decide) rfl rfl (w_L2 cx cx1 hfl hRm hcs hnL h1 h2 h3)) (fun e2 => ?_)
  refine oz_ite (fun e3 => oz_tin cx 3 e3 d_Law_39 (by decide) (by decide) rfl rfl (w_L3 cx cx1 hfl hRm hcs hnL h1 h2 h3)) (fun e3 => ?_)
  refine oz_ite (fun e4 => oz_tin cx 4 e4 d_Law_39 (by decide) (by decide) rfl rfl (w_L4 cx cx1 hfl hRm hcs hnL h1 h2 h3)) (fun e4 => ?_)
  refine oz_ite (fun e5 => oz_tin cx 5 e5 d_Law_39 (by decide) (by decide) rfl rfl (w_L5 cx cx1 hfl hRm hcs hnL h1 h2 h3)) (fun e5 => ?_)
  refine oz_ite (fun e6 => oz_tin cx 6 e6 d_Law_39 (by decide) (by decide) rfl rfl (w_L6 cx cx1 hfl hRm hcs hnL h1 h2 h3)) (fun e6 => ?_)
  refine oz_ite (fun e7 => oz_tin cx 7 e7 d_Law_39 (by decide) (by decide) rfl rfl (w_L7 cx cx1 hfl hRm hcs hnL h1 h2 h3)) (fun e7 => ?_)
  refine oz_ite (fun e8 => oz_tin cx 8 e8 d_Law_39 (by decide) (by decide) rfl rfl (w_L8 cx cx1 hfl hRm hcs hnL h1 h2 h3)) (fun e8 => ?_)
  refine oz_ite (fun e9 => oz_tin cx 9 e9 d_Law_39 (by decide) (by decide) rfl rfl (w_L9 cx cx1 hfl hRm hcs hnL h1 h2 h3)) (fun e9 => ?_)
  refine oz_ite (fun e10 => oz_tin cx 10 e10 d_Law_39 (by decide) (by decide) rfl rfl (w_L10 cx cx1 hfl hRm hcs hnL h1 h2 h3)) (fun e10 => ?_)
  refine oz_ite (fun e11 => oz_tin cx 11 e11 d_Law_39 (by decide) (by decide) rfl rfl (w_L11 cx cx1 hfl hRm hcs hnL h1 h2 h3)) (fun e11 => ?_)
  refine oz_ite (fun e12 => oz_tin cx 12 e12 d_Law_39 (by decide) (by decide) rfl rfl (w_L12 cx cx1 hfl hRm hcs hnL h1 h2 h3)) (fun e12 => ?_)
  refine oz_ite (fun e13 => oz_tin cx 13 e13 d_Law_39 (by decide) (by decide) rfl rfl (w_L13 cx cx1 hfl hRm hcs hnL h1 h2 h3)) (fun e13 => ?_)
  refine oz_ite (fun e14 => oz_tin cx 14 e14 d_Law_39 (by decide) (by decide) rfl rfl (w_L14 cx cx1 hfl hRm hcs hnL h1 h2 h3)) (fun e14 => ?_)
  refine oz_ite (fun e15 => oz_tin cx 15 e15 d_Law_39 (by decide) (by decide) rfl rfl (w_L15 cx cx1 hfl hRm hcs hnL h1 h2 h3)) (fun e15 => ?_)
  refine oz_ite (fun e16 => oz_tin cx 16 e16 d_Law_39 (by decide) (by decide) rfl rfl (w_L16 cx cx1 hfl hRm hcs hnL h1 h2 h3)) (fun e16 => ?_)
  refine oz_ite (fun e17 => oz_tin cx 17 e17 d_Law_39 (by decide) (by decide) rfl rfl (w_L17 cx cx1 hfl hRm hcs hnL h1 h2 h3)) (fun e17 => ?_)
  refine oz_ite (fun e18 => oz_tin cx 18 e18 d_Law_39 (by decide) (by decide) rfl rfl (w_L18 cx cx1 hfl hRm hcs hnL h1 h2 h3)) (fun e18 => ?_)
  refine oz_ite (fun e19 => oz_tin cx 19 e19 d_Law_39 (by decide) (by decide) rfl rfl (w_L19 cx cx1 hfl hRm hcs hnL h1 h2 h3)) (fun e19 => ?_)
  refine oz_ite (fun e20 => oz_tin cx 20 e20 d_Law_39 (by decide) (by decide) rfl rfl (w_L20 cx cx1 hfl hRm hcs hnL h1 h2 h3)) (fun e20 => ?_)
  refine oz_ite (fun e21 => oz_tin cx 21 e21 d_Law_39 (by decide) (by decide) rfl rfl (w_L21 cx cx1 hfl hRm hcs hnL h1 h2 h3)) (fun e21 => ?_)
  refine oz_ite (fun e22 => oz_tin cx 22 e22 d_Law_39 (by decide) (by decide) rfl rfl (w_L22 cx cx1 hfl hRm hcs hnL h1 h2 h3)) (fun e22 => ?_)
  refine oz_ite (fun e23 => oz_tin cx 23 e23 d_Law_39 (by decide) (by decide) rfl rfl (w_L23 cx cx1 hfl hRm hcs hnL h1 h2 h3)) (fun e23 => ?_)
  refine oz_tout cx d_Law_39 (oz_tno 24 (by decide) (fun j hj => match j, hj with | 0, _ => e0 | 1, _ => e1 | 2, _ => e2 | 3, _ => e3 | 4, _ => e4 | 5, _ => e5 | 6, _ => e6 | 7, _ => e7 | 8, _ => e8 | 9, _ => e9 | 10, _ => e10 | 11, _ => e11 | 12, _ => e12 | 13, _ => e13 | 14, _ => e14 | 15, _ => e15 | 16, _ => e16 | 17, _ => e17 | 18, _ => e18 | 19, _ => e19 | 20, _ => e20 | 21, _ => e21 | 22, _ => e22 | 23, _ => e23 | n + 24, h => absurd h (by omega))) rfl ?_
  exact oz_leaf (fun h => oz_wide h)
abbrev oz_LV (b b0 : Nat) (i : Int32) : List (Nat × Value) := [(4, .int i), (3, .ref (b + 74)), (2, .ref (b + 62)), (1, .ref (b + 0)), (0, .ref b0)]
theorem oz_lawloop {P1 : Program × Launch × Env × Room × State} {P2 : MethodId × Array Value × List Frame × Method × Code} {Z : State → Prop} {P4 : (va_G × (Nat → ClassId) × Nat) × Nat} {b0 L : Nat} {xs : Nat → Int32} (I : oz_M → Prop)
    (hI : ∀ (M : oz_M) (p0 p1 p2 p3 : Int32), I M → ∃ M1, f_step p0 p1 p2 p3 M = some M1 ∧ I M1) (hL : L ≤ 2048)
    (hcx : ∀ c n, c ≤ P1.2.2.2.1.cells → n ≤ P1.2.2.2.1.slots → oz_C ((P1, P2, (c, n, Z), P4) : oz_G) code "OrderHallLaw")
    (hfl : P1.2.1.stackTraces = false) (hRm : oz_big P1.2.2.2.1 10) (hnL : P4.2 = 8) (hX : ∀ c n, oz_Len ((P1, P2, (c, n, Z), P4) : oz_G) b0 L xs)
    (hend : ∀ c n i M, c ≤ P1.2.2.2.1.cells → n ≤ P1.2.2.2.1.slots → oz_Z ((P1, P2, (c, n, Z), P4) : oz_G) 1363 (oz_LV P4.1.2.2 b0 i) [] M) :
    ∀ (r j c n : Nat) (M : oz_M), I M → L < 4 * j + 4 + 4 * r → 4 * j ≤ L + 3 → c + r ≤ P1.2.2.2.1.cells → n + 6 * r ≤ P1.2.2.2.1.slots → oz_Z ((P1, P2, (c, n, Z), P4) : oz_G) 23 (oz_LV P4.1.2.2 b0 (nI (4 * j))) [] M := by
  have head : ∀ (j c n : Nat) (M : oz_M), c ≤ P1.2.2.2.1.cells → n ≤ P1.2.2.2.1.slots → 4 * j ≤ L + 3 → (4 * j + 4 ≤ L → oz_Z ((P1, P2, (c, n, Z), P4) : oz_G) 32 (oz_LV P4.1.2.2 b0 (nI (4 * j))) [] M) → oz_Z ((P1, P2, (c, n, Z), P4) : oz_G) 23 (oz_LV P4.1.2.2 b0 (nI (4 * j))) [] M := by
    intro j c n M hc hn hj hgo
    have cx := hcx c n hc hn
    have R : oz_R ((P1, P2, (c, n, Z), P4) : oz_G) 23 (oz_LV P4.1.2.2 b0 (nI (4 * j))) [] M (if Int32.ofNat L - 4 < nI (4 * j) then some () else some ()) (fun _ => True) := by
      refine oz_iload (q := 25) cx d_Law_23 rfl 0 rfl ?_
      refine oz_aload_n (q := 26) cx d_Law_25 rfl rfl 4 rfl ?_
      refine oz_slen (q := 27) cx (hX c n) d_Law_26 rfl ?_
      refine oz_iconst (q := 28) cx d_Law_27 rfl (v := 4) rfl ?_
      refine oz_isub (q := 29) cx d_Law_28 rfl ?_
      refine oz_icmp_gt (q := 32) cx d_Law_29 rfl rfl (fun h => ?_) (fun h => ?_)
      · exact oz_leaf (fun _ => hend c n _ M hc hn)
      · exact oz_leaf (fun _ => hgo (oz_law_le hL (by omega) h))
    exact R () (by split <;> rfl) trivial
  intro r
  induction r with
  | zero =>
    intro j c n M _ h1 h2 h3 h4
    exact head j c n M (by omega) (by omega) h2 (fun h => absurd h (by omega))
  | succ r ih =>
    intro j c n M hM h1 h2 h3 h4
    refine head j c n M (by omega) (by omega) h2 (fun hgo => ?_)
    obtain ⟨M1, hF, hM1⟩ := hI M (xs (4 * j)) (xs (4 * j + 1)) (xs (4 * j + 2)) (xs (4 * j + 3)) hM
    have cx := hcx c n (by omega) (by omega)
    have cx1 : oz_C (oz_G1 ((P1, P2, (c, n, Z), P4) : oz_G)) code "OrderHallLaw" := hcx (c + 1) (n + 6) (by omega) (by omega)
    refine w_step (G := ((P1, P2, (c, n, Z), P4) : oz_G)) (b0 := b0) (i := nI (4 * j)) cx cx1 hfl hRm ⟨by show c + 1 ≤ P1.2.2.2.1.cells; omega, by show n + 6 ≤ P1.2.2.2.1.slots; omega⟩ hnL (oz_scrAt (hX c n) hL (k := 4 * j) (by omega))
      (by rw [show nI (4 * j) + 1 = nI (4 * j + 1) from nI_add _ 1]; exact oz_scrAt (hX c n) hL (by omega))
      (by rw [show nI (4 * j) + 2 = nI (4 * j + 2) from nI_add _ 2]; exact oz_scrAt (hX c n) hL (by omega))
      (by rw [show nI (4 * j) + 3 = nI (4 * j + 3) from nI_add _ 3]; exact oz_scrAt (hX c n) hL (by omega)) M1 hF ?_
    have R : oz_R ((P1, P2, (c + 1, n + 6, Z), P4) : oz_G) 1357 (oz_LV P4.1.2.2 b0 (nI (4 * j))) [] M1 (some ()) (fun _ => True) := by
      refine oz_iinc (q := 1360) cx1 (nI (4 * j) + 4) d_Law_1357 rfl 0 rfl rfl (by show 4 < P4.2; rw [hnL]; decide) (lv2 := oz_LV P4.1.2.2 b0 (nI (4 * j) + 4)) rfl ?_
      refine oz_goto (q := 23) cx1 d_Law_1360 rfl ?_
      refine oz_leaf (fun _ => ?_)
      rw [show nI (4 * j) + 4 = nI (4 * (j + 1)) from nI_add _ 4]
      exact ih (j + 1) (c + 1) (n + 6) M1 hM1 (by omega) (by omega) (by omega) (by omega)
    exact R () rfl trivial
