/-! The chains, made and cut. -/
theorem s_linkChains {M : oz_M} {n S : Nat} {lt : Nat → Nat → Bool} (hn : n ≤ 14) (hS : S < 2 ^ n) (ho : ord n lt) (h6 : M.1 6 0 = nI n) (h8 : ∀ x, x < n → M.1 8 x = nI (blw (op lt) n x)) : ow (f_Parts_linkChains (nI S) M) (fun r => fr [58, 59, 60, 61] M r.2 ∧ ∃ f g A, lk r.2 n S lt f g ∧ cert S lt n f A) := by
  unfold f_Parts_linkChains
  refine ow_bind (P := fun y => fr [58, 59, 60, 61] M y.2 ∧ lk y.2 n S lt (fun _ => none) (fun _ => none)) ?_ (fun y hy => ?_)
  · refine ow_for n (fun k s => s.1 = nI k ∧ fr [58, 59, 60, 61] M s.2 ∧ ∀ p, p < k → s.2.1 58 p = -1 ∧ s.2.1 59 p = -1) (fun k s hk hJ => ?_) (fun s hJ => ?_) 0 _ (Nat.zero_le _) ⟨rfl, fr.refl, fun p h => by omega⟩
    · obtain ⟨q1, q2, q3⟩ := hJ
      rw [q1, q2.at (by decide), h6, if_pos (nI_lt hk (by omega)), show oz_in (nI k) 14 = some k from oz_in_nI (by omega) (by decide)]
      simp only [Option.bind_some]
      refine ow_some ⟨nI_1 k, (q2.s (by decide)).s (by decide), fun p hp => ?_⟩
      simp only [rd_s]
      by_cases e : p = k
      · subst e; simp
      · simp [e]; exact q3 p (by omega)
    · obtain ⟨q1, q2, q3⟩ := hJ
      rw [q1, q2.at (by decide), h6, if_neg (nI_nlt (Nat.le_refl _) (by omega))]
      exact ow_some ⟨q2, q3, fun p q => ⟨fun h => (by cases h), fun h => (by cases h)⟩, fun p q h => (by cases h)⟩
  · obtain ⟨y1, y2⟩ := hy
    refine ow_bind (P := fun z => fr [58, 59, 60, 61] M z.2 ∧ ∃ f g A, lk z.2 n S lt f g ∧ cert S lt n f A) ?_ (fun z hz => ow_some hz)
    refine ow_for n (fun x s => s.1 = nI x ∧ fr [58, 59, 60, 61] M s.2 ∧ ∃ f g A, lk s.2 n S lt f g ∧ cert S lt x f A ∧ ∀ p, x ≤ p → f p = none) (fun x s hx hJ => ?_) (fun s hJ => ?_) 0 _ (Nat.zero_le _) ⟨rfl, y1, _, _, fun _ => False, y2, ⟨fun p h => (by omega), fun p h => h.elim, fun p q h => h.elim⟩, fun _ _ => rfl⟩
    · obtain ⟨q1, q2, f, g, A, q3, q4, q5⟩ := hJ
      rw [q1, q2.at (by decide), h6, if_pos (nI_lt hx (by omega)), s_chas S (by omega)]
      refine ow_let ?_
      cases hb : S.testBit x with
      | false =>
        rw [bi_f, if_pos rfl]
        refine ow_some ⟨nI_1 x, q2, f, g, A, q3, ⟨fun p hp hSp hfp => ?_, q4.2⟩, fun p hp => q5 p (by omega)⟩
        by_cases e : p = x
        · rw [e, hb] at hSp; cases hSp
        · exact q4.1 p (by omega) hSp hfp
      | true =>
        rw [if_neg bi_ne]
        refine ow_b2 (s_linkOn hn hS ho (by rw [q2.at (by decide)]; exact h6) (fun y hy => by rw [q2.at (by decide)]; exact h8 y hy) q3 hb (q5 x (Nat.le_refl _)) q4) (fun _ N hN => ?_)
        obtain ⟨fN, f', g', A', n1, n2, n3⟩ := hN
        exact ow_some ⟨nI_1 x, q2.trans fN, f', g', A', n1, n2, fun p hp => n3 p (by omega) (q5 p (by omega))⟩
    · obtain ⟨q1, q2, f, g, A, q3, q4, q5⟩ := hJ
      rw [q1, q2.at (by decide), h6, if_neg (nI_nlt (Nat.le_refl _) (by omega))]
      exact ow_some ⟨q2, f, g, A, q3, q4⟩
/-- as many begin as end -/
theorem lk_starts {M : oz_M} {n S : Nat} {lt : Nat → Nat → Bool} {f g : Nat → Option Nat} {A : Nat → Prop} (hn : n ≤ 14) (hS : S < 2 ^ n) (hl : lk M n S lt f g) (hc : cert S lt n f A) : cnt (fun q => S.testBit q && (g q).isNone) n ≤ om (apt lt) S := by
  have hin : ∀ p, S.testBit p = true → p < n := fun p hp => bit_in hS hp
  have h1 := dil_cert (f := f) (A := A) (lt := lt) hn hS (fun p hp hSp hfp => hc.1 p hp hSp hfp) hc.2.1 (fun p q hp hSq hlq => by
    obtain ⟨p', w1, w2⟩ := hc.2.2 p q hp hSq hlq
    exact ⟨p', hin _ (hc.2.1 p' w2), w1, w2⟩)
  have e1 := cnt_split (fun p => S.testBit p) (fun p => (f p).isNone) n
  have e2 := cnt_split (fun p => S.testBit p) (fun p => (g p).isNone) n
  have h2 : cnt (fun p => S.testBit p && !(f p).isNone) n ≤ cnt (fun p => S.testBit p && !(g p).isNone) n := by
    refine cnt_inj (fun p => (f p).getD 0) (fun p hp h => ?_) (fun p p' hp hp' h h' e => ?_)
    · simp only [Bool.and_eq_true, Bool.not_eq_true'] at h
      cases hf : f p with
      | none => rw [hf] at h; simp at h
      | some q =>
        obtain ⟨_, k2, _⟩ := hl.2.2 p q hf
        exact ⟨hin q k2, by simp only [Option.getD_some]; rw [k2, (hl.2.1 p q).mp hf]; rfl⟩
    · simp only [Bool.and_eq_true, Bool.not_eq_true'] at h h'
      cases hf : f p with
      | none => rw [hf] at h; simp at h
      | some q =>
        cases hf' : f p' with
        | none => rw [hf'] at h'; simp at h'
        | some q' =>
          simp only [hf, hf', Option.getD_some] at e
          subst e
          have a := (hl.2.1 p q).mp hf
          have b := (hl.2.1 p' q).mp hf'
          rw [a] at b
          cases b; rfl
  omega
/-- the sizes of the parts -/
def szs (M : oz_M) (c : Nat) (z : Nat → Nat) : Prop := M.1 56 2 = nI c ∧ ∀ i, i < c → M.1 57 i = nI (z i) ∧ z i ≤ 14
theorem s_addPart {M : oz_M} {c : Nat} {z : Nat → Nat} {v : Nat} (hc : c < 14) (hv : v ≤ 14) (h : szs M c z) : ow (f_Parts_addPart (nI v) M) (fun r => fr [56, 57] M r.2 ∧ szs r.2 (c + 1) (fun i => if i = c then v else z i)) := by
  unfold f_Parts_addPart
  rw [h.1, if_pos (show nI c < 14 from nI_lt (b := 14) hc (by omega)), show oz_in (nI c) 14 = some c from oz_in_nI hc (by decide)]
  simp only [Option.bind_some]
  refine ow_some ⟨(fr.refl.s (by decide)).s (by decide), ?_, fun i hi => ?_⟩
  · rw [rd_s, if_pos ⟨rfl, rfl⟩, rd_s, if_neg (by simp), h.1]; exact nI_1 c
  · show (oz_s (oz_s M 57 c (nI v)) 56 2 _).1 57 i = nI (if i = c then v else z i) ∧ (if i = c then v else z i) ≤ 14
    rw [rd_s, if_neg (by simp), rd_s]
    by_cases e : i = c
    · rw [if_pos ⟨rfl, e⟩, if_pos e]; exact ⟨rfl, hv⟩
    · rw [if_neg (by simp [e]), if_neg e]; exact h.2 i (by omega)
theorem s_chainFrom {M : oz_M} {n S x : Nat} {lt : Nat → Nat → Bool} {f g : Nat → Option Nat} (hn : n ≤ 14) (hS : S < 2 ^ n) (ho : ord n lt) (h6 : M.1 6 0 = nI n) (hl : lk M n S lt f g) (hx : S.testBit x = true) : ow (f_Parts_chainFrom (nI x) M) (fun v => ∃ P, v = nI (sz P) ∧ sub P S ∧ clq (cmp lt) P ∧ P.testBit x = true ∧ ∀ p q, P.testBit p = true → f p = some q → P.testBit q = true) := by
  have hin : ∀ p, S.testBit p = true → p < n := fun p hp => bit_in hS hp
  have hxn := hin x hx
  unfold f_Parts_chainFrom
  rw [show oz_in (nI x) 14 = some x from oz_in_nI (by omega) (by decide)]
  simp only [Option.bind_some]
  refine ow_bind (P := fun y => ∃ P, y.1 = nI (sz P) ∧ sub P S ∧ clq (cmp lt) P ∧ P.testBit x = true ∧ ∀ p q, P.testBit p = true → f p = some q → P.testBit q = true) ?_ (fun y hy => ow_some hy)
  rw [h6]
  have hb0 : ∀ i, (ins 0 x).testBit i = true ↔ i = x := fun i => by rw [ins_bit]; simp
  refine ow_for n (fun i s => s.2.2 = nI i ∧ ∃ P t, s.1 = nI (sz P) ∧ s.2.1 = oI (f t) ∧ sz P = i + 1 ∧ sub P S ∧ topx lt P t ∧ clq (cmp lt) P ∧ P.testBit x = true ∧ ∀ p q, P.testBit p = true → p ≠ t → f p = some q → P.testBit q = true) (fun i s hi hJ => ?_) (fun s hJ => ?_) 0 _ (Nat.zero_le _) ⟨rfl, ins 0 x, x, by rw [sz_ins (by omega) (Nat.zero_testBit x), sz_0]; rfl, (hl.1 x hxn).1, by rw [sz_ins (by omega) (Nat.zero_testBit x), sz_0], fun i hi => by rw [(hb0 i).mp hi]; exact hx, ⟨(hb0 x).mpr rfl, fun y hy hne => absurd ((hb0 y).mp hy) hne⟩, fun a b ha hb hne => absurd (((hb0 a).mp ha).trans ((hb0 b).mp hb).symm) hne, (hb0 x).mpr rfl, fun p q hp hne => absurd ((hb0 p).mp hp) hne⟩
  · obtain ⟨q1, P, t, q2, q3, q4, q5, q6, q7, q8, q9⟩ := hJ
    have htS := q5 t q6.1
    rw [q1, q2, q3, if_pos (nI_lt hi (by omega))]
    cases hf : f t with
    | none =>
      rw [if_pos (show oI none = -1 from rfl)]
      refine ow_some ⟨P, rfl, q5, q7, q8, fun p q hp hfp => ?_⟩
      by_cases e : p = t
      · rw [e, hf] at hfp; cases hfp
      · exact q9 p q hp e hfp
    | some u =>
      obtain ⟨_, k2, k3⟩ := hl.2.2 t u hf
      have hun := hin u k2
      rw [if_neg (show ¬ oI (some u) = -1 from nI_nm1 (by omega)), show oz_in (oI (some u)) 14 = some u from oz_in_nI (by omega) (by decide)]
      refine ow_let ?_
      have hbel : ∀ z, P.testBit z = true → lt z u = true := fun z hz => by
        by_cases e : z = t
        · rw [e]; exact k3
        · exact ho.2.1 z t u (q6.2 z hz e) k3
      have huP : P.testBit u = false := by
        cases hb : P.testBit u with
        | false => rfl
        | true => have := hbel u hb; rw [ho.1] at this; cases this
      have hbit : ∀ i, (ins P u).testBit i = true ↔ P.testBit i = true ∨ i = u := fun i => by rw [ins_bit, Bool.or_eq_true, decide_eq_true_eq]
      have hsz := sz_ins (show u < 14 by omega) huP
      refine ow_some ⟨nI_1 i, ins P u, u, ?_, (hl.1 u hun).1, by omega, fun i hi => ?_, ⟨(hbit u).mpr (Or.inr rfl), fun y hy hne => ?_⟩, fun a b ha hb hne => ?_, (hbit x).mpr (Or.inl q8), fun p q hp hne hfp => ?_⟩
      · show nI (sz P) + 1 = _
        rw [hsz]; exact nI_1 _
      · exact ((hbit i).mp hi).elim (fun q => q5 i q) (fun q => q ▸ k2)
      · exact hbel y (((hbit y).mp hy).resolve_right hne)
      · unfold cmp
        rcases (hbit a).mp ha with ha | ha
        · rcases (hbit b).mp hb with hb | hb
          · exact q7 a b ha hb hne
          · rw [hb, hbel a ha]; rfl
        · rcases (hbit b).mp hb with hb | hb
          · rw [ha, hbel b hb]; simp
          · exact absurd (ha.trans hb.symm) hne
      · have hpP := ((hbit p).mp hp).resolve_right hne
        by_cases e : p = t
        · rw [e, hf] at hfp
          cases hfp
          exact (hbit u).mpr (Or.inr rfl)
        · exact (hbit q).mpr (Or.inl (q9 p q hpP e hfp))
  · obtain ⟨q1, P, t, q2, q3, q4, q5, _⟩ := hJ
    have := sz_le (sub_lt q5 hS) hn
    omega
/-- what the parts bound -/
def bnds (n : Nat) (G : Nat → Nat → Bool) (V c : Nat) (z : Nat → Nat) : Prop := ∀ k Q, Q < 2 ^ n → om G Q ≤ k → sz (Q &&& V) ≤ sm (fun i => min (z i) k) c
theorem band {a b i : Nat} : (a &&& b).testBit i = true ↔ a.testBit i = true ∧ b.testBit i = true := by
  rw [Nat.testBit_and, Bool.and_eq_true]
theorem sz_or {Q V P : Nat} : sz (Q &&& (V ||| P)) ≤ sz (Q &&& V) + sz (Q &&& P) := by
  unfold sz
  have h1 := cnt_or (Q &&& V).testBit (Q &&& P).testBit 14
  have h2 : cnt (Q &&& (V ||| P)).testBit 14 ≤ cnt (fun i => (Q &&& V).testBit i || (Q &&& P).testBit i) 14 := cnt_mono (fun i _ hi => by
    rw [band, bor] at hi
    rw [Bool.or_eq_true, band, band]
    exact hi.2.imp (fun q => ⟨hi.1, q⟩) (fun q => ⟨hi.1, q⟩))
  omega
theorem bnds_add {n : Nat} {G : Nat → Nat → Bool} {V c P : Nat} {z : Nat → Nat} (hn : n ≤ 14) (h : bnds n G V c z) (hP : clq G P) : bnds n G (V ||| P) (c + 1) (fun i => if i = c then sz P else z i) := fun k Q hQ hk => by
  have h1 := h k Q hQ hk
  have h2 := sz_or (Q := Q) (V := V) (P := P)
  have h3 : sz (Q &&& P) ≤ sz P := sz_sub (fun i hi => (band.mp hi).2)
  have h4 : sz (Q &&& P) ≤ om G Q := om_ge (lt14 hn hQ) (fun i hi => (band.mp hi).1) (clq_sub hP (fun i hi => (band.mp hi).2))
  have h5 : sm (fun i => min (if i = c then sz P else z i) k) c = sm (fun i => min (z i) k) c := sm_eq c (fun i hi => by rw [if_neg (by omega)])
  simp only [sm, if_true]
  rw [h5]
  omega
theorem s_cutChains {M : oz_M} {n S : Nat} {lt : Nat → Nat → Bool} {f g : Nat → Option Nat} (hn : n ≤ 14) (hS : S < 2 ^ n) (ho : ord n lt) (h6 : M.1 6 0 = nI n) (hl : lk M n S lt f g) (h56 : M.1 56 2 = 0) : ow (f_Parts_cutChains (nI S) M) (fun r => fr [56, 57] M r.2 ∧ ∃ z, szs r.2 (cnt (fun q => S.testBit q && (g q).isNone) n) z ∧ bnds n (cmp lt) S (cnt (fun q => S.testBit q && (g q).isNone) n) z) := by
  have hin : ∀ p, S.testBit p = true → p < n := fun p hp => bit_in hS hp
  unfold f_Parts_cutChains
  refine ow_bind (P := fun y => fr [56, 57] M y.2 ∧ ∃ z, szs y.2 (cnt (fun q => S.testBit q && (g q).isNone) n) z ∧ bnds n (cmp lt) S (cnt (fun q => S.testBit q && (g q).isNone) n) z) ?_ (fun y hy => ow_some hy)
  refine ow_for n (fun x s => s.1 = nI x ∧ fr [56, 57] M s.2 ∧ ∃ z V, szs s.2 (cnt (fun q => S.testBit q && (g q).isNone) x) z ∧ bnds n (cmp lt) V (cnt (fun q => S.testBit q && (g q).isNone) x) z ∧ (∀ y, y < x → S.testBit y = true → g y = none → V.testBit y = true) ∧ ∀ p q, V.testBit p = true → f p = some q → V.testBit q = true) (fun x s hx hJ => ?_) (fun s hJ => ?_) 0 _ (Nat.zero_le _) ⟨rfl, fr.refl, fun _ => 0, 0, ⟨by rw [h56]; rfl, fun i h => (by simp [cnt] at h)⟩, fun k Q _ _ => by rw [Nat.and_zero, sz_0]; exact Nat.zero_le _, fun y h => (by omega), fun p q h => (by rw [Nat.zero_testBit] at h; cases h)⟩
  · obtain ⟨q1, q2, z, V, q3, q4, q5, q6⟩ := hJ
    rw [q1, q2.at (by decide), h6, if_pos (nI_lt hx (by omega)), s_chas S (by omega), show oz_in (nI x) 14 = some x from oz_in_nI (by omega) (by decide)]
    simp only [Option.bind_some]
    rw [q2.at (by decide), (hl.1 x hx).2]
    have hgx : ∀ p, g x = some p → p < n := fun p hp => hin p (hl.2.2 p x ((hl.2.1 p x).mpr hp)).1
    cases hb : S.testBit x with
    | false =>
      rw [bi_f, if_pos rfl]
      refine ow_some ⟨nI_1 x, q2, z, V, ?_, ?_, fun y hy hSy hgy => ?_, q6⟩
      · simp only [cnt, hb]; exact q3
      · simp only [cnt, hb]; exact q4
      · by_cases e : y = x
        · rw [e, hb] at hSy; cases hSy
        · exact q5 y (by omega) hSy hgy
    | true =>
      rw [if_neg bi_ne]
      refine ow_ite (fun e => ?_) (fun e => ?_)
      · have hg0 : g x = none := (oI_is hn hgx).mp e
        have hcx : cnt (fun q => S.testBit q && (g q).isNone) x ≤ x := cnt_leN _ _
        refine ow_bind (s_chainFrom hn hS ho (by rw [q2.at (by decide)]; exact h6) (hl.fr (q2 58 (by decide)).1 (q2 59 (by decide)).1) hb) (fun v hv => ?_)
        obtain ⟨P, v1, v2, v3, v4, v5⟩ := hv
        rw [v1]
        refine ow_b2 (s_addPart (by omega) (sz_le (lt14 hn (sub_lt v2 hS)) (Nat.le_refl _)) q3) (fun _ N hN => ?_)
        have hcn : cnt (fun q => S.testBit q && (g q).isNone) (x + 1) = cnt (fun q => S.testBit q && (g q).isNone) x + 1 := by
          simp only [cnt, hb, hg0]; rfl
        refine ow_some ⟨nI_1 x, q2.trans hN.1, _, V ||| P, by rw [hcn]; exact hN.2, by rw [hcn]; exact bnds_add hn q4 v3, fun y hy hSy hgy => ?_, fun p q hp hfp => ?_⟩
        · by_cases e : y = x
          · rw [e]; exact bor.mpr (Or.inr v4)
          · exact bor.mpr (Or.inl (q5 y (by omega) hSy hgy))
        · exact (bor.mp hp).elim (fun w => bor.mpr (Or.inl (q6 p q w hfp))) (fun w => bor.mpr (Or.inr (v5 p q w hfp)))
      · have hgs : (g x).isNone = false := by
          cases hg : g x with
          | none => exact absurd ((oI_is hn hgx).mpr hg) e
          | some p => rfl
        refine ow_some ⟨nI_1 x, q2, z, V, ?_, ?_, fun y hy hSy hgy => ?_, q6⟩
        · simp only [cnt, hb, hgs]; exact q3
        · simp only [cnt, hb, hgs]; exact q4
        · by_cases e : y = x
          · rw [e] at hgy; rw [hgy] at hgs; cases hgs
          · exact q5 y (by omega) hSy hgy
  · obtain ⟨q1, q2, z, V, q3, q4, q5, q6⟩ := hJ
    rw [q1, q2.at (by decide), h6, if_neg (nI_nlt (Nat.le_refl _) (by omega))]
    refine ow_some ⟨q2, z, q3, fun k Q hQ hk => Nat.le_trans (sz_sub (fun i hi => ?_)) (q4 k Q hQ hk)⟩
    have hall : ∀ d y, cnt (fun w => lt w y) n ≤ d → S.testBit y = true → V.testBit y = true := by
      intro d
      induction d with
      | zero =>
        intro y hd hSy
        cases hg : g y with
        | none => exact q5 y (hin y hSy) hSy hg
        | some p =>
          obtain ⟨k1, k2, k3⟩ := hl.2.2 p y ((hl.2.1 p y).mpr hg)
          have := cnt_pos (P := fun w => lt w y) (hin p k1) k3
          omega
      | succ d ih =>
        intro y hd hSy
        cases hg : g y with
        | none => exact q5 y (hin y hSy) hSy hg
        | some p =>
          have hfp := (hl.2.1 p y).mpr hg
          obtain ⟨k1, k2, k3⟩ := hl.2.2 p y hfp
          have : cnt (fun w => lt w p) n < cnt (fun w => lt w y) n := cnt_lt (fun w hw => ho.2.1 w p y hw k3) (ho.1 p) k3 n (hin p k1)
          exact q6 p y (ih p (by omega) k1) hfp
    exact band.mpr ⟨(band.mp hi).1, hall _ i (Nat.le_refl _) (band.mp hi).2⟩
