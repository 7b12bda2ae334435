/-! Matchings: one more pair, or a set that bars it. -/
def mtc (n : Nat) (G : Nat → Nat → Prop) (f : Nat → Option Nat) : Prop := (∀ p q, p < n → f p = some q → q < n ∧ G p q) ∧ ∀ p p' q, p < n → p' < n → f p = some q → f p' = some q → p = p'
def rD (n : Nat) (G : Nat → Nat → Prop) (f : Nat → Option Nat) : Nat → Nat → Prop
  | 0, p => f p = none
  | d + 1, p => rD n G f d p ∨ ∃ p1, p1 < n ∧ rD n G f d p1 ∧ ∃ q, G p1 q ∧ f p = some q
theorem mtc_free {n : Nat} {G : Nat → Nat → Prop} {f : Nat → Option Nat} : ∀ (d p : Nat), p < n → rD n G f d p → ∀ g, mtc n G g → (∀ p', p' < n → rD n G f d p' → g p' = f p') → ∃ x, x < n ∧ f x = none ∧ (f p = none → x = p) ∧ ∃ g', mtc n G g' ∧ (∀ p', p' < n → (g' p' = none ↔ (g p' = none ∧ p' ≠ x) ∨ p' = p)) ∧ ∀ q, (∃ p', p' < n ∧ g p' = some q) ↔ ∃ p', p' < n ∧ g' p' = some q
  | 0, p, hp, hD, g, hg, ha => ⟨p, hp, hD, fun _ => rfl, g, hg, fun p' hp' => by
      constructor
      · intro h
        by_cases e : p' = p
        · exact Or.inr e
        · exact Or.inl ⟨h, e⟩
      · rintro (h | h)
        · exact h.1
        · subst h; rw [ha p' hp' hD]; exact hD, fun q => Iff.rfl⟩
  | d + 1, p, hp, hD, g, hg, ha => by
    by_cases h0 : rD n G f d p
    · exact mtc_free d p hp h0 g hg (fun p' hp' h => ha p' hp' (Or.inl h))
    · obtain ⟨p1, hp1, hD1, b, hG, hfp⟩ := hD.resolve_left h0
      have hgp : g p = some b := (ha p hp hD).trans hfp
      have hne : p1 ≠ p := fun e => h0 (e ▸ hD1)
      have hm1 : mtc n G (fun p' => if p' = p then none else g p') := by
        constructor
        · intro a q h1 h2
          by_cases e : a = p
          · simp [e] at h2
          · simp only [if_neg e] at h2; exact hg.1 a q h1 h2
        · intro a a' q h1 h1' h2 h2'
          by_cases e : a = p
          · simp [e] at h2
          · by_cases e' : a' = p
            · simp [e'] at h2'
            · simp only [if_neg e] at h2; simp only [if_neg e'] at h2'; exact hg.2 a a' q h1 h1' h2 h2'
      obtain ⟨x, hx, hfx, hx1, g1, hmg1, hnone, hright⟩ := mtc_free d p1 hp1 hD1 _ hm1 (fun p' hp' h => by
        rw [if_neg (show ¬ p' = p from fun e => h0 (e ▸ h))]; exact ha p' hp' (Or.inl h))
      have hb : ∀ a, a < n → g1 a ≠ some b := by
        intro a h1 h2
        obtain ⟨a', h3, h4⟩ := (hright b).mpr ⟨a, h1, h2⟩
        by_cases e : a' = p
        · simp [e] at h4
        · simp only [if_neg e] at h4
          exact e (hg.2 a' p b h3 hp h4 hgp)
      refine ⟨x, hx, hfx, fun h => absurd (hfp.symm.trans h) (by simp), fun p' => if p' = p1 then some b else g1 p', ⟨?_, ?_⟩, ?_, ?_⟩
      · intro a q h1 h2
        by_cases e : a = p1
        · simp only [if_pos e] at h2
          cases h2
          exact ⟨(hg.1 p b hp hgp).1, e ▸ hG⟩
        · simp only [if_neg e] at h2; exact hmg1.1 a q h1 h2
      · intro a a' q h1 h1' h2 h2'
        by_cases e : a = p1
        · by_cases e' : a' = p1
          · rw [e, e']
          · simp only [if_pos e] at h2; simp only [if_neg e'] at h2'
            cases h2
            exact absurd h2' (hb a' h1')
        · by_cases e' : a' = p1
          · simp only [if_neg e] at h2; simp only [if_pos e'] at h2'
            cases h2'
            exact absurd h2 (hb a h1)
          · simp only [if_neg e] at h2; simp only [if_neg e'] at h2'; exact hmg1.2 a a' q h1 h1' h2 h2'
      · intro p' hp'
        have hn := hnone p' hp'
        have hpx : p ≠ x := fun e => by rw [← e, hfp] at hfx; cases hfx
        by_cases e : p' = p1
        · simp only [if_pos e]
          constructor
          · intro h; cases h
          · rintro (h | h)
            · exfalso
              have h1 : f p1 = none := by rw [← ha p1 hp1 (Or.inl hD1), ← e]; exact h.1
              exact h.2 (e.trans (hx1 h1).symm)
            · exact absurd (e.symm.trans h) hne
        · simp only [if_neg e]
          rw [hn]
          by_cases e2 : p' = p
          · simp [e2, hpx]
          · simp [e, e2]
      · intro q
        by_cases eq : q = b
        · subst eq
          exact ⟨fun _ => ⟨p1, hp1, by simp⟩, fun _ => ⟨p, hp, hgp⟩⟩
        · constructor
          · rintro ⟨a, h1, h2⟩
            have : a ≠ p := fun e => by rw [e, hgp] at h2; cases h2; exact eq rfl
            obtain ⟨a', h3, h4⟩ := (hright q).mp ⟨a, h1, by rw [if_neg this]; exact h2⟩
            have : a' ≠ p1 := fun e => by
              have := (hnone p1 hp1).mpr (Or.inr rfl)
              rw [e, this] at h4; cases h4
            exact ⟨a', h3, by simp only [if_neg this]; exact h4⟩
          · rintro ⟨a, h1, h2⟩
            by_cases e : a = p1
            · simp only [if_pos e] at h2; cases h2; exact absurd rfl eq
            · simp only [if_neg e] at h2
              obtain ⟨a', h3, h4⟩ := (hright q).mpr ⟨a, h1, h2⟩
              by_cases e' : a' = p
              · simp [e'] at h4
              · simp only [if_neg e'] at h4; exact ⟨a', h3, h4⟩
theorem mtc_more {n : Nat} {G : Nat → Nat → Prop} {f : Nat → Option Nat} (h : mtc n G f) : (∃ f' x, x < n ∧ f x = none ∧ mtc n G f' ∧ (∀ p, p < n → (f' p = none ↔ f p = none ∧ p ≠ x)) ∧ ∀ q, (∃ p, p < n ∧ f p = some q) → ∃ p, p < n ∧ f' p = some q) ∨ ∃ A : Nat → Prop, (∀ p, p < n → f p = none → A p) ∧ ∀ p q, p < n → q < n → A p → G p q → ∃ p', p' < n ∧ f p' = some q ∧ A p' := by
  by_cases hc : ∃ p q d, p < n ∧ q < n ∧ rD n G f d p ∧ G p q ∧ ∀ p', p' < n → f p' ≠ some q
  · left
    obtain ⟨p, q, d, hp, hq, hD, hG, hf⟩ := hc
    obtain ⟨x, hx, hfx, hxp, g, hm, hn, hr⟩ := mtc_free d p hp hD f h (fun _ _ _ => rfl)
    have hgq : ∀ a, a < n → g a ≠ some q := fun a h1 h2 => by
      obtain ⟨a', h3, h4⟩ := (hr q).mpr ⟨a, h1, h2⟩
      exact hf a' h3 h4
    refine ⟨fun a => if a = p then some q else g a, x, hx, hfx, ⟨?_, ?_⟩, ?_, ?_⟩
    · intro a b h1 h2
      by_cases e : a = p
      · simp only [if_pos e] at h2; cases h2; exact ⟨hq, e ▸ hG⟩
      · simp only [if_neg e] at h2; exact hm.1 a b h1 h2
    · intro a a' b h1 h1' h2 h2'
      by_cases e : a = p
      · by_cases e' : a' = p
        · rw [e, e']
        · simp only [if_pos e] at h2; simp only [if_neg e'] at h2'; cases h2
          exact absurd h2' (hgq a' h1')
      · by_cases e' : a' = p
        · simp only [if_neg e] at h2; simp only [if_pos e'] at h2'; cases h2'
          exact absurd h2 (hgq a h1)
        · simp only [if_neg e] at h2; simp only [if_neg e'] at h2'; exact hm.2 a a' b h1 h1' h2 h2'
    · intro a ha
      by_cases e : a = p
      · simp only [if_pos e]
        constructor
        · intro h; cases h
        · intro h1
          exact absurd (e.trans (hxp (e ▸ h1.1)).symm) h1.2
      · simp only [if_neg e]
        rw [hn a ha]; simp [e]
    · rintro b ⟨a, h1, h2⟩
      obtain ⟨a', h3, h4⟩ := (hr b).mp ⟨a, h1, h2⟩
      have : a' ≠ p := fun e => by
        have := (hn p hp).mpr (Or.inr rfl)
        rw [e, this] at h4; cases h4
      exact ⟨a', h3, by simp only [if_neg this]; exact h4⟩
  · right
    refine ⟨fun p => ∃ d, rD n G f d p, fun p _ h => ⟨0, h⟩, fun p q hp hq hA hG => ?_⟩
    obtain ⟨d, hD⟩ := hA
    by_cases hx : ∃ p', p' < n ∧ f p' = some q
    · obtain ⟨p', h1, h2⟩ := hx
      exact ⟨p', h1, h2, d + 1, Or.inr ⟨p, hp, hD, q, hG, h2⟩⟩
    · exact absurd ⟨p, q, d, hp, hq, hD, hG, fun p' h1 h2 => hx ⟨p', h1, h2⟩⟩ hc
