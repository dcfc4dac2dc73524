/-- WHAT IS LEFT, of functions alone: the law's loop over the heap of ints answers 1 -/
def FLaw : Prop := ∀ (L : Nat) (xs : Nat → Int32), L ≤ 384 → ∃ sg' : Hp, f_Law_law_18 L xs LF sg0 0 = some (1, sg')
theorem pure_of (F : FLaw) : PureLaw := by
  intro L xs hL
  obtain ⟨sg', hf⟩ := F L xs hL
  have g := t_Law_law_18 16 LF sg0 0 (1, sg') hf
  obtain ⟨N, hN⟩ := g
  have c := ctor (some (L, xs)) (some (.int 1)) (HSx sg') (fun ls hl => ⟨N, fun f hf => hN f hf ls hl⟩)
  obtain ⟨N2, h2⟩ := c
  exact ⟨N2, HSx sg', h2 N2 (Nat.le_refl _), by show (63 : Nat) ≤ _; decide, by show nS ≤ _; decide⟩
