/-- a spot set -/
def stS (sg : Hp) (b p : Nat) (x y z : Int32) : Hp := w2 (w2 (w2 (w2 (w2 (w2 sg b 0 z) b 1 (sg p 0 - z)) b 2 x) b 3 (sg p 1 - x)) b 4 y) b 5 (sg p 2 - y)
theorem stS_cell (sg : Hp) {b p c : Nat} (x y z : Int32) (h : c ≠ b) : stS sg b p x y z c = sg c := by
  unfold stS
  rw [w2_cell _ h, w2_cell _ h, w2_cell _ h, w2_cell _ h, w2_cell _ h, w2_cell _ h]
theorem stS_at (sg : Hp) (b p : Nat) (x y z : Int32) : stS sg b p x y z b 0 = z ∧ stS sg b p x y z b 1 = sg p 0 - z ∧ stS sg b p x y z b 2 = x ∧ stS sg b p x y z b 3 = sg p 1 - x ∧ stS sg b p x y z b 4 = y ∧ stS sg b p x y z b 5 = sg p 2 - y := by
  unfold stS
  simp [w2_app]
theorem set_c {sg : Hp} {a b p : Nat} (hb : rt a 0 = b) (hp : p ≠ b) (x y z : Int32) : f_Spot_set sg a p x y z = some (stS sg b p x y z) := by
  unfold f_Spot_set stS
  simp only [hb, Option.bind_some, w2_cell _ hp]
/-- none below 0, and one is 0 -/
def iob (g : Nat → Int32) (i : Nat) : Prop := ∀ w, i ≤ w → w < 6 → 0 ≤ (g w).toInt
def io0 (g : Nat → Int32) (i : Nat) : Prop := ∃ w, i ≤ w ∧ w < 6 ∧ g w = 0
theorem or1 {x : Int32} (h : x = 0 ∨ x = 1) : x ||| 1 = 1 ∧ x ||| 0 = x := by
  rcases h with rfl | rfl <;> decide
theorem isOnBox_l (sg : Hp) {a b : Nat} (hb : rt a 0 = b) : ∀ (k i m : Nat) (acc : Int32), i + k = 6 → (acc = 0 ∨ acc = 1) → ∃ r : Int32, f_Spot_isOnBox_4 (m + k + 1) sg a acc (nI i) = some (r, sg) ∧ (r = 0 ∨ r = 1) ∧ (r = 1 ↔ iob (sg b) i ∧ (acc = 1 ∨ io0 (sg b) i)) := by
  intro k
  induction k with
  | zero =>
    intro i m acc h ha
    refine ⟨acc, ?_, ha, ?_⟩
    · rw [f_Spot_isOnBox_4, if_pos (by rw [nLe, nI_toInt (by omega)]; simp; omega), if_pos ha]
    · constructor
      · intro h1
        exact ⟨fun w h2 h3 => by omega, Or.inl h1⟩
      · rintro ⟨-, h1 | ⟨w, h2, h3, -⟩⟩
        · exact h1
        · omega
  | succ k ih =>
    intro i m acc h ha
    have hi : (nI i).toInt = (i : Int) := nI_toInt (by omega)
    have hbb : inb (nI i) 6 = true := by rw [inb_iff, hi]; omega
    rw [show m + (k + 1) + 1 = (m + k + 1) + 1 by omega, f_Spot_isOnBox_4, if_neg (by rw [nLe, hi]; simp; omega), if_pos hbb, hb, nI_clamp (by omega)]
    by_cases h0 : (0 : Int32) ≤ sg b i
    · rw [if_pos h0, if_pos hbb]
      rw [nLe] at h0
      simp only [Int32.reduceToInt] at h0
      by_cases hz : sg b i = 0
      · rw [if_pos hz, f_Spot_isOnBox_36, (or1 ha).1, nI_1]
        obtain ⟨r, e1, e2, e3⟩ := ih (i + 1) m 1 (by omega) (Or.inr rfl)
        refine ⟨r, e1, e2, e3.trans ⟨fun q => ⟨fun w h1 h2 => ?_, Or.inr ⟨i, by omega, by omega, hz⟩⟩, fun q => ⟨fun w h1 h2 => q.1 w (by omega) h2, Or.inl rfl⟩⟩⟩
        by_cases hw : w = i
        · subst hw; exact h0
        · exact q.1 w (by omega) h2
      · rw [if_neg hz, f_Spot_isOnBox_36, (or1 ha).2, nI_1]
        obtain ⟨r, e1, e2, e3⟩ := ih (i + 1) m acc (by omega) ha
        refine ⟨r, e1, e2, e3.trans ⟨fun q => ⟨fun w h1 h2 => ?_, ?_⟩, fun q => ⟨fun w h1 h2 => q.1 w (by omega) h2, ?_⟩⟩⟩
        · by_cases hw : w = i
          · subst hw; exact h0
          · exact q.1 w (by omega) h2
        · rcases q.2 with q2 | ⟨w, h1, h2, h3⟩
          · exact Or.inl q2
          · exact Or.inr ⟨w, by omega, h2, h3⟩
        · rcases q.2 with q2 | ⟨w, h1, h2, h3⟩
          · exact Or.inl q2
          · refine Or.inr ⟨w, ?_, h2, h3⟩
            by_cases hw : w = i
            · subst hw; exact absurd h3 hz
            · omega
    · rw [if_neg h0]
      rw [nLe] at h0
      simp only [Int32.reduceToInt] at h0
      refine ⟨0, rfl, Or.inl rfl, ⟨fun q => absurd q (by decide), fun q => absurd (q.1 i (by omega) (by omega)) h0⟩⟩
theorem isOnBox_c (sg : Hp) {a b : Nat} (hb : rt a 0 = b) : ∃ r : Int32, f_Spot_isOnBox sg a = some (r, sg) ∧ (r = 0 ∨ r = 1) ∧ (r = 1 ↔ iob (sg b) 0 ∧ io0 (sg b) 0) := by
  unfold f_Spot_isOnBox
  obtain ⟨m, hm⟩ := LFx 6 (by omega)
  rw [hm, ← nI_0]
  obtain ⟨r, e1, e2, e3⟩ := isOnBox_l sg hb 6 0 m 0 (by omega) (Or.inl rfl)
  exact ⟨r, e1, e2, e3.trans ⟨fun q => ⟨q.1, q.2.resolve_left (by decide)⟩, fun q => ⟨q.1, Or.inr q.2⟩⟩⟩
/-- a set spot is on the box iff the point is -/
theorem on_set {sg : Hp} {b p : Nat} {x y z : Int32} (hS : ∀ a, a < 3 → 1 ≤ (sg p a).toInt ∧ (sg p a).toInt ≤ 30) : (iob (stS sg b p x y z b) 0 ∧ io0 (stS sg b p x y z b) 0) ↔ onB (fun a => (sg p a).toInt) x.toInt y.toInt z.toInt := by
  obtain ⟨e0, e1, e2, e3, e4, e5⟩ := stS_at sg b p x y z
  have s0 := hS 0 (by omega)
  have s1 := hS 1 (by omega)
  have s2 := hS 2 (by omega)
  have rx := nRng x
  have ry := nRng y
  have rz := nRng z
  have tz : 0 ≤ z.toInt → (sg p 0 - z).toInt = (sg p 0).toInt - z.toInt := fun h => tSub (by omega) (by omega)
  have tx : 0 ≤ x.toInt → (sg p 1 - x).toInt = (sg p 1).toInt - x.toInt := fun h => tSub (by omega) (by omega)
  have ty : 0 ≤ y.toInt → (sg p 2 - y).toInt = (sg p 2).toInt - y.toInt := fun h => tSub (by omega) (by omega)
  unfold iob io0 onB
  dsimp only
  constructor
  · rintro ⟨h1, w, h2, h3, h4⟩
    have a0 := h1 0 (by omega) (by omega)
    have a1 := h1 1 (by omega) (by omega)
    have a2 := h1 2 (by omega) (by omega)
    have a3 := h1 3 (by omega) (by omega)
    have a4 := h1 4 (by omega) (by omega)
    have a5 := h1 5 (by omega) (by omega)
    rw [e0] at a0
    rw [e1, tz a0] at a1
    rw [e2] at a2
    rw [e3, tx a2] at a3
    rw [e4] at a4
    rw [e5, ty a4] at a5
    refine ⟨a2, by omega, a4, by omega, a0, by omega, ?_⟩
    rcases (by omega : w = 0 ∨ w = 1 ∨ w = 2 ∨ w = 3 ∨ w = 4 ∨ w = 5) with rfl | rfl | rfl | rfl | rfl | rfl
    · rw [e0, nEq] at h4; simp at h4; omega
    · rw [e1, nEq, tz a0] at h4; simp at h4; omega
    · rw [e2, nEq] at h4; simp at h4; omega
    · rw [e3, nEq, tx a2] at h4; simp at h4; omega
    · rw [e4, nEq] at h4; simp at h4; omega
    · rw [e5, nEq, ty a4] at h4; simp at h4; omega
  · rintro ⟨b1, b2, b3, b4, b5, b6, b7⟩
    have hz := tz b5
    have hx := tx b1
    have hy := ty b3
    refine ⟨fun w _ hw => ?_, ?_⟩
    · rcases (by omega : w = 0 ∨ w = 1 ∨ w = 2 ∨ w = 3 ∨ w = 4 ∨ w = 5) with rfl | rfl | rfl | rfl | rfl | rfl
      · rw [e0]; exact b5
      · rw [e1, hz]; omega
      · rw [e2]; exact b1
      · rw [e3, hx]; omega
      · rw [e4]; exact b3
      · rw [e5, hy]; omega
    · rcases b7 with q | q | q | q | q | q
      · exact ⟨2, by omega, by omega, by rw [e2, nEq]; simpa using q⟩
      · exact ⟨3, by omega, by omega, by rw [e3, nEq, hx]; simp; omega⟩
      · exact ⟨4, by omega, by omega, by rw [e4, nEq]; simpa using q⟩
      · exact ⟨5, by omega, by omega, by rw [e5, nEq, hy]; simp; omega⟩
      · exact ⟨0, by omega, by omega, by rw [e0, nEq]; simpa using q⟩
      · exact ⟨1, by omega, by omega, by rw [e1, nEq, hz]; simp; omega⟩
theorem holds_c {sg : Hp} (hS : ∀ a, a < 3 → 1 ≤ (sg 2 a).toInt ∧ (sg 2 a).toInt ≤ 30) (x y z : Int32) : ∃ r : Int32, f_Room_holds sg x y z = some (r, stS sg 8 2 x y z) ∧ (r = 0 ∨ r = 1) ∧ (r = 1 ↔ onB (sS sg) x.toInt y.toInt z.toInt) := by
  unfold f_Room_holds
  rw [set_c (b := 8) rfl (by omega), Option.bind_some]
  obtain ⟨r, e1, e2, e3⟩ := isOnBox_c (stS sg 8 2 x y z) (a := 7) (b := 8) rfl
  rw [e1, Option.bind_some]
  dsimp only
  rw [if_pos e2]
  exact ⟨r, rfl, e2, e3.trans (on_set hS)⟩
