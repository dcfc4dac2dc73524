/-- the reference's liesOn -/
def mlo (sg : Hp) (f : Nat) (x y z : Int32) : Prop := if f = 0 then z = 0 else if f = 1 then z = sg 51 2 else if f = 2 then x = 0 else if f = 3 then x = sg 51 0 else if f = 4 then y = 0 else y = sg 51 1
theorem liesOn_m (sg : Hp) {f : Nat} (hf : f < 6) (x y z : Int32) : ∃ r : Int32, f_Mod_liesOn sg (nI f) x y z = some (r, sg) ∧ (r = 0 ∨ r = 1) ∧ (r = 1 ↔ mlo sg f x y z) := by
  have key : ∀ (u v : Int32), ∃ r : Int32, f_Mod_liesOn_48 sg u v = some (r, sg) ∧ (r = 0 ∨ r = 1) ∧ (r = 1 ↔ u = v) := by
    intro u v
    unfold f_Mod_liesOn_48
    by_cases h : u = v
    · rw [if_pos h]; exact ⟨1, rfl, Or.inr rfl, ⟨fun _ => h, fun _ => rfl⟩⟩
    · rw [if_neg h]; exact ⟨0, rfl, Or.inl rfl, ⟨fun q => absurd q (by decide), fun q => absurd q h⟩⟩
  unfold f_Mod_liesOn f_Mod_axisOf mlo f_Mod_liesOn_27
  rcases (by omega : f = 0 ∨ f = 1 ∨ f = 2 ∨ f = 3 ∨ f = 4 ∨ f = 5) with rfl | rfl | rfl | rfl | rfl | rfl
  · rw [if_neg (by decide), Option.bind_some]; dsimp only
    rw [if_neg (by decide), if_neg (by decide), if_pos (by decide)]
    exact key z 0
  · rw [if_neg (by decide), Option.bind_some]; dsimp only
    rw [if_neg (by decide), if_neg (by decide), if_neg (by decide), if_pos (by decide)]
    exact key z (sg 51 2)
  · rw [if_pos (by decide), if_neg (by decide), Option.bind_some]; dsimp only
    rw [if_pos (by decide), if_pos (by decide)]
    exact key x 0
  · rw [if_pos (by decide), if_neg (by decide), Option.bind_some]; dsimp only
    rw [if_pos (by decide), if_neg (by decide), if_pos (by decide)]
    exact key x (sg 51 0)
  · rw [if_pos (by decide), if_pos (by decide), Option.bind_some]; dsimp only
    rw [if_neg (by decide), if_pos (by decide), if_pos (by decide)]
    exact key y 0
  · rw [if_pos (by decide), if_pos (by decide), Option.bind_some]; dsimp only
    rw [if_neg (by decide), if_pos (by decide), if_neg (by decide), if_pos (by decide)]
    exact key y (sg 51 1)
theorem isOnBox_ml (sg : Hp) (x y z ins : Int32) (hi : ins = 0 ∨ ins = 1) : ∀ (k i m : Nat) (acc : Int32), i + k = 6 → (acc = 0 ∨ acc = 1) → ∃ r : Int32, f_Mod_isOnBox_61 (m + k + 1) sg x y z ins acc (nI i) = some (r, sg) ∧ (r = 0 ∨ r = 1) ∧ (r = 1 ↔ ins = 1 ∧ (acc = 1 ∨ ∃ f, i ≤ f ∧ f < 6 ∧ mlo sg f x y z)) := by
  intro k
  induction k with
  | zero =>
    intro i m acc h ha
    rw [f_Mod_isOnBox_61, if_pos (by rw [nLe, nI_toInt (by omega)]; simp; omega)]
    rcases hi with rfl | rfl
    · rw [if_pos rfl]
      exact ⟨0, rfl, Or.inl rfl, ⟨fun q => absurd q (by decide), fun q => absurd q.1 (by decide)⟩⟩
    · rw [if_neg (by decide)]
      rcases ha with rfl | rfl
      · rw [if_pos rfl]
        refine ⟨0, rfl, Or.inl rfl, ⟨fun q => absurd q (by decide), fun q => ?_⟩⟩
        rcases q.2 with q | ⟨f, h1, h2, -⟩
        · exact absurd q (by decide)
        · omega
      · rw [if_neg (by decide)]
        exact ⟨1, rfl, Or.inr rfl, ⟨fun _ => ⟨rfl, Or.inl rfl⟩, fun _ => rfl⟩⟩
  | succ k ih =>
    intro i m acc h ha
    have hi2 : (nI i).toInt = (i : Int) := nI_toInt (by omega)
    rw [show m + (k + 1) + 1 = (m + k + 1) + 1 by omega, f_Mod_isOnBox_61, if_neg (by rw [nLe, hi2]; simp; omega)]
    rcases ha with rfl | rfl
    · rw [if_pos rfl]
      obtain ⟨r, e1, e2, e3⟩ := liesOn_m sg (f := i) (by omega) x y z
      rw [e1, Option.bind_some]
      dsimp only
      rcases e2 with rfl | rfl
      · rw [if_pos rfl, f_Mod_isOnBox_90, nI_1]
        obtain ⟨r, g1, g2, g3⟩ := ih (i + 1) m 0 (by omega) (Or.inl rfl)
        refine ⟨r, g1, g2, g3.trans ⟨fun q => ⟨q.1, ?_⟩, fun q => ⟨q.1, ?_⟩⟩⟩
        · rcases q.2 with q | ⟨f, h1, h2, h3⟩
          · exact Or.inl q
          · exact Or.inr ⟨f, by omega, h2, h3⟩
        · rcases q.2 with q | ⟨f, h1, h2, h3⟩
          · exact Or.inl q
          · refine Or.inr ⟨f, ?_, h2, h3⟩
            by_cases hf : f = i
            · subst hf; exact absurd (e3.mpr h3) (by decide)
            · omega
      · rw [if_neg (by decide), f_Mod_isOnBox_85, f_Mod_isOnBox_90, nI_1]
        obtain ⟨r, g1, g2, g3⟩ := ih (i + 1) m 1 (by omega) (Or.inr rfl)
        exact ⟨r, g1, g2, g3.trans ⟨fun q => ⟨q.1, Or.inr ⟨i, by omega, by omega, e3.mp rfl⟩⟩, fun q => ⟨q.1, Or.inl rfl⟩⟩⟩
    · rw [if_neg (by decide), f_Mod_isOnBox_85, f_Mod_isOnBox_90, nI_1]
      obtain ⟨r, g1, g2, g3⟩ := ih (i + 1) m 1 (by omega) (Or.inr rfl)
      exact ⟨r, g1, g2, g3.trans ⟨fun q => ⟨q.1, Or.inl rfl⟩, fun q => ⟨q.1, Or.inl rfl⟩⟩⟩
theorem isOnBox_53 (sg : Hp) (x y z ins : Int32) (hi : ins = 0 ∨ ins = 1) : ∃ r : Int32, f_Mod_isOnBox_53 sg x y z ins = some (r, sg) ∧ (r = 0 ∨ r = 1) ∧ (r = 1 ↔ ins = 1 ∧ ∃ f, f < 6 ∧ mlo sg f x y z) := by
  unfold f_Mod_isOnBox_53
  obtain ⟨m, hm⟩ := LFx 6 (by omega)
  rw [hm, ← nI_0]
  obtain ⟨r, g1, g2, g3⟩ := isOnBox_ml sg x y z ins hi 6 0 m 0 (by omega) (Or.inl rfl)
  refine ⟨r, g1, g2, g3.trans ⟨fun q => ⟨q.1, ?_⟩, fun q => ⟨q.1, ?_⟩⟩⟩
  · rcases q.2 with q | ⟨f, h1, h2, h3⟩
    · exact absurd q (by decide)
    · exact ⟨f, h2, h3⟩
  · obtain ⟨f, h1, h2⟩ := q.2
    exact Or.inr ⟨f, by omega, h1, h2⟩
theorem mlo_on {sg : Hp} {x y z : Int32} : (∃ f, f < 6 ∧ mlo sg f x y z) ↔ (x.toInt = 0 ∨ x.toInt = (sg 51 0).toInt ∨ y.toInt = 0 ∨ y.toInt = (sg 51 1).toInt ∨ z.toInt = 0 ∨ z.toInt = (sg 51 2).toInt) := by
  have e0 : ∀ v : Int32, v = 0 ↔ v.toInt = 0 := fun v => by rw [nEq]; simp
  have e1 : ∀ u v : Int32, u = v ↔ u.toInt = v.toInt := fun u v => by rw [nEq]
  unfold mlo
  constructor
  · rintro ⟨f, hf, h⟩
    rcases (by omega : f = 0 ∨ f = 1 ∨ f = 2 ∨ f = 3 ∨ f = 4 ∨ f = 5) with rfl | rfl | rfl | rfl | rfl | rfl
    · exact Or.inr (Or.inr (Or.inr (Or.inr (Or.inl ((e0 z).mp h)))))
    · exact Or.inr (Or.inr (Or.inr (Or.inr (Or.inr ((e1 _ _).mp h)))))
    · exact Or.inl ((e0 x).mp h)
    · exact Or.inr (Or.inl ((e1 _ _).mp h))
    · exact Or.inr (Or.inr (Or.inl ((e0 y).mp h)))
    · exact Or.inr (Or.inr (Or.inr (Or.inl ((e1 _ _).mp h))))
  · rintro (h | h | h | h | h | h)
    · exact ⟨2, by omega, (e0 x).mpr h⟩
    · exact ⟨3, by omega, (e1 _ _).mpr h⟩
    · exact ⟨4, by omega, (e0 y).mpr h⟩
    · exact ⟨5, by omega, (e1 _ _).mpr h⟩
    · exact ⟨0, by omega, (e0 z).mpr h⟩
    · exact ⟨1, by omega, (e1 _ _).mpr h⟩
/-- the reference's sides by axes -/
def mSd (sg : Hp) (a : Nat) : Int := if a = 0 then (sg 51 2).toInt else if a = 1 then (sg 51 0).toInt else (sg 51 1).toInt
theorem isOnBox_m (sg : Hp) (x y z : Int32) : ∃ r : Int32, f_Mod_isOnBox sg x y z = some (r, sg) ∧ (r = 0 ∨ r = 1) ∧ (r = 1 ↔ onB (mSd sg) x.toInt y.toInt z.toInt) := by
  have no : ¬ onB (mSd sg) x.toInt y.toInt z.toInt → ∃ r : Int32, f_Mod_isOnBox_53 sg x y z 0 = some (r, sg) ∧ (r = 0 ∨ r = 1) ∧ (r = 1 ↔ onB (mSd sg) x.toInt y.toInt z.toInt) := by
    intro hn
    obtain ⟨r, g1, g2, g3⟩ := isOnBox_53 sg x y z 0 (Or.inl rfl)
    exact ⟨r, g1, g2, ⟨fun q => absurd (g3.mp q).1 (by decide), fun q => absurd q hn⟩⟩
  unfold f_Mod_isOnBox f_Mod_isOnBox_52
  rw [in_i x (0 : Int64) _ (a := 0) (b := (sg 51 0).toInt) rfl (by rw [i64T]), Option.bind_some]
  dsimp only
  rw [if_b]
  by_cases hx : 0 ≤ x.toInt ∧ x.toInt ≤ (sg 51 0).toInt
  · rw [if_pos hx, in_i y (0 : Int64) _ (a := 0) (b := (sg 51 1).toInt) rfl (by rw [i64T]), Option.bind_some]
    dsimp only
    rw [if_b]
    by_cases hy : 0 ≤ y.toInt ∧ y.toInt ≤ (sg 51 1).toInt
    · rw [if_pos hy, in_i z (0 : Int64) _ (a := 0) (b := (sg 51 2).toInt) rfl (by rw [i64T]), Option.bind_some]
      dsimp only
      rw [if_b]
      by_cases hz : 0 ≤ z.toInt ∧ z.toInt ≤ (sg 51 2).toInt
      · rw [if_pos hz]
        obtain ⟨r, g1, g2, g3⟩ := isOnBox_53 sg x y z 1 (Or.inr rfl)
        refine ⟨r, g1, g2, g3.trans ?_⟩
        rw [mlo_on]
        unfold onB mSd
        simp only [if_true, if_false, true_and, Nat.one_ne_zero, Nat.reduceEqDiff]
        constructor
        · intro q
          exact ⟨hx.1, hx.2, hy.1, hy.2, hz.1, hz.2, q⟩
        · intro q
          exact q.2.2.2.2.2.2
      · rw [if_neg hz]
        apply no
        unfold onB mSd
        simp
        omega
    · rw [if_neg hy]
      apply no
      unfold onB mSd
      simp
      omega
  · rw [if_neg hx]
    apply no
    unfold onB mSd
    simp
    omega
theorem mSd_eq {sg : Hp} (h : IB sg) : ∀ a, a < 3 → mSd sg a = sS sg a := by
  intro a ha
  obtain ⟨⟨h1, h2, h3⟩, -⟩ := h
  unfold mSd sS
  rcases (by omega : a = 0 ∨ a = 1 ∨ a = 2) with rfl | rfl | rfl
  · simp [h3]
  · simp [h1]
  · simp [h2]
theorem onB_eq {S S' : Nat → Int} (h : ∀ a, a < 3 → S a = S' a) (x y z : Int) : onB S x y z ↔ onB S' x y z := by
  unfold onB
  rw [h 0 (by omega), h 1 (by omega), h 2 (by omega)]
