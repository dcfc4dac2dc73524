theorem r2 {α : Type} {c d : Prop} [Decidable c] [Decidable d] {x y : α} (a b : Prop) [Decidable a] [Decidable b] (h1 : c = ¬ a) (h2 : d = ¬ b) : (if c then x else if d then x else y) = if a ∧ b then y else x := by
  subst h1; subst h2
  by_cases ha : a <;> by_cases hb : b <;> simp [ha, hb]
theorem isSheet_c (sg : Hp) (x : Int32) : f_Box_isSheet sg x = some (if 0 ≤ x.toInt ∧ x.toInt ≤ 3 then 1 else 0, sg) := by
  unfold f_Box_isSheet
  simp only [nLt, nLe, Int32.reduceToInt]
  repeat' split
  all_goals first | rfl | omega
theorem isForm_c (sg : Hp) (x : Int32) : f_Box_isForm sg x = some (if 0 ≤ x.toInt ∧ x.toInt ≤ 2 then 1 else 0, sg) := by
  unfold f_Box_isForm
  simp only [nLt, nLe, Int32.reduceToInt]
  repeat' split
  all_goals first | rfl | omega
theorem isPlace_c (sg : Hp) (x : Int32) : f_Box_isPlace sg x = some (if 0 ≤ x.toInt ∧ x.toInt ≤ 7 then 1 else 0, sg) := by
  unfold f_Box_isPlace
  simp only [nLt, nLe, Int32.reduceToInt]
  repeat' split
  all_goals first | rfl | omega
theorem isWall_c (sg : Hp) (x : Int32) : f_Box_isWall sg x = some (if 0 ≤ x.toInt ∧ x.toInt ≤ 5 then 1 else 0, sg) := by
  unfold f_Box_isWall
  simp only [nLt, nLe, Int32.reduceToInt]
  repeat' split
  all_goals first | rfl | omega
theorem isLength_c (sg : Hp) (x : Int32) : f_Box_isLength sg x = some (if 0 ≤ x.toInt ∧ x.toInt ≤ 9999 then 1 else 0, sg) := by
  unfold f_Box_isLength
  simp only [nLt, nLe, Int32.reduceToInt]
  repeat' split
  all_goals first | rfl | omega
theorem isSlope_c (sg : Hp) (x : Int32) : f_Box_isSlope sg x = some (if -9 ≤ x.toInt ∧ x.toInt ≤ 9 then 1 else 0, sg) := by
  unfold f_Box_isSlope
  have e : ((-9 : Int32)).toInt = -9 := by decide
  simp only [nLt, nLe, Int32.reduceToInt, e]
  repeat' split
  all_goals first | rfl | omega
theorem b01 {c : Prop} [Decidable c] : ((if c then (1 : Int32) else 0) = 0 ∨ (if c then (1 : Int32) else 0) = 1) := by
  by_cases h : c <;> simp [h]
theorem isSheet_m (sg : Hp) (x : Int32) : f_Mod_isSheet sg x = some (if 0 ≤ x.toInt ∧ x.toInt ≤ 3 then 1 else 0, sg) := by
  unfold f_Mod_isSheet
  rw [in_i x 0 3 (a := 0) (b := 3) rfl rfl, Option.bind_some, if_pos b01]
theorem isPlace_m (sg : Hp) (x : Int32) : f_Mod_isPlace sg x = some (if 0 ≤ x.toInt ∧ x.toInt ≤ 7 then 1 else 0, sg) := by
  unfold f_Mod_isPlace
  rw [in_i x 0 7 (a := 0) (b := 7) rfl rfl, Option.bind_some, if_pos b01]
theorem isFace_m (sg : Hp) (x : Int32) : f_Mod_isFace sg x = some (if 0 ≤ x.toInt ∧ x.toInt ≤ 5 then 1 else 0, sg) := by
  unfold f_Mod_isFace
  rw [in_i x 0 5 (a := 0) (b := 5) rfl rfl, Option.bind_some, if_pos b01]
theorem isTwo_m (sg : Hp) (x : Int32) : f_Mod_isTwo sg x = some (if 0 ≤ x.toInt ∧ x.toInt ≤ 1 then 1 else 0, sg) := by
  unfold f_Mod_isTwo
  rw [in_i x 0 1 (a := 0) (b := 1) rfl rfl, Option.bind_some, if_pos b01]
/-- an int within is a number -/
theorem nI_ex {x : Int32} {n : Nat} (h : 0 ≤ x.toInt ∧ x.toInt ≤ n) (hn : n < 1000000) : ∃ s : Nat, s ≤ n ∧ x = nI s := ⟨x.toInt.toNat, by omega, i_inj (by rw [nI_toInt (by omega)]; omega)⟩
theorem rt32 {s : Nat} (h : s < 4) : rt 32 s = 38 + 2 * s ∧ rt (38 + 2 * s) 0 = 39 + 2 * s := by
  have : ∀ s, s < 4 → rt 32 s = 38 + 2 * s ∧ rt (38 + 2 * s) 0 = 39 + 2 * s := by decide
  exact this s h
theorem Inv.sheets {n : Nat} {sg sg' : Hp} (h : Inv n sg) (hs : IS sg') (hf : IF sg') (he : Eo [0, 38, 39, 40, 41, 42, 43, 44, 45, 46, 47, 48, 49, 50] sg sg') (h9 : sg' 46 9 = sg 46 9) : Inv (n + 20) sg' := by
  obtain ⟨h1, h2, h3, h5, h6⟩ := h
  exact ⟨h1.of (he 2 (by decide)) (he 3 (by decide)) (he 4 (by decide)) (he 5 (by decide)) (he 6 (by decide)) (he 51 (by decide)) (he 52 (by decide)) (he 53 (by decide)), h2.of (he 9 (by decide)) (he 10 (by decide)) h9 (he 54 (by decide)), hs, hf,
    h6.of (by omega) (by rw [he 1 (by decide)]) (he 2 (by decide)) (he 3 (by decide)) (he 4 (by decide)) (he 5 (by decide)) (he 6 (by decide)) (he 25 (by decide)) (he 26 (by decide)) (he 27 (by decide)) (he 28 (by decide))⟩
theorem w2_ne {sg : Hp} {c k c' k' : Nat} {x : Int32} (h : ¬ (c' = c ∧ k' = k)) : w2 sg c k x c' k' = sg c' k' := by rw [w2_app, if_neg h]
/-- a finding is told on both sides -/
theorem Inv.finding {n : Nat} {sg : Hp} (h : Inv n sg) (v : Int32) : Inv (n + 20) (w2 (w2 sg 0 10 v) 46 4 v) := by
  refine h.sheets ?_ ?_ ?_ ?_
  · refine h.2.2.1.of (fun s hs => ?_) ?_ ?_ ?_
    · rw [w2_cell _ (by omega), w2_cell _ (by omega)]
    · rw [w2_cell _ (by omega), w2_cell _ (by omega)]
    · rw [w2_cell _ (by omega), w2_cell _ (by omega)]
    · rw [w2_cell _ (by omega), w2_cell _ (by omega)]
  · unfold IF
    simp [w2_app]
  · intro c hc
    simp only [List.mem_cons, List.not_mem_nil, or_false, not_or] at hc
    rw [w2_cell _ (by omega), w2_cell _ (by omega)]
  · simp [w2_app]
theorem found_c (sg : Hp) (v : Int32) : f_Box_found sg v = some (-10 - v, w2 sg 0 10 v) := rfl
theorem met_m (sg : Hp) (v : Int32) : f_Mod_met sg v = some (-10 - v, w2 sg 46 4 v) := rfl
theorem isLost_c (sg : Hp) (a : Nat) : f_Sheet_isLost sg a = some (if sg a 1 = -1 then 1 else 0, sg) := by
  unfold f_Sheet_isLost
  split <;> rfl
theorem k_lose : K_lose := by
  intro n sg h hn a1
  have hs := h.2.2.1
  unfold PairI f_Box_lose f_Mod_lose
  simp only [isSheet_c, isSheet_m, Option.bind_some, if_b]
  by_cases hc : 0 ≤ a1.toInt ∧ a1.toInt ≤ 3
  · obtain ⟨s, hs4, rfl⟩ := nI_ex (n := 3) hc (by omega)
    have hb : inb (nI s) 4 = true := by rw [inb_iff, nI_toInt (by omega)]; omega
    obtain ⟨q1, q2, q3, q4, q5, q6, q7⟩ := hs s (by omega)
    simp only [if_pos hc, if_pos hb, nI_clamp (show s < 2 ^ 31 by omega), (rt32 (show s < 4 by omega)).1, isLost_c, Option.bind_some, if_b, found_c, met_m]
    by_cases hl : sg (38 + 2 * s) 1 = -1
    · refine ⟨-10 - 1, w2 sg 0 10 1, w2 (w2 sg 0 10 1) 46 4 1, ?_, ?_, h.finding 1⟩
      · rw [if_pos hl]
      · rw [if_neg]
        rw [w2_ne (by omega), q1, hl]; decide
    · refine ⟨sg (38 + 2 * s) 2, w2 sg (38 + 2 * s) 1 (-1), w2 (w2 sg (38 + 2 * s) 1 (-1)) 47 s (-1), ?_, ?_, ?_⟩
      · rw [if_neg hl, w2_ne (by omega)]
      · have hl2 : ¬ (sg (38 + 2 * s) 1).toInt = -1 := by rw [nEq] at hl; simpa using hl
        rw [if_pos (by rw [w2_ne (by omega), q1, nLe]; simp; omega), w2_ne (by omega), w2_ne (by omega), q2]
      · refine h.sheets ?_ ?_ ?_ ?_
        · intro t ht
          obtain ⟨p1, p2, p3, p4, p5, p6, p7⟩ := hs t ht
          have e2 : w2 (w2 sg (38 + 2 * s) 1 (-1)) 47 s (-1) (38 + 2 * t) 2 = sg (38 + 2 * t) 2 := by rw [w2_ne (by omega), w2_ne (by omega)]
          have e3 : w2 (w2 sg (38 + 2 * s) 1 (-1)) 47 s (-1) 48 t = sg 48 t := by rw [w2_ne (by omega), w2_ne (by omega)]
          have e4 : w2 (w2 sg (38 + 2 * s) 1 (-1)) 47 s (-1) 49 = sg 49 := by rw [w2_cell _ (by omega), w2_cell _ (by omega)]
          have e5 : w2 (w2 sg (38 + 2 * s) 1 (-1)) 47 s (-1) (39 + 2 * t) = sg (39 + 2 * t) := by rw [w2_cell _ (by omega), w2_cell _ (by omega)]
          rw [e2, e3, e4, e5]
          by_cases hts : t = s
          · subst hts
            have e6 : w2 (w2 sg (38 + 2 * t) 1 (-1)) 47 t (-1) (38 + 2 * t) 1 = -1 := by rw [w2_ne (by omega), w2_at]
            rw [e6, w2_at]
            exact ⟨rfl, p2, by decide, by decide, p5, p6, p7⟩
          · have e6 : w2 (w2 sg (38 + 2 * s) 1 (-1)) 47 s (-1) (38 + 2 * t) 1 = sg (38 + 2 * t) 1 := by rw [w2_ne (by omega), w2_ne (by omega)]
            have e7 : w2 (w2 sg (38 + 2 * s) 1 (-1)) 47 s (-1) 47 t = sg 47 t := by rw [w2_ne (by omega), w2_ne (by omega)]
            rw [e6, e7]
            exact ⟨p1, p2, p3, p4, p5, p6, p7⟩
        · exact h.2.2.2.1.of (by rw [w2_ne (by omega), w2_ne (by omega)]) (by rw [w2_ne (by omega), w2_ne (by omega)])
        · intro c hc
          simp only [List.mem_cons, List.not_mem_nil, or_false, not_or] at hc
          rw [w2_cell _ (by omega), w2_cell _ (by omega)]
        · rw [w2_ne (by omega), w2_ne (by omega)]
  · refine ⟨-2, sg, sg, ?_, ?_, h.same⟩
    · rw [if_neg hc]
    · rw [if_neg hc]
