/-- all that a change of rolls leaves as it was -/
theorem Inv.rolls {n : Nat} {sg sg' : Hp} (h : Inv n sg) (hr : IR sg') (he : Eo [9, 10, 46, 54] sg sg') (h4 : sg' 46 4 = sg 46 4) : Inv (n + 20) sg' := by
  obtain ⟨h1, h2, h3, h5, h6⟩ := h
  exact ⟨h1.of (he 2 (by decide)) (he 3 (by decide)) (he 4 (by decide)) (he 5 (by decide)) (he 6 (by decide)) (he 51 (by decide)) (he 52 (by decide)) (he 53 (by decide)), hr,
    h3.of (fun s hs => he (38 + s) (by simp only [List.mem_cons, List.not_mem_nil, or_false]; omega)) (he 47 (by decide)) (he 48 (by decide)) (he 49 (by decide)),
    h5.of (by rw [he 0 (by decide)]) h4, h6.of (by omega) (by rw [he 1 (by decide)]) (he 2 (by decide)) (he 3 (by decide)) (he 4 (by decide)) (he 5 (by decide)) (he 6 (by decide)) (he 25 (by decide)) (he 26 (by decide)) (he 27 (by decide)) (he 28 (by decide))⟩
theorem Inv.same {n : Nat} {sg : Hp} (h : Inv n sg) : Inv (n + 20) sg := h.up (by omega)
theorem k_undo : K_undo := by
  intro n sg h hn
  have hr := h.2.1
  obtain ⟨r1, r2, r3, r4⟩ := id hr
  unfold PairI f_Box_undo f_Mod_undo
  by_cases h0 : sg 9 1 = 0
  · refine ⟨-3, sg, sg, by simp [h0], by simp [r1, h0], h.same⟩
  · have h0' : ¬ sg 46 9 = 0 := by rw [r1]; exact h0
    have ht : (sg 9 1 - 1).toInt = (sg 9 1).toInt - 1 := by
      rw [tSub (by simp; omega) (by simp; omega)]; simp
    have hp : 0 < (sg 9 1).toInt := by
      rw [nEq] at h0
      simp at h0
      omega
    refine ⟨sg 9 1 - 1, w2 sg 9 1 (sg 9 1 - 1), w2 (w2 sg 9 1 (sg 9 1 - 1)) 46 9 (sg 9 1 - 1), ?_, ?_, ?_⟩
    · simp [h0, w2_app]
    · simp [h0', w2_app, r1]
      rw [← r1]
      simp [h0']
    · refine h.rolls ?_ ?_ ?_
      · refine ⟨by simp [w2_app], by simp [w2_app, ht]; omega, by simp [w2_app, ht]; omega, fun i hi => ?_⟩
        simp [w2_app, r4 i hi]
      · intro c hc
        simp only [List.mem_cons, List.not_mem_nil, or_false, not_or] at hc
        rw [w2_cell _ hc.2.2.1, w2_cell _ hc.1]
      · simp [w2_app]
theorem k_wipe : K_wipe := by
  intro n sg h hn
  have hr := h.2.1
  obtain ⟨r1, r2, r3, r4⟩ := id hr
  unfold PairI f_Box_wipe f_Mod_wipe
  refine ⟨sg 9 1, w2 sg 9 1 0, w2 (w2 sg 9 1 0) 46 9 0, by simp, by simp [w2_app, r1], ?_⟩
  refine h.rolls ?_ ?_ ?_
  · refine ⟨by simp [w2_app], by simp [w2_app], by simp [w2_app], fun i hi => ?_⟩
    simp [w2_app, r4 i hi]
  · intro c hc
    simp only [List.mem_cons, List.not_mem_nil, or_false, not_or] at hc
    rw [w2_cell _ hc.2.2.1, w2_cell _ hc.1]
  · simp [w2_app]
theorem i64T (x : Int32) : (x.toInt64).toInt = x.toInt := Int32.toInt_toInt64 x
theorem in_i {sg : Hp} (x : Int32) (lo hi : Int64) {a b : Int} (ha : lo.toInt = a) (hb : hi.toInt = b) : f_Mod_in sg x.toInt64 lo hi = some (if a ≤ x.toInt ∧ x.toInt ≤ b then 1 else 0, sg) := by
  rw [in_spec]
  simp only [Int64.le_iff_toInt_le, i64T, ha, hb]
theorem if_b {α : Type} {c : Prop} [Decidable c] {A B : α} : (if (if c then (1 : Int32) else 0) = 0 then A else B) = if c then B else A := by
  by_cases h : c
  · rw [if_pos h, if_pos h, if_neg (by decide)]
  · rw [if_neg h, if_neg h, if_pos rfl]
theorem k_type : K_type := by
  intro n sg h hn a1
  have hr := h.2.1
  obtain ⟨r1, r2, r3, r4⟩ := id hr
  unfold PairI f_Box_type f_Mod_type
  simp only [in_i _ (0 : Int64) (255 : Int64) (a := 0) (b := 255) rfl rfl, Option.bind_some, nLt, nLe, if_b]
  simp only [Int32.reduceToInt]
  by_cases hA : a1.toInt < 0
  · refine ⟨-2, sg, sg, by simp [hA], ?_, h.same⟩
    rw [if_neg (by omega)]
  · by_cases hB : a1.toInt ≤ 255
    · by_cases hC : (sg 9 1).toInt < 40
      · have ht : (sg 9 1 + 1).toInt = (sg 9 1).toInt + 1 := by
          rw [tAdd (by simp; omega) (by simp; omega)]; simp
        have hin : inb (sg 9 1) 40 = true := by rw [inb_iff]; omega
        have hn40 : ¬ (40 : Int32) ≤ sg 9 1 := by rw [nLe]; simp; omega
        have hne : ¬ sg 9 1 = 40 := by rw [nEq]; simp; omega
        refine ⟨sg 9 1 + 1, w2 (w2 sg 10 (sg 9 1).toNatClampNeg a1) 9 1 (sg 9 1 + 1), w2 (w2 (w2 (w2 sg 10 (sg 9 1).toNatClampNeg a1) 9 1 (sg 9 1 + 1)) 54 (sg 9 1).toNatClampNeg a1) 46 9 (sg 9 1 + 1), ?_, ?_, ?_⟩
        · rw [if_neg hA, if_pos hB, if_pos hC]
          unfold f_Rolls_append
          rw [if_neg hn40, if_pos hin]
          simp [w2_app]
        · rw [if_pos (by omega)]
          simp only [w2_app]
          simp [r1, hne, hin, w2_app]
        · refine h.rolls ?_ ?_ ?_
          · refine ⟨by simp [w2_app], by simp [w2_app, ht]; omega, by simp [w2_app, ht]; omega, fun i hi => ?_⟩
            simp [w2_app, r4 i hi]
          · intro c hc
            simp only [List.mem_cons, List.not_mem_nil, or_false, not_or] at hc
            rw [w2_cell _ hc.2.2.1, w2_cell _ hc.2.2.2, w2_cell _ hc.1, w2_cell _ hc.2.1]
          · simp [w2_app]
      · have he : sg 9 1 = 40 := by rw [nEq]; simp; omega
        refine ⟨-4, sg, sg, by rw [if_neg hA, if_pos hB, if_neg hC], ?_, h.same⟩
        rw [if_pos (by omega), if_pos (by rw [r1]; exact he)]
    · refine ⟨-2, sg, sg, by simp [hA, hB], ?_, h.same⟩
      rw [if_neg (by omega)]
