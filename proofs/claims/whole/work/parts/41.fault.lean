def ltr (x : Int32) : Prop := x = 101 ∨ x = 110 ∨ x = 115 ∨ x = 119
noncomputable def fw (g : Nat → Int32) : Nat → Nat → Int
  | 0, _ => -1
  | k + 1, i => haveI := Classical.propDecidable (ltr (g i)); if 20 ≤ i then i else if ltr (g i) then fw g k (i + 1) else i
theorem rollOf_c (sg : Hp) (x : Int32) : f_Rolls_rollOf sg x = some (if x = 101 then 1 else if x = 110 then 3 else if x = 115 then 4 else if x = 119 then 2 else 0, sg) := by
  unfold f_Rolls_rollOf
  repeat' split
  all_goals rfl
theorem rollOf_m (sg : Hp) (x : Int32) : f_Mod_rollOf sg x = some (if x = 101 then 0 else if x = 119 then 1 else if x = 110 then 2 else if x = 115 then 3 else -1, sg) := by
  unfold f_Mod_rollOf
  repeat' split
  all_goals rfl
theorem rlc0 {x : Int32} : (if x = 101 then (1 : Int32) else if x = 110 then 3 else if x = 115 then 4 else if x = 119 then 2 else 0) = 0 ↔ ¬ ltr x := by
  unfold ltr
  by_cases h1 : x = 101
  · simp [h1]
  · by_cases h2 : x = 110
    · simp [h2]
    · by_cases h3 : x = 115
      · simp [h3]
      · by_cases h4 : x = 119
        · simp [h4]
        · simp [h1, h2, h3, h4]
theorem rlm0 {x : Int32} : (if x = 101 then (0 : Int32) else if x = 119 then 1 else if x = 110 then 2 else if x = 115 then 3 else -1) = -1 ↔ ¬ ltr x := by
  unfold ltr
  by_cases h1 : x = 101
  · simp [h1]
  · by_cases h2 : x = 119
    · simp [h2]
    · by_cases h3 : x = 110
      · simp [h3]
      · by_cases h4 : x = 115
        · simp [h4]
        · simp [h1, h2, h3, h4]
theorem fw_c (sg : Hp) : ∀ (k i m : Nat), i + k ≤ 40 → (sg 9 1).toInt = ((i + k : Nat) : Int) → f_Rolls_firstWrong_2 (m + k + 1) sg (nI i) = some (iI (fw (sg 10) k i), sg) := by
  intro k
  induction k with
  | zero =>
    intro i m h1 h2
    rw [f_Rolls_firstWrong_2, if_pos (by rw [nLe, nI_toInt (by omega), h2]; omega)]
    rfl
  | succ k ih =>
    intro i m h1 h2
    have hi : (nI i).toInt = (i : Int) := nI_toInt (by omega)
    rw [show m + (k + 1) + 1 = (m + k + 1) + 1 by omega, f_Rolls_firstWrong_2, if_neg (by rw [nLe, hi, h2]; omega), fw]
    by_cases h20 : 20 ≤ i
    · rw [if_pos (by rw [nLe, hi]; simp; omega), if_pos h20]
      rw [show nI i = iI (i : Int) from i_inj (by rw [hi, iT (by omega) (by omega)])]
    · rw [if_neg (by rw [nLe, hi]; simp; omega), if_neg h20, if_pos (by rw [inb_iff, hi]; omega), nI_clamp (by omega), rollOf_c, Option.bind_some]
      dsimp only
      by_cases hl : ltr (sg 10 i)
      · rw [if_neg (by rw [rlc0]; exact fun q => q hl), if_pos hl, nI_1]
        exact ih (i + 1) m (by omega) (by rw [h2]; omega)
      · rw [if_pos (rlc0.mpr hl), if_neg hl]
        rw [show nI i = iI (i : Int) from i_inj (by rw [hi, iT (by omega) (by omega)])]
theorem fw_m (sg : Hp) : ∀ (k i m : Nat), i ≤ 20 → i + k ≤ 40 → (sg 46 9).toInt = ((i + k : Nat) : Int) → f_Mod_fault_2 (m + k + 1) sg (nI i) = some (iI (fw (sg 54) k i), sg) := by
  intro k
  induction k with
  | zero =>
    intro i m h0 h1 h2
    rw [f_Mod_fault_2, if_pos (by rw [nLe, nI_toInt (by omega), h2]; omega)]
    rfl
  | succ k ih =>
    intro i m h0 h1 h2
    have hi : (nI i).toInt = (i : Int) := nI_toInt (by omega)
    rw [show m + (k + 1) + 1 = (m + k + 1) + 1 by omega, f_Mod_fault_2, if_neg (by rw [nLe, hi, h2]; omega), fw]
    by_cases h20 : 20 ≤ i
    · rw [if_pos (by rw [nEq, hi]; simp; omega), if_pos h20]
      rw [show nI i = iI (i : Int) from i_inj (by rw [hi, iT (by omega) (by omega)])]
    · rw [if_neg (by rw [nEq, hi]; simp; omega), if_neg h20, if_pos (by rw [inb_iff, hi]; omega), nI_clamp (by omega), rollOf_m, Option.bind_some]
      dsimp only
      by_cases hl : ltr (sg 54 i)
      · rw [if_neg (by rw [rlm0]; exact fun q => q hl), if_pos hl, nI_1]
        exact ih (i + 1) m (by omega) (by omega) (by rw [h2]; omega)
      · rw [if_pos (rlm0.mpr hl), if_neg hl]
        rw [show nI i = iI (i : Int) from i_inj (by rw [hi, iT (by omega) (by omega)])]
theorem fw_congr {g g' : Nat → Int32} : ∀ (k i : Nat), (∀ j, i ≤ j → j < i + k → g j = g' j) → fw g k i = fw g' k i := by
  intro k
  induction k with
  | zero => intro i _; rfl
  | succ k ih =>
    intro i h
    rw [fw, fw, h i (by omega) (by omega), ih (i + 1) (fun j h1 h2 => h j (by omega) (by omega))]
theorem fw_lt (g : Nat → Int32) : ∀ (k i : Nat), -1 ≤ fw g k i ∧ fw g k i < i + k := by
  intro k
  induction k with
  | zero => intro i; rw [fw]; omega
  | succ k ih =>
    intro i
    rw [fw]
    have := ih (i + 1)
    split
    · omega
    · split <;> omega
theorem fw_ok {g : Nat → Int32} : ∀ (k i : Nat), fw g k i = -1 → ∀ j, i ≤ j → j < i + k → j < 20 ∧ ltr (g j) := by
  intro k
  induction k with
  | zero => intro i _ j h1 h2; omega
  | succ k ih =>
    intro i h j h1 h2
    rw [fw] at h
    split at h
    · omega
    · split at h
      · rename_i hl
        by_cases hj : j = i
        · subst hj; exact ⟨by omega, hl⟩
        · exact ih (i + 1) h j (by omega) (by omega)
      · omega
/-- the fault, and how many rolls there are -/
noncomputable def fv (sg : Hp) : Int := fw (sg 10) (sg 9 1).toInt.toNat 0
noncomputable def nv (sg : Hp) : Nat := if fv sg = -1 then (sg 9 1).toInt.toNat else 0
theorem first_c {sg : Hp} (h : IR sg) : f_Rolls_firstWrong sg = some (iI (fv sg), sg) := by
  obtain ⟨r1, r2, r3, r4⟩ := h
  unfold f_Rolls_firstWrong fv
  rw [show LF = (LF - (sg 9 1).toInt.toNat - 1) + (sg 9 1).toInt.toNat + 1 by unfold LF; omega, ← nI_0]
  exact fw_c sg _ 0 _ (by omega) (by omega)
theorem first_m {sg sg' : Hp} (h : IR sg) (e1 : sg' 46 9 = sg 46 9) (e2 : sg' 54 = sg 54) : f_Mod_fault sg' = some (iI (fv sg), sg') := by
  obtain ⟨r1, r2, r3, r4⟩ := h
  unfold f_Mod_fault fv
  rw [show LF = (LF - (sg 9 1).toInt.toNat - 1) + (sg 9 1).toInt.toNat + 1 by unfold LF; omega, ← nI_0]
  rw [fw_m sg' _ 0 _ (by omega) (by omega) (by rw [e1, r1]; omega), e2, fw_congr (g := sg 54) (g' := sg 10) _ 0 (fun j _ hj => r4 j (by omega))]
theorem fv_rng {sg : Hp} (h : IR sg) : -1 ≤ fv sg ∧ fv sg < 40 := by
  have := fw_lt (sg 10) (sg 9 1).toInt.toNat 0
  obtain ⟨r1, r2, r3, r4⟩ := h
  unfold fv
  omega
theorem nv_le {sg : Hp} (h : IR sg) : nv sg ≤ 20 := by
  obtain ⟨r1, r2, r3, r4⟩ := h
  unfold nv
  split
  · rename_i hf
    by_cases h0 : (sg 9 1).toInt.toNat = 0
    · omega
    · have := fw_ok _ _ hf ((sg 9 1).toInt.toNat - 1) (by omega) (by omega)
      omega
  · omega
theorem nv_ok {sg : Hp} {j : Nat} (hj : j < nv sg) : ltr (sg 10 j) := by
  unfold nv at hj
  split at hj
  · rename_i hf
    exact (fw_ok _ _ hf j (by omega) (by omega)).2
  · omega
theorem valid_c {sg : Hp} (h : IR sg) : f_Rolls_valid sg = some (nI (nv sg), sg) := by
  unfold f_Rolls_valid
  rw [first_c h, Option.bind_some]
  dsimp only
  have hr := fv_rng h
  obtain ⟨r1, r2, r3, r4⟩ := h
  by_cases hf : fv sg = -1
  · rw [if_pos (by rw [hf]; decide)]
    congr 2
    apply i_inj
    rw [nI_toInt (by unfold nv; split <;> omega)]
    unfold nv
    rw [if_pos hf]
    omega
  · rw [if_neg (by rw [nEq, iT (by omega) (by omega)]; simpa using hf)]
    unfold nv
    rw [if_neg hf]
    rfl
theorem rolls_m {sg sg' : Hp} (h : IR sg) (e1 : sg' 46 9 = sg 46 9) (e2 : sg' 54 = sg 54) : f_Mod_rolls sg' = some (nI (nv sg), sg') := by
  unfold f_Mod_rolls
  rw [first_m h e1 e2, Option.bind_some]
  dsimp only
  have hr := fv_rng h
  obtain ⟨r1, r2, r3, r4⟩ := h
  by_cases hf : fv sg = -1
  · rw [if_pos (by rw [hf]; decide)]
    congr 2
    apply i_inj
    rw [e1, r1, nI_toInt (by unfold nv; split <;> omega)]
    unfold nv
    rw [if_pos hf]
    omega
  · rw [if_neg (by rw [nEq, iT (by omega) (by omega)]; simpa using hf)]
    unfold nv
    rw [if_neg hf]
    rfl
theorem k_fault : K_fault := by
  intro n sg h hn
  refine ⟨iI (fv sg), sg, sg, ?_, first_m h.2.1 rfl rfl, h.same⟩
  show f_Box_fault sg = _
  unfold f_Box_fault
  rw [first_c h.2.1]
  rfl
