def zf (sg : Hp) (c lo hi : Nat) : Hp := fun c' k' => if c' = c ∧ lo ≤ k' ∧ k' < hi then 0 else sg c' k'
theorem zf_step (sg : Hp) {c lo hi : Nat} (h : lo < hi) : zf (w2 sg c lo 0) c (lo + 1) hi = zf sg c lo hi := by
  funext c' k'
  unfold zf
  rw [w2_app]
  by_cases h1 : c' = c
  · by_cases h2 : lo + 1 ≤ k' ∧ k' < hi
    · rw [if_pos ⟨h1, h2⟩, if_pos ⟨h1, by omega, h2.2⟩]
    · rw [if_neg (fun q => h2 q.2)]
      by_cases h3 : k' = lo
      · rw [if_pos ⟨h1, h3⟩, if_pos ⟨h1, by omega, by omega⟩]
      · rw [if_neg (fun q => h3 q.2), if_neg (fun q => h2 ⟨by omega, q.2.2⟩)]
  · rw [if_neg (fun q => h1 q.1), if_neg (fun q => h1 q.1), if_neg (fun q => h1 q.1)]
theorem zf_0 (sg : Hp) {c lo hi : Nat} (h : hi ≤ lo) : zf sg c lo hi = sg := by
  funext c' k'
  unfold zf
  rw [if_neg (fun q => by omega)]
theorem renew_l {s : Nat} (hs : s < 4) : ∀ (k i m : Nat) (sg : Hp), i + k = 60 → f_Sheet_renew_12 (m + k + 1) sg (38 + 2 * s) (nI i) = some (zf sg (39 + 2 * s) i 60) := by
  intro k
  induction k with
  | zero =>
    intro i m sg h
    rw [f_Sheet_renew_12, if_pos (by rw [nLe, nI_toInt (by omega)]; simp; omega), zf_0 _ (by omega)]
  | succ k ih =>
    intro i m sg h
    rw [show m + (k + 1) + 1 = (m + k + 1) + 1 by omega, f_Sheet_renew_12, if_neg (by rw [nLe, nI_toInt (by omega)]; simp; omega), if_pos (by rw [inb_iff, nI_toInt (by omega)]; omega), Option.bind_some, (rt32 hs).2, nI_clamp (by omega), nI_1, ih (i + 1) m _ (by omega), zf_step _ (by omega)]
theorem sheet_l {s z : Nat} (hs : s < 4) (hz : z ≤ 60) : ∀ (k i m : Nat) (sg : Hp), i + k = z → f_Mod_sheet_55 (m + k + 1) sg (nI s) (nI z) (nI i) = some (nI z, zf sg 49 (60 * s + i) (60 * s + z)) := by
  intro k
  induction k with
  | zero =>
    intro i m sg h
    rw [f_Mod_sheet_55, if_pos (by rw [nLe, nI_toInt (by omega), nI_toInt (by omega)]; omega), zf_0 _ (by omega)]
  | succ k ih =>
    intro i m sg h
    have hi : (nI i).toInt = (i : Int) := nI_toInt (by omega)
    obtain ⟨i1, i2⟩ := ix60 hs (i := nI i) ⟨by omega, by omega⟩
    rw [hi] at i2
    rw [show m + (k + 1) + 1 = (m + k + 1) + 1 by omega, f_Mod_sheet_55, if_neg (by rw [nLe, hi, nI_toInt (by omega)]; omega), if_pos i1, Option.bind_some, i2, nI_1, ih (i + 1) m _ (by omega), show 60 * s + (i + 1) = (60 * s + i) + 1 by omega]
    rw [show (i : Int).toNat = i by omega, zf_step _ (by omega)]
theorem zf_cell (sg : Hp) {c lo hi c' : Nat} (h : c' ≠ c) : zf sg c lo hi c' = sg c' := by
  funext k
  unfold zf
  rw [if_neg (fun q => h q.1)]
theorem LFx (k : Nat) (h : k < 90000) : ∃ m, LF = m + k + 1 := ⟨LF - k - 1, by unfold LF; omega⟩
theorem renew_c {s : Nat} (hs : s < 4) (sg : Hp) (x y : Int32) : f_Sheet_renew sg (38 + 2 * s) x y = some (zf (w2 (w2 sg (38 + 2 * s) 1 x) (38 + 2 * s) 2 y) (39 + 2 * s) 0 60) := by
  unfold f_Sheet_renew
  obtain ⟨m, hm⟩ := LFx 60 (by omega)
  rw [Option.bind_some, Option.bind_some, hm, ← nI_0]
  exact renew_l hs 60 0 m _ (by omega)
theorem sheet_lm {s z : Nat} (hs : s < 4) (hz : z ≤ 60) (sg : Hp) : f_Mod_sheet_55 LF sg (nI s) (nI z) 0 = some (nI z, zf sg 49 (60 * s) (60 * s + z)) := by
  obtain ⟨m, hm⟩ := LFx z (by omega)
  rw [hm, ← nI_0]
  exact sheet_l hs hz z 0 m _ (by omega)
theorem k_sheet : K_sheet := by
  intro n sg h hn a1 a2 a3
  have hs := h.2.2.1
  unfold PairI f_Box_sheet f_Mod_sheet
  simp only [isSheet_c, isSheet_m, isForm_c, in_i _ (0 : Int64) (2 : Int64) (a := 0) (b := 2) rfl rfl, Option.bind_some, if_b]
  by_cases hc : 0 ≤ a1.toInt ∧ a1.toInt ≤ 3
  · by_cases hw : 0 ≤ a2.toInt ∧ a2.toInt ≤ 2
    · obtain ⟨s, hs4, rfl⟩ := nI_ex (n := 3) hc (by omega)
      have hb : inb (nI s) 4 = true := by rw [inb_iff, nI_toInt (by omega)]; omega
      simp only [if_pos hc, if_pos hw, if_pos hb, nI_clamp (show s < 2 ^ 31 by omega), (rt32 (show s < 4 by omega)).1, Option.bind_some, found_c, met_m, nLe, Int32.reduceToInt]
      by_cases h6 : a3.toInt ≤ 60
      · by_cases h0 : 0 ≤ a3.toInt
        · obtain ⟨z, hz, rfl⟩ := nI_ex (x := a3) (n := 60) ⟨h0, h6⟩ (by omega)
          have hzt : (nI z).toInt = (z : Int) := nI_toInt (by omega)
          simp only [if_pos h6, if_pos h0]
          refine ⟨nI z, zf (w2 (w2 sg (38 + 2 * s) 1 a2) (38 + 2 * s) 2 (nI z)) (39 + 2 * s) 0 60, zf (w2 (w2 (zf (w2 (w2 sg (38 + 2 * s) 1 a2) (38 + 2 * s) 2 (nI z)) (39 + 2 * s) 0 60) 47 s a2) 48 s (nI z)) 49 (60 * s) (60 * s + z), ?_, ?_, ?_⟩
          · rw [renew_c (by omega), Option.bind_some]
          · rw [sheet_lm (by omega) (by omega)]
          · generalize hA : w2 (w2 sg (38 + 2 * s) 1 a2) (38 + 2 * s) 2 (nI z) = A
            generalize hB : w2 (w2 (zf A (39 + 2 * s) 0 60) 47 s a2) 48 s (nI z) = B
            have cA : ∀ c, c ≠ 38 + 2 * s → A c = sg c := fun c hc => by rw [← hA, w2_cell _ hc, w2_cell _ hc]
            have cB : ∀ c, c ≠ 38 + 2 * s → c ≠ 39 + 2 * s → c ≠ 47 → c ≠ 48 → B c = sg c := fun c h1 h2 h3 h4 => by rw [← hB, w2_cell _ h4, w2_cell _ h3, zf_cell _ h2, cA c h1]
            refine h.sheets ?_ ?_ ?_ ?_
            · intro t ht
              obtain ⟨p1, p2, p3, p4, p5, p6, p7⟩ := hs t ht
              rw [zf_cell _ (by omega : (47 : Nat) ≠ 49), zf_cell _ (by omega : (48 : Nat) ≠ 49), zf_cell _ (by omega : (38 + 2 * t : Nat) ≠ 49), zf_cell _ (by omega : (39 + 2 * t : Nat) ≠ 49)]
              by_cases hts : t = s
              · subst hts
                have b1 : B 47 t = a2 := by rw [← hB, w2_ne (by omega), w2_at]
                have b2 : B 48 t = nI z := by rw [← hB, w2_at]
                have b3 : B (38 + 2 * t) = A (38 + 2 * t) := by rw [← hB, w2_cell _ (by omega), w2_cell _ (by omega), zf_cell _ (by omega)]
                have b4 : A (38 + 2 * t) 1 = a2 := by rw [← hA, w2_ne (by omega), w2_at]
                have b5 : A (38 + 2 * t) 2 = nI z := by rw [← hA, w2_at]
                rw [b1, b2, b3, b4, b5, hzt]
                refine ⟨rfl, rfl, by omega, by omega, by omega, by omega, fun i hi => ?_⟩
                have b6 : zf B 49 (60 * t) (60 * t + z) 49 (60 * t + i) = 0 := by unfold zf; rw [if_pos ⟨rfl, by omega, by omega⟩]
                have b7 : B (39 + 2 * t) i = 0 := by
                  rw [← hB, w2_ne (by omega), w2_ne (by omega)]
                  unfold zf
                  rw [if_pos ⟨rfl, by omega, by omega⟩]
                rw [b6, b7]
              · have b1 : B 47 t = sg 47 t := by rw [← hB, w2_ne (by omega), w2_ne (by omega), zf_cell _ (by omega), cA _ (by omega)]
                have b2 : B 48 t = sg 48 t := by rw [← hB, w2_ne (by omega), w2_ne (by omega), zf_cell _ (by omega), cA _ (by omega)]
                rw [b1, b2, cB (38 + 2 * t) (by omega) (by omega) (by omega) (by omega), cB (39 + 2 * t) (by omega) (by omega) (by omega) (by omega)]
                refine ⟨p1, p2, p3, p4, p5, p6, fun i hi => ?_⟩
                have b6 : zf B 49 (60 * s) (60 * s + z) 49 (60 * t + i) = sg 49 (60 * t + i) := by
                  unfold zf
                  rw [if_neg (fun q => by omega), cB 49 (by omega) (by omega) (by omega) (by omega)]
                rw [b6]
                exact p7 i hi
            · exact h.2.2.2.1.of (by rw [zf_cell _ (by omega), cB 0 (by omega) (by omega) (by omega) (by omega)]) (by rw [zf_cell _ (by omega), cB 46 (by omega) (by omega) (by omega) (by omega)])
            · intro c hc
              simp only [List.mem_cons, List.not_mem_nil, or_false, not_or] at hc
              rw [zf_cell _ (by omega), cB c (by omega) (by omega) (by omega) (by omega)]
            · rw [zf_cell _ (by omega), cB 46 (by omega) (by omega) (by omega) (by omega)]
        · refine ⟨-10 - 5, w2 sg 0 10 5, w2 (w2 sg 0 10 5) 46 4 5, ?_, ?_, h.finding 5⟩
          · rw [if_pos h6, if_neg h0]
          · rw [if_pos h6, if_neg h0]
      · refine ⟨-2, sg, sg, ?_, ?_, h.same⟩
        · rw [if_neg h6]
        · rw [if_neg h6]
    · refine ⟨-2, sg, sg, ?_, ?_, h.same⟩
      · rw [if_pos hc, if_neg hw]
      · rw [if_pos hc, if_neg hw]
  · refine ⟨-2, sg, sg, ?_, ?_, h.same⟩
    · rw [if_neg hc]
    · rw [if_neg hc]
