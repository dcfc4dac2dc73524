def fndv (form size wanted i : Int32) : Int32 := if form = -1 then 1 else if form = wanted then (if i < 0 then 2 else if i < size then 0 else 2) else 3
theorem findingAt_c (sg : Hp) (a : Nat) (w i : Int32) : f_Sheet_findingAt sg a w i = some (fndv (sg a 1) (sg a 2) w i, sg) := by
  unfold f_Sheet_findingAt f_Sheet_findingAt_31 fndv
  rw [isLost_c, Option.bind_some]
  dsimp only
  rw [if_b]
  repeat' split
  all_goals rfl
theorem lacks_m {sg sg' : Hp} (hI : IS sg) {s : Nat} (hs : s < 4) (e1 : sg' 47 = sg 47) (e2 : sg' 48 = sg 48) (w i : Int32) (hw : 0 ≤ w.toInt ∧ w.toInt ≤ 2) : f_Mod_lacks sg' (nI s) w i = some (if fndv (sg (38 + 2 * s) 1) (sg (38 + 2 * s) 2) w i = 0 then 0 else -10 - fndv (sg (38 + 2 * s) 1) (sg (38 + 2 * s) 2) w i, if fndv (sg (38 + 2 * s) 1) (sg (38 + 2 * s) 2) w i = 0 then sg' else w2 sg' 46 4 (fndv (sg (38 + 2 * s) 1) (sg (38 + 2 * s) 2) w i)) := by
  obtain ⟨q1, q2, q3, q4, q5, q6, q7⟩ := hI s hs
  have hb : inb (nI s) 4 = true := by rw [inb_iff, nI_toInt (by omega)]; omega
  have hsz : (sg (38 + 2 * s) 2 - 1).toInt = (sg (38 + 2 * s) 2).toInt - 1 := by rw [tSub (by simp; omega) (by simp; omega)]; simp
  unfold f_Mod_lacks fndv
  simp only [if_pos hb, nI_clamp (show s < 2 ^ 31 by omega), e1, e2, q1, q2, met_m, Option.bind_some]
  rw [in_i i (0 : Int64) _ (a := 0) (b := (sg (38 + 2 * s) 2).toInt - 1) rfl (by rw [i64T, hsz]), Option.bind_some]
  dsimp only
  rw [if_b]
  have hm1 : ((-1 : Int32)).toInt = -1 := by decide
  by_cases hl : sg (38 + 2 * s) 1 = -1
  · rw [if_neg (by rw [hl]; decide), if_pos hl]
    rfl
  · have hl2 : ¬ (sg (38 + 2 * s) 1).toInt = -1 := by rw [nEq, hm1] at hl; exact hl
    rw [if_pos (by rw [nLe]; simp; omega), if_neg hl]
    by_cases hf : sg (38 + 2 * s) 1 = w
    · rw [if_pos hf, if_pos hf]
      simp only [nLt, Int32.reduceToInt]
      by_cases h1 : i.toInt < 0
      · rw [if_neg (by omega), if_pos h1]; rfl
      · by_cases h2 : i.toInt < (sg (38 + 2 * s) 2).toInt
        · rw [if_pos (by omega), if_neg h1, if_pos h2]; rfl
        · rw [if_neg (by omega), if_neg h1, if_neg h2]; rfl
    · rw [if_neg hf, if_neg hf]
      rfl
theorem fndv_0 {form size w i : Int32} (h : fndv form size w i = 0) : ¬ form = -1 ∧ form = w ∧ 0 ≤ i.toInt ∧ i.toInt < size.toInt := by
  unfold fndv at h
  split at h
  · exact absurd h (by decide)
  · rename_i h1
    split at h
    · rename_i h2
      split at h
      · exact absurd h (by decide)
      · rename_i h3
        split at h
        · rename_i h4
          rw [nLt] at h3 h4
          simp at h3
          exact ⟨h1, h2, h3, h4⟩
        · exact absurd h (by decide)
    · exact absurd h (by decide)
theorem ix60 {s : Nat} (hs : s < 4) {i : Int32} (h : 0 ≤ i.toInt ∧ i.toInt < 60) : inb ((60 : Int32) * nI s + i) 240 = true ∧ ((60 : Int32) * nI s + i).toNatClampNeg = 60 * s + i.toInt.toNat := by
  have e1 : ((60 : Int32) * nI s).toInt = 60 * s := by
    rw [tMul (by rw [nI_toInt (by omega)]; simp; omega) (by rw [nI_toInt (by omega)]; simp; omega), nI_toInt (by omega)]; simp
  have e2 : ((60 : Int32) * nI s + i).toInt = 60 * s + i.toInt := by
    rw [tAdd (by rw [e1]; omega) (by rw [e1]; omega), e1]
  refine ⟨by rw [inb_iff, e2]; omega, ?_⟩
  have := tcn (x := (60 : Int32) * nI s + i) (by rw [e2]; omega)
  rw [e2] at this
  omega
theorem k_get : K_get := by
  intro n sg h hn a1 a2 a3
  have hs := h.2.2.1
  unfold PairI f_Box_get f_Mod_get
  simp only [isSheet_c, isSheet_m, isForm_c, in_i _ (0 : Int64) (2 : Int64) (a := 0) (b := 2) rfl rfl, Option.bind_some, if_b]
  by_cases hc : 0 ≤ a1.toInt ∧ a1.toInt ≤ 3
  · by_cases hw : 0 ≤ a2.toInt ∧ a2.toInt ≤ 2
    · obtain ⟨s, hs4, rfl⟩ := nI_ex (n := 3) hc (by omega)
      have hb : inb (nI s) 4 = true := by rw [inb_iff, nI_toInt (by omega)]; omega
      obtain ⟨q1, q2, q3, q4, q5, q6, q7⟩ := hs s (by omega)
      simp only [if_pos hc, if_pos hw, if_pos hb, nI_clamp (show s < 2 ^ 31 by omega), (rt32 (show s < 4 by omega)).1, (rt32 (show s < 4 by omega)).2, findingAt_c, Option.bind_some]
      by_cases hf : fndv (sg (38 + 2 * s) 1) (sg (38 + 2 * s) 2) a2 a3 = 0
      · obtain ⟨g1, g2, g3, g4⟩ := fndv_0 hf
        obtain ⟨i1, i2⟩ := ix60 (s := s) (by omega) (i := a3) ⟨g3, by omega⟩
        refine ⟨sg (39 + 2 * s) a3.toNatClampNeg, sg, sg, ?_, ?_, h.same⟩
        · rw [if_pos hf, if_pos (by rw [inb_iff]; omega)]
        · rw [lacks_m hs (by omega) rfl rfl a2 a3 hw, Option.bind_some]
          dsimp only
          rw [if_pos hf, if_pos hf, if_pos rfl, if_pos i1, i2, q7 _ (by omega)]
          rfl
      · refine ⟨-2147483648, w2 sg 0 10 (fndv (sg (38 + 2 * s) 1) (sg (38 + 2 * s) 2) a2 a3), w2 (w2 sg 0 10 (fndv (sg (38 + 2 * s) 1) (sg (38 + 2 * s) 2) a2 a3)) 46 4 (fndv (sg (38 + 2 * s) 1) (sg (38 + 2 * s) 2) a2 a3), ?_, ?_, h.finding _⟩
        · rw [if_neg hf]
        · rw [lacks_m hs (by omega) (w2_cell _ (by omega)) (w2_cell _ (by omega)) a2 a3 hw, Option.bind_some]
          dsimp only
          rw [if_neg hf, if_neg hf, if_neg]
          unfold fndv
          repeat' split
          all_goals first | decide | (exfalso; apply hf; unfold fndv; simp_all; done)
    · refine ⟨-2147483648, sg, sg, ?_, ?_, h.same⟩
      · rw [if_pos hc, if_neg hw]
      · rw [if_pos hc, if_neg hw]
  · refine ⟨-2147483648, sg, sg, ?_, ?_, h.same⟩
    · rw [if_neg hc]
    · rw [if_neg hc]
def cutv (form v : Int32) : Int32 := if form = 0 then v.toInt8.toInt32 else if form = 1 then v.toInt16.toInt32 else v
theorem cut_m (sg : Hp) (f v : Int32) : f_Mod_cut sg f v = some (cutv f v, sg) := by
  unfold f_Mod_cut cutv
  repeat' split
  all_goals rfl
theorem put_c {sg : Hp} {s : Nat} (hs : s < 4) {i v : Int32} (h : inb i 60 = true) : f_Sheet_put sg (38 + 2 * s) i v = some (w2 sg (39 + 2 * s) i.toNatClampNeg (cutv (sg (38 + 2 * s) 1) v)) := by
  unfold f_Sheet_put cutv
  simp only [if_pos h, (rt32 hs).2, Option.bind_some]
  repeat' split
  all_goals rfl
/-- an item laid on both sides -/
theorem IS.lay {sg sg' : Hp} (h : IS sg) {s k : Nat} (hs : s < 4) (hk : k < 60) (v : Int32) (he : sg' = w2 (w2 sg (39 + 2 * s) k v) 49 (60 * s + k) v) : IS sg' := by
  subst he
  intro t ht
  obtain ⟨p1, p2, p3, p4, p5, p6, p7⟩ := h t ht
  have e1 : w2 (w2 sg (39 + 2 * s) k v) 49 (60 * s + k) v (38 + 2 * t) = sg (38 + 2 * t) := by rw [w2_cell _ (by omega), w2_cell _ (by omega)]
  have e2 : w2 (w2 sg (39 + 2 * s) k v) 49 (60 * s + k) v 47 = sg 47 := by rw [w2_cell _ (by omega), w2_cell _ (by omega)]
  have e3 : w2 (w2 sg (39 + 2 * s) k v) 49 (60 * s + k) v 48 = sg 48 := by rw [w2_cell _ (by omega), w2_cell _ (by omega)]
  rw [e1, e2, e3]
  refine ⟨p1, p2, p3, p4, p5, p6, fun i hi => ?_⟩
  by_cases hts : t = s
  · subst hts
    by_cases hik : i = k
    · subst hik
      rw [w2_at, w2_ne (by omega), w2_at]
    · rw [w2_ne (by omega), w2_ne (by omega), w2_ne (by omega), w2_ne (by omega)]
      exact p7 i hi
  · rw [w2_ne (by omega), w2_ne (by omega), w2_ne (by omega), w2_ne (by omega)]
    exact p7 i hi
theorem Inv.lay {n : Nat} {sg : Hp} (h : Inv n sg) {s k : Nat} (hs : s < 4) (hk : k < 60) (v : Int32) : Inv (n + 20) (w2 (w2 sg (39 + 2 * s) k v) 49 (60 * s + k) v) := by
  refine h.sheets (h.2.2.1.lay hs hk v rfl) (h.2.2.2.1.of (by rw [w2_ne (by omega), w2_ne (by omega)]) (by rw [w2_ne (by omega), w2_ne (by omega)])) ?_ (by rw [w2_ne (by omega), w2_ne (by omega)])
  intro c hc
  simp only [List.mem_cons, List.not_mem_nil, or_false, not_or] at hc
  rw [w2_cell _ (by omega), w2_cell _ (by omega)]
theorem k_lay : K_lay := by
  intro n sg h hn a1 a2 a3 a4
  have hs := h.2.2.1
  unfold PairI f_Box_lay f_Mod_lay
  simp only [isSheet_c, isSheet_m, isForm_c, in_i _ (0 : Int64) (2 : Int64) (a := 0) (b := 2) rfl rfl, Option.bind_some, if_b]
  by_cases hc : 0 ≤ a1.toInt ∧ a1.toInt ≤ 3
  · by_cases hw : 0 ≤ a2.toInt ∧ a2.toInt ≤ 2
    · obtain ⟨s, hs4, rfl⟩ := nI_ex (n := 3) hc (by omega)
      have hb : inb (nI s) 4 = true := by rw [inb_iff, nI_toInt (by omega)]; omega
      obtain ⟨q1, q2, q3, q4, q5, q6, q7⟩ := hs s (by omega)
      simp only [if_pos hc, if_pos hw, if_pos hb, nI_clamp (show s < 2 ^ 31 by omega), (rt32 (show s < 4 by omega)).1, findingAt_c, Option.bind_some, found_c]
      by_cases hf : fndv (sg (38 + 2 * s) 1) (sg (38 + 2 * s) 2) a2 a3 = 0
      · obtain ⟨g1, g2, g3, g4⟩ := fndv_0 hf
        obtain ⟨i1, i2⟩ := ix60 (s := s) (by omega) (i := a3) ⟨g3, by omega⟩
        have hk : a3.toNatClampNeg = a3.toInt.toNat := rfl
        refine ⟨1, w2 sg (39 + 2 * s) a3.toInt.toNat (cutv a2 a4), w2 (w2 sg (39 + 2 * s) a3.toInt.toNat (cutv a2 a4)) 49 (60 * s + a3.toInt.toNat) (cutv a2 a4), ?_, ?_, h.lay (by omega) (by omega) _⟩
        · rw [if_pos hf, put_c (by omega) (by rw [inb_iff]; omega), Option.bind_some, g2, hk]
        · rw [lacks_m hs (by omega) (w2_cell _ (by omega)) (w2_cell _ (by omega)) a2 a3 hw, Option.bind_some]
          dsimp only
          rw [if_pos hf, if_pos hf, if_pos rfl, cut_m, Option.bind_some, if_pos i1, i2]
      · refine ⟨-10 - fndv (sg (38 + 2 * s) 1) (sg (38 + 2 * s) 2) a2 a3, w2 sg 0 10 (fndv (sg (38 + 2 * s) 1) (sg (38 + 2 * s) 2) a2 a3), w2 (w2 sg 0 10 (fndv (sg (38 + 2 * s) 1) (sg (38 + 2 * s) 2) a2 a3)) 46 4 (fndv (sg (38 + 2 * s) 1) (sg (38 + 2 * s) 2) a2 a3), ?_, ?_, h.finding _⟩
        · rw [if_neg hf]
        · rw [lacks_m hs (by omega) (w2_cell _ (by omega)) (w2_cell _ (by omega)) a2 a3 hw, Option.bind_some]
          dsimp only
          rw [if_neg hf, if_neg hf, if_neg]
          unfold fndv
          repeat' split
          all_goals first | decide | (exfalso; apply hf; unfold fndv; simp_all; done)
    · refine ⟨-2, sg, sg, ?_, ?_, h.same⟩
      · rw [if_pos hc, if_neg hw]
      · rw [if_pos hc, if_neg hw]
  · refine ⟨-2, sg, sg, ?_, ?_, h.same⟩
    · rw [if_neg hc]
    · rw [if_neg hc]
