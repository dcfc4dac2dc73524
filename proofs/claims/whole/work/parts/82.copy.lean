/-! COPY -/
theorem hasRun_c {t : Hp} {a : Nat} {x y : Int32} (hz : 0 ≤ (t a 2).toInt ∧ (t a 2).toInt ≤ 60) : f_Sheet_hasRun t a x y = some (if 0 ≤ x.toInt ∧ 0 ≤ y.toInt ∧ x.toInt + y.toInt ≤ (t a 2).toInt then 1 else 0, t) := by
  unfold f_Sheet_hasRun
  by_cases q1 : x < 0
  · rw [if_pos q1]
    rw [nLt, z32] at q1
    rw [if_neg (by omega)]
  · rw [if_neg q1]
    rw [nLt, z32] at q1
    by_cases q2 : y < 0
    · rw [if_pos q2]
      rw [nLt, z32] at q2
      rw [if_neg (by omega)]
    · rw [if_neg q2]
      rw [nLt, z32] at q2
      by_cases q3 : t a 2 < x
      · rw [if_pos q3]
        rw [nLt] at q3
        rw [if_neg (by omega)]
      · rw [if_neg q3]
        rw [nLt] at q3
        have e : (t a 2 - x).toInt = (t a 2).toInt - x.toInt := tSub (by omega) (by omega)
        by_cases q4 : t a 2 - x < y
        · rw [if_pos q4]
          rw [nLt, e] at q4
          rw [if_neg (by omega)]
        · rw [if_neg q4]
          rw [nLt, e] at q4
          rw [if_pos (by omega)]
def okC (zs zt i j n : Int) : Prop := (0 ≤ i ∧ 0 ≤ n ∧ i + n ≤ zs) ∧ 0 ≤ j ∧ 0 ≤ n ∧ j + n ≤ zt
theorem copy_tc {sg : Hp} (hI : IS sg) {s t : Nat} (hs : s < 4) (ht : t < 4) (i j n : Int32) : (sg (38 + 2 * s) 1 = -1 ∨ sg (38 + 2 * t) 1 = -1 → f_Box_copy sg (nI s) i (nI t) j n = some (-10 - 1, w2 sg 0 10 1)) ∧ (¬ (sg (38 + 2 * s) 1 = -1 ∨ sg (38 + 2 * t) 1 = -1) → (sg (38 + 2 * s) 1 ≠ sg (38 + 2 * t) 1 → f_Box_copy sg (nI s) i (nI t) j n = some (-10 - 4, w2 sg 0 10 4)) ∧ (sg (38 + 2 * s) 1 = sg (38 + 2 * t) 1 → (¬ okC (sg (38 + 2 * s) 2).toInt (sg (38 + 2 * t) 2).toInt i.toInt j.toInt n.toInt → f_Box_copy sg (nI s) i (nI t) j n = some (-10 - 2, w2 sg 0 10 2)) ∧ (okC (sg (38 + 2 * s) 2).toInt (sg (38 + 2 * t) 2).toInt i.toInt j.toInt n.toInt → f_Box_copy sg (nI s) i (nI t) j n = some (1, cp2 sg (39 + 2 * s) (39 + 2 * t) i j n)))) := by
  have ps : 0 ≤ (nI s).toInt ∧ (nI s).toInt ≤ 3 := by rw [nI_toInt (by omega)]; omega
  have pt : 0 ≤ (nI t).toInt ∧ (nI t).toInt ≤ 3 := by rw [nI_toInt (by omega)]; omega
  obtain ⟨-, -, -, -, u5, u6, -⟩ := hI s hs
  obtain ⟨-, -, -, -, v5, v6, -⟩ := hI t ht
  have top : f_Box_copy sg (nI s) i (nI t) j n = if sg (38 + 2 * s) 1 = -1 then some (-10 - 1, w2 sg 0 10 1) else if sg (38 + 2 * t) 1 = -1 then some (-10 - 1, w2 sg 0 10 1) else if sg (38 + 2 * s) 1 = sg (38 + 2 * t) 1 then (if 0 ≤ i.toInt ∧ 0 ≤ n.toInt ∧ i.toInt + n.toInt ≤ (sg (38 + 2 * s) 2).toInt then (if 0 ≤ j.toInt ∧ 0 ≤ n.toInt ∧ j.toInt + n.toInt ≤ (sg (38 + 2 * t) 2).toInt then (if cpok i j n 60 60 = true then some (1, cp2 sg (39 + 2 * s) (39 + 2 * t) i j n) else none) else some (-10 - 2, w2 sg 0 10 2)) else some (-10 - 2, w2 sg 0 10 2)) else some (-10 - 4, w2 sg 0 10 4) := by
    unfold f_Box_copy f_Box_copy_49 f_Box_copy_97
    rw [isSheet_c, Option.bind_some]
    dsimp only
    rw [if_b, if_pos ps, isSheet_c, Option.bind_some]
    dsimp only
    rw [if_b, if_pos pt, if_pos (ib hs (by omega)), if_pos (ib ht (by omega)), nI_clamp (show s < 2 ^ 31 by omega), nI_clamp (show t < 2 ^ 31 by omega), (rt32 hs).1, (rt32 ht).1, (rt32 hs).2, (rt32 ht).2, isLost_c, Option.bind_some]
    dsimp only
    rw [if_b, isLost_c, Option.bind_some]
    dsimp only
    rw [if_b, hasRun_c ⟨u5, u6⟩, Option.bind_some]
    dsimp only
    rw [if_b, hasRun_c ⟨v5, v6⟩, Option.bind_some]
    dsimp only
    rw [if_b, found_c, found_c, found_c, Option.bind_some, Option.bind_some, Option.bind_some, Option.bind_some]
  refine ⟨fun q => ?_, fun q => ⟨fun q2 => ?_, fun q2 => ⟨fun q3 => ?_, fun q3 => ?_⟩⟩⟩
  · rw [top]
    by_cases z : sg (38 + 2 * s) 1 = -1
    · rw [if_pos z]
    · rw [if_neg z, if_pos (q.resolve_left z)]
  · rw [top, if_neg (fun z => q (Or.inl z)), if_neg (fun z => q (Or.inr z)), if_neg q2]
  · rw [top, if_neg (fun z => q (Or.inl z)), if_neg (fun z => q (Or.inr z)), if_pos q2]
    by_cases z : 0 ≤ i.toInt ∧ 0 ≤ n.toInt ∧ i.toInt + n.toInt ≤ (sg (38 + 2 * s) 2).toInt
    · rw [if_pos z, if_neg (fun y => q3 ⟨z, y⟩)]
    · rw [if_neg z]
  · rw [top, if_neg (fun z => q (Or.inl z)), if_neg (fun z => q (Or.inr z)), if_pos q2, if_pos q3.1, if_pos q3.2, if_pos]
    unfold okC at q3
    unfold cpok
    simp only [Bool.and_eq_true, decide_eq_true_eq]
    omega
theorem i64add (x y : Int32) : (x.toInt64 + y.toInt64).toInt = x.toInt + y.toInt := by
  have r1 := nRng x
  have r2 := nRng y
  rw [Int64.toInt_add, i64T, i64T]
  exact Int.bmod_eq_of_le (by omega) (by omega)
theorem copy_tm {sg B : Hp} (hI : IS sg) (e47 : B 47 = sg 47) (e48 : B 48 = sg 48) {s t : Nat} (hs : s < 4) (ht : t < 4) (i j n : Int32) : (sg (38 + 2 * s) 1 = -1 ∨ sg (38 + 2 * t) 1 = -1 → f_Mod_copy B (nI s) i (nI t) j n = some (-10 - 1, w2 B 46 4 1)) ∧ (¬ (sg (38 + 2 * s) 1 = -1 ∨ sg (38 + 2 * t) 1 = -1) → (sg (38 + 2 * s) 1 ≠ sg (38 + 2 * t) 1 → f_Mod_copy B (nI s) i (nI t) j n = some (-10 - 4, w2 B 46 4 4)) ∧ (sg (38 + 2 * s) 1 = sg (38 + 2 * t) 1 → (¬ okC (sg (38 + 2 * s) 2).toInt (sg (38 + 2 * t) 2).toInt i.toInt j.toInt n.toInt → f_Mod_copy B (nI s) i (nI t) j n = some (-10 - 2, w2 B 46 4 2)) ∧ (okC (sg (38 + 2 * s) 2).toInt (sg (38 + 2 * t) 2).toInt i.toInt j.toInt n.toInt → f_Mod_copy B (nI s) i (nI t) j n = f_Mod_copy_120 LF B (nI s) i (nI t) j n 0))) := by
  have ps : 0 ≤ (nI s).toInt ∧ (nI s).toInt ≤ 3 := by rw [nI_toInt (by omega)]; omega
  have pt : 0 ≤ (nI t).toInt ∧ (nI t).toInt ≤ 3 := by rw [nI_toInt (by omega)]; omega
  obtain ⟨u1, u2, u3, u4, u5, u6, -⟩ := hI s hs
  obtain ⟨v1, v2, v3, v4, v5, v6, -⟩ := hI t ht
  have m1 : (-1 : Int32).toInt = -1 := by decide
  have iss : inb (nI s) 4 = true := ib hs (by omega)
  have itt : inb (nI t) 4 = true := ib ht (by omega)
  have top : f_Mod_copy B (nI s) i (nI t) j n = if B 47 s < 0 then some (-10 - 1, w2 B 46 4 1) else if 0 ≤ B 47 t then (if B 47 s = B 47 t then (if i < 0 then some (-10 - 2, w2 B 46 4 2) else if j < 0 then some (-10 - 2, w2 B 46 4 2) else if n < 0 then some (-10 - 2, w2 B 46 4 2) else if 0 < lg_cmp (i.toInt64 + n.toInt64) (B 48 s).toInt64 then some (-10 - 2, w2 B 46 4 2) else if lg_cmp (j.toInt64 + n.toInt64) (B 48 t).toInt64 ≤ 0 then f_Mod_copy_120 LF B (nI s) i (nI t) j n 0 else some (-10 - 2, w2 B 46 4 2)) else some (-10 - 4, w2 B 46 4 4)) else some (-10 - 1, w2 B 46 4 1) := by
    unfold f_Mod_copy f_Mod_copy_35 f_Mod_copy_111
    rw [isSheet_m, Option.bind_some]
    dsimp only
    rw [if_b, if_pos ps, isSheet_m, Option.bind_some]
    dsimp only
    rw [if_b, if_pos pt, if_pos iss, if_pos itt, if_pos iss, if_pos itt, if_pos iss, if_pos itt, nI_clamp (show s < 2 ^ 31 by omega), nI_clamp (show t < 2 ^ 31 by omega), met_m, met_m, met_m, Option.bind_some, Option.bind_some, Option.bind_some]
  have L1 : B 47 s < 0 ↔ sg (38 + 2 * s) 1 = -1 := by
    rw [e47, u1, nLt, z32, nEq, m1]
    omega
  have L2 : 0 ≤ B 47 t ↔ ¬ sg (38 + 2 * t) 1 = -1 := by
    rw [e47, v1, nLe, z32, nEq, m1]
    omega
  have L3 : B 47 s = B 47 t ↔ sg (38 + 2 * s) 1 = sg (38 + 2 * t) 1 := by rw [e47, u1, v1]
  have L4 : 0 < lg_cmp (i.toInt64 + n.toInt64) (B 48 s).toInt64 ↔ (sg (38 + 2 * s) 2).toInt < i.toInt + n.toInt := by
    rw [lc_gt, Int64.lt_iff_toInt_lt, i64T, i64add, e48, u2]
  have L5 : lg_cmp (j.toInt64 + n.toInt64) (B 48 t).toInt64 ≤ 0 ↔ ¬ (sg (38 + 2 * t) 2).toInt < j.toInt + n.toInt := by
    have : 0 < lg_cmp (j.toInt64 + n.toInt64) (B 48 t).toInt64 ↔ (sg (38 + 2 * t) 2).toInt < j.toInt + n.toInt := by
      rw [lc_gt, Int64.lt_iff_toInt_lt, i64T, i64add, e48, v2]
    rw [← this, nLe, nLt]
    omega
  have L6 : i < 0 ↔ i.toInt < 0 := by rw [nLt, z32]
  have L7 : j < 0 ↔ j.toInt < 0 := by rw [nLt, z32]
  have L8 : n < 0 ↔ n.toInt < 0 := by rw [nLt, z32]
  refine ⟨fun q => ?_, fun q => ⟨fun q2 => ?_, fun q2 => ⟨fun q3 => ?_, fun q3 => ?_⟩⟩⟩
  · rw [top]
    by_cases z : sg (38 + 2 * s) 1 = -1
    · rw [if_pos (L1.mpr z)]
    · rw [if_neg (fun y => z (L1.mp y)), if_neg (fun y => L2.mp y (q.resolve_left z))]
  · rw [top, if_neg (fun z => q (Or.inl (L1.mp z))), if_pos (L2.mpr (fun z => q (Or.inr z))), if_neg (fun z => q2 (L3.mp z))]
  · rw [top, if_neg (fun z => q (Or.inl (L1.mp z))), if_pos (L2.mpr (fun z => q (Or.inr z))), if_pos (L3.mpr q2)]
    unfold okC at q3
    by_cases z1 : i < 0
    · rw [if_pos z1]
    · rw [if_neg z1]
      by_cases z2 : j < 0
      · rw [if_pos z2]
      · rw [if_neg z2]
        by_cases z3 : n < 0
        · rw [if_pos z3]
        · rw [if_neg z3]
          by_cases z4 : 0 < lg_cmp (i.toInt64 + n.toInt64) (B 48 s).toInt64
          · rw [if_pos z4]
          · rw [if_neg z4, if_neg]
            rw [L6] at z1
            rw [L7] at z2
            rw [L8] at z3
            rw [L4] at z4
            rw [L5]
            omega
  · unfold okC at q3
    rw [top, if_neg (fun z => q (Or.inl (L1.mp z))), if_pos (L2.mpr (fun z => q (Or.inr z))), if_pos (L3.mpr q2), if_neg (by rw [L6]; omega), if_neg (by rw [L7]; omega), if_neg (by rw [L8]; omega), if_neg (by rw [L4]; omega), if_pos (by rw [L5]; omega)]
theorem copy_157 {t j N : Nat} (ht : t < 4) (hN : j + N ≤ 60) : ∀ (q a m : Nat) (B : Hp), a + q = N → ∃ D, f_Mod_copy_157 (m + q + 1) B (nI t) (nI j) (nI N) (nI a) = some (1, D) ∧ (∀ c, c ≠ 49 → D c = B c) ∧ ∀ k, D 49 k = if 60 * t + j + a ≤ k ∧ k < 60 * t + j + N then B 50 (k - (60 * t + j)) else B 49 k := by
  intro q
  induction q with
  | zero =>
    intro a m B h
    rw [f_Mod_copy_157, if_pos (nI_le (by omega) (by omega))]
    exact ⟨B, rfl, fun _ _ => rfl, fun k => by rw [if_neg (by omega)]⟩
  | succ q ih =>
    intro a m B h
    have e0 : (60 : Int32) * nI t + nI j + nI a = nI (60 * t + j + a) := by rw [show (60 : Int32) = nI 60 from rfl, nI_mul, nI_add, nI_add]
    rw [show m + (q + 1) + 1 = (m + q + 1) + 1 by omega, f_Mod_copy_157, if_neg (nI_ge (by omega) (by omega)), e0, if_pos (ib (show a < 60 by omega) (by omega)), if_pos (ib (by omega) (by omega)), Option.bind_some, nI_1 a, nI_clamp (show a < 2 ^ 31 by omega), nI_clamp (show 60 * t + j + a < 2 ^ 31 by omega)]
    obtain ⟨D, f1, f2, f3⟩ := ih (a + 1) m (w2 B 49 (60 * t + j + a) (B 50 a)) (by omega)
    refine ⟨D, f1, fun c hc => by rw [f2 c hc, w2_cell _ hc], fun k => ?_⟩
    rw [f3, w2_cell _ (show (50 : Nat) ≠ 49 by omega)]
    by_cases e : k = 60 * t + j + a
    · subst e
      rw [if_neg (by omega), w2_at, if_pos (by omega), show 60 * t + j + a - (60 * t + j) = a by omega]
    · rw [w2_ne (by omega)]
      by_cases z : 60 * t + j + (a + 1) ≤ k ∧ k < 60 * t + j + N
      · rw [if_pos z, if_pos (by omega)]
      · rw [if_neg z, if_neg (by omega)]
theorem copy_120 {s i N : Nat} (hs : s < 4) (hN : i + N ≤ 60) (x3 x4 : Int32) : ∀ (q a m : Nat) (B : Hp), a + q = N → ∃ D, f_Mod_copy_120 (m + q + 1) B (nI s) (nI i) x3 x4 (nI N) (nI a) = f_Mod_copy_157 LF D x3 x4 (nI N) 0 ∧ (∀ c, c ≠ 50 → D c = B c) ∧ ∀ k, D 50 k = if a ≤ k ∧ k < N then B 49 (60 * s + i + k) else B 50 k := by
  intro q
  induction q with
  | zero =>
    intro a m B h
    rw [f_Mod_copy_120, if_pos (nI_le (by omega) (by omega))]
    exact ⟨B, rfl, fun _ _ => rfl, fun k => by rw [if_neg (by omega)]⟩
  | succ q ih =>
    intro a m B h
    have e0 : (60 : Int32) * nI s + nI i + nI a = nI (60 * s + i + a) := by rw [show (60 : Int32) = nI 60 from rfl, nI_mul, nI_add, nI_add]
    rw [show m + (q + 1) + 1 = (m + q + 1) + 1 by omega, f_Mod_copy_120, if_neg (nI_ge (by omega) (by omega)), e0, if_pos (ib (by omega) (by omega)), if_pos (ib (show a < 60 by omega) (by omega)), Option.bind_some, nI_1 a, nI_clamp (show a < 2 ^ 31 by omega), nI_clamp (show 60 * s + i + a < 2 ^ 31 by omega)]
    obtain ⟨D, f1, f2, f3⟩ := ih (a + 1) m (w2 B 50 a (B 49 (60 * s + i + a))) (by omega)
    refine ⟨D, f1, fun c hc => by rw [f2 c hc, w2_cell _ hc], fun k => ?_⟩
    rw [f3, w2_cell _ (show (49 : Nat) ≠ 50 by omega)]
    by_cases e : k = a
    · subst e
      rw [if_neg (by omega), w2_at, if_pos (by omega)]
    · rw [w2_ne (by omega)]
      by_cases z : a + 1 ≤ k ∧ k < N
      · rw [if_pos z, if_pos (by omega)]
      · rw [if_neg z, if_neg (by omega)]
theorem k_copy : K_copy := by
  intro n sg h hn a1 a2 a3 a4 a5
  have hIS := h.2.2.1
  show PairI (fun s => f_Box_copy s a1 a2 a3 a4 a5) (fun s => f_Mod_copy s a1 a2 a3 a4 a5) n sg
  by_cases hc1 : 0 ≤ a1.toInt ∧ a1.toInt ≤ 3
  · by_cases hc3 : 0 ≤ a3.toInt ∧ a3.toInt ≤ 3
    · obtain ⟨s, hs3, rfl⟩ := nI_ex (n := 3) hc1 (by omega)
      obtain ⟨t, ht3, rfl⟩ := nI_ex (n := 3) hc3 (by omega)
      have hs : s < 4 := by omega
      have ht : t < 4 := by omega
      obtain ⟨c1, c2⟩ := copy_tc hIS hs ht a2 a4 a5
      have fin : ∀ v : Int32, f_Box_copy sg (nI s) a2 (nI t) a4 a5 = some (-10 - v, w2 sg 0 10 v) → f_Mod_copy (w2 sg 0 10 v) (nI s) a2 (nI t) a4 a5 = some (-10 - v, w2 (w2 sg 0 10 v) 46 4 v) → PairI (fun x => f_Box_copy x (nI s) a2 (nI t) a4 a5) (fun x => f_Mod_copy x (nI s) a2 (nI t) a4 a5) n sg := fun v e1 e2 => ⟨_, _, _, e1, e2, h.finding v⟩
      have cm : ∀ v : Int32, _ := fun v => copy_tm (B := w2 sg 0 10 v) hIS (w2_cell _ (by omega)) (w2_cell _ (by omega)) hs ht a2 a4 a5
      by_cases q1 : sg (38 + 2 * s) 1 = -1 ∨ sg (38 + 2 * t) 1 = -1
      · exact fin 1 (c1 q1) ((cm 1).1 q1)
      · by_cases q2 : sg (38 + 2 * s) 1 = sg (38 + 2 * t) 1
        · by_cases q3 : okC (sg (38 + 2 * s) 2).toInt (sg (38 + 2 * t) 2).toInt a2.toInt a4.toInt a5.toInt
          · have e1 := ((c2 q1).2 q2).2 q3
            obtain ⟨u1, u2, u3, u4, u5, u6, u7⟩ := hIS s hs
            obtain ⟨v1, v2, v3, v4, v5, v6, v7⟩ := hIS t ht
            unfold okC at q3
            obtain ⟨i, hi, rfl⟩ := nI_ex (x := a2) (n := 60) (by omega) (by omega)
            obtain ⟨j, hj, rfl⟩ := nI_ex (x := a4) (n := 60) (by omega) (by omega)
            obtain ⟨N, hN, rfl⟩ := nI_ex (x := a5) (n := 60) (by omega) (by omega)
            rw [nI_toInt (by omega), nI_toInt (by omega), nI_toInt (by omega)] at q3
            generalize hB : cp2 sg (39 + 2 * s) (39 + 2 * t) (nI i) (nI j) (nI N) = B at e1
            have cB : ∀ c, c ≠ 39 + 2 * t → B c = sg c := fun c hc => by
              rw [← hB]
              unfold cp2
              simp [va_up, hc]
            have vB : ∀ k, B (39 + 2 * t) k = if j ≤ k ∧ k < j + N then sg (39 + 2 * s) (i + (k - j)) else sg (39 + 2 * t) k := fun k => by
              rw [← hB]
              unfold cp2
              simp only [va_up, va_cpy, nI_clamp (show i < 2 ^ 31 by omega), nI_clamp (show j < 2 ^ 31 by omega), nI_clamp (show N < 2 ^ 31 by omega), if_true]
            obtain ⟨-, d2⟩ := copy_tm (B := B) hIS (cB 47 (by omega)) (cB 48 (by omega)) hs ht (nI i) (nI j) (nI N)
            have e2 := ((d2 q1).2 q2).2 (by
              unfold okC
              rw [nI_toInt (by omega), nI_toInt (by omega), nI_toInt (by omega)]
              exact q3)
            obtain ⟨m, hm⟩ := LFx N (by omega)
            obtain ⟨D1, f1, f2, f3⟩ := copy_120 (s := s) (i := i) (N := N) hs (by omega) (nI t) (nI j) N 0 m B (by omega)
            obtain ⟨D, g1, g2, g3⟩ := copy_157 (t := t) (j := j) (N := N) ht (by omega) N 0 m D1 (by omega)
            rw [nI_0, ← hm] at f1 g1
            rw [f1, g1] at e2
            have cD : ∀ c, c ≠ 39 + 2 * t → c ≠ 49 → c ≠ 50 → D c = sg c := fun c h1 h2 h3 => by rw [g2 c h2, f2 c h3, cB c h1]
            refine ⟨1, B, D, e1, e2, h.sheets ?_ ?_ ?_ ?_⟩
            · intro u hu
              obtain ⟨y1, y2, y3, y4, y5, y6, y7⟩ := hIS u hu
              rw [cD (38 + 2 * u) (by omega) (by omega) (by omega), cD 47 (by omega) (by omega) (by omega), cD 48 (by omega) (by omega) (by omega)]
              refine ⟨y1, y2, y3, y4, y5, y6, fun k hk => ?_⟩
              have hk60 : k < 60 := by omega
              rw [g3, f2 49 (by omega), cB 49 (by omega), g2 (39 + 2 * u) (by omega), f2 (39 + 2 * u) (by omega)]
              by_cases e : u = t
              · subst e
                rw [vB]
                by_cases z : j ≤ k ∧ k < j + N
                · rw [if_pos (by omega), if_pos z, f3, if_pos (by omega), cB 49 (by omega), show 60 * s + i + (60 * u + k - (60 * u + j)) = 60 * s + (i + (k - j)) by omega]
                  exact u7 _ (by omega)
                · rw [if_neg (by omega), if_neg z]
                  exact y7 k hk
              · rw [if_neg (by omega), cB (39 + 2 * u) (by omega)]
                exact y7 k hk
            · exact h.2.2.2.1.of (by rw [cD 0 (by omega) (by omega) (by omega)]) (by rw [cD 46 (by omega) (by omega) (by omega)])
            · intro c hc
              simp only [List.mem_cons, List.not_mem_nil, or_false, not_or] at hc
              exact cD c (by omega) (by omega) (by omega)
            · rw [cD 46 (by omega) (by omega) (by omega)]
          · exact fin 2 (((c2 q1).2 q2).1 q3) ((((cm 2).2 q1).2 q2).1 q3)
        · exact fin 4 ((c2 q1).1 q2) (((cm 4).2 q1).1 q2)
    · refine ⟨-2, sg, sg, ?_, ?_, h.same⟩
      · show f_Box_copy sg a1 a2 a3 a4 a5 = _
        unfold f_Box_copy
        rw [isSheet_c, Option.bind_some]
        dsimp only
        rw [if_b, if_pos hc1, isSheet_c, Option.bind_some]
        dsimp only
        rw [if_b, if_neg hc3]
      · show f_Mod_copy sg a1 a2 a3 a4 a5 = _
        unfold f_Mod_copy
        rw [isSheet_m, Option.bind_some]
        dsimp only
        rw [if_b, if_pos hc1, isSheet_m, Option.bind_some]
        dsimp only
        rw [if_b, if_neg hc3]
  · refine ⟨-2, sg, sg, ?_, ?_, h.same⟩
    · show f_Box_copy sg a1 a2 a3 a4 a5 = _
      unfold f_Box_copy
      rw [isSheet_c, Option.bind_some]
      dsimp only
      rw [if_b, if_neg hc1]
    · show f_Mod_copy sg a1 a2 a3 a4 a5 = _
      unfold f_Mod_copy
      rw [isSheet_m, Option.bind_some]
      dsimp only
      rw [if_b, if_neg hc1]
