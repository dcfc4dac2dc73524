theorem dmul {a : Int} {w k : Nat} (h : 0 ≤ a ∧ a ≤ 30) : -30 ≤ a * dirN w k ∧ a * dirN w k ≤ 30 := by
  rcases dirN_b w k with q | q | q <;> rw [q] <;> omega
theorem tDir {x y : Int32} {a : Int} {w k : Nat} (hx : x.toInt = a) (hy : y.toInt = dirN w k) (h : 0 ≤ a ∧ a ≤ 30) : (x * y).toInt = a * dirN w k := by
  have := dmul (w := w) (k := k) h
  rw [tMul (by rw [hx, hy]; omega) (by rw [hx, hy]; omega), hx, hy]
theorem tDneg {y : Int32} {w k : Nat} (hy : y.toInt = dirN w k) : (-y).toInt = dirN (ow w) k := by
  have := dirN_b w k
  rw [tNeg (by omega), hy, dirN_ow]
theorem turns_g {S : Nat → Int} (hS : SB S) {sg : Hp} (hM : SM S sg) {l al ot wy b E O kk : Nat} {on : Bool} {c : Nat → Int} (hl : l < 39) (ha : (al = 0 ∧ ot = 3 ∧ wy = 0) ∨ (al = 3 ∧ ot = 0 ∧ wy = 1)) (hb : b < 6) (hE : E < 6) (hO : O < 6)
    (vE : ∀ k, k < 3 → (sg 55 (14 * l + al + k)).toInt = dirN E k) (vO : ∀ k, k < 3 → (sg 55 (14 * l + ot + k)).toInt = dirN O k) (vU : ∀ k, k < 3 → (sg 55 (14 * l + 6 + k)).toInt = dirN (ow b) k) (vC : ∀ k, k < 3 → (sg 55 (14 * l + 9 + k)).toInt = c k ∧ 0 ≤ c k ∧ c k ≤ 30) (hkk : kk < 100)
    (bx : -(30 * (kk : Int)) ≤ (sg 55 (14 * l + 12 + wy)).toInt ∧ (sg 55 (14 * l + 12 + wy)).toInt ≤ 30 * (kk : Int)) (by' : -(30 * (kk : Int)) ≤ (sg 55 (14 * l + 13 - wy)).toInt ∧ (sg 55 (14 * l + 13 - wy)).toInt ≤ 30 * (kk : Int)) :
    ∃ T, f_Mod_turns_40 sg (nI l) (nI (14 * l)) (nI (14 * l + 14)) (nI al) (nI ot) (oI on) = some T ∧ (∀ c, c ≠ 55 → c ≠ 56 → T c = sg c) ∧ (∀ i, (i < 14 * l + 14 ∨ 14 * l + 28 ≤ i) → T 55 i = sg 55 i) ∧ (∀ i, (i < 4 * l ∨ 4 * l + 4 ≤ i) → T 56 i = sg 56 i) ∧
      (∀ k, k < 3 → (T 55 (14 * l + 14 + al + k)).toInt = dirN (if on then ow b else b) k ∧ (T 55 (14 * l + 14 + ot + k)).toInt = dirN O k ∧ (T 55 (14 * l + 14 + 6 + k)).toInt = dirN (if on then ow E else E) k ∧ (T 55 (14 * l + 14 + 9 + k)).toInt = c k + (if on then S (E / 2) * dirN E k else S (b / 2) * dirN (ow b) k)) ∧
      (T 55 (14 * l + 26 + wy)).toInt = (sg 55 (14 * l + 12 + wy)).toInt + (if on then S (E / 2) else -S (b / 2)) ∧ (T 55 (14 * l + 27 - wy)).toInt = (sg 55 (14 * l + 13 - wy)).toInt ∧ T 56 (4 * l) = nI (1 - wy) ∧ (T 56 (4 * l + 1)).toInt = (sg 55 (14 * l + 12 + wy)).toInt + (if on then S (E / 2) else 0) ∧ (T 56 (4 * l + 2)).toInt = (sg 55 (14 * l + 13 - wy)).toInt ∧ (T 56 (4 * l + 3)).toInt = (sg 55 (14 * l + 13 - wy)).toInt + S (O / 2) := by
  have sE := hS (E / 2) (by omega)
  have sO := hS (O / 2) (by omega)
  have sb := hS (b / 2) (by omega)
  obtain ⟨re, f1, f2⟩ := far_m hM (l := l) (d := al) (by omega) hE vE
  obtain ⟨up, f3, f4⟩ := far_m hM (l := l) (d := 6) (by omega) (ow_lt hb) vU
  rw [ow_half] at f4
  unfold f_Mod_turns_40
  rw [f1, Option.bind_some]
  dsimp only
  rw [show (6 : Int32) = nI 6 from rfl, f3, Option.bind_some]
  dsimp only
  obtain ⟨m, hm⟩ := LFx 3 (by omega)
  obtain ⟨T1, g1, g2, g3, g4⟩ := turns_l (sg := sg) (on := on) (reach := re) (up := up) hl (by omega : (al = 0 ∧ ot = 3) ∨ (al = 3 ∧ ot = 0)) m
  obtain ⟨T, fo, k1, k2, k3, k4, k5, k6, k7, k8, k9, k10, k11⟩ := turns_e (S := S) (T := T1) (on := on) (reach := re) (up := up) (fo := 0) (by
    unfold SM at *
    rw [g2 51 (by omega)]
    exact hM) hl ha hO (fun k hk => by rw [g3 _ (by omega)]; exact vO k hk) m
  rw [hm, ← nI_0, g1, k1]
  have nup : (-up).toInt = -S (b / 2) := by rw [tNeg (by omega), f4]
  refine ⟨T, rfl, fun c h1 h2 => by rw [k2 c h1 h2, g2 c h1], fun i hi => by rw [k3 i (by omega) (by omega), g3 i hi], fun i hi => by rw [k4 i hi, g2 56 (by omega)], fun k hk => ?_, ?_, ?_, k7, ?_, ?_, ?_⟩
  · obtain ⟨q1, q2, q3, q4⟩ := g4 k hk
    have e1 := vE k hk
    have e2 := vU k hk
    obtain ⟨e3, e4, e5⟩ := vC k hk
    rw [k3 _ (by omega) (by omega), k3 _ (by omega) (by omega), k3 _ (by omega) (by omega), k3 _ (by omega) (by omega), q1, q2, q3, q4]
    have d1 := dmul (a := S (E / 2)) (w := E) (k := k) (by omega)
    have d2 := dmul (a := S (b / 2)) (w := ow b) (k := k) (by omega)
    have m1 := tDir f2 e1 (by omega)
    have m2 := tDir f4 e2 (by omega)
    refine ⟨?_, vO k hk, ?_, ?_⟩
    · cases on
      · rw [if_neg (by decide), if_neg (by decide), tDneg e2, ow_ow]
      · rw [if_pos rfl, if_pos rfl]; exact e2
    · cases on
      · rw [if_neg (by decide), if_neg (by decide)]; exact e1
      · rw [if_pos rfl, if_pos rfl, tDneg e1]
    · cases on
      · rw [if_neg (by decide), if_neg (by decide), tAdd (by omega) (by omega), e3, m2]
      · rw [if_pos rfl, if_pos rfl, tAdd (by omega) (by omega), e3, m1]
  · rw [k5, g3 _ (by omega)]
    cases on
    · rw [if_neg (by decide), if_neg (by decide), tAdd (by omega) (by omega), nup]
    · rw [if_pos rfl, if_pos rfl, tAdd (by omega) (by omega), f2]
  · rw [k6, g3 _ (by omega)]
  · rw [k8, g3 _ (by omega)]
    cases on
    · rw [if_neg (by decide), if_neg (by decide), tAdd (by simp; omega) (by simp; omega)]; rfl
    · rw [if_pos rfl, if_pos rfl, tAdd (by omega) (by omega), f2]
  · rw [k9, g3 _ (by omega)]
  · rw [k10, g3 _ (by omega), tAdd (by omega) (by omega), k11]
theorem turns_m {S : Nat → Int} (hS : SB S) {sg : Hp} (hM : SM S sg) {l kk : Nat} {P : Pose} (hl : l < 39) (hkk : kk < 100) (hP : WP P) (hB : BP kk P) (h : MS S sg l P) {w : Nat} (hw : w < 6) (h2 : w / 2 ≠ P.1 / 2) : ∃ T, f_Mod_turns sg (nI l) (nI (rolN P w - 1)) = some T ∧ MS S T (l + 1) (prl S P w) ∧ EG S T l P w ∧ (∀ c, c ≠ 55 → c ≠ 56 → T c = sg c) ∧ (∀ i, (i < 14 * l + 14 ∨ 14 * l + 28 ≤ i) → T 55 i = sg 55 i) ∧ (∀ i, (i < 4 * l ∨ 4 * l + 4 ≤ i) → T 56 i = sg 56 i) := by
  obtain ⟨m1, m2, m3⟩ := h
  obtain ⟨p1, p3, p4, p5, p6, p7⟩ := id hP
  obtain ⟨y1, y2, y3, y4⟩ := id hB
  have vC : ∀ k, k < 3 → (sg 55 (14 * l + 9 + k)).toInt = corN S P k ∧ 0 ≤ corN S P k ∧ corN S P k ≤ 30 := fun k hk => ⟨(m1 k hk).2.2.2, corN_b hS hP k⟩
  have vU : ∀ k, k < 3 → (sg 55 (14 * l + 6 + k)).toInt = dirN (ow P.1) k := fun k hk => (m1 k hk).2.2.1
  have v0 : ∀ k, k < 3 → (sg 55 (14 * l + 0 + k)).toInt = dirN P.2.1 k := fun k hk => (m1 k hk).1
  have v3 : ∀ k, k < 3 → (sg 55 (14 * l + 3 + k)).toInt = dirN P.2.2.1 k := fun k hk => (m1 k hk).2.1
  have cr : ∀ k, k < 3 → _ := fun k hk => cor_roll (S := S) hP hw h2 hk
  have x1 : (14 : Int32) * nI l = nI (14 * l) := by rw [show (14 : Int32) = nI 14 from rfl, nI_mul]
  have x2 : nI (14 * l) + (14 : Int32) = nI (14 * l + 14) := by rw [show (14 : Int32) = nI 14 from rfl, nI_add]
  have hen : ow P.2.1 ≠ P.2.2.1 := fun q => p7 (by rw [← q, ow_half])
  have hen2 : P.2.2.1 ≠ P.2.1 := fun q => p7 (by rw [q])
  have hnn : ow P.2.2.1 ≠ P.2.1 := fun q => p7 (by rw [← q, ow_half])
  unfold f_Mod_turns f_Mod_turns_21
  rw [x1, x2]
  by_cases q1 : w = P.2.1
  · have r1 : rolN P w - 1 = 0 := by unfold rolN; rw [if_pos q1]
    rw [r1, if_neg (show ¬ (2 : Int32) ≤ nI 0 by decide), if_pos (show (nI 0 - nI 0 / (2 : Int32) * (2 : Int32)) = 0 by decide)]
    obtain ⟨T, g1, g2, g3, g4, g5, g6, g7, g8, g9, g10, g11⟩ := turns_g (on := true) (al := 0) (ot := 3) (wy := 0) hS hM hl (by omega) p1 p3 p4 v0 v3 vU vC hkk (by rw [Nat.add_zero, m2]; omega) (by rw [Nat.sub_zero, m3]; omega)
    refine ⟨T, g1, ⟨fun k hk => ?_, ?_, ?_⟩, ⟨?_, ?_, ?_, ?_⟩, g2, g3, g4⟩
    · obtain ⟨z1, z2, z3, z4⟩ := g5 k hk
      have := cr k hk
      rw [if_pos q1] at this
      rw [this, prl_e q1, q1]
      exact ⟨z1, z2, z3, z4⟩
    · rw [prl_e q1]; rw [Nat.add_zero, m2] at g6; exact g6
    · rw [prl_e q1]; rw [Nat.sub_zero, Nat.sub_zero, m3] at g7; exact g7
    · rw [g8, if_pos (Or.inl q1)]; rfl
    · rw [g9, if_pos q1, m2]; rfl
    · rw [g10, if_pos (Or.inl q1)]; exact m3
    · rw [g11, if_pos (Or.inl q1)]; rw [Nat.sub_zero, m3]
  · by_cases q2 : w = ow P.2.1
    · have r1 : rolN P w - 1 = 1 := by unfold rolN; rw [if_neg q1, if_pos q2]
      rw [r1, if_neg (show ¬ (2 : Int32) ≤ nI 1 by decide), if_neg (show ¬ (nI 1 - nI 1 / (2 : Int32) * (2 : Int32)) = 0 by decide)]
      obtain ⟨T, g1, g2, g3, g4, g5, g6, g7, g8, g9, g10, g11⟩ := turns_g (on := false) (al := 0) (ot := 3) (wy := 0) hS hM hl (by omega) p1 p3 p4 v0 v3 vU vC hkk (by rw [Nat.add_zero, m2]; omega) (by rw [Nat.sub_zero, m3]; omega)
      refine ⟨T, g1, ⟨fun k hk => ?_, ?_, ?_⟩, ⟨?_, ?_, ?_, ?_⟩, g2, g3, g4⟩
      · obtain ⟨z1, z2, z3, z4⟩ := g5 k hk
        have := cr k hk
        rw [if_neg q1, if_pos q2] at this
        rw [this, prl_w q1 q2, q2]
        refine ⟨z1, z2, ?_, z4⟩
        dsimp only
        rw [ow_ow]
        exact z3
      · rw [prl_w q1 q2]; rw [Nat.add_zero, m2] at g6; exact g6
      · rw [prl_w q1 q2]; rw [Nat.sub_zero, Nat.sub_zero, m3] at g7; exact g7
      · rw [g8, if_pos (Or.inr q2)]; rfl
      · rw [g9, if_neg q1, if_pos q2, m2]; simp
      · rw [g10, if_pos (Or.inr q2)]; exact m3
      · rw [g11, if_pos (Or.inr q2)]; rw [Nat.sub_zero, m3]
    · have q12 : ¬ (w = P.2.1 ∨ w = ow P.2.1) := fun z => z.elim q1 q2
      by_cases q3 : w = P.2.2.1
      · have r1 : rolN P w - 1 = 2 := by unfold rolN; rw [if_neg q1, if_neg q2, if_pos q3]
        rw [r1, if_pos (show (2 : Int32) ≤ nI 2 by decide), if_pos (show (nI 2 - nI 2 / (2 : Int32) * (2 : Int32)) = 0 by decide)]
        obtain ⟨T, g1, g2, g3, g4, g5, g6, g7, g8, g9, g10, g11⟩ := turns_g (on := true) (al := 3) (ot := 0) (wy := 1) hS hM hl (by omega) p1 p4 p3 v3 v0 vU vC hkk (by rw [m3]; omega) (by rw [show 14 * l + 13 - 1 = 14 * l + 12 by omega, m2]; omega)
        rw [show 14 * l + 27 - 1 = 14 * l + 26 by omega, show 14 * l + 13 - 1 = 14 * l + 12 by omega] at g7
        rw [show 14 * l + 13 - 1 = 14 * l + 12 by omega] at g10 g11
        refine ⟨T, g1, ⟨fun k hk => ?_, ?_, ?_⟩, ⟨?_, ?_, ?_, ?_⟩, g2, g3, g4⟩
        · obtain ⟨z1, z2, z3, z4⟩ := g5 k hk
          have := cr k hk
          rw [if_neg q1, if_neg q2, if_pos q3] at this
          rw [this, prl_n q1 q2 q3, q3]
          exact ⟨z2, z1, z3, z4⟩
        · rw [prl_n q1 q2 q3]; rw [m2] at g7; exact g7
        · rw [prl_n q1 q2 q3]; rw [m3] at g6; exact g6
        · rw [g8, if_neg q12]; rfl
        · rw [g9, if_neg q1, if_neg q2, if_pos q3, m3]; rfl
        · rw [g10, if_neg q12]; exact m2
        · rw [g11, if_neg q12, m2]
      · have q4 : w = ow P.2.2.1 := by
          have o2 := ow_half P.2.1
          have o3 := ow_half P.2.2.1
          unfold ow at q2 ⊢
          split at q2 <;> split <;> omega
        have r1 : rolN P w - 1 = 3 := by unfold rolN; rw [if_neg q1, if_neg q2, if_neg q3]
        rw [r1, if_pos (show (2 : Int32) ≤ nI 3 by decide), if_neg (show ¬ (nI 3 - nI 3 / (2 : Int32) * (2 : Int32)) = 0 by decide)]
        obtain ⟨T, g1, g2, g3, g4, g5, g6, g7, g8, g9, g10, g11⟩ := turns_g (on := false) (al := 3) (ot := 0) (wy := 1) hS hM hl (by omega) p1 p4 p3 v3 v0 vU vC hkk (by rw [m3]; omega) (by rw [show 14 * l + 13 - 1 = 14 * l + 12 by omega, m2]; omega)
        rw [show 14 * l + 27 - 1 = 14 * l + 26 by omega, show 14 * l + 13 - 1 = 14 * l + 12 by omega] at g7
        rw [show 14 * l + 13 - 1 = 14 * l + 12 by omega] at g10 g11
        refine ⟨T, g1, ⟨fun k hk => ?_, ?_, ?_⟩, ⟨?_, ?_, ?_, ?_⟩, g2, g3, g4⟩
        · obtain ⟨z1, z2, z3, z4⟩ := g5 k hk
          have := cr k hk
          rw [if_neg q1, if_neg q2, if_neg q3] at this
          rw [this, prl_s q1 q2 q3, q4]
          refine ⟨z2, z1, ?_, z4⟩
          dsimp only
          rw [ow_ow]
          exact z3
        · rw [prl_s q1 q2 q3]; rw [m2] at g7; exact g7
        · rw [prl_s q1 q2 q3]; rw [m3] at g6; exact g6
        · rw [g8, if_neg q12]; rfl
        · rw [g9, if_neg q1, if_neg q2, if_neg q3, m3]; simp
        · rw [g10, if_neg q12]; exact m2
        · rw [g11, if_neg q12, m2]
