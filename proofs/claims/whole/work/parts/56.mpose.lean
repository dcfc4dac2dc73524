/-! THE REFERENCE'S STAND: three directions, a corner, a place on the plane -/
def axN (w : Nat) : Nat := (w / 2 + 2) % 3
def dirN (w k : Nat) : Int := if k = axN w then (if w % 2 = 1 then 1 else -1) else 0
def cwN (S : Nat → Int) (w : Nat) : Int := if w % 2 = 1 then S (w / 2) else 0
def corN (S : Nat → Int) (P : Pose) (k : Nat) : Int := if k = axN P.1 then cwN S P.1 else if k = axN P.2.1 then cwN S (ow P.2.1) else cwN S (ow P.2.2.1)
def SM (S : Nat → Int) (sg : Hp) : Prop := (sg 51 0).toInt = S 1 ∧ (sg 51 1).toInt = S 2 ∧ (sg 51 2).toInt = S 0
def MS (S : Nat → Int) (sg : Hp) (l : Nat) (P : Pose) : Prop := (∀ k, k < 3 → (sg 55 (14 * l + k)).toInt = dirN P.2.1 k ∧ (sg 55 (14 * l + 3 + k)).toInt = dirN P.2.2.1 k ∧ (sg 55 (14 * l + 6 + k)).toInt = dirN (ow P.1) k ∧ (sg 55 (14 * l + 9 + k)).toInt = corN S P k) ∧ (sg 55 (14 * l + 12)).toInt = P.2.2.2.1 ∧ (sg 55 (14 * l + 13)).toInt = P.2.2.2.2
theorem MS.of {S : Nat → Int} {sg sg' : Hp} {l : Nat} {P : Pose} (h : MS S sg l P) (e : ∀ i, 14 * l ≤ i → i < 14 * l + 14 → sg' 55 i = sg 55 i) : MS S sg' l P := by
  obtain ⟨h1, h2, h3⟩ := h
  refine ⟨fun k hk => ?_, by rw [e _ (by omega) (by omega)]; exact h2, by rw [e _ (by omega) (by omega)]; exact h3⟩
  rw [e _ (by omega) (by omega), e _ (by omega) (by omega), e _ (by omega) (by omega), e _ (by omega) (by omega)]
  exact h1 k hk
theorem axN_ow (w : Nat) : axN (ow w) = axN w := by unfold axN; rw [ow_half]
theorem axN_lt (w : Nat) : axN w < 3 := by unfold axN; omega
theorem axN_eq {u v : Nat} (hu : u < 6) (hv : v < 6) : axN u = axN v ↔ u / 2 = v / 2 := by unfold axN; omega
theorem dirN_ow (w k : Nat) : dirN (ow w) k = - dirN w k := by
  unfold dirN
  rw [axN_ow]
  have : ow w % 2 = 1 - w % 2 := by unfold ow; split <;> omega
  rw [this]
  repeat' split
  all_goals omega
theorem dirN_b (w k : Nat) : dirN w k = -1 ∨ dirN w k = 0 ∨ dirN w k = 1 := by
  unfold dirN
  repeat' split
  all_goals simp
theorem cwN_b {S : Nat → Int} (hS : SB S) {w : Nat} (hw : w < 6) : 0 ≤ cwN S w ∧ cwN S w ≤ 30 := by
  have := hS (w / 2) (by omega)
  unfold cwN
  split <;> omega
theorem corN_b {S : Nat → Int} (hS : SB S) {P : Pose} (hP : WP P) (k : Nat) : 0 ≤ corN S P k ∧ corN S P k ≤ 30 := by
  unfold corN
  repeat' split
  · exact cwN_b hS hP.1
  · exact cwN_b hS (ow_lt hP.2.1)
  · exact cwN_b hS (ow_lt hP.2.2.1)
theorem cwN_ow (S : Nat → Int) (w : Nat) : cwN S w = cwN S (ow w) + S (w / 2) * dirN w (axN w) := by
  unfold cwN dirN
  rw [if_pos rfl, ow_half]
  have : ow w % 2 = 1 - w % 2 := by unfold ow; split <;> omega
  rw [this]
  rcases (by omega : w % 2 = 0 ∨ w % 2 = 1) with h | h <;> rw [h] <;> simp
  omega
theorem dirN_0 {w k : Nat} (h : k ≠ axN w) : dirN w k = 0 := by unfold dirN; rw [if_neg h]
theorem prl_e {S : Nat → Int} {P : Pose} {w : Nat} (q : w = P.2.1) : prl S P w = (w, ow P.1, P.2.2.1, P.2.2.2.1 + S (P.2.1 / 2), P.2.2.2.2) := by unfold prl; rw [if_pos q]
theorem prl_w {S : Nat → Int} {P : Pose} {w : Nat} (q1 : ¬ w = P.2.1) (q : w = ow P.2.1) : prl S P w = (w, P.1, P.2.2.1, P.2.2.2.1 - S (P.1 / 2), P.2.2.2.2) := by unfold prl; rw [if_neg q1, if_pos q]
theorem prl_n {S : Nat → Int} {P : Pose} {w : Nat} (q1 : ¬ w = P.2.1) (q2 : ¬ w = ow P.2.1) (q : w = P.2.2.1) : prl S P w = (w, P.2.1, ow P.1, P.2.2.2.1, P.2.2.2.2 + S (P.2.2.1 / 2)) := by unfold prl; rw [if_neg q1, if_neg q2, if_pos q]
theorem prl_s {S : Nat → Int} {P : Pose} {w : Nat} (q1 : ¬ w = P.2.1) (q2 : ¬ w = ow P.2.1) (q : ¬ w = P.2.2.1) : prl S P w = (w, P.2.1, P.1, P.2.2.2.1, P.2.2.2.2 - S (P.1 / 2)) := by unfold prl; rw [if_neg q1, if_neg q2, if_neg q]
/-- the corner after a roll -/
theorem cor_roll {S : Nat → Int} {P : Pose} (hP : WP P) {w : Nat} (hw : w < 6) (h2 : w / 2 ≠ P.1 / 2) {k : Nat} (hk : k < 3) : corN S (prl S P w) k = corN S P k + (if w = P.2.1 then S (P.2.1 / 2) * dirN P.2.1 k else if w = ow P.2.1 then S (P.1 / 2) * dirN (ow P.1) k else if w = P.2.2.1 then S (P.2.2.1 / 2) * dirN P.2.2.1 k else S (P.1 / 2) * dirN (ow P.1) k) := by
  obtain ⟨b, e, n, x, y⟩ := P
  obtain ⟨p1, p3, p4, p5, p6, p7⟩ := hP
  simp only at p1 p3 p4 p5 p6 p7 h2
  have a1 : axN b ≠ axN e := fun q => p5 ((axN_eq p1 p3).mp q)
  have a2 : axN b ≠ axN n := fun q => p6 ((axN_eq p1 p4).mp q)
  have a3 : axN e ≠ axN n := fun q => p7 ((axN_eq p3 p4).mp q)
  have l1 := axN_lt b
  have l2 := axN_lt e
  have l3 := axN_lt n
  have cb := cwN_ow S b
  have ce := cwN_ow S e
  have cn := cwN_ow S n
  have cob := cwN_ow S (ow b)
  rw [ow_ow, ow_half, axN_ow] at cob
  have hk3 : k = axN b ∨ k = axN e ∨ k = axN n := by omega
  by_cases q1 : w = e
  · rw [prl_e (P := (b, e, n, x, y)) q1]
    unfold corN
    dsimp only
    rw [if_pos q1, q1, axN_ow, ow_ow]
    rcases hk3 with rfl | rfl | rfl
    · rw [if_neg a1, if_pos rfl, if_pos rfl, dirN_0 a1, Int.mul_zero, Int.add_zero]
    · rw [if_pos rfl, if_neg (Ne.symm a1), if_pos rfl]; exact ce
    · rw [if_neg (Ne.symm a3), if_neg (Ne.symm a2), if_neg (Ne.symm a2), if_neg (Ne.symm a3), dirN_0 (Ne.symm a3), Int.mul_zero, Int.add_zero]
  · by_cases q2 : w = ow e
    · rw [prl_w (P := (b, e, n, x, y)) q1 q2]
      unfold corN
      dsimp only
      rw [if_neg q1, if_pos q2, q2, axN_ow]
      rcases hk3 with rfl | rfl | rfl
      · rw [if_neg a1, if_pos rfl, if_pos rfl]; exact cob
      · rw [if_pos rfl, if_neg (Ne.symm a1), if_pos rfl, dirN_0 (by rw [axN_ow]; exact Ne.symm a1), Int.mul_zero, Int.add_zero]
      · rw [if_neg (Ne.symm a3), if_neg (Ne.symm a2), if_neg (Ne.symm a2), if_neg (Ne.symm a3), dirN_0 (by rw [axN_ow]; exact Ne.symm a2), Int.mul_zero, Int.add_zero]
    · by_cases q3 : w = n
      · rw [prl_n (P := (b, e, n, x, y)) q1 q2 q3]
        unfold corN
        dsimp only
        rw [if_neg q1, if_neg q2, if_pos q3, q3, ow_ow]
        rcases hk3 with rfl | rfl | rfl
        · rw [if_neg a2, if_neg a1, if_pos rfl, dirN_0 a2, Int.mul_zero, Int.add_zero]
        · rw [if_neg a3, if_pos rfl, if_neg (Ne.symm a1), if_pos rfl, dirN_0 a3, Int.mul_zero, Int.add_zero]
        · rw [if_pos rfl, if_neg (Ne.symm a2), if_neg (Ne.symm a3)]; exact cn
      · have q4 : w = ow n := by
          have o2 := ow_half e
          have o3 := ow_half n
          unfold ow at q2 ⊢
          split at q2 <;> split <;> omega
        rw [prl_s (P := (b, e, n, x, y)) q1 q2 q3]
        unfold corN
        dsimp only
        rw [if_neg q1, if_neg q2, if_neg q3, q4, axN_ow]
        rcases hk3 with rfl | rfl | rfl
        · rw [if_neg a2, if_neg a1, if_pos rfl]; exact cob
        · rw [if_neg a3, if_pos rfl, if_neg (Ne.symm a1), if_pos rfl, dirN_0 (by rw [axN_ow]; exact Ne.symm a1), Int.mul_zero, Int.add_zero]
        · rw [if_pos rfl, if_neg (Ne.symm a2), if_neg (Ne.symm a3), dirN_0 (by rw [axN_ow]; exact Ne.symm a2), Int.mul_zero, Int.add_zero]
theorem ib {i n : Nat} (h : i < n) (hn : n < 100000) : inb (nI i) n = true := by rw [inb_iff, nI_toInt (by omega)]; omega
theorem ixA (l d : Nat) : (14 : Int32) * nI l + nI d = nI (14 * l + d) := by rw [show (14 : Int32) = nI 14 from rfl, nI_mul, nI_add]
theorem t0 {x : Int32} : (x = 0) = (x.toInt = 0) := by rw [nEq]; rfl
theorem far_m {S : Nat → Int} {sg : Hp} (hM : SM S sg) {l d w : Nat} (hl : 14 * l + d + 3 ≤ 560) (hw : w < 6) (h : ∀ k, k < 3 → (sg 55 (14 * l + d + k)).toInt = dirN w k) : ∃ v, f_Mod_far sg (nI l) (nI d) = some (v, sg) ∧ v.toInt = S (w / 2) := by
  unfold f_Mod_far
  have e0 := h 0 (by omega)
  have e1 := h 1 (by omega)
  rw [Nat.add_zero] at e0
  rw [ixA, if_pos (ib (by omega) (by omega)), nI_1, if_pos (ib (by omega) (by omega)), nI_clamp (by omega), nI_clamp (by omega)]
  simp only [t0, e0, e1]
  obtain ⟨m1, m2, m3⟩ := hM
  rcases (by omega : w = 0 ∨ w = 1 ∨ w = 2 ∨ w = 3 ∨ w = 4 ∨ w = 5) with rfl | rfl | rfl | rfl | rfl | rfl <;> simp [dirN, axN, m1, m2, m3]
theorem faceAt_m {S : Nat → Int} {sg : Hp} {l : Nat} {P : Pose} (hl : l < 40) (hP : WP P) (h : MS S sg l P) : f_Mod_faceAt sg (nI l) = some (nI P.1, sg) := by
  obtain ⟨b, e, n, x, y⟩ := P
  have hb : b < 6 := hP.1
  have e0 := (h.1 0 (by omega)).2.2.1
  have e1 := (h.1 1 (by omega)).2.2.1
  have e2 := (h.1 2 (by omega)).2.2.1
  simp only [Nat.add_zero] at e0 e1 e2
  unfold f_Mod_faceAt f_Mod_faceAt_37 f_Mod_faceAt_56
  rw [show (6 : Int32) = nI 6 from rfl, ixA, if_pos (ib (by omega) (by omega)), nI_1, if_pos (ib (by omega) (by omega))]
  rw [show (0 : Int32) = nI 0 from rfl, nI_add, show nI (14 * l + 6) + (2 : Int32) = nI (14 * l + 6 + 2) from by rw [show (2 : Int32) = nI 2 from rfl, nI_add], nI_1]
  rw [if_pos (ib (show 14 * l + 6 + 2 < 560 by omega) (by omega)), if_pos (ib (show 14 * l + 6 + 0 < 560 by omega) (by omega)), if_pos (ib (show 14 * l + 6 + 1 < 560 by omega) (by omega))]
  simp only [nI_clamp (show 14 * l + 6 < 2 ^ 31 by omega), nI_clamp (show 14 * l + 6 + 0 < 2 ^ 31 by omega), nI_clamp (show 14 * l + 6 + 1 < 2 ^ 31 by omega), nI_clamp (show 14 * l + 6 + 2 < 2 ^ 31 by omega), show nI 0 = (0 : Int32) from rfl, Nat.add_zero]
  simp only [nLe, t0, e0, e1, e2]
  rcases (by omega : b = 0 ∨ b = 1 ∨ b = 2 ∨ b = 3 ∨ b = 4 ∨ b = 5) with rfl | rfl | rfl | rfl | rfl | rfl <;> simp [dirN, axN, ow] <;> first | decide | exact ⟨ib (by omega) (by omega), rfl⟩
theorem southWest_m {sg : Hp} {l w : Nat} (hl : l < 40) (hw : w < 2) : f_Mod_southWest sg (nI l) (nI w) = some (sg 55 (14 * l + 12 + w), sg) := by
  unfold f_Mod_southWest
  rw [show (12 : Int32) = nI 12 from rfl, ixA, nI_add, if_pos (ib (by omega) (by omega)), nI_clamp (by omega)]
/-- one direction turned -/
def tw (sg : Hp) (l al ot : Nat) (on : Bool) (reach up : Int32) (k : Nat) : Hp :=
  w2 (w2 (w2 (w2 sg 55 (14 * l + 14 + al + k) (if on then sg 55 (14 * l + 6 + k) else -(sg 55 (14 * l + 6 + k)))) 55 (14 * l + 14 + ot + k) (sg 55 (14 * l + ot + k))) 55 (14 * l + 14 + 6 + k) (if on then -(sg 55 (14 * l + al + k)) else sg 55 (14 * l + al + k))) 55 (14 * l + 14 + 9 + k) (sg 55 (14 * l + 9 + k) + (if on then reach * sg 55 (14 * l + al + k) else up * sg 55 (14 * l + 6 + k)))
def oI (on : Bool) : Int32 := if on then 1 else 0
theorem turns_step {sg : Hp} {l al ot k : Nat} {on : Bool} {reach up : Int32} (hl : l < 39) (ha : (al = 0 ∧ ot = 3) ∨ (al = 3 ∧ ot = 0)) (hk : k < 3) (n : Nat) : f_Mod_turns_63 (n + 1) sg (nI l) (nI (14 * l)) (nI (14 * l + 14)) (nI al) (nI ot) (oI on) reach up (nI k) = f_Mod_turns_63 n (tw sg l al ot on reach up k) (nI l) (nI (14 * l)) (nI (14 * l + 14)) (nI al) (nI ot) (oI on) reach up (nI (k + 1)) := by
  rw [f_Mod_turns_63, if_neg (by rw [show (3 : Int32) = nI 3 from rfl]; exact nI_ge (by omega) (by omega))]
  unfold f_Mod_turns_122 f_Mod_turns_173 f_Mod_turns_216 tw
  rw [show (6 : Int32) = nI 6 from rfl, show (9 : Int32) = nI 9 from rfl]
  simp only [nI_add, nI_1]
  rw [if_pos (ib (by omega) (by omega)), if_pos (ib (by omega) (by omega))]
  have c1 := nI_clamp (show 14 * l + al + k < 2 ^ 31 by omega)
  have c2 := nI_clamp (show 14 * l + 6 + k < 2 ^ 31 by omega)
  have c3 := nI_clamp (show 14 * l + 14 + al + k < 2 ^ 31 by omega)
  have c4 := nI_clamp (show 14 * l + ot + k < 2 ^ 31 by omega)
  have c5 := nI_clamp (show 14 * l + 14 + ot + k < 2 ^ 31 by omega)
  have c6 := nI_clamp (show 14 * l + 14 + 6 + k < 2 ^ 31 by omega)
  have c7 := nI_clamp (show 14 * l + 9 + k < 2 ^ 31 by omega)
  have c8 := nI_clamp (show 14 * l + 14 + 9 + k < 2 ^ 31 by omega)
  have i3 : inb (nI (14 * l + 14 + al + k)) 560 = true := ib (by omega) (by omega)
  have i4 : inb (nI (14 * l + ot + k)) 560 = true := ib (by omega) (by omega)
  have i5 : inb (nI (14 * l + 14 + ot + k)) 560 = true := ib (by omega) (by omega)
  have i6 : inb (nI (14 * l + 14 + 6 + k)) 560 = true := ib (by omega) (by omega)
  have i7 : inb (nI (14 * l + 9 + k)) 560 = true := ib (by omega) (by omega)
  have i8 : inb (nI (14 * l + 14 + 9 + k)) 560 = true := ib (by omega) (by omega)
  rw [c1, c2, c3, c4, c5, c6, c7, c8]
  cases on
  · rw [if_pos (show oI false = 0 from rfl), if_pos i3, Option.bind_some, if_pos i4, if_pos i5, Option.bind_some, if_pos (show oI false = 0 from rfl), if_pos i6, Option.bind_some, if_pos i7, if_pos (show oI false = 0 from rfl), if_pos i8, Option.bind_some]
    rw [w2_ne (show ¬ (55 = 55 ∧ 14 * l + ot + k = 14 * l + 14 + al + k) by omega), w2_ne (show ¬ (55 = 55 ∧ 14 * l + 9 + k = 14 * l + 14 + 6 + k) by omega), w2_ne (show ¬ (55 = 55 ∧ 14 * l + 9 + k = 14 * l + 14 + ot + k) by omega), w2_ne (show ¬ (55 = 55 ∧ 14 * l + 9 + k = 14 * l + 14 + al + k) by omega)]
    rfl
  · rw [if_neg (show ¬ oI true = 0 by decide), if_pos i3, Option.bind_some, if_pos i4, if_pos i5, Option.bind_some, if_neg (show ¬ oI true = 0 by decide), if_pos i6, Option.bind_some, if_pos i7, if_neg (show ¬ oI true = 0 by decide), if_pos i8, Option.bind_some]
    rw [w2_ne (show ¬ (55 = 55 ∧ 14 * l + ot + k = 14 * l + 14 + al + k) by omega), w2_ne (show ¬ (55 = 55 ∧ 14 * l + 9 + k = 14 * l + 14 + 6 + k) by omega), w2_ne (show ¬ (55 = 55 ∧ 14 * l + 9 + k = 14 * l + 14 + ot + k) by omega), w2_ne (show ¬ (55 = 55 ∧ 14 * l + 9 + k = 14 * l + 14 + al + k) by omega)]
    rfl
