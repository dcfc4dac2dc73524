/-! POSES: arithmetic of walls and poses, and the class's stand -/
theorem nI_mul (a b : Nat) : nI a * nI b = nI (a * b) := (Int32.ofNat_mul a b).symm
theorem ow_lt {w : Nat} (h : w < 6) : ow w < 6 := by unfold ow; split <;> omega
theorem ow_half (w : Nat) : ow w / 2 = w / 2 := by unfold ow; split <;> omega
theorem ow_ow (w : Nat) : ow (ow w) = w := by unfold ow; split <;> split <;> omega
theorem ow_ne (w : Nat) : ow w ≠ w := by unfold ow; split <;> omega
theorem ow_x : ∀ w, w < 6 → nI w ^^^ (1 : Int32) = nI (ow w) := by decide +kernel
/-- a pose whose walls go along three axes -/
def WP (P : Pose) : Prop := P.1 < 6 ∧ P.2.1 < 6 ∧ P.2.2.1 < 6 ∧ P.1 / 2 ≠ P.2.1 / 2 ∧ P.1 / 2 ≠ P.2.2.1 / 2 ∧ P.2.1 / 2 ≠ P.2.2.1 / 2
/-- no farther away than this -/
def BP (k : Nat) (P : Pose) : Prop := -(30 * (k : Int)) ≤ P.2.2.2.1 ∧ P.2.2.2.1 ≤ 30 * (k : Int) ∧ -(30 * (k : Int)) ≤ P.2.2.2.2 ∧ P.2.2.2.2 ≤ 30 * (k : Int)
def SB (S : Nat → Int) : Prop := ∀ a, a < 3 → 1 ≤ S a ∧ S a ≤ 30
/-- the roll (1 .. 4) that brings wall w below -/
def rolN (P : Pose) (w : Nat) : Nat := if w = P.2.1 then 1 else if w = ow P.2.1 then 2 else if w = P.2.2.1 then 3 else 4
theorem prl_1 (S : Nat → Int) (P : Pose) (w : Nat) : (prl S P w).1 = w := by
  unfold prl
  repeat' split
  all_goals rfl
theorem prl_wp {S : Nat → Int} {P : Pose} {w : Nat} (h : WP P) (hw : w < 6) (h2 : w / 2 ≠ P.1 / 2) : WP (prl S P w) := by
  obtain ⟨b, e, n, x, y⟩ := P
  obtain ⟨h1, h3, h4, h5, h6, h7⟩ := h
  simp only at h1 h3 h4 h5 h6 h7 h2
  have o1 := ow_half b
  have o2 := ow_half e
  have o3 := ow_half n
  have l1 := ow_lt h1
  have l2 := ow_lt h3
  have l3 := ow_lt h4
  unfold prl WP
  simp only
  by_cases q1 : w = e
  · rw [if_pos q1]; exact ⟨by dsimp only; omega, by dsimp only; omega, by dsimp only; omega, by dsimp only; omega, by dsimp only; omega, by dsimp only; omega⟩
  · rw [if_neg q1]
    by_cases q2 : w = ow e
    · rw [if_pos q2]; exact ⟨by dsimp only; omega, by dsimp only; omega, by dsimp only; omega, by dsimp only; omega, by dsimp only; omega, by dsimp only; omega⟩
    · rw [if_neg q2]
      by_cases q3 : w = n
      · rw [if_pos q3]; exact ⟨by dsimp only; omega, by dsimp only; omega, by dsimp only; omega, by dsimp only; omega, by dsimp only; omega, by dsimp only; omega⟩
      · rw [if_neg q3]
        have q4 : w = ow n := by
          unfold ow at *
          split at q2 <;> split <;> omega
        exact ⟨by dsimp only; omega, by dsimp only; omega, by dsimp only; omega, by dsimp only; omega, by dsimp only; omega, by dsimp only; omega⟩
theorem prl_bp {S : Nat → Int} (hS : SB S) {P : Pose} {k w : Nat} (h : WP P) (hb : BP k P) : BP (k + 1) (prl S P w) := by
  obtain ⟨b, e, n, x, y⟩ := P
  obtain ⟨h1, h3, h4, h5, h6, h7⟩ := h
  simp only at h1 h3 h4 h5 h6 h7
  have s1 := hS (b / 2) (by omega)
  have s2 := hS (e / 2) (by omega)
  have s3 := hS (n / 2) (by omega)
  unfold BP at *
  simp only at hb
  unfold prl
  simp only
  repeat' split
  all_goals (simp only; omega)
/-- the class's stand in cell c is this pose -/
def CS (S : Nat → Int) (sg : Hp) (c : Nat) (P : Pose) : Prop := sg c 0 = nI P.1 ∧ sg c 1 = nI P.2.1 ∧ sg c 2 = nI P.2.2.1 ∧ (sg c 3).toInt = P.2.2.2.1 ∧ (sg c 4).toInt = P.2.2.2.2 ∧ (sg c 5).toInt = S (P.2.1 / 2) ∧ (sg c 6).toInt = S (P.2.2.1 / 2) ∧ (sg c 7).toInt = S (P.1 / 2)
theorem CS.of {S : Nat → Int} {sg sg' : Hp} {c : Nat} {P : Pose} (h : CS S sg c P) (e : sg' c = sg c) : CS S sg' c P := by
  unfold CS at *
  rw [e]
  exact h
theorem pst_wp : ∀ w, w < 6 → WP (pst w) := by
  intro w hw
  unfold WP pst
  have : w = 0 ∨ w = 1 ∨ w = 2 ∨ w = 3 ∨ w = 4 ∨ w = 5 := by omega
  rcases this with rfl | rfl | rfl | rfl | rfl | rfl <;> simp
theorem pst_bp (w k : Nat) : BP k (pst w) := by
  unfold BP pst
  simp only
  omega
theorem half_i : ∀ w, w < 6 → ((nI w >>> ((1 : Int32) &&& 31) = 1) ↔ w / 2 = 1) ∧ ((nI w >>> ((1 : Int32) &&& 31) = 0) ↔ w / 2 = 0) ∧ nI w >>> ((1 : Int32) &&& 31) = nI (w / 2) := by decide +kernel
/-- the wall below, at 0, 0 -/
theorem start_c {S : Nat → Int} {sg : Hp} {c a w : Nat} (hw : w < 6) (hca : a ≠ c) (hS : ∀ k, k < 3 → (sg a k).toInt = S k) : ∃ sg', f_Stand_start sg c (nI w) a = some sg' ∧ CS S sg' c (pst w) ∧ ∀ d, d ≠ c → sg' d = sg d := by
  unfold f_Stand_start
  rw [Option.bind_some]
  obtain ⟨q1, q0, -⟩ := half_i w hw
  have fin : ∀ (s2 : Hp) (e n : Nat), e < 6 → n < 6 → s2 c 0 = nI w → s2 c 1 = nI e → (∀ d, d ≠ c → s2 d = sg d) → ∃ sg', f_Stand_start_33 s2 c a c (nI n) = some sg' ∧ CS S sg' c (w, e, n, 0, 0) ∧ ∀ d, d ≠ c → sg' d = sg d := by
    intro s2 e n he hn g0 g1 g2
    unfold f_Stand_start_33
    simp only [Option.bind_some, w2_app, hca, false_and, true_and, and_true, and_false, if_false, if_true, Nat.reduceEqDiff, g0, g1, g2 a hca, (half_i w hw).2.2, (half_i e he).2.2, (half_i n hn).2.2]
    rw [if_pos (by rw [inb_iff, nI_toInt (by omega)]; omega), if_pos (by rw [inb_iff, nI_toInt (by omega)]; omega), if_pos (by rw [inb_iff, nI_toInt (by omega)]; omega)]
    refine ⟨_, rfl, ?_, ?_⟩
    · unfold CS
      simp only [w2_app, nI_clamp (show e / 2 < 2 ^ 31 by omega), nI_clamp (show n / 2 < 2 ^ 31 by omega), nI_clamp (show w / 2 < 2 ^ 31 by omega)]
      simp [g0, g1, hS _ (show e / 2 < 3 by omega), hS _ (show n / 2 < 3 by omega), hS _ (show w / 2 < 3 by omega)]
    · intro d hd
      rw [w2_cell _ hd, w2_cell _ hd, w2_cell _ hd, w2_cell _ hd, w2_cell _ hd, w2_cell _ hd]
      exact g2 d hd
  have h18 : ∀ (s1 : Hp) (e : Nat), e < 6 → s1 c 0 = nI w → (∀ d, d ≠ c → s1 d = sg d) → ∃ sg', f_Stand_start_18 s1 c (nI w) a c (nI e) = some sg' ∧ CS S sg' c (w, e, if w / 2 = 0 then 5 else 1, 0, 0) ∧ ∀ d, d ≠ c → sg' d = sg d := by
    intro s1 e he g0 g2
    unfold f_Stand_start_18
    rw [Option.bind_some]
    have k0 : w2 s1 c 1 (nI e) c 0 = nI w := by rw [w2_ne (by omega), g0]
    have k2 : ∀ d, d ≠ c → w2 s1 c 1 (nI e) d = sg d := fun d hd => by rw [w2_cell _ hd, g2 d hd]
    by_cases hh : w / 2 = 0
    · rw [if_pos (q0.mpr hh), if_pos hh]
      exact fin _ e 5 he (by omega) k0 (w2_at _ _ _ _) k2
    · rw [if_neg (fun q => hh (q0.mp q)), if_neg hh]
      exact fin _ e 1 he (by omega) k0 (w2_at _ _ _ _) k2
  unfold pst
  have k0 : w2 sg c 0 (nI w) c 0 = nI w := w2_at _ _ _ _
  have k2 : ∀ d, d ≠ c → w2 sg c 0 (nI w) d = sg d := fun d hd => by rw [w2_cell _ hd]
  by_cases hh : w / 2 = 1
  · rw [if_pos (q1.mpr hh), if_pos hh]
    exact h18 _ 5 (by omega) k0 k2
  · rw [if_neg (fun q => hh (q1.mp q)), if_neg hh]
    exact h18 _ 3 (by omega) k0 k2
theorem roll_c {S : Nat → Int} (hS : SB S) {sg : Hp} {c k : Nat} {P : Pose} (hk : k < 100) (hP : WP P) (hb : BP k P) (h : CS S sg c P) {w : Nat} (hw : w < 6) (h2 : w / 2 ≠ P.1 / 2) : ∃ sg', f_Stand_roll sg c (nI (rolN P w)) = some sg' ∧ CS S sg' c (prl S P w) ∧ ∀ d, d ≠ c → sg' d = sg d := by
  obtain ⟨b, e, n, x, y⟩ := P
  obtain ⟨p1, p3, p4, p5, p6, p7⟩ := hP
  obtain ⟨c0, c1, c2, c3, c4, c5, c6, c7⟩ := h
  simp only at p1 p3 p4 p5 p6 p7 h2 c0 c1 c2 c3 c4 c5 c6 c7
  have s1 := hS (b / 2) (by omega)
  have s2 := hS (e / 2) (by omega)
  have s3 := hS (n / 2) (by omega)
  obtain ⟨b1, b2, b3, b4⟩ := hb
  simp only at b1 b2 b3 b4
  have cc : ∀ k k' : Nat, (c = c ∧ k = k') = (k = k') := fun k k' => by simp
  unfold f_Stand_roll rolN prl CS
  simp only
  by_cases q1 : w = e
  · simp only [if_pos q1, show nI 1 = (1 : Int32) from rfl, if_true, Option.bind_some]
    refine ⟨_, rfl, ?_, fun d hd => by rw [w2_cell _ hd, w2_cell _ hd, w2_cell _ hd, w2_cell _ hd, w2_cell _ hd]⟩
    have ha : (sg c 3 + sg c 5).toInt = x + S (e / 2) := by rw [tAdd (by omega) (by omega), c3, c5]
    simp only [w2_app, cc]
    simp [c0, c1, c2, c3, c4, c5, c6, c7, ow_x b p1, ha, ow_half, q1]
  · simp only [if_neg q1]
    by_cases q2 : w = ow e
    · simp only [if_pos q2, show nI 2 = (2 : Int32) from rfl, show ((2 : Int32) = 1) = False from by simp, if_true, if_false, Option.bind_some]
      refine ⟨_, rfl, ?_, fun d hd => by rw [w2_cell _ hd, w2_cell _ hd, w2_cell _ hd, w2_cell _ hd, w2_cell _ hd]⟩
      have ha : (sg c 3 - sg c 7).toInt = x - S (b / 2) := by rw [tSub (by omega) (by omega), c3, c7]
      simp only [w2_app, cc]
      simp [c0, c1, c2, c3, c4, c5, c6, c7, ow_x e p3, ha, ow_half, q2]
    · simp only [if_neg q2]
      by_cases q3 : w = n
      · simp only [if_pos q3, show nI 3 = (3 : Int32) from rfl, show ((3 : Int32) = 1) = False from by simp, show ((3 : Int32) = 2) = False from by simp, if_true, if_false, Option.bind_some]
        refine ⟨_, rfl, ?_, fun d hd => by rw [w2_cell _ hd, w2_cell _ hd, w2_cell _ hd, w2_cell _ hd, w2_cell _ hd]⟩
        have ha : (sg c 4 + sg c 6).toInt = y + S (n / 2) := by rw [tAdd (by omega) (by omega), c4, c6]
        simp only [w2_app, cc]
        simp [c0, c1, c2, c3, c4, c5, c6, c7, ow_x b p1, ha, ow_half, q3]
      · have q4 : w = ow n := by
          have o2 := ow_half e
          have o3 := ow_half n
          unfold ow at *
          split at q2 <;> split <;> omega
        simp only [if_neg q3, show nI 4 = (4 : Int32) from rfl, show ((4 : Int32) = 1) = False from by simp, show ((4 : Int32) = 2) = False from by simp, show ((4 : Int32) = 3) = False from by simp, if_true, if_false, Option.bind_some]
        refine ⟨_, rfl, ?_, fun d hd => by rw [w2_cell _ hd, w2_cell _ hd, w2_cell _ hd, w2_cell _ hd, w2_cell _ hd]⟩
        have ha : (sg c 4 - sg c 7).toInt = y - S (b / 2) := by rw [tSub (by omega) (by omega), c4, c7]
        simp only [w2_app, cc]
        simp [c0, c1, c2, c3, c4, c5, c6, c7, ow_x n p4, ha, ow_half, q4]
theorem rollTo_c {S : Nat → Int} {sg : Hp} {c : Nat} {P : Pose} (hP : WP P) (h : CS S sg c P) {w : Nat} (hw : w < 6) (h2 : w / 2 ≠ P.1 / 2) : f_Stand_rollTo sg c (nI w) = some (nI (rolN P w), sg) := by
  obtain ⟨b, e, n, x, y⟩ := P
  obtain ⟨p1, p3, p4, p5, p6, p7⟩ := hP
  obtain ⟨c0, c1, c2, -⟩ := h
  simp only at p1 p3 p4 p5 p6 p7 h2 c0 c1 c2
  have l2 := ow_lt p3
  have l3 := ow_lt p4
  unfold f_Stand_rollTo rolN
  simp only
  rw [c1, c2, ow_x e p3, ow_x n p4]
  simp only [nI_eq (show w < 2 ^ 31 by omega) (show e < 2 ^ 31 by omega), nI_eq (show w < 2 ^ 31 by omega) (show ow e < 2 ^ 31 by omega), nI_eq (show w < 2 ^ 31 by omega) (show n < 2 ^ 31 by omega), nI_eq (show w < 2 ^ 31 by omega) (show ow n < 2 ^ 31 by omega)]
  by_cases q1 : w = e
  · simp only [if_pos q1]; rfl
  · simp only [if_neg q1]
    by_cases q2 : w = ow e
    · simp only [if_pos q2]; rfl
    · simp only [if_neg q2]
      by_cases q3 : w = n
      · simp only [if_pos q3]; rfl
      · have q4 : w = ow n := by
          have o2 := ow_half e
          have o3 := ow_half n
          unfold ow at *
          split at q2 <;> split <;> omega
        simp only [if_neg q3, if_pos q4]; rfl
theorem follow_c {S : Nat → Int} (hS : SB S) {sg : Hp} {c a k : Nat} {P : Pose} (hca : c ≠ a) (hk : k < 100) (hP : WP P) (hb : BP k P) (h : CS S sg a P) {w : Nat} (hw : w < 6) (h2 : w / 2 ≠ P.1 / 2) : ∃ sg', f_Stand_follow sg c a (nI (rolN P w)) = some sg' ∧ CS S sg' c (prl S P w) ∧ ∀ d, d ≠ c → sg' d = sg d := by
  unfold f_Stand_follow
  simp only [Option.bind_some]
  have ca : ∀ k k' : Nat, (a = c ∧ k = k') = False := fun k k' => by simp [Ne.symm hca]
  simp only [w2_app, ca, if_false]
  obtain ⟨sg', e1, e2, e3⟩ := roll_c (sg := w2 (w2 (w2 (w2 (w2 (w2 (w2 (w2 sg c 0 (sg a 0)) c 1 (sg a 1)) c 2 (sg a 2)) c 3 (sg a 3)) c 4 (sg a 4)) c 5 (sg a 5)) c 6 (sg a 6)) c 7 (sg a 7)) hS (c := c) hk hP hb (by
    unfold CS at *
    simp only [w2_app]
    simp
    exact h) hw h2
  rw [e1, Option.bind_some]
  exact ⟨sg', rfl, e2, fun d hd => by rw [e3 d hd, w2_cell _ hd, w2_cell _ hd, w2_cell _ hd, w2_cell _ hd, w2_cell _ hd, w2_cell _ hd, w2_cell _ hd, w2_cell _ hd]⟩
/-- six numbers that tell a spot -/
def AW (S A : Nat → Int) : Prop := ∀ w, w < 6 → A w + A (ow w) = S (w / 2) ∧ 0 ≤ A w ∧ A w ≤ 30
theorem planeX_c {S A : Nat → Int} {sg : Hp} {c d k : Nat} {P : Pose} (hk : k < 100) (hP : WP P) (hb : BP k P) (h : CS S sg c P) (hA : AW S A) (hd : ∀ w, w < 6 → (sg (rt d 0) w).toInt = A w) : ∃ v, f_Stand_planeX sg c d = some (v, sg) ∧ v.toInt = imX P A := by
  obtain ⟨b, e, n, x, y⟩ := P
  obtain ⟨p1, p3, p4, p5, p6, p7⟩ := hP
  obtain ⟨c0, c1, c2, c3, -⟩ := h
  obtain ⟨b1, b2, b3, b4⟩ := hb
  simp only at p1 p3 p4 p5 p6 p7 c0 c1 c2 c3 b1 b2 b3 b4
  have l2 := ow_lt p3
  have a1 := hA (ow e) l2
  have d1 := hd (ow e) l2
  unfold f_Stand_planeX imX
  rw [c1, ow_x e p3, if_pos (by rw [inb_iff, nI_toInt (by omega)]; omega), nI_clamp (by omega)]
  exact ⟨_, rfl, by rw [tAdd (by omega) (by omega), c3, d1]⟩
theorem planeY_c {S A : Nat → Int} {sg : Hp} {c d k : Nat} {P : Pose} (hk : k < 100) (hP : WP P) (hb : BP k P) (h : CS S sg c P) (hA : AW S A) (hd : ∀ w, w < 6 → (sg (rt d 0) w).toInt = A w) : ∃ v, f_Stand_planeY sg c d = some (v, sg) ∧ v.toInt = imY P A := by
  obtain ⟨b, e, n, x, y⟩ := P
  obtain ⟨p1, p3, p4, p5, p6, p7⟩ := hP
  obtain ⟨c0, c1, c2, c3, c4, -⟩ := h
  obtain ⟨b1, b2, b3, b4⟩ := hb
  simp only at p1 p3 p4 p5 p6 p7 c0 c1 c2 c3 c4 b1 b2 b3 b4
  have l2 := ow_lt p4
  have a1 := hA (ow n) l2
  have d1 := hd (ow n) l2
  unfold f_Stand_planeY imY
  rw [c2, ow_x n p4, if_pos (by rw [inb_iff, nI_toInt (by omega)]; omega), nI_clamp (by omega)]
  exact ⟨_, rfl, by rw [tAdd (by omega) (by omega), c4, d1]⟩
theorem im_bp {S A : Nat → Int} {k : Nat} {P : Pose} (hP : WP P) (hb : BP k P) (hA : AW S A) : -(30 * (k : Int)) ≤ imX P A ∧ imX P A ≤ 30 * (k : Int) + 30 ∧ -(30 * (k : Int)) ≤ imY P A ∧ imY P A ≤ 30 * (k : Int) + 30 := by
  obtain ⟨b, e, n, x, y⟩ := P
  obtain ⟨p1, p3, p4, p5, p6, p7⟩ := hP
  obtain ⟨b1, b2, b3, b4⟩ := hb
  simp only at p1 p3 p4 p5 p6 p7 b1 b2 b3 b4
  have a1 := hA (ow e) (ow_lt p3)
  have a2 := hA (ow n) (ow_lt p4)
  unfold imX imY
  simp only
  omega
