/-! THE REFERENCE BEGINS ON A WALL; IS A WALL NEW -/
theorem stand_cp (k60 : Hp → Int32 → Int32 → Int32 → Option Hp) (x2 x3 x4 : Int32) : ∀ (k j m : Nat) (sg : Hp), j + k = 14 → ∃ T, f_Mod_standsOn_75 k60 (m + k + 1) sg x2 x3 x4 (nI j) = k60 T x2 x3 (x4 + 1) ∧ (∀ c, c ≠ 55 → T c = sg c) ∧ ∀ i, T 55 i = if j ≤ i ∧ i < 14 then sg 55 (14 + i) else sg 55 i := by
  intro k
  induction k with
  | zero =>
    intro j m sg h
    rw [f_Mod_standsOn_75, show (14 : Int32) = nI 14 from rfl, if_pos (nI_le (by omega) (by omega))]
    exact ⟨sg, rfl, fun _ _ => rfl, fun i => by rw [if_neg (by omega)]⟩
  | succ k ih =>
    intro j m sg h
    rw [show m + (k + 1) + 1 = (m + k + 1) + 1 by omega, f_Mod_standsOn_75, show (14 : Int32) = nI 14 from rfl, if_neg (nI_ge (by omega) (by omega)), nI_add, if_pos (ib (by omega) (by omega)), if_pos (ib (by omega) (by omega)), Option.bind_some, nI_clamp (by omega), nI_clamp (by omega), nI_1]
    obtain ⟨T, g1, g2, g3⟩ := ih (j + 1) m (w2 sg 55 j (sg 55 (14 + j))) (by omega)
    refine ⟨T, g1, fun c hc => by rw [g2 c hc, w2_cell _ hc], fun i => ?_⟩
    rw [g3 i]
    by_cases e : i = j
    · rw [if_neg (by omega), if_pos (by omega), e, w2_at]
    · by_cases h2 : j ≤ i ∧ i < 14
      · rw [if_pos h2, if_pos (by omega), w2_ne (by omega)]
      · rw [if_neg h2, if_neg (by omega), w2_ne (by omega)]
/-- one roll at level 0, and back to level 0 -/
theorem stand_1 {S : Nat → Int} (hS : SB S) {sg : Hp} (hM : SM S sg) {P : Pose} {kk w t q : Nat} (hkk : kk < 100) (hP : WP P) (hB : BP kk P) (h : MS S sg 0 P) (hw : w < 6) (h2 : w / 2 ≠ P.1 / 2) (hq : q < t) (ht : t < 100) (m : Nat) : ∃ T, f_Mod_standsOn_60 (m + 1) sg (nI (rolN P w - 1)) (nI t) (nI q) = f_Mod_standsOn_60 m T (nI (rolN P w - 1)) (nI t) (nI (q + 1)) ∧ MS S T 0 (prl S P w) ∧ ∀ c, c ≠ 55 → c ≠ 56 → T c = sg c := by
  obtain ⟨T1, a1, a2, a3, a4, a5, a6⟩ := turns_m hS hM (l := 0) (by omega) hkk hP hB h hw h2
  obtain ⟨n, hn⟩ := LFx 14 (by omega)
  obtain ⟨T2, b1, b2, b3⟩ := stand_cp (f_Mod_standsOn_60 m) (nI (rolN P w - 1)) (nI t) (nI q) 14 0 n T1 (by omega)
  rw [nI_0, ← hn] at b1
  rw [nI_0] at a1
  refine ⟨T2, ?_, ?_, fun c c1 c2 => by rw [b2 c c1, a4 c c1 c2]⟩
  · rw [f_Mod_standsOn_60, if_neg (nI_ge (by omega) (by omega)), a1, Option.bind_some, b1, nI_1]
  · obtain ⟨m1, m2, m3⟩ := a2
    refine ⟨fun k hk => ?_, ?_, ?_⟩
    · obtain ⟨c1, c2, c3, c4⟩ := m1 k hk
      rw [b3, b3, b3, b3, if_pos (by omega), if_pos (by omega), if_pos (by omega), if_pos (by omega)]
      rw [show 14 + (14 * 0 + k) = 14 * (0 + 1) + k by omega, show 14 + (14 * 0 + 3 + k) = 14 * (0 + 1) + 3 + k by omega, show 14 + (14 * 0 + 6 + k) = 14 * (0 + 1) + 6 + k by omega, show 14 + (14 * 0 + 9 + k) = 14 * (0 + 1) + 9 + k by omega]
      exact ⟨c1, c2, c3, c4⟩
    · rw [b3, if_pos (by omega)]
      exact m2
    · rw [b3, if_pos (by omega)]
      exact m3
theorem SM.of {S : Nat → Int} {sg sg' : Hp} (h : SM S sg) (e : sg' 51 = sg 51) : SM S sg' := by
  unfold SM at *
  rw [e]
  exact h
theorem stand_e (m : Nat) (T : Hp) (x : Int32) (t : Nat) (ht : t < 100) : f_Mod_standsOn_60 (m + 1) T x (nI t) (nI t) = some T := by
  rw [f_Mod_standsOn_60, if_pos (nI_le (by omega) (by omega))]
theorem standsOn_m {S : Nat → Int} (hS : SB S) {sg : Hp} (hM : SM S sg) {w : Nat} (hw : w < 6) : ∃ T, f_Mod_standsOn sg (nI w) = some T ∧ MS S T 0 (rst S w) ∧ ∀ c, c ≠ 55 → c ≠ 56 → T c = sg c := by
  unfold f_Mod_standsOn
  obtain ⟨T0, g1, g2, g3, -⟩ := begins_m S sg
  rw [g1, Option.bind_some]
  have hM0 : SM S T0 := hM.of (g3 51 (by omega))
  have hP := pst_wp 0 (by omega)
  have hB := pst_bp 0 0
  obtain ⟨m, hm⟩ := LFx 2 (by omega)
  have one : ∀ u, u < 6 → u / 2 ≠ 0 → ∃ T, f_Mod_standsOn_56 T0 (nI (rolN (pst 0) u - 1)) (1 : Int32) = some T ∧ MS S T 0 (prl S (pst 0) u) ∧ ∀ c, c ≠ 55 → c ≠ 56 → T c = sg c := by
    intro u hu h2
    obtain ⟨T, a1, a2, a3⟩ := stand_1 hS hM0 (t := 1) (q := 0) (by omega) hP hB g2 hu h2 (by omega) (by omega) (m + 2)
    refine ⟨T, ?_, a2, fun c c1 c2 => by rw [a3 c c1 c2, g3 c c1]⟩
    unfold f_Mod_standsOn_56
    rw [hm, show (1 : Int32) = nI 1 from rfl, ← nI_0, show m + 2 + 1 = m + 2 + 1 from rfl, a1, show m + 2 = m + 1 + 1 by omega]
    exact stand_e _ _ _ 1 (by omega)
  rcases (by omega : w = 0 ∨ w = 1 ∨ w = 2 ∨ w = 3 ∨ w = 4 ∨ w = 5) with rfl | rfl | rfl | rfl | rfl | rfl
  · rw [if_neg (by decide), if_neg (by decide), if_neg (by decide), if_neg (by decide)]
    unfold f_Mod_standsOn_37 f_Mod_standsOn_56
    rw [if_pos (by decide), hm, ← nI_0]
    exact ⟨T0, stand_e _ _ _ 0 (by omega), g2, fun c c1 c2 => g3 c c1⟩
  · rw [if_neg (by decide), if_pos (by decide)]
    unfold f_Mod_standsOn_14 f_Mod_standsOn_37 f_Mod_standsOn_56
    rw [if_neg (by decide), if_pos (by decide)]
    obtain ⟨T1, a1, a2, a3⟩ := stand_1 hS hM0 (t := 2) (q := 0) (w := 3) (by omega) hP hB g2 (by omega) (by decide) (by omega) (by omega) (m + 2)
    have hP1 : WP (prl S (pst 0) 3) := prl_wp hP (by omega) (by decide)
    obtain ⟨T2, c1, c2, c3⟩ := stand_1 hS (hM0.of (a3 51 (by omega) (by omega))) (t := 2) (q := 1) (w := 1) (kk := 1) (by omega) hP1 (prl_bp hS hP hB) a2 (by omega) (by rw [prl_1]; decide) (by omega) (by omega) (m + 1)
    refine ⟨T2, ?_, c2, fun c d1 d2 => by rw [c3 c d1 d2, a3 c d1 d2, g3 c d1]⟩
    have r0 : nI (rolN (pst 0) 3 - 1) = 0 := by decide
    have r1 : nI (rolN (prl S (pst 0) 3) 1 - 1) = 0 := rfl
    rw [r0, nI_0] at a1
    rw [r1] at c1
    rw [hm, show (2 : Int32) = nI 2 from rfl, a1, show m + 2 = m + 1 + 1 by omega, c1]
    exact stand_e _ _ _ 2 (by omega)
  · rw [if_neg (by decide), if_neg (by decide), if_pos (by decide)]
    unfold f_Mod_standsOn_37
    rw [if_neg (by decide), if_neg (by decide)]
    exact one 2 (by omega) (by omega)
  · rw [if_pos (by decide)]
    unfold f_Mod_standsOn_14 f_Mod_standsOn_37
    rw [if_neg (by decide), if_neg (by decide)]
    exact one 3 (by omega) (by omega)
  · rw [if_neg (by decide), if_neg (by decide), if_neg (by decide), if_neg (by decide)]
    unfold f_Mod_standsOn_37
    rw [if_neg (by decide), if_neg (by decide)]
    exact one 4 (by omega) (by omega)
  · rw [if_neg (by decide), if_neg (by decide), if_neg (by decide), if_pos (by decide)]
    unfold f_Mod_standsOn_37
    rw [if_neg (by decide), if_neg (by decide)]
    exact one 5 (by omega) (by omega)
theorem isNew_l {S : Nat → Int} {sg : Hp} {r : List Nat} {P : Pose} (hl : r.length ≤ 5) (hr : ∀ w ∈ r, w < 6) (hP : WP P) (h : MS S sg r.length P) (h58 : ∀ i, i < r.length → sg 58 i = nI (Wr r i)) : ∀ (k j m : Nat) (ok : Prop), j + k = r.length → f_Mod_isNew_4 (m + k + 1) sg (nI r.length) (bI ok) (nI j) = some (bI (ok ∧ ∀ i, j ≤ i → i < r.length → Wr r i ≠ P.1), sg) := by
  intro k
  induction k with
  | zero =>
    intro j m ok hj
    rw [f_Mod_isNew_4, if_pos (nI_le (by omega) (by omega))]
    have e : bI (ok ∧ ∀ i, j ≤ i → i < r.length → Wr r i ≠ P.1) = bI ok := bI_c ⟨fun q => q.1, fun q => ⟨q, fun i h1 h2 => by omega⟩⟩
    rw [e]
    by_cases q : ok
    · rw [bI_t q, if_pos (Or.inr rfl)]
    · rw [bI_f q, if_pos (Or.inl rfl)]
  | succ k ih =>
    intro j m ok hj
    have a1 := hr _ (Wr_mem (r := r) (i := j) (by omega))
    have st : ∀ ok' : Prop, (ok' ↔ ok ∧ Wr r j ≠ P.1) → f_Mod_isNew_32 (f_Mod_isNew_4 (m + k + 1)) sg (nI r.length) (nI j) (bI ok') = some (bI (ok ∧ ∀ i, j ≤ i → i < r.length → Wr r i ≠ P.1), sg) := by
      intro ok' ho
      unfold f_Mod_isNew_32
      rw [nI_1, ih (j + 1) m ok' (by omega)]
      rw [bI_c]
      rw [ho]
      constructor
      · rintro ⟨⟨a, b⟩, c⟩
        refine ⟨a, fun i h1 h2 => ?_⟩
        by_cases e : i = j
        · rw [e]; exact b
        · exact c i (by omega) h2
      · rintro ⟨a, b⟩
        exact ⟨⟨a, b j (by omega) (by omega)⟩, fun i h1 h2 => b i (by omega) h2⟩
    have st0 : ¬ (ok ∧ Wr r j ≠ P.1) → f_Mod_isNew_31 (f_Mod_isNew_4 (m + k + 1)) sg (nI r.length) (nI j) = some (bI (ok ∧ ∀ i, j ≤ i → i < r.length → Wr r i ≠ P.1), sg) := by
      intro hn
      unfold f_Mod_isNew_31
      have := st False ⟨fun q => q.elim, fun q => hn q⟩
      rw [bI_f id] at this
      exact this
    rw [show m + (k + 1) + 1 = (m + k + 1) + 1 by omega, f_Mod_isNew_4, if_neg (nI_ge (by omega) (by omega))]
    by_cases q : ok
    · rw [bI_t q, if_neg (by decide), if_pos (ib (by omega) (by omega)), faceAt_m (by omega) hP h, Option.bind_some]
      simp only []
      rw [nI_clamp (by omega), h58 _ (by omega)]
      have p1 := hP.1
      by_cases e : Wr r j = P.1
      · rw [if_pos (by rw [e])]
        exact st0 (fun z => z.2 e)
      · rw [if_neg (by rw [nI_eq (by omega) (by omega)]; exact e)]
        have := st True ⟨fun _ => ⟨q, e⟩, fun _ => trivial⟩
        rw [bI_t trivial] at this
        exact this
    · rw [bI_f q, if_pos rfl]
      exact st0 (fun z => q z.1)
theorem isNew_m {S : Nat → Int} {sg : Hp} {r : List Nat} {P : Pose} (hl : r.length ≤ 5) (hr : ∀ w ∈ r, w < 6) (hP : WP P) (h : MS S sg r.length P) (h58 : ∀ i, i < r.length → sg 58 i = nI (Wr r i)) : f_Mod_isNew sg (nI r.length) = some (bI (P.1 ∉ r), sg) := by
  unfold f_Mod_isNew
  obtain ⟨m, hm⟩ := LFx r.length (by omega)
  have := isNew_l hl hr hP h h58 r.length 0 m True (by omega)
  rw [nI_0, ← hm, bI_t trivial] at this
  rw [this, bI_c]
  rw [mem_W]
  constructor
  · rintro ⟨-, a⟩ ⟨i, hi, e⟩
    exact a i (by omega) hi e
  · intro a
    exact ⟨trivial, fun i _ hi e => a ⟨i, hi, e⟩⟩
