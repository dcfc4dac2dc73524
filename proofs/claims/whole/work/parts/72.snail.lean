/-! SNAIL -/
def ab (u : Int) : Int := if 0 ≤ u then u else -u
theorem ab_r {u : Int} (h : -9 ≤ u ∧ u ≤ 9) : 0 ≤ ab u ∧ ab u ≤ 9 ∧ (u = 0 → ab u = 0) ∧ (u ≠ 0 → 1 ≤ ab u) := by
  unfold ab
  split <;> omega
def snE (S : Nat → Int) (P : Pose) (r mx : Int) : Int := if 0 < r then 2 * (P.2.2.2.1 + S (P.2.1 / 2)) - mx else mx - 2 * P.2.2.2.1
def snN (S : Nat → Int) (P : Pose) (u my : Int) : Int := if 0 < u then 2 * (P.2.2.2.2 + S (P.2.2.1 / 2)) - my else my - 2 * P.2.2.2.2
def snD (X Y r u : Int) : Nat := if X = Y then 0 else if Y ≤ X then (if u ≤ 0 then 4 else 3) else if r ≤ 0 then 2 else 1
def snK (S : Nat → Int) (P : Pose) (r u mx my : Int) : Nat := snD (snE S P r mx * ab u) (snN S P u my * ab r) r u
def snL (S : Nat → Int) (r u mx my : Int) (wh : Nat) : Nat → Pose → Nat → Int32
  | 0, P, d => if wh = 0 then nI P.1 else nI d
  | k + 1, P, _ => if snK S P r u mx my = 0 then -1 else snL S r u mx my wh k (prl S P (wT (wl P) (snK S P r u mx my - 1))) (snK S P r u mx my)
theorem mpos {E a : Int} (hE : 1 ≤ E) : (a = 0 → E * a = 0) ∧ (1 ≤ a → 1 ≤ E * a) := by
  refine ⟨fun h => by rw [h, Int.mul_zero], fun h => ?_⟩
  have := Int.mul_pos (a := E) (b := a) (by omega) (by omega)
  omega
theorem snD_lt {X Y r u : Int} : snD X Y r u < 5 := by
  unfold snD
  repeat' split
  all_goals omega
/-- the snail never leaves the box on which it goes -/
theorem sn_in {S : Nat → Int} (hS : SB S) {P : Pose} (hP : WP P) {r u mx my : Int} (hr : -9 ≤ r ∧ r ≤ 9) (hu : -9 ≤ u ∧ u ≤ 9) (hE : 1 ≤ snE S P r mx) (hN : 1 ≤ snN S P u my) (h0 : snK S P r u mx my ≠ 0) : 1 ≤ snE S (prl S P (wT (wl P) (snK S P r u mx my - 1))) r mx ∧ 1 ≤ snN S (prl S P (wT (wl P) (snK S P r u mx my - 1))) u my := by
  obtain ⟨b, e, n, x, y⟩ := P
  obtain ⟨a1, a2, a3, a4⟩ := prl4 S hP
  have s1 := hS (b / 2) (by have := hP.1; simp only at this; omega)
  obtain ⟨ar1, ar2, ar3, ar4⟩ := ab_r hr
  obtain ⟨au1, au2, au3, au4⟩ := ab_r hu
  have mE := mpos (a := ab u) hE
  have mN := mpos (a := ab r) hN
  have o := ow_half b
  unfold snK snD at h0 ⊢
  generalize hX : snE S (b, e, n, x, y) r mx * ab u = X at *
  generalize hY : snN S (b, e, n, x, y) u my * ab r = Y at *
  by_cases q1 : X = Y
  · rw [if_pos q1] at h0; exact absurd rfl h0
  · rw [if_neg q1]
    have w0 : wT (wl (b, e, n, x, y)) (1 - 1) = e := rfl
    have w1 : wT (wl (b, e, n, x, y)) (2 - 1) = ow e := rfl
    have w2' : wT (wl (b, e, n, x, y)) (3 - 1) = n := rfl
    have w3 : wT (wl (b, e, n, x, y)) (4 - 1) = ow n := rfl
    unfold snE at hE ⊢
    unfold snN at hN ⊢
    dsimp only at hE hN
    by_cases q2 : Y ≤ X
    · rw [if_pos q2]
      by_cases q3 : u ≤ 0
      · rw [if_pos q3, w3, a4]
        dsimp only
        refine ⟨hE, ?_⟩
        rw [if_neg (by omega)] at hN ⊢
        omega
      · rw [if_neg q3, w2', a3]
        dsimp only
        refine ⟨hE, ?_⟩
        rw [if_pos (by omega)] at hN ⊢
        rw [o]
        omega
    · rw [if_neg q2]
      by_cases q3 : r ≤ 0
      · rw [if_pos q3, w1, a2]
        dsimp only
        refine ⟨?_, hN⟩
        rw [if_neg (by omega)] at hE ⊢
        omega
      · rw [if_neg q3, w0, a1]
        dsimp only
        refine ⟨?_, hN⟩
        rw [if_pos (by omega)] at hE ⊢
        rw [o]
        omega
theorem abI {x : Int32} (h : -9 ≤ x.toInt ∧ x.toInt ≤ 9) : (if 0 ≤ x then x else 0 - x).toInt = ab x.toInt := by
  unfold ab
  have z : (0 : Int32).toInt = 0 := by decide
  simp only [nLe, z]
  by_cases q : 0 ≤ x.toInt
  · rw [if_pos q, if_pos q]
  · rw [if_neg q, if_neg q, tSub (by rw [z]; omega) (by rw [z]; omega), z]
    omega
theorem next_78 {s : Hp} {x1 x2 x5 y : Int32} (h1 : -9 ≤ x1.toInt ∧ x1.toInt ≤ 9) (h2 : -9 ≤ x2.toInt ∧ x2.toInt ≤ 9) (h5 : -4000 ≤ x5.toInt ∧ x5.toInt ≤ 4000) (hy : -4000 ≤ y.toInt ∧ y.toInt ≤ 4000) : f_Box_nextRoll_78 s x1 x2 x5 y = some (nI (snD (x5.toInt * ab x2.toInt) (y.toInt * ab x1.toInt) x1.toInt x2.toInt), s) := by
  have a1 := abI h1
  have a2 := abI h2
  have r1 := ab_r h1
  have r2 := ab_r h2
  have z : (0 : Int32).toInt = 0 := by decide
  have m1 := (tMulB (x := x5) (y := if 0 ≤ x2 then x2 else 0 - x2) (by omega) (by omega)).1
  have m2 := (tMulB (x := y) (y := if 0 ≤ x1 then x1 else 0 - x1) (by omega) (by omega)).1
  rw [a2] at m1
  rw [a1] at m2
  unfold f_Box_nextRoll_78 snD
  have d1 : ((x5 * if 0 ≤ x2 then x2 else 0 - x2) = y * if 0 ≤ x1 then x1 else 0 - x1) = (x5.toInt * ab x2.toInt = y.toInt * ab x1.toInt) := by rw [nEq, m1, m2]
  have d2 : ((y * if 0 ≤ x1 then x1 else 0 - x1) ≤ x5 * if 0 ≤ x2 then x2 else 0 - x2) = (y.toInt * ab x1.toInt ≤ x5.toInt * ab x2.toInt) := by rw [nLe, m1, m2]
  have d3 : (x2 ≤ 0) = (x2.toInt ≤ 0) := by rw [nLe, z]
  have d4 : (x1 ≤ 0) = (x1.toInt ≤ 0) := by rw [nLe, z]
  simp only [d1, d2, d3, d4]
  by_cases q1 : x5.toInt * ab x2.toInt = y.toInt * ab x1.toInt
  · rw [if_pos q1, if_pos q1]; rfl
  · rw [if_neg q1, if_neg q1]
    by_cases q2 : y.toInt * ab x1.toInt ≤ x5.toInt * ab x2.toInt
    · rw [if_pos q2, if_pos q2]
      by_cases q3 : x2.toInt ≤ 0
      · rw [if_pos q3, if_pos q3]; rfl
      · rw [if_neg q3, if_neg q3]; rfl
    · rw [if_neg q2, if_neg q2]
      by_cases q3 : x1.toInt ≤ 0
      · rw [if_pos q3, if_pos q3]; rfl
      · rw [if_neg q3, if_neg q3]; rfl
theorem two_t : (2 : Int32).toInt = 2 := by decide
theorem next_c {S : Nat → Int} (hS : SB S) {s : Hp} {P : Pose} {k : Nat} (hk : k ≤ 30) (hP : WP P) (hb : BP k P) (hC : CS S s 33 P) {x1 x2 x3 x4 : Int32} (h1 : -9 ≤ x1.toInt ∧ x1.toInt ≤ 9) (h2 : -9 ≤ x2.toInt ∧ x2.toInt ≤ 9) (h3 : 0 ≤ x3.toInt ∧ x3.toInt ≤ 30) (h4 : 0 ≤ x4.toInt ∧ x4.toInt ≤ 30) : f_Box_nextRoll s x1 x2 x3 x4 = some (nI (snK S P x1.toInt x2.toInt x3.toInt x4.toInt), s) := by
  obtain ⟨c0, c1, c2, c3, c4, c5, c6, c7⟩ := hC
  obtain ⟨b1, b2, b3, b4⟩ := hb
  have se := hS (P.2.1 / 2) (by have := hP.2.1; omega)
  have sn := hS (P.2.2.1 / 2) (by have := hP.2.2.1; omega)
  have z : (0 : Int32).toInt = 0 := by decide
  have k37 : ∀ v : Int32, v.toInt = snE S P x1.toInt x3.toInt → -4000 ≤ v.toInt ∧ v.toInt ≤ 4000 → f_Box_nextRoll_37 s x1 x2 x4 v = some (nI (snK S P x1.toInt x2.toInt x3.toInt x4.toInt), s) := by
    intro v hv hv2
    unfold f_Box_nextRoll_37 snK
    simp only [nLe, z]
    by_cases q : x2.toInt ≤ 0
    · have m := (tMulB (x := 2) (y := s 33 4) (by rw [two_t]; omega) (by omega)).1
      rw [two_t, c4] at m
      have t : (x4 - (2 : Int32) * s 33 4).toInt = snN S P x2.toInt x4.toInt := by
        unfold snN
        rw [if_neg (by omega), tSub (by omega) (by omega), m]
      have t2 : -4000 ≤ (x4 - (2 : Int32) * s 33 4).toInt ∧ (x4 - (2 : Int32) * s 33 4).toInt ≤ 4000 := by
        rw [tSub (by omega) (by omega), m]; omega
      rw [if_pos q, next_78 h1 h2 hv2 t2, hv, t]
    · have a : (s 33 4 + s 33 6).toInt = P.2.2.2.2 + S (P.2.2.1 / 2) := by rw [tAdd (by omega) (by omega), c4, c6]
      have m := (tMulB (x := 2) (y := s 33 4 + s 33 6) (by rw [two_t]; omega) (by omega)).1
      rw [two_t, a] at m
      have t : ((2 : Int32) * (s 33 4 + s 33 6) - x4).toInt = snN S P x2.toInt x4.toInt := by
        unfold snN
        rw [if_pos (by omega), tSub (by omega) (by omega), m]
      have t2 : -4000 ≤ ((2 : Int32) * (s 33 4 + s 33 6) - x4).toInt ∧ ((2 : Int32) * (s 33 4 + s 33 6) - x4).toInt ≤ 4000 := by
        rw [tSub (by omega) (by omega), m]; omega
      rw [if_neg q, next_78 h1 h2 hv2 t2, hv, t]
  unfold f_Box_nextRoll
  simp only [nLe, z]
  by_cases q : x1.toInt ≤ 0
  · have m := (tMulB (x := 2) (y := s 33 3) (by rw [two_t]; omega) (by omega)).1
    rw [two_t, c3] at m
    rw [if_pos q]
    refine k37 _ ?_ ?_
    · unfold snE
      rw [if_neg (by omega), tSub (by omega) (by omega), m]
    · rw [tSub (by omega) (by omega), m]; omega
  · have a : (s 33 3 + s 33 5).toInt = P.2.2.2.1 + S (P.2.1 / 2) := by rw [tAdd (by omega) (by omega), c3, c5]
    have m := (tMulB (x := 2) (y := s 33 3 + s 33 5) (by rw [two_t]; omega) (by omega)).1
    rw [two_t, a] at m
    rw [if_neg q]
    refine k37 _ ?_ ?_
    · unfold snE
      rw [if_pos (by omega), tSub (by omega) (by omega), m]
    · rw [tSub (by omega) (by omega), m]; omega
theorem snail_c {n : Nat} {sg : Hp} {x1 x2 x5 x6 : Int32} (h1 : -9 ≤ x1.toInt ∧ x1.toInt ≤ 9) (h2 : -9 ≤ x2.toInt ∧ x2.toInt ≤ 9) (h5 : 0 ≤ x5.toInt ∧ x5.toInt ≤ 30) (h6 : 0 ≤ x6.toInt ∧ x6.toInt ≤ 30) {K wh : Nat} (hK : K ≤ 30) (hwh : wh < 2) : ∀ (q j m d : Nat) (P : Pose) (s : Hp), j + q = K → PF n sg s → WP P → BP j P → CS (sS sg) s 33 P → 1 ≤ snE (sS sg) P x1.toInt x5.toInt → 1 ≤ snN (sS sg) P x2.toInt x6.toInt → ∃ s', f_Box_snail_78 (m + q + 1) s x1 x2 (nI K) (nI wh) x5 x6 (nI d) (nI j) = some (snL (sS sg) x1.toInt x2.toInt x5.toInt x6.toInt wh q P d, s') ∧ PF n sg s' := by
  intro q
  induction q with
  | zero =>
    intro j m d P s hj hs hP hb hC hE hN
    rw [f_Box_snail_78, if_pos (nI_le (by omega) (by omega)), snL]
    refine ⟨s, ?_, hs⟩
    rcases (by omega : wh = 0 ∨ wh = 1) with rfl | rfl
    · rw [if_pos (by decide), if_pos rfl, hC.1]
    · rw [if_neg (by decide), if_neg (by omega)]
  | succ q ih =>
    intro j m d P s hj hs hP hb hC hE hN
    have hS := hs.b.1
    rw [show m + (q + 1) + 1 = (m + q + 1) + 1 by omega, f_Box_snail_78, if_neg (nI_ge (by omega) (by omega)), next_c hS (by omega) hP hb hC h1 h2 h5 h6, Option.bind_some, snL]
    dsimp only
    have hlt := snD_lt (X := snE (sS sg) P x1.toInt x5.toInt * ab x2.toInt) (Y := snN (sS sg) P x2.toInt x6.toInt * ab x1.toInt) (r := x1.toInt) (u := x2.toInt)
    have hin := sn_in hS hP h1 h2 hE hN
    generalize hD : snK (sS sg) P x1.toInt x2.toInt x5.toInt x6.toInt = D at *
    rw [show snD (snE (sS sg) P x1.toInt x5.toInt * ab x2.toInt) (snN (sS sg) P x2.toInt x6.toInt * ab x1.toInt) x1.toInt x2.toInt = D from hD] at hlt
    by_cases h0 : D = 0
    · rw [if_pos (by rw [h0]; rfl), if_pos h0]
      exact ⟨s, rfl, hs⟩
    · have hd : ¬ nI D = (0 : Int32) := fun z => h0 ((nI_eq (b := 0) (by omega) (by omega)).mp z)
      rw [if_neg hd, if_neg h0]
      obtain ⟨w1, w2', w3, -⟩ := wT_s (S := sS sg) hP (show D - 1 < 4 by omega)
      obtain ⟨s1, e1, e2, e3⟩ := roll_c hS (k := j) (by omega) hP hb hC w1 w2'
      rw [w3, show D - 1 + 1 = D by omega] at e1
      rw [e1, Option.bind_some, nI_1]
      obtain ⟨i1, i2⟩ := hin h0
      exact ih (j + 1) m D _ s1 (by omega) (hs.cx (fun c hc => e3 c (fun q => by subst q; simp [CX] at hc))) (prl_wp hP w1 w2') (prl_bp hS hP hb) e2 i1 i2
/-! the reference's -/
theorem sn_205 (k26 : Hp → Int32 → Int32 → Int32 → Int32 → Int32 → Int32 → Int32 → Int32 → Option (Int32 × Hp)) {s : Hp} {x1 x2 x3 x4 x5 x6 x8 x11 a b : Int32} {X Y : Int} (hX : x11.toInt = X) (hY : (a * b).toInt = Y) (hx0 : x2.toInt = 0 → X = 0) (hx1 : x2.toInt ≠ 0 → 1 ≤ X) (hy0 : x1.toInt = 0 → Y = 0) (hy1 : x1.toInt ≠ 0 → 1 ≤ Y) (h0 : ¬ (x1.toInt = 0 ∧ x2.toInt = 0)) : f_Mod_snailOf_137 k26 s x1 x2 x3 x4 x5 x6 x8 x11 a b = if snD X Y x1.toInt x2.toInt = 0 then some (-1, s) else f_Mod_snailOf_205 k26 s x1 x2 x3 x4 x5 x6 x8 (nI (snD X Y x1.toInt x2.toInt - 1)) := by
  have z : (0 : Int32).toInt = 0 := by decide
  unfold f_Mod_snailOf_137 f_Mod_snailOf_157 f_Mod_snailOf_172 f_Mod_snailOf_176 f_Mod_snailOf_177 snD
  simp only [nEq, nLe, hX, hY, z, if_true, show ((1 : Int32).toInt = 0) = False by decide, if_false]
  by_cases q1 : x1.toInt = 0
  · have y0 := hy0 q1
    have x0 := hx1 (by omega)
    rw [if_pos q1, if_neg (by omega : ¬ x2.toInt = 0), if_pos q1, if_neg (by omega : ¬ X = Y), if_pos (by omega : Y ≤ X)]
    by_cases q3 : x2.toInt ≤ 0
    · rw [if_pos q3, if_pos q3, if_neg (by omega)]; rfl
    · rw [if_neg q3, if_neg q3, if_neg (by omega)]; rfl
  · have y0 := hy1 q1
    rw [if_neg q1]
    by_cases q2 : x2.toInt = 0
    · have x0 := hx0 q2
      rw [if_pos q2, if_pos q2, if_neg (by omega : ¬ X = Y), if_neg (by omega : ¬ Y ≤ X)]
      by_cases q3 : x1.toInt ≤ 0
      · rw [if_pos q3, if_pos q3, if_neg (by omega)]; rfl
      · rw [if_neg q3, if_neg q3, if_neg (by omega)]; rfl
    · have x0 := hx1 q2
      rw [if_neg q2, if_neg q2, if_neg q1]
      by_cases q4 : X = Y
      · rw [if_pos q4, if_pos q4, if_pos rfl]
      · rw [if_neg q4, if_neg q4]
        by_cases q5 : Y ≤ X
        · rw [if_pos q5, if_pos q5]
          by_cases q3 : x2.toInt ≤ 0
          · rw [if_pos q3, if_pos q3, if_neg (by omega)]; rfl
          · rw [if_neg q3, if_neg q3, if_neg (by omega)]; rfl
        · rw [if_neg q5, if_neg q5]
          by_cases q3 : x1.toInt ≤ 0
          · rw [if_pos q3, if_pos q3, if_neg (by omega)]; rfl
          · rw [if_neg q3, if_neg q3, if_neg (by omega)]; rfl
theorem sn_81 (k26 : Hp → Int32 → Int32 → Int32 → Int32 → Int32 → Int32 → Int32 → Int32 → Option (Int32 × Hp)) {s : Hp} {x1 x2 x3 x4 x5 x6 x8 x9 c a b : Int32} {E N : Int} (h1 : -9 ≤ x1.toInt ∧ x1.toInt ≤ 9) (h2 : -9 ≤ x2.toInt ∧ x2.toInt ≤ 9) (h0 : ¬ (x1.toInt = 0 ∧ x2.toInt = 0)) (hE : 1 ≤ E ∧ E ≤ 4000) (hN : 1 ≤ N ∧ N ≤ 4000) (h9 : x9.toInt = E ∨ x9.toInt = -E) (h10 : ((c * (a + b)) - x6).toInt = N ∨ ((c * (a + b)) - x6).toInt = -N) : f_Mod_snailOf_81 k26 s x1 x2 x3 x4 x5 x6 x8 x9 c a b = if snD (E * ab x2.toInt) (N * ab x1.toInt) x1.toInt x2.toInt = 0 then some (-1, s) else f_Mod_snailOf_205 k26 s x1 x2 x3 x4 x5 x6 x8 (nI (snD (E * ab x2.toInt) (N * ab x1.toInt) x1.toInt x2.toInt - 1)) := by
  have z : (0 : Int32).toInt = 0 := by decide
  have r1 := ab_r h1
  have r2 := ab_r h2
  have mE := mpos (a := ab x2.toInt) hE.1
  have mN := mpos (a := ab x1.toInt) hN.1
  have k127 : ∀ (x11 y : Int32), x11.toInt = E * ab x2.toInt → y.toInt = N → f_Mod_snailOf_127 k26 s x1 x2 x3 x4 x5 x6 x8 x11 y = if snD (E * ab x2.toInt) (N * ab x1.toInt) x1.toInt x2.toInt = 0 then some (-1, s) else f_Mod_snailOf_205 k26 s x1 x2 x3 x4 x5 x6 x8 (nI (snD (E * ab x2.toInt) (N * ab x1.toInt) x1.toInt x2.toInt - 1)) := by
    intro x11 y e11 ey
    unfold f_Mod_snailOf_127
    have go : ∀ v : Int32, v.toInt = ab x1.toInt → f_Mod_snailOf_137 k26 s x1 x2 x3 x4 x5 x6 x8 x11 y v = if snD (E * ab x2.toInt) (N * ab x1.toInt) x1.toInt x2.toInt = 0 then some (-1, s) else f_Mod_snailOf_205 k26 s x1 x2 x3 x4 x5 x6 x8 (nI (snD (E * ab x2.toInt) (N * ab x1.toInt) x1.toInt x2.toInt - 1)) := by
      intro v hv
      have m := (tMulB (x := y) (y := v) (by omega) (by omega)).1
      rw [ey, hv] at m
      exact sn_205 k26 e11 m (fun q => mE.1 (r2.2.2.1 q)) (fun q => mE.2 (r2.2.2.2 q)) (fun q => mN.1 (r1.2.2.1 q)) (fun q => mN.2 (r1.2.2.2 q)) h0
    by_cases q : 0 ≤ x1
    · rw [if_pos q]
      refine go _ ?_
      rw [nLe, z] at q
      unfold ab
      rw [if_pos q]
    · rw [if_neg q]
      refine go _ ?_
      rw [nLe, z] at q
      unfold ab
      rw [if_neg q, tNeg (by omega)]
  have k101 : ∀ (x10 y : Int32), (x10.toInt = N ∨ x10.toInt = -N) → y.toInt = E → f_Mod_snailOf_101 k26 s x1 x2 x3 x4 x5 x6 x8 x10 y = if snD (E * ab x2.toInt) (N * ab x1.toInt) x1.toInt x2.toInt = 0 then some (-1, s) else f_Mod_snailOf_205 k26 s x1 x2 x3 x4 x5 x6 x8 (nI (snD (E * ab x2.toInt) (N * ab x1.toInt) x1.toInt x2.toInt - 1)) := by
    intro x10 y e10 ey
    unfold f_Mod_snailOf_101
    have go : ∀ v : Int32, v.toInt = ab x2.toInt → f_Mod_snailOf_111 k26 s x1 x2 x3 x4 x5 x6 x8 x10 y v = if snD (E * ab x2.toInt) (N * ab x1.toInt) x1.toInt x2.toInt = 0 then some (-1, s) else f_Mod_snailOf_205 k26 s x1 x2 x3 x4 x5 x6 x8 (nI (snD (E * ab x2.toInt) (N * ab x1.toInt) x1.toInt x2.toInt - 1)) := by
      intro v hv
      have m := (tMulB (x := y) (y := v) (by omega) (by omega)).1
      rw [ey, hv] at m
      unfold f_Mod_snailOf_111
      by_cases q : 0 ≤ x10
      · rw [if_pos q]
        rw [nLe, z] at q
        exact k127 _ _ m (by omega)
      · rw [if_neg q]
        rw [nLe, z] at q
        exact k127 _ _ m (by rw [tNeg (by omega)]; omega)
    by_cases q : 0 ≤ x2
    · rw [if_pos q]
      refine go _ ?_
      rw [nLe, z] at q
      unfold ab
      rw [if_pos q]
    · rw [if_neg q]
      refine go _ ?_
      rw [nLe, z] at q
      unfold ab
      rw [if_neg q, tNeg (by omega)]
  unfold f_Mod_snailOf_81
  by_cases q : 0 ≤ x9
  · rw [if_pos q]
    rw [nLe, z] at q
    exact k101 _ _ h10 (by omega)
  · rw [if_neg q]
    rw [nLe, z] at q
    exact k101 _ _ h10 (by rw [tNeg (by omega)]; omega)
theorem sn_step {S : Nat → Int} (hS : SB S) {s : Hp} (hM : SM S s) {P : Pose} {k : Nat} (hk : k ≤ 30) (hP : WP P) (hb : BP k P) (h : MS S s 0 P) {x1 x2 x4 x5 x6 x7 : Int32} (h1 : -9 ≤ x1.toInt ∧ x1.toInt ≤ 9) (h2 : -9 ≤ x2.toInt ∧ x2.toInt ≤ 9) (h0 : ¬ (x1.toInt = 0 ∧ x2.toInt = 0)) (h5 : 0 ≤ x5.toInt ∧ x5.toInt ≤ 30) (h6 : 0 ≤ x6.toInt ∧ x6.toInt ≤ 30) (hE : 1 ≤ snE S P x1.toInt x5.toInt) (hN : 1 ≤ snN S P x2.toInt x6.toInt) {K j : Nat} (hj : j < K) (hK : K ≤ 30) (m : Nat) : f_Mod_snailOf_26 (m + 1) s x1 x2 (nI K) x4 x5 x6 x7 (nI j) = if snK S P x1.toInt x2.toInt x5.toInt x6.toInt = 0 then some (-1, s) else f_Mod_snailOf_205 (f_Mod_snailOf_26 m) s x1 x2 (nI K) x4 x5 x6 (nI j) (nI (snK S P x1.toInt x2.toInt x5.toInt x6.toInt - 1)) := by
  have z : (0 : Int32).toInt = 0 := by decide
  obtain ⟨b1, b2, b3, b4⟩ := hb
  have se := hS (P.2.1 / 2) (by have := hP.2.1; omega)
  have sn := hS (P.2.2.1 / 2) (by have := hP.2.2.1; omega)
  have sw0 := southWest_m (sg := s) (l := 0) (w := 0) (by omega) (by omega)
  have sw1 := southWest_m (sg := s) (l := 0) (w := 1) (by omega) (by omega)
  have t0 := h.2.1
  have t1 := h.2.2
  simp only [Nat.mul_zero, Nat.zero_add, Nat.add_zero, Nat.reduceAdd] at sw0 sw1 t0 t1
  obtain ⟨fx, g1, g2⟩ := far_m hM (l := 0) (d := 0) (by omega) hP.2.1 (fun i hi => (h.1 i hi).1)
  obtain ⟨fy, g3, g4⟩ := far_m hM (l := 0) (d := 3) (by omega) hP.2.2.1 (fun i hi => (h.1 i hi).2.1)
  rw [nI_0] at sw0 sw1 g1 g3
  rw [show nI 1 = (1 : Int32) from rfl] at sw1
  rw [show nI 3 = (3 : Int32) from rfl] at g3
  have hE2 : snE S P x1.toInt x5.toInt ≤ 4000 := by unfold snE; split <;> omega
  have hN2 : snN S P x2.toInt x6.toInt ≤ 4000 := by unfold snN; split <;> omega
  have cal : ∀ (y v x : Int32) (p q : Int), y.toInt = p → v.toInt = q → -2000 ≤ p ∧ p ≤ 2000 → 0 ≤ q ∧ q ≤ 30 → 0 ≤ x.toInt ∧ x.toInt ≤ 30 → ((2 : Int32) * (y + v) - x).toInt = 2 * (p + q) - x.toInt := by
    intro y v x p q ey ev hp hq hx
    have a : (y + v).toInt = p + q := by rw [tAdd (by omega) (by omega), ey, ev]
    have m := (tMulB (x := 2) (y := y + v) (by rw [two_t]; omega) (by omega)).1
    rw [two_t, a] at m
    rw [tSub (by omega) (by omega), m]
  have k53 : ∀ v : Int32, (((2 : Int32) * (s 55 12 + v)) - x5).toInt = snE S P x1.toInt x5.toInt ∨ (((2 : Int32) * (s 55 12 + v)) - x5).toInt = - snE S P x1.toInt x5.toInt → f_Mod_snailOf_53 (f_Mod_snailOf_26 m) s x1 x2 (nI K) x4 x5 x6 (nI j) 2 (s 55 12) v = if snK S P x1.toInt x2.toInt x5.toInt x6.toInt = 0 then some (-1, s) else f_Mod_snailOf_205 (f_Mod_snailOf_26 m) s x1 x2 (nI K) x4 x5 x6 (nI j) (nI (snK S P x1.toInt x2.toInt x5.toInt x6.toInt - 1)) := by
    intro v hv
    unfold f_Mod_snailOf_53 snK
    rw [sw1, Option.bind_some]
    have d3 : (x2 ≤ 0) = (x2.toInt ≤ 0) := by rw [nLe, z]
    simp only [d3]
    by_cases q : x2.toInt ≤ 0
    · rw [if_pos q]
      refine sn_81 _ h1 h2 h0 ⟨hE, hE2⟩ ⟨hN, hN2⟩ hv (Or.inr ?_)
      rw [cal (s 55 13) 0 x6 _ 0 t1 z (by omega) (by omega) h6]
      unfold snN
      rw [if_neg (by omega)]
      omega
    · rw [if_neg q, g3, Option.bind_some]
      dsimp only
      refine sn_81 _ h1 h2 h0 ⟨hE, hE2⟩ ⟨hN, hN2⟩ hv (Or.inl ?_)
      rw [cal (s 55 13) fy x6 _ _ t1 g4 (by omega) (by omega) h6]
      unfold snN
      rw [if_pos (by omega)]
  rw [f_Mod_snailOf_26, if_neg (nI_ge hj (by omega)), sw0, Option.bind_some]
  have d3 : (x1 ≤ 0) = (x1.toInt ≤ 0) := by rw [nLe, z]
  simp only [d3]
  by_cases q : x1.toInt ≤ 0
  · rw [if_pos q]
    refine k53 0 (Or.inr ?_)
    rw [cal (s 55 12) 0 x5 _ 0 t0 z (by omega) (by omega) h5]
    unfold snE
    rw [if_neg (by omega)]
    omega
  · rw [if_neg q, g1, Option.bind_some]
    dsimp only
    refine k53 fx (Or.inl ?_)
    rw [cal (s 55 12) fx x5 _ _ t0 g2 (by omega) (by omega) h5]
    unfold snE
    rw [if_pos (by omega)]
theorem sn_cp (k26 : Hp → Int32 → Int32 → Int32 → Int32 → Int32 → Int32 → Int32 → Int32 → Option (Int32 × Hp)) (x1 x2 x3 x4 x5 x6 x7 x8 : Int32) : ∀ (k j m : Nat) (sg : Hp), j + k = 14 → ∃ T, f_Mod_snailOf_217 k26 (m + k + 1) sg x1 x2 x3 x4 x5 x6 x7 x8 (nI j) = k26 T x1 x2 x3 x4 x5 x6 x7 (x8 + 1) ∧ (∀ c, c ≠ 55 → T c = sg c) ∧ ∀ i, T 55 i = if j ≤ i ∧ i < 14 then sg 55 (14 + i) else sg 55 i := by
  intro k
  induction k with
  | zero =>
    intro j m sg h
    rw [f_Mod_snailOf_217, if_pos (by rw [show (14 : Int32) = nI 14 from rfl]; exact nI_le (by omega) (by omega))]
    exact ⟨sg, rfl, fun _ _ => rfl, fun i => by rw [if_neg (by omega)]⟩
  | succ k ih =>
    intro j m sg h
    rw [show m + (k + 1) + 1 = (m + k + 1) + 1 by omega, f_Mod_snailOf_217, if_neg (by rw [show (14 : Int32) = nI 14 from rfl]; exact nI_ge (by omega) (by omega)), show (14 : Int32) + nI j = nI (14 + j) by rw [show (14 : Int32) = nI 14 from rfl, nI_add], if_pos (ib (by omega) (by omega)), if_pos (ib (by omega) (by omega)), Option.bind_some, nI_1, nI_clamp (by omega), nI_clamp (by omega)]
    obtain ⟨T, t1, t2, t3⟩ := ih (j + 1) m (w2 sg 55 j (sg 55 (14 + j))) (by omega)
    refine ⟨T, t1, fun c hc => by rw [t2 c hc, w2_cell _ hc], fun i => ?_⟩
    rw [t3]
    by_cases h1 : i = j
    · subst h1
      rw [if_neg (by omega), w2_at, if_pos (by omega)]
    · rw [w2_ne (by omega), w2_ne (by omega)]
      by_cases h2 : j ≤ i ∧ i < 14
      · rw [if_pos h2, if_pos (by omega)]
      · rw [if_neg h2, if_neg (by omega)]
theorem snail_m {n : Nat} {sg : Hp} {x1 x2 x5 x6 : Int32} (h1 : -9 ≤ x1.toInt ∧ x1.toInt ≤ 9) (h2 : -9 ≤ x2.toInt ∧ x2.toInt ≤ 9) (h0 : ¬ (x1.toInt = 0 ∧ x2.toInt = 0)) (h5 : 0 ≤ x5.toInt ∧ x5.toInt ≤ 30) (h6 : 0 ≤ x6.toInt ∧ x6.toInt ≤ 30) {K wh : Nat} (hK : K ≤ 30) (hwh : wh < 2) : ∀ (q j m d : Nat) (x7 : Int32) (P : Pose) (s : Hp), j + q = K → x7 + 1 = nI d → PF n sg s → WP P → BP j P → MS (sS sg) s 0 P → 1 ≤ snE (sS sg) P x1.toInt x5.toInt → 1 ≤ snN (sS sg) P x2.toInt x6.toInt → ∃ s', f_Mod_snailOf_26 (m + q + 1) s x1 x2 (nI K) (nI wh) x5 x6 x7 (nI j) = some (snL (sS sg) x1.toInt x2.toInt x5.toInt x6.toInt wh q P d, s') ∧ PF n sg s' := by
  intro q
  induction q with
  | zero =>
    intro j m d x7 P s hj h7 hs hP hb hC hE hN
    rw [f_Mod_snailOf_26, if_pos (nI_le (by omega) (by omega)), snL]
    refine ⟨s, ?_, hs⟩
    rcases (by omega : wh = 0 ∨ wh = 1) with rfl | rfl
    · rw [if_pos (by decide), if_pos rfl, bid, ← nI_0, faceAt_m (by omega) hP hC]
    · rw [if_neg (by decide), if_neg (by omega), h7]
  | succ q ih =>
    intro j m d x7 P s hj h7 hs hP hb hC hE hN
    have hS := hs.b.1
    have hM := (hs.me (a := 0) (b := 0) (by omega) (by omega)).1
    rw [show m + (q + 1) + 1 = (m + q + 1) + 1 by omega, sn_step hS hM (k := j) (by omega) hP hb hC h1 h2 h0 h5 h6 hE hN (by omega) hK, snL]
    have hlt := snD_lt (X := snE (sS sg) P x1.toInt x5.toInt * ab x2.toInt) (Y := snN (sS sg) P x2.toInt x6.toInt * ab x1.toInt) (r := x1.toInt) (u := x2.toInt)
    have hin := sn_in hS hP h1 h2 hE hN
    generalize hD : snK (sS sg) P x1.toInt x2.toInt x5.toInt x6.toInt = D at *
    rw [show snD (snE (sS sg) P x1.toInt x5.toInt * ab x2.toInt) (snN (sS sg) P x2.toInt x6.toInt * ab x1.toInt) x1.toInt x2.toInt = D from hD] at hlt
    by_cases h0' : D = 0
    · rw [if_pos h0', if_pos h0']
      exact ⟨s, rfl, hs⟩
    · rw [if_neg h0', if_neg h0']
      obtain ⟨w1, w2', w3, -⟩ := wT_s (S := sS sg) hP (show D - 1 < 4 by omega)
      obtain ⟨T, t1, t2, t3, t4, t5, t6⟩ := turns_m hS hM (l := 0) (kk := j) (by omega) (by omega) hP hb hC w1 w2'
      rw [w3, show D - 1 + 1 - 1 = D - 1 by omega, nI_0] at t1
      unfold f_Mod_snailOf_205
      rw [t1, Option.bind_some]
      obtain ⟨m14, hm14⟩ := LFx 14 (by omega)
      obtain ⟨T2, u1, u2, u3⟩ := sn_cp (f_Mod_snailOf_26 (m + q + 1)) x1 x2 (nI K) (nI wh) x5 x6 (nI (D - 1)) (nI j) 14 0 m14 T (by omega)
      rw [nI_0, ← hm14] at u1
      rw [u1, nI_1]
      obtain ⟨i1, i2⟩ := hin h0'
      have P2 : PF n sg T2 := hs.mx (fun c c1 _ c3 => by rw [u2 c (by omega), t4 c (by omega) (by omega)]) (by rw [u2 46 (by omega), t4 46 (by omega) (by omega)]) (by rw [u2 46 (by omega), t4 46 (by omega) (by omega)])
      have M2 : MS (sS sg) T2 0 (prl (sS sg) P (wT (wl P) (D - 1))) := by
        have e : ∀ i, i < 14 → T2 55 i = T 55 (14 * (0 + 1) + i) := fun i hi => by rw [u3, if_pos (by omega)]
        obtain ⟨v1, v2, v3⟩ := t2
        refine ⟨fun k hk => ?_, ?_, ?_⟩
        · obtain ⟨y1, y2, y3, y4⟩ := v1 k hk
          rw [e _ (by omega), e _ (by omega), e _ (by omega), e _ (by omega)]
          exact ⟨by rw [← y1]; congr 2; omega, by rw [← y2]; congr 2; omega, by rw [← y3]; congr 2; omega, by rw [← y4]; congr 2; omega⟩
        · rw [e _ (by omega), ← v2]
        · rw [e _ (by omega), ← v3]
      exact ih (j + 1) m D _ _ T2 (by omega) (by rw [nI_1, show D - 1 + 1 = D by omega]) P2 (prl_wp hP w1 w2') (prl_bp hS hP hb) M2 i1 i2
noncomputable def snV (sg : Hp) (x1 x2 : Int32) (K wh : Nat) : Int32 := snL (sS sg) x1.toInt x2.toInt (sS sg 1) (sS sg 2) wh K (pst 0) 0
theorem sn_0 {S : Nat → Int} (hS : SB S) (r u : Int) : 1 ≤ snE S (pst 0) r (S 1) ∧ 1 ≤ snN S (pst 0) u (S 2) := by
  have s1 := hS 1 (by omega)
  have s2 := hS 2 (by omega)
  have e1 : snE S (pst 0) r (S 1) = if 0 < r then 2 * (0 + S 1) - S 1 else S 1 - 2 * 0 := rfl
  have e2 : snN S (pst 0) u (S 2) = if 0 < u then 2 * (0 + S 2) - S 2 else S 2 - 2 * 0 := rfl
  rw [e1, e2]
  constructor <;> split <;> omega
theorem c_snail {n : Nat} {sg : Hp} {x1 x2 : Int32} (h1 : -9 ≤ x1.toInt ∧ x1.toInt ≤ 9) (h2 : -9 ≤ x2.toInt ∧ x2.toInt ≤ 9) (h0 : ¬ (x1.toInt = 0 ∧ x2.toInt = 0)) {K wh : Nat} (hK : K ≤ 30) (hwh : wh < 2) : Q n sg (fun s => f_Box_snail s x1 x2 (nI K) (nI wh)) (snV sg x1 x2 K wh) := by
  intro s hs
  have hS := hs.b.1
  obtain ⟨s1, e1, e2, e3, e4⟩ := behind_c hs (k := 0) (by omega)
  rw [nI_0] at e1
  obtain ⟨i1, i2⟩ := sn_0 hS x1.toInt x2.toInt
  have g0 : gP (sS sg) (sg 10) 0 = pst 0 := rfl
  rw [g0] at e2
  have y5 : (s1 33 5).toInt = sS sg 1 := by
    rw [e2.2.2.2.2.2.1, show (pst 0).2.1 / 2 = 1 by decide]
  have y6 : (s1 33 6).toInt = sS sg 2 := by
    rw [e2.2.2.2.2.2.2.1, show (pst 0).2.2.1 / 2 = 2 by decide]
  have q1 := hS 1 (by omega)
  have q2 := hS 2 (by omega)
  obtain ⟨m, hm⟩ := LFx K (by omega)
  obtain ⟨s', f1, f2⟩ := snail_c h1 h2 (x5 := s1 33 5) (x6 := s1 33 6) (by omega) (by omega) hK hwh K 0 m 0 (pst 0) s1 (by omega) e4 (pst_wp 0 (by omega)) (pst_bp 0 0) e2 (by rw [y5]; exact i1) (by rw [y6]; exact i2)
  rw [y5, y6, nI_0, ← hm] at f1
  refine ⟨s', ?_, f2⟩
  show f_Box_snail s x1 x2 (nI K) (nI wh) = _
  have h25 : f_Box_snail_25 s x1 x2 (nI K) (nI wh) = some (snV sg x1 x2 K wh, s') := by
    unfold f_Box_snail_25
    rw [if_neg (nI_pos (by omega)), if_neg (by rw [show (30 : Int32) = nI 30 from rfl]; exact nI_nlt (by omega) (by omega)), if_neg (nI_pos (by omega)), if_pos (by rw [show (1 : Int32) = nI 1 from rfl]; exact nI_le (by omega) (by omega)), e1, Option.bind_some, f1]
    rfl
  unfold f_Box_snail
  rw [isSlope_c, Option.bind_some]
  dsimp only
  rw [if_b, if_pos h1, isSlope_c, Option.bind_some]
  dsimp only
  rw [if_b, if_pos h2, h25]
  by_cases z1 : x1 = 0
  · rw [if_pos z1, if_neg (fun z2 => h0 ⟨by rw [z1]; rfl, by rw [z2]; rfl⟩)]
  · rw [if_neg z1]
theorem m_snail {n : Nat} {sg : Hp} {x1 x2 : Int32} (h1 : -9 ≤ x1.toInt ∧ x1.toInt ≤ 9) (h2 : -9 ≤ x2.toInt ∧ x2.toInt ≤ 9) (h0 : ¬ (x1.toInt = 0 ∧ x2.toInt = 0)) {K wh : Nat} (hK : K ≤ 30) (hwh : wh < 2) : Q n sg (fun s => f_Mod_snailOf s x1 x2 (nI K) (nI wh)) (snV sg x1 x2 K wh) := by
  intro s hs
  have hS := hs.b.1
  obtain ⟨T0, t1, t2, t3, -⟩ := begins_m (sS sg) s
  have P0 : PF n sg T0 := hs.mx (fun c c1 _ c3 => t3 c (by omega)) (by rw [t3 46 (by omega)]) (by rw [t3 46 (by omega)])
  obtain ⟨⟨hM0, hM1, hM2⟩, -⟩ := P0.me (a := 0) (b := 0) (by omega) (by omega)
  obtain ⟨i1, i2⟩ := sn_0 hS x1.toInt x2.toInt
  have q1 := hS 1 (by omega)
  have q2 := hS 2 (by omega)
  obtain ⟨m, hm⟩ := LFx K (by omega)
  obtain ⟨s', f1, f2⟩ := snail_m h1 h2 h0 (x5 := T0 51 0) (x6 := T0 51 1) (by omega) (by omega) hK hwh K 0 m 0 (-1) (pst 0) T0 (by omega) (by decide) P0 (pst_wp 0 (by omega)) (pst_bp 0 0) t2 (by rw [hM0]; exact i1) (by rw [hM1]; exact i2)
  rw [hM0, hM1, nI_0, ← hm] at f1
  refine ⟨s', ?_, f2⟩
  show f_Mod_snailOf s x1 x2 (nI K) (nI wh) = _
  unfold f_Mod_snailOf
  rw [t1, Option.bind_some, f1]
  rfl
theorem snail_bc {s : Hp} {a1 a2 a3 a4 : Int32} (h : ¬ ((-9 ≤ a1.toInt ∧ a1.toInt ≤ 9) ∧ (-9 ≤ a2.toInt ∧ a2.toInt ≤ 9) ∧ (¬ (a1.toInt = 0 ∧ a2.toInt = 0)) ∧ (0 ≤ a3.toInt ∧ a3.toInt ≤ 30) ∧ 0 ≤ a4.toInt ∧ a4.toInt ≤ 1)) : f_Box_snail s a1 a2 a3 a4 = some (-2, s) := by
  have z : (0 : Int32).toInt = 0 := by decide
  have o : (1 : Int32).toInt = 1 := by decide
  have t : (30 : Int32).toInt = 30 := by decide
  unfold f_Box_snail
  rw [isSlope_c, Option.bind_some]
  dsimp only
  rw [if_b]
  by_cases c1 : -9 ≤ a1.toInt ∧ a1.toInt ≤ 9
  · rw [if_pos c1, isSlope_c, Option.bind_some]
    dsimp only
    rw [if_b]
    by_cases c2 : -9 ≤ a2.toInt ∧ a2.toInt ≤ 9
    · rw [if_pos c2]
      have h25 : ¬ ((0 ≤ a3.toInt ∧ a3.toInt ≤ 30) ∧ 0 ≤ a4.toInt ∧ a4.toInt ≤ 1) → f_Box_snail_25 s a1 a2 a3 a4 = some (-2, s) := by
        intro h
        unfold f_Box_snail_25
        simp only [nLt, nLe, z, o, t]
        by_cases q1 : a3.toInt < 0
        · rw [if_pos q1]
        · rw [if_neg q1]
          by_cases q2 : 30 < a3.toInt
          · rw [if_pos q2]
          · rw [if_neg q2]
            by_cases q3 : a4.toInt < 0
            · rw [if_pos q3]
            · rw [if_neg q3, if_neg (by omega)]
      simp only [nEq, z]
      by_cases z1 : a1.toInt = 0
      · rw [if_pos z1]
        by_cases z2 : a2.toInt = 0
        · rw [if_pos z2]
        · rw [if_neg z2]
          exact h25 (fun q => h ⟨c1, c2, fun w => z2 w.2, q⟩)
      · rw [if_neg z1]
        exact h25 (fun q => h ⟨c1, c2, fun w => z1 w.1, q⟩)
    · rw [if_neg c2]
  · rw [if_neg c1]
theorem snail_tm {s : Hp} {a1 a2 a3 a4 : Int32} : f_Mod_snail s a1 a2 a3 a4 = if (-9 ≤ a1.toInt ∧ a1.toInt ≤ 9) ∧ (-9 ≤ a2.toInt ∧ a2.toInt ≤ 9) ∧ (¬ (a1.toInt = 0 ∧ a2.toInt = 0)) ∧ (0 ≤ a3.toInt ∧ a3.toInt ≤ 30) ∧ 0 ≤ a4.toInt ∧ a4.toInt ≤ 1 then f_Mod_snailOf s a1 a2 a3 a4 else some (-2, s) := by
  have z : (0 : Int32).toInt = 0 := by decide
  have h40 : f_Mod_snail_40 s a1 a2 a3 a4 = some (-2, s) := by
    unfold f_Mod_snail_40 f_Mod_snail_41
    rw [if_pos rfl]
  have h36 : f_Mod_snail_36 s a1 a2 a3 a4 = if (0 ≤ a3.toInt ∧ a3.toInt ≤ 30) ∧ 0 ≤ a4.toInt ∧ a4.toInt ≤ 1 then f_Mod_snailOf s a1 a2 a3 a4 else some (-2, s) := by
    unfold f_Mod_snail_36 f_Mod_snail_41
    rw [if_neg (by decide), in_i a3 0 30 (a := 0) (b := 30) rfl rfl, Option.bind_some]
    dsimp only
    rw [if_b, isTwo_m, Option.bind_some]
    dsimp only
    rw [if_b, bid]
    by_cases q1 : 0 ≤ a3.toInt ∧ a3.toInt ≤ 30
    · rw [if_pos q1]
      by_cases q2 : 0 ≤ a4.toInt ∧ a4.toInt ≤ 1
      · rw [if_pos q2, if_pos ⟨q1, q2⟩]
      · rw [if_neg q2, if_neg (fun q => q2 q.2)]
    · rw [if_neg q1, if_neg (fun q => q1 q.1)]
  unfold f_Mod_snail
  rw [in_i a1 (-9) 9 (a := -9) (b := 9) (by decide) (by decide), Option.bind_some]
  dsimp only
  rw [if_b, in_i a2 (-9) 9 (a := -9) (b := 9) (by decide) (by decide), Option.bind_some]
  dsimp only
  rw [if_b, h40, h36]
  simp only [nEq, z]
  by_cases c1 : -9 ≤ a1.toInt ∧ a1.toInt ≤ 9
  · rw [if_pos c1]
    by_cases c2 : -9 ≤ a2.toInt ∧ a2.toInt ≤ 9
    · rw [if_pos c2]
      by_cases z1 : a1.toInt = 0
      · rw [if_pos z1]
        by_cases z2 : a2.toInt = 0
        · rw [if_pos z2, if_neg (fun q => q.2.2.1 ⟨z1, z2⟩)]
        · rw [if_neg z2]
          by_cases q : (0 ≤ a3.toInt ∧ a3.toInt ≤ 30) ∧ 0 ≤ a4.toInt ∧ a4.toInt ≤ 1
          · rw [if_pos q, if_pos ⟨c1, c2, fun w => z2 w.2, q⟩]
          · rw [if_neg q, if_neg (fun w => q w.2.2.2)]
      · rw [if_neg z1]
        by_cases q : (0 ≤ a3.toInt ∧ a3.toInt ≤ 30) ∧ 0 ≤ a4.toInt ∧ a4.toInt ≤ 1
        · rw [if_pos q, if_pos ⟨c1, c2, fun w => z1 w.1, q⟩]
        · rw [if_neg q, if_neg (fun w => q w.2.2.2)]
    · rw [if_neg c2, if_neg (fun w => c2 w.2.1)]
  · rw [if_neg c1, if_neg (fun w => c1 w.1)]
theorem k_snail : K_snail := by
  intro n sg h hn a1 a2 a3 a4
  by_cases c : (-9 ≤ a1.toInt ∧ a1.toInt ≤ 9) ∧ (-9 ≤ a2.toInt ∧ a2.toInt ≤ 9) ∧ (¬ (a1.toInt = 0 ∧ a2.toInt = 0)) ∧ (0 ≤ a3.toInt ∧ a3.toInt ≤ 30) ∧ 0 ≤ a4.toInt ∧ a4.toInt ≤ 1
  · obtain ⟨c1, c2, c0, c3, c4⟩ := id c
    obtain ⟨K, hK, rfl⟩ := nI_ex (n := 30) c3 (by omega)
    obtain ⟨wh, hwh, rfl⟩ := nI_ex (n := 1) c4 (by omega)
    refine pair_q h (c_snail c1 c2 c0 hK (by omega)) (Q.eq (fun s => ?_) (m_snail c1 c2 c0 hK (by omega)))
    show f_Mod_snail s _ _ _ _ = _
    rw [snail_tm, if_pos c]
  · refine pair_q h (q_bad (v := -2) (fun s => snail_bc c)) (q_bad (fun s => ?_))
    show f_Mod_snail s _ _ _ _ = _
    rw [snail_tm, if_neg c]
