/-! THE LINE: whether it meets an edge -/
noncomputable def bI (p : Prop) : Int32 :=
  haveI := Classical.propDecidable p
  if p then 1 else 0
theorem bI_t {p : Prop} (h : p) : bI p = 1 := by unfold bI; rw [if_pos h]
theorem bI_f {p : Prop} (h : ¬ p) : bI p = 0 := by unfold bI; rw [if_neg h]
theorem bI_0 {p : Prop} : (bI p = 0) = ¬ p := by
  by_cases h : p
  · rw [bI_t h]; simp [h]
  · rw [bI_f h]; simp [h]
theorem bI_1 {p : Prop} : (bI p = 1) = p := by
  by_cases h : p
  · rw [bI_t h]; simp [h]
  · rw [bI_f h]; simp [h]
theorem bI_c {p q : Prop} (h : p ↔ q) : bI p = bI q := by rw [propext h]
theorem mulB {x y : Int} {M : Int} (hx : -M ≤ x ∧ x ≤ M) (hy : -M ≤ y ∧ y ≤ M) : -(M * M) ≤ x * y ∧ x * y ≤ M * M := by
  have h0 : 0 ≤ M := by omega
  have a1 : 0 ≤ (M - x) * (M + y) := Int.mul_nonneg (by omega) (by omega)
  have a2 : 0 ≤ (M + x) * (M - y) := Int.mul_nonneg (by omega) (by omega)
  have a3 : 0 ≤ (M - x) * (M - y) := Int.mul_nonneg (by omega) (by omega)
  have a4 : 0 ≤ (M + x) * (M + y) := Int.mul_nonneg (by omega) (by omega)
  have e1 : (M - x) * (M + y) = M * M + M * y - x * M - x * y := by rw [Int.sub_mul, Int.mul_add, Int.mul_add]; omega
  have e2 : (M + x) * (M - y) = M * M - M * y + x * M - x * y := by rw [Int.add_mul, Int.mul_sub, Int.mul_sub]; omega
  have e3 : (M - x) * (M - y) = M * M - M * y - x * M + x * y := by rw [Int.sub_mul, Int.mul_sub, Int.mul_sub]; omega
  have e4 : (M + x) * (M + y) = M * M + M * y + x * M + x * y := by rw [Int.add_mul, Int.mul_add, Int.mul_add]; omega
  omega
theorem tMulB {x y : Int32} (hx : -20000 ≤ x.toInt ∧ x.toInt ≤ 20000) (hy : -20000 ≤ y.toInt ∧ y.toInt ≤ 20000) : (x * y).toInt = x.toInt * y.toInt ∧ -400000000 ≤ x.toInt * y.toInt ∧ x.toInt * y.toInt ≤ 400000000 := by
  have h := mulB (M := 20000) hx hy
  exact ⟨tMul (by omega) (by omega), by omega, by omega⟩
/-- the class's test, all seen from where the line begins -/
theorem meets_175 {sg : Hp} {ah as di lo hi : Int32} (h1 : -9000 ≤ ah.toInt ∧ ah.toInt ≤ 9000) (h2 : -9000 ≤ as.toInt ∧ as.toInt ≤ 9000) (h3 : -9000 ≤ di.toInt ∧ di.toInt ≤ 9000) (h4 : -9000 ≤ lo.toInt ∧ lo.toInt ≤ 9000) (h5 : -9000 ≤ hi.toInt ∧ hi.toInt ≤ 9000) : f_Line_meets_175 sg ah as di lo hi = some (bI (if ah.toInt = 0 then di.toInt = 0 ∧ (lo.toInt ≤ 0 ∨ lo.toInt ≤ as.toInt) ∧ (0 ≤ hi.toInt ∨ as.toInt ≤ hi.toInt) else if 0 < ah.toInt then 0 ≤ di.toInt ∧ di.toInt ≤ ah.toInt ∧ lo.toInt * ah.toInt ≤ as.toInt * di.toInt ∧ as.toInt * di.toInt ≤ hi.toInt * ah.toInt else 0 ≤ -di.toInt ∧ -di.toInt ≤ -ah.toInt ∧ lo.toInt * -ah.toInt ≤ as.toInt * -di.toInt ∧ as.toInt * -di.toInt ≤ hi.toInt * -ah.toInt), sg) := by
  have go : ∀ (a d : Int32), -9000 ≤ a.toInt ∧ a.toInt ≤ 9000 → -9000 ≤ d.toInt ∧ d.toInt ≤ 9000 → f_Line_meets_230 sg a as d lo hi = some (bI (0 ≤ d.toInt ∧ d.toInt ≤ a.toInt ∧ lo.toInt * a.toInt ≤ as.toInt * d.toInt ∧ as.toInt * d.toInt ≤ hi.toInt * a.toInt), sg) := by
    intro a d ha hd
    unfold f_Line_meets_230
    have m1 := (tMulB (x := as) (y := d) (by omega) (by omega)).1
    have m2 := (tMulB (x := lo) (y := a) (by omega) (by omega)).1
    have m3 := (tMulB (x := hi) (y := a) (by omega) (by omega)).1
    simp only [nLt, nLe, m1, m2, m3, Int32.reduceToInt]
    repeat' split
    all_goals first | (rw [bI_t (by omega)]) | (rw [bI_f (by omega)])
  have g197 : f_Line_meets_197 sg as hi = some (bI (0 ≤ hi.toInt ∨ as.toInt ≤ hi.toInt), sg) := by
    unfold f_Line_meets_197 f_Line_meets_209
    simp only [nLt, nLe, Int32.reduceToInt]
    repeat' split
    all_goals first | (rw [bI_t (by omega)]) | (rw [bI_f (by omega)])
  unfold f_Line_meets_175
  rw [g197]
  simp only [nEq, nLe, nLt, Int32.reduceToInt]
  by_cases q1 : ah.toInt = 0
  · simp only [if_pos q1]
    repeat' split
    all_goals first | (rw [bI_f (by omega)]; done) | (congr 2; exact bI_c (by omega))
  · simp only [if_neg q1]
    by_cases q2 : 0 < ah.toInt
    · rw [if_pos (by omega), if_pos q2, go ah di h1 h3]
    · rw [if_neg (by omega), if_neg q2, go (-ah) (-di) (by rw [tNeg (by omega)]; omega) (by rw [tNeg (by omega)]; omega), tNeg (by omega), tNeg (by omega)]
/-- the same, as numbers on the plane -/
theorem mts_eq (pa pc qa qc t lo hi : Int) : (if qa - pa = 0 then t - pa = 0 ∧ (lo - pc ≤ 0 ∨ lo - pc ≤ qc - pc) ∧ (0 ≤ hi - pc ∨ qc - pc ≤ hi - pc) else if 0 < qa - pa then 0 ≤ t - pa ∧ t - pa ≤ qa - pa ∧ (lo - pc) * (qa - pa) ≤ (qc - pc) * (t - pa) ∧ (qc - pc) * (t - pa) ≤ (hi - pc) * (qa - pa) else 0 ≤ -(t - pa) ∧ -(t - pa) ≤ -(qa - pa) ∧ (lo - pc) * -(qa - pa) ≤ (qc - pc) * -(t - pa) ∧ (qc - pc) * -(t - pa) ≤ (hi - pc) * -(qa - pa)) ↔ mts pa pc qa qc t lo hi := by
  unfold mts
  have n1 : -(qa - pa) = pa - qa := by omega
  have n2 : -(t - pa) = pa - t := by omega
  rw [n1, n2]
  by_cases q1 : pa = qa
  · rw [if_pos (by omega), if_pos q1]
    omega
  · rw [if_neg (by omega), if_neg q1]
    by_cases q2 : pa < qa
    · rw [if_pos (by omega), if_pos q2]
      generalize (lo - pc) * (qa - pa) = u
      generalize (qc - pc) * (t - pa) = v
      generalize (hi - pc) * (qa - pa) = z
      omega
    · rw [if_neg (by omega), if_neg q2]
      generalize (lo - pc) * (pa - qa) = u
      generalize (qc - pc) * (pa - t) = v
      generalize (hi - pc) * (pa - qa) = z
      omega
theorem meets_c {S : Nat → Int} (hS : SB S) {sg : Hp} {l c k : Nat} {P : Pose} (hk : k < 100) (hP : WP P) (hb : BP k P) (h : CS S sg c P) {w : Nat} (hw : w < 6) (h2 : w / 2 ≠ P.1 / 2) {px py qx qy : Int} (e0 : (sg l 0).toInt = px) (e1 : (sg l 1).toInt = py) (e2 : (sg l 2).toInt = qx) (e3 : (sg l 3).toInt = qy) (b0 : -3100 ≤ px ∧ px ≤ 3100) (b1 : -3100 ≤ py ∧ py ≤ 3100) (b2 : -3100 ≤ qx ∧ qx ≤ 3100) (b3 : -3100 ≤ qy ∧ qy ≤ 3100) : f_Line_meets sg l c (nI (rolN P w)) = some (bI (mtw S P w px py qx qy), sg) := by
  obtain ⟨b, e, n, x, y⟩ := P
  obtain ⟨p1, p3, p4, p5, p6, p7⟩ := hP
  obtain ⟨c0, c1, c2, c3, c4, c5, c6, c7⟩ := h
  obtain ⟨y1, y2, y3, y4⟩ := hb
  simp only at p1 p3 p4 p5 p6 p7 h2 c0 c1 c2 c3 c4 c5 c6 c7 y1 y2 y3 y4
  have s1 := hS (b / 2) (by omega)
  have s2 := hS (e / 2) (by omega)
  have s3 := hS (n / 2) (by omega)
  have d1 : (sg l 2 - sg l 0).toInt = qx - px := by rw [tSub (by omega) (by omega), e2, e0]
  have d2 : (sg l 3 - sg l 1).toInt = qy - py := by rw [tSub (by omega) (by omega), e3, e1]
  have d3 : (sg c 3 - sg l 0).toInt = x - px := by rw [tSub (by omega) (by omega), c3, e0]
  have d4 : (sg c 4 - sg l 1).toInt = y - py := by rw [tSub (by omega) (by omega), c4, e1]
  have d5 : (sg c 3 - sg l 0 + sg c 5).toInt = x + S (e / 2) - px := by rw [tAdd (by omega) (by omega), d3, c5]; omega
  have d6 : (sg c 4 - sg l 1 + sg c 6).toInt = y + S (n / 2) - py := by rw [tAdd (by omega) (by omega), d4, c6]; omega
  unfold f_Line_meets rolN mtw
  simp only
  by_cases q1 : w = e
  · simp only [if_pos q1, show nI 1 = (1 : Int32) from rfl, if_true, f_Line_meets_10, f_Line_meets_15, f_Line_meets_41, f_Line_meets_68, f_Line_meets_95, f_Line_meets_122, f_Line_meets_141, show ((1 : Int32) = 0) = False from by simp, if_false]
    rw [meets_175 (by omega) (by omega) (by omega) (by omega) (by omega), d1, d2, d4, d5, d6]
    exact congrArg (fun v => some (v, sg)) (bI_c (mts_eq ..))
  · simp only [if_neg q1]
    by_cases q2 : w = ow e
    · simp only [if_pos q2, show nI 2 = (2 : Int32) from rfl, show ((2 : Int32) = 1) = False from by simp, show ((2 : Int32) = 3) = False from by simp, if_true, f_Line_meets_10, f_Line_meets_15, f_Line_meets_41, f_Line_meets_68, f_Line_meets_95, f_Line_meets_122, f_Line_meets_141, show ((1 : Int32) = 0) = False from by simp, if_false]
      rw [meets_175 (by omega) (by omega) (by omega) (by omega) (by omega), d1, d2, d3, d4, d6]
      exact congrArg (fun v => some (v, sg)) (bI_c (mts_eq ..))
    · simp only [if_neg q2]
      by_cases q3 : w = n
      · simp only [if_pos q3, show nI 3 = (3 : Int32) from rfl, show ((3 : Int32) = 1) = False from by simp, show ((3 : Int32) = 2) = False from by simp, if_true, f_Line_meets_10, f_Line_meets_15, f_Line_meets_41, f_Line_meets_68, f_Line_meets_95, f_Line_meets_122, f_Line_meets_141, if_false]
        rw [meets_175 (by omega) (by omega) (by omega) (by omega) (by omega), d1, d2, d3, d5, d6]
        exact congrArg (fun v => some (v, sg)) (bI_c (mts_eq ..))
      · simp only [if_neg q3, show nI 4 = (4 : Int32) from rfl, show ((4 : Int32) = 1) = False from by simp, show ((4 : Int32) = 2) = False from by simp, show ((4 : Int32) = 3) = False from by simp, if_true, f_Line_meets_10, f_Line_meets_15, f_Line_meets_41, f_Line_meets_68, f_Line_meets_95, f_Line_meets_122, f_Line_meets_141, if_false]
        rw [meets_175 (by omega) (by omega) (by omega) (by omega) (by omega), d1, d2, d3, d4, d5]
        exact congrArg (fun v => some (v, sg)) (bI_c (mts_eq ..))
