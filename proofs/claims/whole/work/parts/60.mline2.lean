/-! THE REFERENCE'S LINE, from one level to another -/
noncomputable def pI (p : Prop) (a b : Int32) : Int32 :=
  haveI := Classical.propDecidable p
  if p then a else b
theorem pI_t {p : Prop} {a b : Int32} (h : p) : pI p a b = a := by unfold pI; rw [if_pos h]
theorem pI_f {p : Prop} {a b : Int32} (h : ¬ p) : pI p a b = b := by unfold pI; rw [if_neg h]
theorem pI_c {p q : Prop} {a b : Int32} (h : p ↔ q) : pI p a b = pI q a b := by rw [propext h]
theorem meets_m {S : Nat → Int} (hS : SB S) {sg : Hp} {l kk w : Nat} {P : Pose} (hl : l < 40) (hkk : kk < 100) (hP : WP P) (hB : BP kk P) (h : EG S sg l P w) {px py qx qy : Int32} (b0 : -3100 ≤ px.toInt ∧ px.toInt ≤ 3100) (b1 : -3100 ≤ py.toInt ∧ py.toInt ≤ 3100) (b2 : -3100 ≤ qx.toInt ∧ qx.toInt ≤ 3100) (b3 : -3100 ≤ qy.toInt ∧ qy.toInt ≤ 3100) : f_Mod_meets sg (nI l) px py qx qy = some (bI (mtw S P w px.toInt py.toInt qx.toInt qy.toInt), sg) := by
  obtain ⟨e0, e1, e2, e3⟩ := h
  obtain ⟨p1, p3, p4, -, -, -⟩ := hP
  obtain ⟨y1, y2, y3, y4⟩ := hB
  have s1 := hS (P.2.1 / 2) (by omega)
  have s2 := hS (P.2.2.1 / 2) (by omega)
  have i0 : (4 : Int32) * nI l = nI (4 * l) := by rw [show (4 : Int32) = nI 4 from rfl, nI_mul]
  have i2 : nI (4 * l) + (2 : Int32) = nI (4 * l + 2) := by rw [show (2 : Int32) = nI 2 from rfl, nI_add]
  have i3 : nI (4 * l) + (3 : Int32) = nI (4 * l + 3) := by rw [show (3 : Int32) = nI 3 from rfl, nI_add]
  have n10 : ¬ ((1 : Int32) = 0) := by decide
  have m17 : ∀ u : Int32, f_Mod_meets_17 sg (nI l) px py qx qy u = if u = (0 : Int32) then f_Mod_meets_65 sg px py qx qy u (sg 56 (4 * l + 1)) (sg 56 (4 * l + 2)) (sg 56 (4 * l + 3)) py else f_Mod_meets_65 sg px py qx qy u (sg 56 (4 * l + 1)) (sg 56 (4 * l + 2)) (sg 56 (4 * l + 3)) px := by
    intro u
    unfold f_Mod_meets_17
    rw [i0, nI_1, i2, i3, if_pos (ib (by omega) (by omega)), if_pos (ib (by omega) (by omega)), if_pos (ib (by omega) (by omega)), nI_clamp (by omega), nI_clamp (by omega), nI_clamp (by omega)]
  unfold f_Mod_meets
  rw [i0, if_pos (ib (by omega) (by omega)), nI_clamp (by omega), e0, m17, m17]
  unfold f_Mod_meets_65 f_Mod_meets_79 f_Mod_meets_91
  unfold mtw
  by_cases hE : w = P.2.1
  · have hu : w = P.2.1 ∨ w = ow P.2.1 := Or.inl hE
    simp only [if_pos hE] at e1 ⊢
    simp only [if_pos hu] at e2 e3 ⊢
    simp only [if_true, if_neg n10]
    rw [meets_105 (by omega) (by omega) (by omega) (by omega) (by omega) (by omega) (by omega) (by omega), e1, e2, e3]
  · simp only [if_neg hE] at e1 ⊢
    by_cases hW : w = ow P.2.1
    · have hu : w = P.2.1 ∨ w = ow P.2.1 := Or.inr hW
      simp only [if_pos hW] at e1 ⊢
      simp only [if_pos hu] at e2 e3 ⊢
      simp only [if_true, if_neg n10]
      rw [meets_105 (by omega) (by omega) (by omega) (by omega) (by omega) (by omega) (by omega) (by omega), e1, e2, e3]
    · have hu : ¬ (w = P.2.1 ∨ w = ow P.2.1) := fun q => q.elim hE hW
      simp only [if_neg hW] at e1 ⊢
      simp only [if_neg hu] at e2 e3 ⊢
      rw [if_neg (show ¬ ((0 : Int32) = 1) by decide)]
      simp only [if_true]
      by_cases hN : w = P.2.2.1
      · simp only [if_pos hN] at e1 ⊢
        rw [meets_105 (by omega) (by omega) (by omega) (by omega) (by omega) (by omega) (by omega) (by omega), e1, e2, e3]
      · simp only [if_neg hN] at e1 ⊢
        rw [meets_105 (by omega) (by omega) (by omega) (by omega) (by omega) (by omega) (by omega) (by omega), e1, e2, e3]
/-- the reference's bars -/
def MBr (bar : Nat → Nat → Prop) (sg : Hp) : Prop := ∀ w, w < 6 → ∃ x, x < 64 ∧ sg 53 w = nI x ∧ ∀ v, v < 6 → (x.testBit v = true ↔ bar w v)
theorem isIn_m (sg : Hp) {x w : Nat} (hx : x < 64) (hw : w < 6) : f_Mod_isIn sg (nI x) (nI w) = some (bI (x.testBit w = true), sg) := by
  unfold f_Mod_isIn
  by_cases h : x.testBit w = true
  · rw [if_pos ((bit_t x hx w hw).2.mpr h), bI_t h]
  · rw [if_neg (fun q => h ((bit_t x hx w hw).2.mp q)), bI_f h]
/-- the poses of the levels from i to k -/
def LV (S : Nat → Int) (sg : Hp) (Q : Nat → Pose) (kk i k : Nat) : Prop := (∀ l, i ≤ l → l ≤ k → WP (Q l) ∧ BP kk (Q l) ∧ MS S sg l (Q l)) ∧ ∀ l, i ≤ l → l < k → EG S sg l (Q l) (Q (l + 1)).1
def okL (S : Nat → Int) (bar : Nat → Nat → Prop) (Q : Nat → Pose) (k : Nat) (px py qx qy : Int) (j : Nat) : Prop := ∀ l, j ≤ l → l < k → ¬ bar (Q l).1 (Q (l + 1)).1 ∧ mtw S (Q l) (Q (l + 1)).1 px py qx qy
theorem okL_s {S : Nat → Int} {bar : Nat → Nat → Prop} {Q : Nat → Pose} {k : Nat} {px py qx qy : Int} {j : Nat} (hj : j < k) : okL S bar Q k px py qx qy j ↔ (¬ bar (Q j).1 (Q (j + 1)).1 ∧ mtw S (Q j) (Q (j + 1)).1 px py qx qy) ∧ okL S bar Q k px py qx qy (j + 1) := by
  constructor
  · intro h
    exact ⟨h j (by omega) hj, fun l hl => h l (by omega)⟩
  · intro h l hl hl2
    by_cases e : l = j
    · rw [e]; exact h.1
    · exact h.2 l (by omega) hl2
theorem line_l {S : Nat → Int} {bar : Nat → Nat → Prop} (hS : SB S) {sg : Hp} {Q : Nat → Pose} {i k kk : Nat} (hk : k < 40) (hkk : kk < 100) (hQ : LV S sg Q kk i k) (hb : MBr bar sg) {px py qx qy : Int32} (b0 : -3100 ≤ px.toInt ∧ px.toInt ≤ 3100) (b1 : -3100 ≤ py.toInt ∧ py.toInt ≤ 3100) (b2 : -3100 ≤ qx.toInt ∧ qx.toInt ≤ 3100) (b3 : -3100 ≤ qy.toInt ∧ qy.toInt ≤ 3100) : ∀ (n j m : Nat) (ok : Prop), i ≤ j → j + n = k → f_Mod_lineOf_44 (m + n + 1) sg (nI k) px py qx qy (bI ok) (nI j) = some (pI (ok ∧ okL S bar Q k px.toInt py.toInt qx.toInt qy.toInt j) ((qx - px) * (qx - px) + (qy - py) * (qy - py)) (-1), sg) := by
  intro n
  induction n with
  | zero =>
    intro j m ok hi hj
    rw [f_Mod_lineOf_44, if_pos (nI_le (by omega) (by omega))]
    have e : okL S bar Q k px.toInt py.toInt qx.toInt qy.toInt j := fun l h1 h2 => by omega
    by_cases h : ok
    · rw [bI_t h, if_neg (by decide), pI_t ⟨h, e⟩]
    · rw [bI_f h, if_pos rfl, pI_f (fun q => h q.1)]
  | succ n ih =>
    intro j m ok hi hj
    obtain ⟨q1, q2, q3⟩ := hQ.1 j hi (by omega)
    obtain ⟨r1, r2, r3⟩ := hQ.1 (j + 1) (by omega) (by omega)
    obtain ⟨x, x1, x2, x3⟩ := hb (Q j).1 q1.1
    rw [show m + (n + 1) + 1 = (m + n + 1) + 1 by omega, f_Mod_lineOf_44, if_neg (nI_ge (by omega) (by omega)), faceAt_m (by omega) q1 q3, Option.bind_some]
    simp only []
    rw [if_pos (ib q1.1 (by omega)), nI_clamp (by have := q1.1; omega), nI_1, faceAt_m (by omega) r1 r3, Option.bind_some]
    simp only []
    rw [x2, isIn_m sg x1 r1.1, Option.bind_some]
    simp only []
    have hx3 := x3 (Q (j + 1)).1 r1.1
    have st : ∀ ok' : Prop, (ok' ↔ ok ∧ ¬ bar (Q j).1 (Q (j + 1)).1 ∧ mtw S (Q j) (Q (j + 1)).1 px.toInt py.toInt qx.toInt qy.toInt) → f_Mod_lineOf_107 (f_Mod_lineOf_44 (m + n + 1)) sg (nI k) px py qx qy (nI j) (bI ok') = some (pI (ok ∧ okL S bar Q k px.toInt py.toInt qx.toInt qy.toInt j) ((qx - px) * (qx - px) + (qy - py) * (qy - py)) (-1), sg) := by
      intro ok' ho
      unfold f_Mod_lineOf_107
      rw [nI_1, ih (j + 1) m ok' (by omega) (by omega)]
      rw [pI_c]
      rw [okL_s (show j < k by omega), ho]
      constructor
      · rintro ⟨⟨a, b⟩, c⟩
        exact ⟨a, b, c⟩
      · rintro ⟨a, b, c⟩
        exact ⟨⟨a, b⟩, c⟩
    have st0 : (¬ (ok ∧ ¬ bar (Q j).1 (Q (j + 1)).1 ∧ mtw S (Q j) (Q (j + 1)).1 px.toInt py.toInt qx.toInt qy.toInt)) → f_Mod_lineOf_106 (f_Mod_lineOf_44 (m + n + 1)) sg (nI k) px py qx qy (nI j) = some (pI (ok ∧ okL S bar Q k px.toInt py.toInt qx.toInt qy.toInt j) ((qx - px) * (qx - px) + (qy - py) * (qy - py)) (-1), sg) := by
      intro hn
      unfold f_Mod_lineOf_106
      have := st False ⟨fun q => q.elim, fun q => hn q⟩
      rw [bI_f id] at this
      exact this
    by_cases h : ok
    · rw [bI_t h, if_neg (by decide)]
      by_cases hx : x.testBit (Q (j + 1)).1 = true
      · rw [bI_t hx, if_neg (by decide)]
        exact st0 (fun q => q.2.1 (hx3.mp hx))
      · rw [bI_f hx, if_pos rfl, meets_m hS (by omega) hkk q1 q2 (hQ.2 j hi (by omega)) b0 b1 b2 b3, Option.bind_some]
        simp only []
        by_cases hm : mtw S (Q j) (Q (j + 1)).1 px.toInt py.toInt qx.toInt qy.toInt
        · rw [bI_t hm, if_neg (by decide)]
          have := st True ⟨fun _ => ⟨h, fun q => hx (hx3.mpr q), hm⟩, fun _ => trivial⟩
          rw [bI_t trivial] at this
          exact this
        · rw [bI_f hm, if_pos rfl]
          exact st0 (fun q => hm q.2.2)
    · rw [bI_f h, if_pos rfl]
      exact st0 (fun q => h q.1)
theorem line_m {S A B : Nat → Int} {bar : Nat → Nat → Prop} (hS : SB S) {sg : Hp} {Q : Nat → Pose} {a b i k kk : Nat} (ha : a < 8) (hb : b < 8) (hik : i ≤ k) (hk : k < 40) (hkk : kk < 30) (hQ : LV S sg Q kk i k) (hbr : MBr bar sg) (hA : PM S sg a A) (hB : PM S sg b B) : ∃ v, f_Mod_lineOf sg (nI a) (nI i) (nI b) (nI k) = some (v, sg) ∧ (okL S bar Q k (imX (Q i) A) (imY (Q i) A) (imX (Q k) B) (imY (Q k) B) i → v.toInt = (imX (Q k) B - imX (Q i) A) * (imX (Q k) B - imX (Q i) A) + (imY (Q k) B - imY (Q i) A) * (imY (Q k) B - imY (Q i) A) ∧ 0 ≤ v.toInt ∧ v.toInt ≤ 100000000) ∧ (¬ okL S bar Q k (imX (Q i) A) (imY (Q i) A) (imX (Q k) B) (imY (Q k) B) i → v = -1) := by
  obtain ⟨u1, u2, u3⟩ := hQ.1 i (by omega) hik
  obtain ⟨v1, v2, v3⟩ := hQ.1 k hik (by omega)
  obtain ⟨⟨ax, f1, f2⟩, ay, f3, f4⟩ := image_xy hS ha (by omega) (by omega) u1 u2 u3 hA
  obtain ⟨⟨bx, g1, g2⟩, by', g3, g4⟩ := image_xy hS hb (by omega) (by omega) v1 v2 v3 hB
  have B1 := im_bp u1 u2 hA.1
  have B2 := im_bp v1 v2 hB.1
  obtain ⟨m, hm⟩ := LFx (k - i) (by omega)
  have hl := line_l hS hk (by omega) hQ hbr (px := ax) (py := ay) (qx := bx) (qy := by') (by omega) (by omega) (by omega) (by omega) (k - i) i m True (by omega) (by omega)
  unfold f_Mod_lineOf
  rw [f1, Option.bind_some]
  simp only []
  rw [f3, Option.bind_some]
  simp only []
  rw [g1, Option.bind_some]
  simp only []
  rw [g3, Option.bind_some]
  simp only []
  rw [bI_t trivial, ← hm, f2, f4, g2, g4] at hl
  rw [hl]
  refine ⟨_, rfl, fun q => ?_, fun q => pI_f (fun z => q z.2)⟩
  rw [pI_t ⟨trivial, q⟩]
  have dx : (bx - ax).toInt = imX (Q k) B - imX (Q i) A := by rw [tSub (by omega) (by omega), g2, f2]
  have dy : (by' - ay).toInt = imY (Q k) B - imY (Q i) A := by rw [tSub (by omega) (by omega), g4, f4]
  have sx := tMulB (x := bx - ax) (y := bx - ax) (by omega) (by omega)
  have sy := tMulB (x := by' - ay) (y := by' - ay) (by omega) (by omega)
  have bx' := mulB (M := 2000) (x := (bx - ax).toInt) (y := (bx - ax).toInt) (by omega) (by omega)
  have by2 := mulB (M := 2000) (x := (by' - ay).toInt) (y := (by' - ay).toInt) (by omega) (by omega)
  have p : ∀ z : Int, 0 ≤ z * z := fun z => by
    rcases Int.le_total 0 z with h | h
    · exact Int.mul_nonneg h h
    · exact Int.mul_nonneg_of_nonpos_of_nonpos h h
  have p1 := p (bx - ax).toInt
  have p2 := p (by' - ay).toInt
  rw [tAdd (by omega) (by omega), sx.1, sy.1]
  refine ⟨by rw [dx, dy], by omega, by omega⟩
