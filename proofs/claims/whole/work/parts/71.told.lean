/-! TOLD -/
theorem PF.br {n : Nat} {sg s : Hp} (hs : PF n sg s) : ∀ w, w < 6 → ∃ x, x < 64 ∧ s 6 w = nI x ∧ ∀ v, v < 6 → (x.testBit v = true ↔ sBar sg w v) := by
  have := hs.1.bars
  rw [hs.eB] at this
  exact this
theorem stays_l {n : Nat} {sg : Hp} {k : Nat} (hk : k ≤ nv sg) {px py qx qy : Int} (b0 : -3100 ≤ px ∧ px ≤ 3100) (b1 : -3100 ≤ py ∧ py ≤ 3100) (b2 : -3100 ≤ qx ∧ qx ≤ 3100) (b3 : -3100 ≤ qy ∧ qy ≤ 3100) : ∀ (q j m : Nat) (s : Hp), j + q = k → PF n sg s → CS (sS sg) s 33 (gP (sS sg) (sg 10) j) → (s 34 0).toInt = px → (s 34 1).toInt = py → (s 34 2).toInt = qx → (s 34 3).toInt = qy → ∃ s', f_Box_lineStaysWithin_7 (m + q + 1) s (nI k) (nI j) = some (bI (okL (sS sg) (sBar sg) (gP (sS sg) (sg 10)) k px py qx qy j), s') ∧ PF n sg s' ∧ s' 34 = s 34 := by
  intro q
  induction q with
  | zero =>
    intro j m s hj hs hC e0 e1 e2 e3
    have h20 := nv_le hs.b.2.1
    have hok : okL (sS sg) (sBar sg) (gP (sS sg) (sg 10)) k px py qx qy j := fun l h1 h2 => by omega
    rw [f_Box_lineStaysWithin_7, if_pos (nI_le (by omega) (by omega)), bI_t hok]
    exact ⟨s, rfl, hs, rfl⟩
  | succ q ih =>
    intro j m s hj hs hC e0 e1 e2 e3
    obtain ⟨hS, hR, hB⟩ := hs.b
    have h20 := nv_le hR
    have hsz := nv_sz hR
    obtain ⟨p1, p2⟩ := gP_s hS (sg 10) j
    obtain ⟨w1, w2', w3⟩ := gP_w hS (sg 10) j
    have hl : ltr (sg 10 j) := nv_ok (by omega)
    have hm := meets_c hS (l := 34) (k := j) (by omega) p1 p2 hC w1 w2' e0 e1 e2 e3 b0 b1 b2 b3
    obtain ⟨s1, r1, r2, r3⟩ := roll_c hS (k := j) (by omega) p1 p2 hC w1 w2'
    rw [w3] at hm r1
    rw [show m + (q + 1) + 1 = (m + q + 1) + 1 by omega, f_Box_lineStaysWithin_7, if_neg (nI_ge (by omega) (by omega)), if_neg (by rw [nLe, nI_toInt (by omega), hs.2.1 9 (by decide)]; omega), if_pos (ib (by omega) (by omega)), nI_clamp (by omega), rollOf_c, Option.bind_some, hs.2.1 10 (by decide), lcd_c hl]
    dsimp only
    rw [hm, Option.bind_some]
    dsimp only
    have hok := okL_s (S := sS sg) (bar := sBar sg) (Q := gP (sS sg) (sg 10)) (k := k) (px := px) (py := py) (qx := qx) (qy := qy) (j := j) (by omega)
    rw [gP_1] at hok
    by_cases q1 : mtw (sS sg) (gP (sS sg) (sg 10) j) (wLt (gP (sS sg) (sg 10) j) (sg 10 j)) px py qx qy
    · rw [bI_t q1, if_neg (by decide), r1, Option.bind_some]
      have P1 : PF n sg s1 := hs.cx (fun c hc => r3 c (fun q => by subst q; simp [CX] at hc))
      obtain ⟨x, x1, x2, x3⟩ := P1.br (gP (sS sg) (sg 10) j).1 p1.1
      have c0 : s1 33 0 = nI (wLt (gP (sS sg) (sg 10) j) (sg 10 j)) := by rw [r2.1, prl_1]
      rw [hC.1, c0, isBarred_c p1.1 w1 x1 x2, Option.bind_some]
      dsimp only
      by_cases q2 : sBar sg (gP (sS sg) (sg 10) j).1 (wLt (gP (sS sg) (sg 10) j) (sg 10 j))
      · rw [if_pos ((x3 _ w1).mpr q2), if_neg (by decide), bI_f (fun z => (hok.mp z).1.1 q2)]
        exact ⟨s1, rfl, P1, r3 34 (by omega)⟩
      · rw [if_neg (fun z => q2 ((x3 _ w1).mp z)), if_pos rfl, nI_1]
        have e34 := r3 34 (by omega)
        obtain ⟨s', f1, f2, f3⟩ := ih (j + 1) m s1 (by omega) P1 r2 (by rw [e34]; exact e0) (by rw [e34]; exact e1) (by rw [e34]; exact e2) (by rw [e34]; exact e3)
        refine ⟨s', ?_, f2, by rw [f3, e34]⟩
        rw [f1]
        exact congrArg (fun v => some (v, s')) (bI_c ⟨fun z => hok.mpr ⟨⟨q2, q1⟩, z⟩, fun z => (hok.mp z).2⟩)
    · rw [bI_f q1, if_pos rfl, bI_f (fun z => q1 (hok.mp z).1.2)]
      exact ⟨s, rfl, hs, rfl⟩
/-- what the told way answers -/
noncomputable def toldV (sg : Hp) (a i b k : Nat) : Int32 :=
  haveI := Classical.propDecidable (sP sg a (gP (sS sg) (sg 10) i).1 = 0 ∧ sP sg b (gP (sS sg) (sg 10) k).1 = 0 ∧ okL (sS sg) (sBar sg) (gP (sS sg) (sg 10)) k (imX (gP (sS sg) (sg 10) i) (sP sg a)) (imY (gP (sS sg) (sg 10) i) (sP sg a)) (imX (gP (sS sg) (sg 10) k) (sP sg b)) (imY (gP (sS sg) (sg 10) k) (sP sg b)) i)
  if sP sg a (gP (sS sg) (sg 10) i).1 = 0 ∧ sP sg b (gP (sS sg) (sg 10) k).1 = 0 ∧ okL (sS sg) (sBar sg) (gP (sS sg) (sg 10)) k (imX (gP (sS sg) (sg 10) i) (sP sg a)) (imY (gP (sS sg) (sg 10) i) (sP sg a)) (imX (gP (sS sg) (sg 10) k) (sP sg b)) (imY (gP (sS sg) (sg 10) k) (sP sg b)) i then iI (dd (gP (sS sg) (sg 10) i) (sP sg a) (gP (sS sg) (sg 10) k) (sP sg b)) else -3
theorem told_t {sg : Hp} {a i b k : Nat} (h1 : sP sg a (gP (sS sg) (sg 10) i).1 = 0) (h2 : sP sg b (gP (sS sg) (sg 10) k).1 = 0) (h3 : okL (sS sg) (sBar sg) (gP (sS sg) (sg 10)) k (imX (gP (sS sg) (sg 10) i) (sP sg a)) (imY (gP (sS sg) (sg 10) i) (sP sg a)) (imX (gP (sS sg) (sg 10) k) (sP sg b)) (imY (gP (sS sg) (sg 10) k) (sP sg b)) i) : toldV sg a i b k = iI (dd (gP (sS sg) (sg 10) i) (sP sg a) (gP (sS sg) (sg 10) k) (sP sg b)) := by
  unfold toldV
  rw [if_pos ⟨h1, h2, h3⟩]
theorem told_f {sg : Hp} {a i b k : Nat} (h : ¬ (sP sg a (gP (sS sg) (sg 10) i).1 = 0 ∧ sP sg b (gP (sS sg) (sg 10) k).1 = 0 ∧ okL (sS sg) (sBar sg) (gP (sS sg) (sg 10)) k (imX (gP (sS sg) (sg 10) i) (sP sg a)) (imY (gP (sS sg) (sg 10) i) (sP sg a)) (imX (gP (sS sg) (sg 10) k) (sP sg b)) (imY (gP (sS sg) (sg 10) k) (sP sg b)) i)) : toldV sg a i b k = -3 := by
  unfold toldV
  rw [if_neg h]
theorem c_told {n : Nat} {sg : Hp} {a i b k : Nat} (ha : a < 8) (hb : b < 8) (hik : i ≤ k) (hk : k ≤ nv sg) : Q n sg (fun s => f_Box_told s (nI a) (nI i) (nI b) (nI k)) (toldV sg a i b k) := by
  intro s hs
  obtain ⟨hS, hR, hB⟩ := hs.b
  have h20 := nv_le hR
  obtain ⟨p1, p2⟩ := gP_s hS (sg 10) i
  obtain ⟨q1, q2⟩ := gP_s hS (sg 10) k
  have hA : AW (sS sg) (sP sg a) := sA_aw hS (hB.2.2.2.1 a ha)
  have hBb : AW (sS sg) (sP sg b) := sA_aw hS (hB.2.2.2.1 b hb)
  obtain ⟨s1, e1, e2, e3, e4⟩ := behind_c hs (show i ≤ nv sg by omega)
  obtain ⟨s2, f1, f2, f3, f4⟩ := spot_c e4 ha
  have hC := e2.of (f3 33 (by omega))
  have top : f_Box_told s (nI a) (nI i) (nI b) (nI k) = (if (if sP sg a (gP (sS sg) (sg 10) i).1 = 0 then (1 : Int32) else 0) = (0 : Int32) then some ((-3 : Int32), s2) else (f_Stand_planeX s2 33 35).bind fun y7 => (f_Stand_planeY y7.2 33 35).bind fun y8 => (f_Line_begin y8.2 34 y7.1 y8.1).bind fun y9 => (f_Box_standBehind y9 (nI k)).bind fun y10 => (f_Room_spotOf y10 (nI b) 35).bind fun y11 => (f_Spot_isOn y11 35 (y11 33 0)).bind fun y12 => if y12.1 = (0 : Int32) then some ((-3 : Int32), y12.2) else (f_Stand_planeX y12.2 33 35).bind fun y13 => (f_Stand_planeY y13.2 33 35).bind fun y14 => (f_Line_end y14.2 34 y13.1 y14.1).bind fun y15 => (f_Box_lineStaysWithin y15 (nI i) (nI k)).bind fun y16 => if y16.1 = (0 : Int32) then some ((-3 : Int32), y16.2) else (f_Line_square y16.2 34).bind fun y17 => some (y17.1, y17.2)) := by
    unfold f_Box_told
    rw [isPlace_c, Option.bind_some]
    dsimp only
    rw [if_b, if_pos (pl8 ha), isPlace_c, Option.bind_some]
    dsimp only
    rw [if_b, if_pos (pl8 hb), if_neg (nI_pos (by omega)), if_neg (nI_nlt (by omega) (by omega)), hs.eN.1, Option.bind_some]
    dsimp only
    rw [if_pos (nI_le (by omega) (by omega)), e1, Option.bind_some, f1, Option.bind_some, hC.1, on36 f2 p1.1, Option.bind_some]
  show ∃ s', f_Box_told s (nI a) (nI i) (nI b) (nI k) = _ ∧ _
  rw [top, if_b]
  by_cases z1 : sP sg a (gP (sS sg) (sg 10) i).1 = 0
  · rw [if_pos z1]
    obtain ⟨vx, g1, g2⟩ := planeX_c (d := 35) (by omega) p1 p2 hC hA f2
    obtain ⟨vy, g3, g4⟩ := planeY_c (d := 35) (by omega) p1 p2 hC hA f2
    rw [g1, Option.bind_some]
    dsimp only
    rw [g3, Option.bind_some]
    dsimp only
    generalize hs3 : w2 (w2 s2 34 0 vx) 34 1 vy = s3
    have l1 : f_Line_begin s2 34 vx vy = some s3 := by
      unfold f_Line_begin
      rw [Option.bind_some, Option.bind_some, hs3]
    rw [l1, Option.bind_some]
    have P3 : PF n sg s3 := f4.cx (fun c hc => by rw [← hs3, w2_cell _ (fun q => by subst q; simp [CX] at hc), w2_cell _ (fun q => by subst q; simp [CX] at hc)])
    obtain ⟨s4, e1', e2', e3', e4'⟩ := behind_c P3 hk
    obtain ⟨s5, f1', f2', f3', f4'⟩ := spot_c e4' hb
    have hC' := e2'.of (f3' 33 (by omega))
    rw [e1', Option.bind_some, f1', Option.bind_some, hC'.1, on36 f2' q1.1, Option.bind_some]
    dsimp only
    rw [if_b]
    by_cases z2 : sP sg b (gP (sS sg) (sg 10) k).1 = 0
    · rw [if_pos z2]
      obtain ⟨wx, k1, k2⟩ := planeX_c (d := 35) (by omega) q1 q2 hC' hBb f2'
      obtain ⟨wy, k3, k4⟩ := planeY_c (d := 35) (by omega) q1 q2 hC' hBb f2'
      rw [k1, Option.bind_some]
      dsimp only
      rw [k3, Option.bind_some]
      dsimp only
      generalize hs6 : w2 (w2 s5 34 2 wx) 34 3 wy = s6
      have l2 : f_Line_end s5 34 wx wy = some s6 := by
        unfold f_Line_end
        rw [Option.bind_some, Option.bind_some, hs6]
      rw [l2, Option.bind_some]
      have P6 : PF n sg s6 := f4'.cx (fun c hc => by rw [← hs6, w2_cell _ (fun q => by subst q; simp [CX] at hc), w2_cell _ (fun q => by subst q; simp [CX] at hc)])
      have e34 : s5 34 = s3 34 := by rw [f3' 34 (by omega), e3' 34 (by omega)]
      have L0 : s6 34 0 = vx := by rw [← hs6, w2_ne (by omega), w2_ne (by omega), e34, ← hs3, w2_ne (by omega), w2_at]
      have L1 : s6 34 1 = vy := by rw [← hs6, w2_ne (by omega), w2_ne (by omega), e34, ← hs3, w2_at]
      have L2 : s6 34 2 = wx := by rw [← hs6, w2_ne (by omega), w2_at]
      have L3 : s6 34 3 = wy := by rw [← hs6, w2_at]
      obtain ⟨s7, m1, m2, m3, m4⟩ := behind_c P6 (show i ≤ nv sg by omega)
      have B1 := im_bp p1 p2 hA
      have B2 := im_bp q1 q2 hBb
      have m34 := m3 34 (by omega)
      obtain ⟨mm, hmm⟩ := LFx (k - i) (by omega)
      obtain ⟨s8, n1, n2, n3⟩ := stays_l hk (px := imX (gP (sS sg) (sg 10) i) (sP sg a)) (py := imY (gP (sS sg) (sg 10) i) (sP sg a)) (qx := imX (gP (sS sg) (sg 10) k) (sP sg b)) (qy := imY (gP (sS sg) (sg 10) k) (sP sg b)) (by omega) (by omega) (by omega) (by omega) (k - i) i mm s7 (by omega) m4 m2 (by rw [m34, L0]; exact g2) (by rw [m34, L1]; exact g4) (by rw [m34, L2]; exact k2) (by rw [m34, L3]; exact k4)
      have hw : f_Box_lineStaysWithin s6 (nI i) (nI k) = some (bI (okL (sS sg) (sBar sg) (gP (sS sg) (sg 10)) k (imX (gP (sS sg) (sg 10) i) (sP sg a)) (imY (gP (sS sg) (sg 10) i) (sP sg a)) (imX (gP (sS sg) (sg 10) k) (sP sg b)) (imY (gP (sS sg) (sg 10) k) (sP sg b)) i), s8) := by
        unfold f_Box_lineStaysWithin
        rw [m1, Option.bind_some, hmm]
        exact n1
      rw [hw, Option.bind_some]
      dsimp only
      by_cases z3 : okL (sS sg) (sBar sg) (gP (sS sg) (sg 10)) k (imX (gP (sS sg) (sg 10) i) (sP sg a)) (imY (gP (sS sg) (sg 10) i) (sP sg a)) (imX (gP (sS sg) (sg 10) k) (sP sg b)) (imY (gP (sS sg) (sg 10) k) (sP sg b)) i
      · rw [bI_t z3, if_neg (by decide), bid, told_t z1 z2 z3]
        refine ⟨s8, ?_, n2⟩
        unfold f_Line_square
        rw [n3, m34, L0, L1, L2, L3]
        have dx : (wx - vx).toInt = imX (gP (sS sg) (sg 10) k) (sP sg b) - imX (gP (sS sg) (sg 10) i) (sP sg a) := by rw [tSub (by omega) (by omega), k2, g2]
        have dy : (wy - vy).toInt = imY (gP (sS sg) (sg 10) k) (sP sg b) - imY (gP (sS sg) (sg 10) i) (sP sg a) := by rw [tSub (by omega) (by omega), k4, g4]
        have sx := tMulB (x := wx - vx) (y := wx - vx) (by omega) (by omega)
        have sy := tMulB (x := wy - vy) (y := wy - vy) (by omega) (by omega)
        have hq : ((wx - vx) * (wx - vx) + (wy - vy) * (wy - vy)).toInt = dd (gP (sS sg) (sg 10) i) (sP sg a) (gP (sS sg) (sg 10) k) (sP sg b) := by
          rw [tAdd (by omega) (by omega), sx.1, sy.1, dx, dy]
          rfl
        rw [iOf hq]
      · rw [bI_f z3, if_pos rfl, told_f (fun z => z3 z.2.2)]
        exact ⟨s8, rfl, n2⟩
    · rw [if_neg z2, told_f (fun z => z2 z.2.1)]
      exact ⟨s5, rfl, f4'⟩
  · rw [if_neg z1, told_f (fun z => z1 z.1)]
    exact ⟨s2, rfl, f4⟩
theorem m_told {n : Nat} {sg : Hp} {a i b k : Nat} (ha : a < 8) (hb : b < 8) (hik : i ≤ k) (hk : k ≤ nv sg) : Q n sg (fun s => f_Mod_toldOf s (nI a) (nI i) (nI b) (nI k)) (toldV sg a i b k) := by
  intro s hs
  obtain ⟨hS, hR, hB⟩ := hs.b
  have h20 := nv_le hR
  obtain ⟨p1, p2⟩ := gP_s hS (sg 10) i
  obtain ⟨q1, q2⟩ := gP_s hS (sg 10) k
  obtain ⟨T, e1, ⟨e2, e3⟩, e4⟩ := goes_m hs hk
  obtain ⟨hM, hbr, hA, hBb⟩ := e4.me ha hb
  have hlv : LV (sS sg) T (gP (sS sg) (sg 10)) 20 i k := ⟨fun l h1 h2 => ⟨(gP_s hS (sg 10) l).1, (gP_s hS (sg 10) l).2.up (by omega), e2 l (by omega)⟩, fun l h1 h2 => e3 l (by omega)⟩
  obtain ⟨v, g1, g2, g3⟩ := line_m hS ha hb hik (by omega) (by omega) hlv hbr hA hBb
  refine ⟨T, ?_, e4⟩
  show f_Mod_toldOf s (nI a) (nI i) (nI b) (nI k) = _
  unfold f_Mod_toldOf
  rw [e1, Option.bind_some, faceAt_m (by omega) p1 (e2 i (by omega)), Option.bind_some]
  dsimp only
  rw [isOn_m hM ha p1.1 hA, Option.bind_some]
  dsimp only
  rw [if_b]
  by_cases z1 : sP sg a (gP (sS sg) (sg 10) i).1 = 0
  · rw [if_pos z1, faceAt_m (by omega) q1 (e2 k (by omega)), Option.bind_some]
    dsimp only
    rw [isOn_m hM hb q1.1 hBb, Option.bind_some]
    dsimp only
    rw [if_b]
    by_cases z2 : sP sg b (gP (sS sg) (sg 10) k).1 = 0
    · rw [if_pos z2, g1, Option.bind_some]
      dsimp only
      by_cases z3 : okL (sS sg) (sBar sg) (gP (sS sg) (sg 10)) k (imX (gP (sS sg) (sg 10) i) (sP sg a)) (imY (gP (sS sg) (sg 10) i) (sP sg a)) (imX (gP (sS sg) (sg 10) k) (sP sg b)) (imY (gP (sS sg) (sg 10) k) (sP sg b)) i
      · obtain ⟨k1, k2, k3⟩ := g2 z3
        rw [if_neg (fun q => by rw [q] at k2; exact absurd k2 (by decide)), told_t z1 z2 z3, iOf k1]
        rfl
      · rw [g3 z3, if_pos rfl, told_f (fun z => z3 z.2.2)]
    · rw [if_neg z2, told_f (fun z => z2 z.2.1)]
  · rw [if_neg z1, told_f (fun z => z1 z.1)]
theorem k_told : K_told := by
  intro n sg h hn a1 a2 a3 a4
  have h20 := nv_le h.2.1
  by_cases c1 : 0 ≤ a1.toInt ∧ a1.toInt ≤ 7
  · by_cases c3 : 0 ≤ a3.toInt ∧ a3.toInt ≤ 7
    · have mtop : ∀ s, PF n sg s → f_Mod_told s a1 a2 a3 a4 = if 0 ≤ a4.toInt ∧ a4.toInt ≤ (nv sg : Int) then (if 0 ≤ a2.toInt ∧ a2.toInt ≤ a4.toInt then f_Mod_toldOf s a1 a2 a3 a4 else some (-2, s)) else some (-2, s) := by
        intro s hs
        unfold f_Mod_told
        rw [isPlace_m, Option.bind_some]
        dsimp only
        rw [if_b, if_pos c1, isPlace_m, Option.bind_some]
        dsimp only
        rw [if_b, if_pos c3, hs.eN.2, Option.bind_some]
        dsimp only
        rw [in_nv (by omega), Option.bind_some]
        dsimp only
        rw [if_b, in_i a2 0 a4.toInt64 (a := 0) (b := a4.toInt) rfl (i64T a4), Option.bind_some]
        dsimp only
        rw [if_b, bid]
      by_cases c4 : (0 ≤ a4.toInt ∧ a4.toInt ≤ (nv sg : Int)) ∧ 0 ≤ a2.toInt ∧ a2.toInt ≤ a4.toInt
      · obtain ⟨a, ha, rfl⟩ := nI_ex (n := 7) c1 (by omega)
        obtain ⟨b, hb, rfl⟩ := nI_ex (n := 7) c3 (by omega)
        obtain ⟨k, hk, rfl⟩ := nI_ex (n := nv sg) c4.1 (by omega)
        have hkk : (nI k).toInt = (k : Int) := nI_toInt (by omega)
        obtain ⟨i, hi, rfl⟩ := nI_ex (x := a2) (n := k) (by omega) (by omega)
        refine pair_q h (c_told (by omega) (by omega) hi hk) (Q.eq2 (fun s hs => ?_) (m_told (by omega) (by omega) hi hk))
        show f_Mod_told s _ _ _ _ = _
        rw [mtop s hs, if_pos c4.1, if_pos c4.2]
      · refine pair_q h (q_bad2 (v := -2) (fun s hs => ?_)) (q_bad2 (fun s hs => ?_))
        · unfold f_Box_told
          rw [isPlace_c, Option.bind_some]
          dsimp only
          rw [if_b, if_pos c1, isPlace_c, Option.bind_some]
          dsimp only
          rw [if_b, if_pos c3]
          by_cases c5 : a2 < 0
          · rw [if_pos c5]
          · rw [if_neg c5]
            by_cases c6 : a4 < a2
            · rw [if_pos c6]
            · rw [if_neg c6, hs.eN.1, Option.bind_some]
              dsimp only
              rw [if_neg (by rw [nLt] at c5 c6; rw [nLe, nI_toInt (by omega)]; simp at c5; omega)]
        · show f_Mod_told s _ _ _ _ = _
          rw [mtop s hs]
          by_cases c5 : 0 ≤ a4.toInt ∧ a4.toInt ≤ (nv sg : Int)
          · rw [if_pos c5, if_neg (fun z => c4 ⟨c5, z⟩)]
          · rw [if_neg c5]
    · refine pair_q h (q_bad2 (v := -2) (fun s hs => ?_)) (q_bad2 (fun s hs => ?_))
      · unfold f_Box_told
        rw [isPlace_c, Option.bind_some]
        dsimp only
        rw [if_b, if_pos c1, isPlace_c, Option.bind_some]
        dsimp only
        rw [if_b, if_neg c3]
      · unfold f_Mod_told
        rw [isPlace_m, Option.bind_some]
        dsimp only
        rw [if_b, if_pos c1, isPlace_m, Option.bind_some]
        dsimp only
        rw [if_b, if_neg c3]
  · refine pair_q h (q_bad2 (v := -2) (fun s hs => ?_)) (q_bad2 (fun s hs => ?_))
    · unfold f_Box_told
      rw [isPlace_c, Option.bind_some]
      dsimp only
      rw [if_b, if_neg c1]
    · unfold f_Mod_told
      rw [isPlace_m, Option.bind_some]
      dsimp only
      rw [if_b, if_neg c1]
