/-! LAID OUT, LIES -/
def lcd (x : Int32) : Nat := if x = 101 then 0 else if x = 119 then 1 else if x = 110 then 2 else 3
theorem lcd_lt (x : Int32) : lcd x < 4 := by
  unfold lcd
  repeat' split
  all_goals omega
theorem lcd_c {x : Int32} (h : ltr x) : (if x = 101 then (1 : Int32) else if x = 110 then 3 else if x = 115 then 4 else if x = 119 then 2 else 0) = nI (lcd x + 1) := by
  unfold lcd
  rcases h with h | h | h | h <;> subst h <;> decide
theorem lcd_m {x : Int32} (h : ltr x) : (if x = 101 then (0 : Int32) else if x = 119 then 1 else if x = 110 then 2 else if x = 115 then 3 else -1) = nI (lcd x) := by
  unfold lcd
  rcases h with h | h | h | h <;> subst h <;> decide
def wLt (P : Pose) (x : Int32) : Nat := wT (wl P) (lcd x)
/-- the pose behind k rolls -/
def gP (S : Nat → Int) (g : Nat → Int32) : Nat → Pose
  | 0 => pst 0
  | k + 1 => prl S (gP S g k) (wLt (gP S g k) (g k))
theorem gP_s {S : Nat → Int} (hS : SB S) (g : Nat → Int32) : ∀ k, WP (gP S g k) ∧ BP k (gP S g k) := by
  intro k
  induction k with
  | zero => exact ⟨pst_wp 0 (by omega), pst_bp 0 0⟩
  | succ k ih =>
    obtain ⟨h1, h2⟩ := ih
    obtain ⟨w1, w2', -, -⟩ := wT_s (S := S) h1 (lcd_lt (g k))
    exact ⟨prl_wp h1 w1 w2', prl_bp hS h1 h2⟩
theorem gP_w {S : Nat → Int} (hS : SB S) (g : Nat → Int32) (k : Nat) : wLt (gP S g k) (g k) < 6 ∧ wLt (gP S g k) (g k) / 2 ≠ (gP S g k).1 / 2 ∧ rolN (gP S g k) (wLt (gP S g k) (g k)) = lcd (g k) + 1 := by
  obtain ⟨w1, w2', w3, -⟩ := wT_s (S := S) (gP_s hS g k).1 (lcd_lt (g k))
  exact ⟨w1, w2', w3⟩
theorem gP_1 (S : Nat → Int) (g : Nat → Int32) (k : Nat) : (gP S g (k + 1)).1 = wLt (gP S g k) (g k) := prl_1 _ _ _
theorem BP.up {k k' : Nat} {P : Pose} (h : BP k P) (hk : k ≤ k') : BP k' P := by
  obtain ⟨y1, y2, y3, y4⟩ := h
  exact ⟨by omega, by omega, by omega, by omega⟩
theorem nv_sz {sg : Hp} (h : IR sg) : (nv sg : Int) ≤ (sg 9 1).toInt := by
  have := h.2.1
  unfold nv
  split <;> omega
theorem behind_l {S : Nat → Int} (hS : SB S) {g : Nat → Int32} {k : Nat} (hk : k ≤ 20) (hg : ∀ j, j < k → ltr (g j)) : ∀ (q j m : Nat) (s : Hp), j + q = k → (k : Int) ≤ (s 9 1).toInt → (∀ i, s 10 i = g i) → CS S s 33 (gP S g j) → ∃ s', f_Box_standBehind_17 (m + q + 1) s (nI k) (nI j) = some s' ∧ CS S s' 33 (gP S g k) ∧ ∀ c, c ≠ 33 → s' c = s c := by
  intro q
  induction q with
  | zero =>
    intro j m s hj h9 h10 hC
    rw [f_Box_standBehind_17, if_pos (nI_le (by omega) (by omega))]
    exact ⟨s, rfl, by rw [show k = j by omega]; exact hC, fun _ _ => rfl⟩
  | succ q ih =>
    intro j m s hj h9 h10 hC
    obtain ⟨p1, p2⟩ := gP_s hS g j
    obtain ⟨w1, w2', w3⟩ := gP_w hS g j
    obtain ⟨s1, e1, e2, e3⟩ := roll_c hS (by omega) p1 p2 hC w1 w2'
    rw [w3] at e1
    rw [show m + (q + 1) + 1 = (m + q + 1) + 1 by omega, f_Box_standBehind_17, if_neg (nI_ge (by omega) (by omega)), if_neg (by rw [nLe, nI_toInt (by omega)]; omega), if_pos (ib (by omega) (by omega)), nI_clamp (by omega), rollOf_c, Option.bind_some, h10, lcd_c (hg j (by omega))]
    dsimp only
    rw [e1, Option.bind_some, nI_1]
    obtain ⟨s', f1, f2, f3⟩ := ih (j + 1) m s1 (by omega) (by rw [e3 9 (by omega)]; exact h9) (by rw [e3 10 (by omega)]; exact h10) e2
    exact ⟨s', f1, f2, fun c hc => by rw [f3 c hc, e3 c hc]⟩
theorem behind_c {n : Nat} {sg s : Hp} (hs : PF n sg s) {k : Nat} (hk : k ≤ nv sg) : ∃ s', f_Box_standBehind s (nI k) = some s' ∧ CS (sS sg) s' 33 (gP (sS sg) (sg 10) k) ∧ (∀ c, c ≠ 33 → s' c = s c) ∧ PF n sg s' := by
  have e2 := hs.2.1 2 (by decide)
  have e9 := hs.2.1 9 (by decide)
  have e10 := hs.2.1 10 (by decide)
  have hS : SB (sS sg) := by
    have := hs.1.sb
    unfold sS at *
    rw [e2] at this
    exact this
  have hR : IR sg := by
    have := hs.1.2.1
    exact this.of e9.symm e10.symm hs.2.2.2.symm (hs.2.1 54 (by decide)).symm
  have h20 := nv_le hR
  have hsz := nv_sz hR
  obtain ⟨s1, f1, f2, f3⟩ := start_c (S := sS sg) (sg := s) (c := 33) (a := 2) (w := 0) (by omega) (by omega) (fun k _ => by rw [e2]; rfl)
  obtain ⟨m, hm⟩ := LFx k (by omega)
  obtain ⟨s', g1, g2, g3⟩ := behind_l hS (g := sg 10) (k := k) (by omega) (fun j hj => nv_ok (by omega)) k 0 m s1 (by omega) (by rw [f3 9 (by omega), e9]; omega) (by rw [f3 10 (by omega), e10]; exact fun _ => rfl) f2
  have E : ∀ c, c ≠ 33 → s' c = s c := fun c hc => by rw [g3 c hc, f3 c hc]
  refine ⟨s', ?_, g2, E, hs.cx (fun c hc => E c (fun q => by subst q; simp [CX] at hc))⟩
  unfold f_Box_standBehind
  rw [nI_0] at f1 g1
  rw [f1, Option.bind_some, hm]
  exact g1
/-- the reference's stands behind 0 to k rolls -/
def GTm (S : Nat → Int) (g : Nat → Int32) (T : Hp) (k : Nat) : Prop := (∀ l, l ≤ k → MS S T l (gP S g l)) ∧ ∀ l, l < k → EG S T l (gP S g l) (gP S g (l + 1)).1
theorem goes_l {S : Nat → Int} (hS : SB S) {g : Nat → Int32} {k : Nat} (hk : k ≤ 20) (hg : ∀ j, j < k → ltr (g j)) : ∀ (q j m : Nat) (s : Hp), j + q = k → SM S s → (∀ i, i < 40 → s 54 i = g i) → GTm S g s j → ∃ s', f_Mod_goesTo_6 (m + q + 1) s (nI k) (nI j) = some s' ∧ GTm S g s' k ∧ ∀ c, c ≠ 55 → c ≠ 56 → s' c = s c := by
  intro q
  induction q with
  | zero =>
    intro j m s hj hM h54 hG
    rw [f_Mod_goesTo_6, if_pos (nI_le (by omega) (by omega))]
    exact ⟨s, rfl, by rw [show k = j by omega]; exact hG, fun _ _ _ => rfl⟩
  | succ q ih =>
    intro j m s hj hM h54 hG
    obtain ⟨p1, p2⟩ := gP_s hS g j
    obtain ⟨w1, w2', w3⟩ := gP_w hS g j
    obtain ⟨T, t1, t2, t3, t4, t5, t6⟩ := turns_m hS hM (l := j) (by omega) (by omega) p1 p2 (hG.1 j (by omega)) w1 w2'
    rw [w3, show lcd (g j) + 1 - 1 = lcd (g j) by omega] at t1
    rw [show m + (q + 1) + 1 = (m + q + 1) + 1 by omega, f_Mod_goesTo_6, if_neg (nI_ge (by omega) (by omega)), if_pos (ib (by omega) (by omega)), nI_clamp (by omega), rollOf_m, Option.bind_some, h54 j (by omega), lcd_m (hg j (by omega))]
    dsimp only
    rw [t1, Option.bind_some, nI_1]
    have hG' : GTm S g T (j + 1) := by
      refine ⟨fun l hl => ?_, fun l hl => ?_⟩
      · by_cases h1 : l = j + 1
        · subst h1; exact t2
        · exact (hG.1 l (by omega)).of (fun i h1 h2 => t5 i (by omega))
      · by_cases h1 : l = j
        · subst h1; rw [gP_1]; exact t3
        · exact (hG.2 l (by omega)).of (fun i h1 h2 => t6 i (by omega))
    obtain ⟨s', f1, f2, f3⟩ := ih (j + 1) m T (by omega) (hM.of (t4 51 (by omega) (by omega))) (by rw [t4 54 (by omega) (by omega)]; exact h54) hG'
    exact ⟨s', f1, f2, fun c c1 c2 => by rw [f3 c c1 c2, t4 c c1 c2]⟩
theorem PF.b {n : Nat} {sg s : Hp} (hs : PF n sg s) : SB (sS sg) ∧ IR sg ∧ IB sg := by
  have hB := hs.1.1
  have hR := hs.1.2.1
  have B : IB sg := hB.of (hs.2.1 2 (by decide)).symm (hs.2.1 3 (by decide)).symm (hs.2.1 4 (by decide)).symm (hs.2.1 5 (by decide)).symm (hs.2.1 6 (by decide)).symm (hs.2.1 51 (by decide)).symm (hs.2.1 52 (by decide)).symm (hs.2.1 53 (by decide)).symm
  exact ⟨B.2.1, hR.of (hs.2.1 9 (by decide)).symm (hs.2.1 10 (by decide)).symm hs.2.2.2.symm (hs.2.1 54 (by decide)).symm, B⟩
theorem PF.eS {n : Nat} {sg s : Hp} (hs : PF n sg s) : sS s = sS sg := by
  funext a
  show (s 2 a).toInt = (sg 2 a).toInt
  rw [hs.2.1 2 (by decide)]
theorem PF.eP {n : Nat} {sg s : Hp} (hs : PF n sg s) (p : Nat) : sP s p = sP sg p := by
  show sA (sS s) (s 3 p).toInt (s 4 p).toInt (s 5 p).toInt = sA (sS sg) (sg 3 p).toInt (sg 4 p).toInt (sg 5 p).toInt
  rw [hs.eS, hs.2.1 3 (by decide), hs.2.1 4 (by decide), hs.2.1 5 (by decide)]
theorem PF.eB {n : Nat} {sg s : Hp} (hs : PF n sg s) : sBar s = sBar sg := by
  funext a b
  show ((s 6 a).toInt.toNat.testBit b = true) = ((sg 6 a).toInt.toNat.testBit b = true)
  rw [hs.2.1 6 (by decide)]
/-- what the reference reads, told of the box as it was -/
theorem PF.me {n : Nat} {sg s : Hp} (hs : PF n sg s) {a b : Nat} (ha : a < 8) (hb : b < 8) : ME (sS sg) (sP sg a) (sP sg b) (sBar sg) a b s := by
  have := hs.1.me ha hb
  rw [hs.eS, hs.eP, hs.eP, hs.eB] at this
  exact this
theorem goes_m {n : Nat} {sg s : Hp} (hs : PF n sg s) {k : Nat} (hk : k ≤ nv sg) : ∃ s', f_Mod_goesTo s (nI k) = some s' ∧ GTm (sS sg) (sg 10) s' k ∧ PF n sg s' := by
  obtain ⟨hS, hR, hB⟩ := hs.b
  have h20 := nv_le hR
  have hM := (hs.me (a := 0) (b := 0) (by omega) (by omega)).1
  obtain ⟨T0, t1, t2, t3, -⟩ := begins_m (sS sg) s
  obtain ⟨m, hm⟩ := LFx k (by omega)
  obtain ⟨s', g1, g2, g3⟩ := goes_l hS (g := sg 10) (k := k) (by omega) (fun j hj => nv_ok (by omega)) k 0 m T0 (by omega) (hM.of (t3 51 (by omega))) (fun i hi => by rw [t3 54 (by omega), hs.2.1 54 (by decide)]; exact hR.2.2.2 i hi) ⟨fun l hl => by rw [show l = 0 by omega]; exact t2, fun l hl => by omega⟩
  refine ⟨s', ?_, g2, hs.mx (fun c c1 _ c3 => by rw [g3 c (by omega) (by omega), t3 c (by omega)]) (by rw [g3 46 (by omega) (by omega), t3 46 (by omega)]) (by rw [g3 46 (by omega) (by omega), t3 46 (by omega)])⟩
  unfold f_Mod_goesTo
  rw [nI_0] at g1
  rw [t1, Option.bind_some, hm]
  exact g1
theorem iOf {x : Int32} {z : Int} (h : x.toInt = z) : x = iI z := by rw [← h, iA]
noncomputable def laidV (sg : Hp) (k what : Nat) : Int32 := if what = 0 then nI (gP (sS sg) (sg 10) k).1 else if what = 1 then iI (gP (sS sg) (sg 10) k).2.2.2.1 else if what = 2 then iI (gP (sS sg) (sg 10) k).2.2.2.2 else if what = 3 then iI (sS sg ((gP (sS sg) (sg 10) k).2.1 / 2)) else iI (sS sg ((gP (sS sg) (sg 10) k).2.2.1 / 2))
theorem c_laidOut {n : Nat} {sg : Hp} {k w : Nat} (hk : k ≤ nv sg) (hw : w < 5) : Q n sg (fun s => f_Box_laidOut s (nI k) (nI w)) (laidV sg k w) := by
  intro s hs
  obtain ⟨hS, hR, hB⟩ := hs.b
  have h20 := nv_le hR
  have hv := valid_c (hs.1.2.1)
  have hnv : nv s = nv sg := by unfold nv fv; rw [hs.2.1 9 (by decide), hs.2.1 10 (by decide)]
  obtain ⟨s', e1, e2, e3, e4⟩ := behind_c hs hk
  refine ⟨s', ?_, e4⟩
  show f_Box_laidOut s (nI k) (nI w) = _
  unfold f_Box_laidOut
  rw [if_neg (nI_pos (by omega)), hv, Option.bind_some]
  dsimp only
  rw [hnv, if_neg (nI_nlt (by omega) (by omega)), if_neg (nI_pos (by omega)), if_pos (by rw [show (4 : Int32) = nI 4 from rfl]; exact nI_le (by omega) (by omega)), e1, Option.bind_some]
  obtain ⟨c0, c1, c2, c3, c4, c5, c6, c7⟩ := e2
  unfold laidV
  rcases (by omega : w = 0 ∨ w = 1 ∨ w = 2 ∨ w = 3 ∨ w = 4) with rfl | rfl | rfl | rfl | rfl
  · rw [if_pos (by decide), if_pos rfl, c0]
  · rw [if_neg (by decide), if_pos (by decide), if_neg (by omega), if_pos rfl, iOf c3]
  · rw [if_neg (by decide), if_neg (by decide), if_pos (by decide), if_neg (by omega), if_neg (by omega), if_pos rfl, iOf c4]
  · rw [if_neg (by decide), if_neg (by decide), if_neg (by decide), if_pos (by decide), if_neg (by omega), if_neg (by omega), if_neg (by omega), if_pos rfl, iOf c5]
  · rw [if_neg (by decide), if_neg (by decide), if_neg (by decide), if_neg (by decide), if_neg (by omega), if_neg (by omega), if_neg (by omega), if_neg (by omega), iOf c6]
theorem m_laidOut {n : Nat} {sg : Hp} {k w : Nat} (hk : k ≤ nv sg) (hw : w < 5) : Q n sg (fun s => f_Mod_laidOf s (nI k) (nI w)) (laidV sg k w) := by
  intro s hs
  obtain ⟨hS, hR, hB⟩ := hs.b
  have h20 := nv_le hR
  obtain ⟨T, e1, ⟨e2, -⟩, e4⟩ := goes_m hs hk
  have hM := (e4.me (a := 0) (b := 0) (by omega) (by omega)).1
  have hP := (gP_s hS (sg 10) k).1
  have h := e2 k (by omega)
  refine ⟨T, ?_, e4⟩
  show f_Mod_laidOf s (nI k) (nI w) = _
  unfold f_Mod_laidOf
  rw [e1, Option.bind_some, bid, bid, bid]
  unfold laidV
  rcases (by omega : w = 0 ∨ w = 1 ∨ w = 2 ∨ w = 3 ∨ w = 4) with rfl | rfl | rfl | rfl | rfl
  · rw [if_pos (by decide), if_pos rfl, faceAt_m (by omega) hP h]
  · rw [if_neg (by decide), if_neg (by decide), if_neg (by omega), if_pos rfl, show nI 1 - (1 : Int32) = nI 0 by decide, southWest_m (by omega) (by omega), iOf h.2.1]
  · rw [if_neg (by decide), if_neg (by decide), if_neg (by omega), if_neg (by omega), if_pos rfl, show nI 2 - (1 : Int32) = nI 1 by decide, southWest_m (by omega) (by omega)]
    rw [iOf h.2.2]
  · obtain ⟨v, f1, f2⟩ := far_m hM (l := k) (d := 0) (by omega) hP.2.1 (fun i hi => (h.1 i hi).1)
    rw [if_neg (by decide), if_pos (by decide), if_neg (by omega), if_neg (by omega), if_neg (by omega), if_pos rfl, show (3 : Int32) * (nI 3 - (3 : Int32)) = nI 0 by decide, f1, iOf f2]
  · obtain ⟨v, f1, f2⟩ := far_m hM (l := k) (d := 3) (by omega) hP.2.2.1 (fun i hi => (h.1 i hi).2.1)
    rw [if_neg (by decide), if_pos (by decide), if_neg (by omega), if_neg (by omega), if_neg (by omega), if_neg (by omega), show (3 : Int32) * (nI 4 - (3 : Int32)) = nI 3 by decide, f1, iOf f2]
theorem PF.eN {n : Nat} {sg s : Hp} (hs : PF n sg s) : f_Rolls_valid s = some (nI (nv sg), s) ∧ f_Mod_rolls s = some (nI (nv sg), s) := by
  have hnv : nv s = nv sg := by unfold nv fv; rw [hs.2.1 9 (by decide), hs.2.1 10 (by decide)]
  rw [← hnv]
  exact ⟨valid_c hs.1.2.1, rolls_m hs.1.2.1 rfl rfl⟩
/-- refused: whatever is asked -/
theorem q_bad2 {n : Nat} {sg : Hp} {f : Hp → Option (Int32 × Hp)} {v : Int32} (h : ∀ s, PF n sg s → f s = some (v, s)) : Q n sg f v := fun s p => ⟨s, h s p, p⟩
theorem Q.eq2 {n : Nat} {sg : Hp} {f g : Hp → Option (Int32 × Hp)} {v : Int32} (h : ∀ s, PF n sg s → f s = g s) (q : Q n sg g v) : Q n sg f v := fun s p => by rw [h s p]; exact q s p
theorem in_nv {s : Hp} {x : Int32} {k : Nat} (hk : k < 100) : f_Mod_in s x.toInt64 (0 : Int64) (nI k).toInt64 = some (if 0 ≤ x.toInt ∧ x.toInt ≤ (k : Int) then 1 else 0, s) := in_i x 0 (nI k).toInt64 (a := 0) (b := k) rfl (by rw [i64T, nI_toInt (by omega)])
theorem k_laidOut : K_laidOut := by
  intro n sg h hn a1 a2
  have h20 := nv_le h.2.1
  by_cases c1 : 0 ≤ a1.toInt ∧ a1.toInt ≤ (nv sg : Int)
  · by_cases c2 : 0 ≤ a2.toInt ∧ a2.toInt ≤ 4
    · obtain ⟨k, hk, rfl⟩ := nI_ex (n := nv sg) c1 (by omega)
      obtain ⟨w, hw, rfl⟩ := nI_ex (n := 4) c2 (by omega)
      refine pair_q h (c_laidOut hk (by omega)) (Q.eq2 (fun s hs => ?_) (m_laidOut hk (by omega)))
      unfold f_Mod_laidOut
      rw [hs.eN.2, Option.bind_some]
      dsimp only
      rw [in_nv (by omega), Option.bind_some]
      dsimp only
      rw [if_b, if_pos c1, in_i (nI w) 0 4 (a := 0) (b := 4) rfl rfl, Option.bind_some]
      dsimp only
      rw [if_b, if_pos c2, bid]
    · refine pair_q h (q_bad2 (v := -10002) (fun s hs => ?_)) (q_bad2 (fun s hs => ?_))
      · unfold f_Box_laidOut
        rw [if_neg (by rw [nLt]; simp; omega), hs.eN.1, Option.bind_some]
        dsimp only
        rw [if_neg (by rw [nLt, nI_toInt (by omega)]; omega)]
        by_cases c3 : a2 < 0
        · rw [if_pos c3]
        · rw [if_neg c3, if_neg (by rw [nLt] at c3; rw [nLe]; simp at c3 ⊢; omega)]
      · unfold f_Mod_laidOut
        rw [hs.eN.2, Option.bind_some]
        dsimp only
        rw [in_nv (by omega), Option.bind_some]
        dsimp only
        rw [if_b, if_pos c1, in_i a2 0 4 (a := 0) (b := 4) rfl rfl, Option.bind_some]
        dsimp only
        rw [if_b, if_neg c2]
  · refine pair_q h (q_bad2 (v := -10002) (fun s hs => ?_)) (q_bad2 (fun s hs => ?_))
    · unfold f_Box_laidOut
      by_cases c3 : a1 < 0
      · rw [if_pos c3]
      · rw [if_neg c3, hs.eN.1, Option.bind_some]
        dsimp only
        rw [if_pos (by rw [nLt] at c3 ⊢; rw [nI_toInt (by omega)]; simp at c3; omega)]
    · unfold f_Mod_laidOut
      rw [hs.eN.2, Option.bind_some]
      dsimp only
      rw [in_nv (by omega), Option.bind_some]
      dsimp only
      rw [if_b, if_neg c1]
/-! lies -/
theorem spot_c {n : Nat} {sg s : Hp} (hs : PF n sg s) {p : Nat} (hp : p < 8) : ∃ s', f_Room_spotOf s (nI p) 35 = some s' ∧ (∀ w, w < 6 → (s' 36 w).toInt = sP sg p w) ∧ (∀ c, c ≠ 36 → s' c = s c) ∧ PF n sg s' := by
  have E : ∀ c, c ≠ 36 → stS s 36 2 (s 3 p) (s 4 p) (s 5 p) c = s c := fun c hc => stS_cell s _ _ _ hc
  refine ⟨_, spotOf_c (b := 36) rfl (by omega) hp, fun w hw => ?_, E, hs.cx (fun c hc => E c (fun q => by subst q; simp [CX] at hc))⟩
  rw [← hs.eP]
  exact spot_v hs.1.1.2.1 (hs.1.1.2.2.2.1 p hp) w hw
theorem on36 {s : Hp} {A : Nat → Int} (h : ∀ w, w < 6 → (s 36 w).toInt = A w) {w : Nat} (hw : w < 6) : f_Spot_isOn s 35 (nI w) = some (if A w = 0 then 1 else 0, s) := by
  rw [isOn_c (b := 36) rfl hw, ← h w hw]
  have z0 : (0 : Int32).toInt = 0 := by decide
  by_cases q : s 36 w = 0
  · rw [if_pos q, if_pos (by rw [q, z0])]
  · rw [if_neg q, if_neg (fun z => q (i_inj (by rw [z, z0])))]
noncomputable def liesV (sg : Hp) (p k w : Nat) : Int32 := if sP sg p (gP (sS sg) (sg 10) k).1 = 0 then (if w = 0 then iI (imX (gP (sS sg) (sg 10) k) (sP sg p)) else iI (imY (gP (sS sg) (sg 10) k) (sP sg p))) else -10003
theorem c_lies {n : Nat} {sg : Hp} {p k w : Nat} (hp : p < 8) (hk : k ≤ nv sg) (hw : w < 2) : Q n sg (fun s => f_Box_lies s (nI p) (nI k) (nI w)) (liesV sg p k w) := by
  intro s hs
  obtain ⟨hS, hR, hB⟩ := hs.b
  have h20 := nv_le hR
  obtain ⟨s1, e1, e2, e3, e4⟩ := behind_c hs hk
  obtain ⟨s2, f1, f2, f3, f4⟩ := spot_c e4 hp
  have hC := e2.of (f3 33 (by omega))
  obtain ⟨p1, p2⟩ := gP_s hS (sg 10) k
  have hA : AW (sS sg) (sP sg p) := sA_aw hS (hB.2.2.2.1 p hp)
  refine ⟨s2, ?_, f4⟩
  show f_Box_lies s (nI p) (nI k) (nI w) = _
  unfold f_Box_lies
  rw [isPlace_c, Option.bind_some]
  dsimp only
  rw [if_b, if_pos (pl8 hp), if_neg (nI_pos (by omega)), hs.eN.1, Option.bind_some]
  dsimp only
  rw [if_neg (nI_nlt (by omega) (by omega)), if_neg (nI_pos (by omega)), if_pos (by rw [show (1 : Int32) = nI 1 from rfl]; exact nI_le (by omega) (by omega)), e1, Option.bind_some, f1, Option.bind_some, hC.1, on36 f2 p1.1, Option.bind_some]
  dsimp only
  rw [if_b]
  unfold liesV
  by_cases q : sP sg p (gP (sS sg) (sg 10) k).1 = 0
  · rw [if_pos q, if_pos q]
    rcases (by omega : w = 0 ∨ w = 1) with rfl | rfl
    · obtain ⟨v, g1, g2⟩ := planeX_c (d := 35) (by omega) p1 p2 hC hA f2
      rw [if_pos (by decide), if_pos rfl, g1, Option.bind_some]
      rw [iOf g2]
    · obtain ⟨v, g1, g2⟩ := planeY_c (d := 35) (by omega) p1 p2 hC hA f2
      rw [if_neg (by decide), if_neg (by omega), g1, Option.bind_some]
      rw [iOf g2]
  · rw [if_neg q, if_neg q]
theorem m_lies {n : Nat} {sg : Hp} {p k w : Nat} (hp : p < 8) (hk : k ≤ nv sg) (hw : w < 2) : Q n sg (fun s => f_Mod_liesOf s (nI p) (nI k) (nI w)) (liesV sg p k w) := by
  intro s hs
  obtain ⟨hS, hR, hB⟩ := hs.b
  have h20 := nv_le hR
  obtain ⟨T, e1, ⟨e2, -⟩, e4⟩ := goes_m hs hk
  obtain ⟨hM, -, hA, -⟩ := e4.me hp hp
  obtain ⟨p1, p2⟩ := gP_s hS (sg 10) k
  have h := e2 k (by omega)
  refine ⟨T, ?_, e4⟩
  show f_Mod_liesOf s (nI p) (nI k) (nI w) = _
  unfold f_Mod_liesOf
  rw [e1, Option.bind_some, faceAt_m (by omega) p1 h, Option.bind_some]
  dsimp only
  rw [isOn_m hM hp p1.1 hA, Option.bind_some]
  dsimp only
  rw [if_b, bid]
  obtain ⟨⟨vx, g1, g2⟩, ⟨vy, g3, g4⟩⟩ := image_xy hS hp (by omega) (by omega) p1 p2 h hA
  unfold liesV
  by_cases q : sP sg p (gP (sS sg) (sg 10) k).1 = 0
  · rw [if_pos q, if_pos q]
    rcases (by omega : w = 0 ∨ w = 1) with rfl | rfl
    · rw [if_pos rfl, nI_0, g1, iOf g2]
    · rw [if_neg (by omega), show nI 1 = (1 : Int32) from rfl, g3, iOf g4]
  · rw [if_neg q, if_neg q]
theorem k_lies : K_lies := by
  intro n sg h hn a1 a2 a3
  have h20 := nv_le h.2.1
  by_cases c1 : 0 ≤ a1.toInt ∧ a1.toInt ≤ 7
  · by_cases c2 : 0 ≤ a2.toInt ∧ a2.toInt ≤ (nv sg : Int)
    · by_cases c3 : 0 ≤ a3.toInt ∧ a3.toInt ≤ 1
      · obtain ⟨a, ha, rfl⟩ := nI_ex (n := 7) c1 (by omega)
        obtain ⟨k, hk, rfl⟩ := nI_ex (n := nv sg) c2 (by omega)
        obtain ⟨w, hw, rfl⟩ := nI_ex (n := 1) c3 (by omega)
        refine pair_q h (c_lies (by omega) hk (by omega)) (Q.eq2 (fun s hs => ?_) (m_lies (by omega) hk (by omega)))
        unfold f_Mod_lies
        rw [isPlace_m, Option.bind_some]
        dsimp only
        rw [if_b, if_pos c1, hs.eN.2, Option.bind_some]
        dsimp only
        rw [in_nv (by omega), Option.bind_some]
        dsimp only
        rw [if_b, if_pos c2, isTwo_m, Option.bind_some]
        dsimp only
        rw [if_b, if_pos c3, bid]
      · refine pair_q h (q_bad2 (v := -10002) (fun s hs => ?_)) (q_bad2 (fun s hs => ?_))
        · unfold f_Box_lies
          rw [isPlace_c, Option.bind_some]
          dsimp only
          rw [if_b, if_pos c1, if_neg (by rw [nLt]; simp; omega), hs.eN.1, Option.bind_some]
          dsimp only
          rw [if_neg (by rw [nLt, nI_toInt (by omega)]; omega)]
          by_cases c4 : a3 < 0
          · rw [if_pos c4]
          · rw [if_neg c4, if_neg (by rw [nLt] at c4; rw [nLe]; simp at c4 ⊢; omega)]
        · unfold f_Mod_lies
          rw [isPlace_m, Option.bind_some]
          dsimp only
          rw [if_b, if_pos c1, hs.eN.2, Option.bind_some]
          dsimp only
          rw [in_nv (by omega), Option.bind_some]
          dsimp only
          rw [if_b, if_pos c2, isTwo_m, Option.bind_some]
          dsimp only
          rw [if_b, if_neg c3]
    · refine pair_q h (q_bad2 (v := -10002) (fun s hs => ?_)) (q_bad2 (fun s hs => ?_))
      · unfold f_Box_lies
        rw [isPlace_c, Option.bind_some]
        dsimp only
        rw [if_b, if_pos c1]
        by_cases c4 : a2 < 0
        · rw [if_pos c4]
        · rw [if_neg c4, hs.eN.1, Option.bind_some]
          dsimp only
          rw [if_pos (by rw [nLt] at c4 ⊢; rw [nI_toInt (by omega)]; simp at c4; omega)]
      · unfold f_Mod_lies
        rw [isPlace_m, Option.bind_some]
        dsimp only
        rw [if_b, if_pos c1, hs.eN.2, Option.bind_some]
        dsimp only
        rw [in_nv (by omega), Option.bind_some]
        dsimp only
        rw [if_b, if_neg c2]
  · refine pair_q h (q_bad2 (v := -10002) (fun s hs => ?_)) (q_bad2 (fun s hs => ?_))
    · unfold f_Box_lies
      rw [isPlace_c, Option.bind_some]
      dsimp only
      rw [if_b, if_neg c1]
    · unfold f_Mod_lies
      rw [isPlace_m, Option.bind_some]
      dsimp only
      rw [if_b, if_neg c1]
