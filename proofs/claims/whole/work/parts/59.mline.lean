/-! THE REFERENCE'S LINE -/
theorem begins_l : ∀ (k j m : Nat) (sg : Hp), j + k = 14 → ∃ T, f_Mod_begins_2 (m + k + 1) sg (nI j) = some T ∧ (∀ c, c ≠ 55 → T c = sg c) ∧ ∀ i, T 55 i = if j ≤ i ∧ i < 14 then (if i = 0 ∨ i = 4 ∨ i = 8 then 1 else 0) else sg 55 i := by
  intro k
  induction k with
  | zero =>
    intro j m sg h
    rw [f_Mod_begins_2, if_pos (by rw [show (14 : Int32) = nI 14 from rfl]; exact nI_le (by omega) (by omega))]
    exact ⟨sg, rfl, fun _ _ => rfl, fun i => by rw [if_neg (by omega)]⟩
  | succ k ih =>
    intro j m sg h
    have st : ∀ v : Int32, (v = if j = 0 ∨ j = 4 ∨ j = 8 then 1 else 0) → ∃ T, f_Mod_begins_33 (f_Mod_begins_2 (m + k + 1)) sg (nI j) (nI j) v = some T ∧ (∀ c, c ≠ 55 → T c = sg c) ∧ ∀ i, T 55 i = if j ≤ i ∧ i < 14 then (if i = 0 ∨ i = 4 ∨ i = 8 then 1 else 0) else sg 55 i := by
      intro v hv
      unfold f_Mod_begins_33
      rw [if_pos (ib (by omega) (by omega)), Option.bind_some, nI_clamp (by omega), nI_1]
      obtain ⟨T, g1, g2, g3⟩ := ih (j + 1) m (w2 sg 55 j v) (by omega)
      refine ⟨T, g1, fun c hc => by rw [g2 c hc, w2_cell _ hc], fun i => ?_⟩
      rw [g3 i]
      by_cases hi : i = j
      · rw [if_neg (by omega), if_pos (by omega), hi, w2_at, hv]
      · rw [w2_ne (by omega)]
        by_cases h2 : j ≤ i ∧ i < 14
        · rw [if_pos h2, if_pos (by omega)]
        · rw [if_neg h2, if_neg (by omega)]
    have e0 : nI j = (0 : Int32) ↔ j = 0 := nI_eq (b := 0) (by omega) (by omega)
    have e4 : nI j = (4 : Int32) ↔ j = 4 := nI_eq (b := 4) (by omega) (by omega)
    have e8 : nI j = (8 : Int32) ↔ j = 8 := nI_eq (b := 8) (by omega) (by omega)
    rw [show m + (k + 1) + 1 = (m + k + 1) + 1 by omega, f_Mod_begins_2, if_neg (by rw [show (14 : Int32) = nI 14 from rfl]; exact nI_ge (by omega) (by omega))]
    unfold f_Mod_begins_28
    by_cases h0 : j = 0
    · rw [if_pos (e0.mpr h0)]
      exact st 1 (by rw [if_pos (by omega)])
    · rw [if_neg (fun q => h0 (e0.mp q))]
      by_cases h4 : j = 4
      · rw [if_pos (e4.mpr h4)]
        exact st 1 (by rw [if_pos (by omega)])
      · rw [if_neg (fun q => h4 (e4.mp q))]
        by_cases h8 : j = 8
        · rw [if_pos (e8.mpr h8)]
          exact st 1 (by rw [if_pos (by omega)])
        · rw [if_neg (fun q => h8 (e8.mp q))]
          exact st 0 (by rw [if_neg (by omega)])
theorem begins_m (S : Nat → Int) (sg : Hp) : ∃ T, f_Mod_begins sg = some T ∧ MS S T 0 (pst 0) ∧ (∀ c, c ≠ 55 → T c = sg c) ∧ ∀ i, 14 ≤ i → T 55 i = sg 55 i := by
  unfold f_Mod_begins
  obtain ⟨m, hm⟩ := LFx 14 (by omega)
  obtain ⟨T, g1, g2, g3⟩ := begins_l 14 0 m sg (by omega)
  rw [nI_0] at g1
  rw [hm]
  refine ⟨T, g1, ⟨fun k hk => ?_, by rw [g3]; rfl, by rw [g3]; rfl⟩, g2, fun i hi => by rw [g3, if_neg (by omega)]⟩
  rw [g3, g3, g3, g3]
  rcases (by omega : k = 0 ∨ k = 1 ∨ k = 2) with rfl | rfl | rfl
  · refine ⟨?_, ?_, ?_, ?_⟩ <;> first | rfl | simp [dirN, axN, pst, ow, corN, cwN]
  · refine ⟨?_, ?_, ?_, ?_⟩ <;> first | rfl | simp [dirN, axN, pst, ow, corN, cwN]
  · refine ⟨?_, ?_, ?_, ?_⟩ <;> first | rfl | simp [dirN, axN, pst, ow, corN, cwN]
/-- the reference's place p is the spot A -/
def PM (S : Nat → Int) (sg : Hp) (p : Nat) (A : Nat → Int) : Prop := AW S A ∧ A = sA S (sg 52 (3 * p)).toInt (sg 52 (3 * p + 1)).toInt (sg 52 (3 * p + 2)).toInt
theorem image_s {sg : Hp} {p l d k : Nat} {v : Int32} (hp : p < 8) (hl : l < 40) (hd : d < 6) (hk : k < 3) (n : Nat) : f_Mod_imageOf_17 (n + 1) sg (nI p) (nI d) (nI (14 * l)) v (nI k) = f_Mod_imageOf_17 n sg (nI p) (nI d) (nI (14 * l)) (v + (sg 52 (3 * p + k) - sg 55 (14 * l + 9 + k)) * sg 55 (14 * l + d + k)) (nI (k + 1)) := by
  rw [f_Mod_imageOf_17, if_neg (by rw [show (3 : Int32) = nI 3 from rfl]; exact nI_ge (by omega) (by omega)), show (3 : Int32) = nI 3 from rfl, show (9 : Int32) = nI 9 from rfl]
  simp only [nI_mul, nI_add, nI_1]
  rw [if_pos (ib (by omega) (by omega)), if_pos (ib (by omega) (by omega)), if_pos (ib (by omega) (by omega)), nI_clamp (by omega), nI_clamp (by omega), nI_clamp (by omega)]
theorem image_m {S : Nat → Int} (hS : SB S) {sg : Hp} {p l d wy kk E : Nat} {P : Pose} {A : Nat → Int} (hp : p < 8) (hl : l < 40) (hkk : kk < 100) (hP : WP P) (hE : E < 6) (hw : (d = 0 ∧ wy = 0) ∨ (d = 3 ∧ wy = 1)) (h : MS S sg l P) (hA : PM S sg p A) (vE : ∀ k, k < 3 → (sg 55 (14 * l + d + k)).toInt = dirN E k) (hc : corN S P (axN E) = cwN S (ow E)) (bx : -(30 * (kk : Int)) ≤ (sg 55 (14 * l + 12 + wy)).toInt ∧ (sg 55 (14 * l + 12 + wy)).toInt ≤ 30 * (kk : Int)) : ∃ v, f_Mod_liesAt sg (nI p) (nI l) (nI wy) = some (v, sg) ∧ v.toInt = (sg 55 (14 * l + 12 + wy)).toInt + A (ow E) := by
  unfold f_Mod_liesAt f_Mod_imageOf
  have e3 : (3 : Int32) * nI wy = nI d := by rcases hw with ⟨rfl, rfl⟩ | ⟨rfl, rfl⟩ <;> decide
  rw [southWest_m hl (by omega), Option.bind_some]
  dsimp only
  rw [e3, show (14 : Int32) * nI l = nI (14 * l) from by rw [show (14 : Int32) = nI 14 from rfl, nI_mul]]
  obtain ⟨m, hm⟩ := LFx 3 (by omega)
  rw [hm, ← nI_0, show m + 3 + 1 = m + 1 + 1 + 1 + 1 by omega, image_s hp hl (by omega) (by omega), image_s hp hl (by omega) (by omega), image_s hp hl (by omega) (by omega), f_Mod_imageOf_17, if_pos (show (3 : Int32) ≤ nI (2 + 1) by decide), Option.bind_some]
  refine ⟨_, rfl, ?_⟩
  obtain ⟨hA1, hA2⟩ := hA
  have a0 := hA1 0 (by omega)
  have a2 := hA1 2 (by omega)
  have a4 := hA1 4 (by omega)
  have s0 := hS 0 (by omega)
  have s1 := hS 1 (by omega)
  have s2 := hS 2 (by omega)
  have i0 : A 0 = (sg 52 (3 * p + 2)).toInt := by rw [hA2]; rfl
  have i2 : A 2 = (sg 52 (3 * p)).toInt := by rw [hA2]; rfl
  have i4 : A 4 = (sg 52 (3 * p + 1)).toInt := by rw [hA2]; rfl
  have c0 := corN_b hS hP 0
  have c1 := corN_b hS hP 1
  have c2 := corN_b hS hP 2
  have h0 := (h.1 0 (by omega)).2.2.2
  have h1 := (h.1 1 (by omega)).2.2.2
  have h2 := (h.1 2 (by omega)).2.2.2
  have v0 := vE 0 (by omega)
  have v1 := vE 1 (by omega)
  have v2 := vE 2 (by omega)
  have tm : ∀ (x y z : Int32) (a b : Int) (k : Nat), x.toInt = a → y.toInt = b → z.toInt = dirN E k → 0 ≤ a ∧ a ≤ 30 → 0 ≤ b ∧ b ≤ 30 → ((x - y) * z).toInt = (a - b) * dirN E k ∧ -30 ≤ (a - b) * dirN E k ∧ (a - b) * dirN E k ≤ 30 := by
    intro x y z a b k hx hy hz ha hb
    have hs : (x - y).toInt = a - b := by rw [tSub (by omega) (by omega), hx, hy]
    have bb : -30 ≤ (a - b) * dirN E k ∧ (a - b) * dirN E k ≤ 30 := by
      rcases dirN_b E k with q | q | q <;> rw [q] <;> omega
    exact ⟨by rw [tMul (by rw [hs, hz]; omega) (by rw [hs, hz]; omega), hs, hz], bb.1, bb.2⟩
  obtain ⟨m0, n0, n0'⟩ := tm (sg 52 (3 * p + 0)) (sg 55 (14 * l + 9 + 0)) (sg 55 (14 * l + d + 0)) _ _ 0 i2.symm h0 v0 (by omega) c0
  obtain ⟨m1, n1, n1'⟩ := tm (sg 52 (3 * p + (0 + 1))) (sg 55 (14 * l + 9 + (0 + 1))) (sg 55 (14 * l + d + (0 + 1))) _ _ 1 i4.symm h1 v1 (by omega) c1
  obtain ⟨m2, n2, n2'⟩ := tm (sg 52 (3 * p + (0 + 1 + 1))) (sg 55 (14 * l + 9 + (0 + 1 + 1))) (sg 55 (14 * l + d + (0 + 1 + 1))) _ _ 2 i0.symm h2 v2 (by omega) c2
  have t1 := tAdd (x := sg 55 (14 * l + 12 + wy)) (y := (sg 52 (3 * p + 0) - sg 55 (14 * l + 9 + 0)) * sg 55 (14 * l + d + 0)) (by omega) (by omega)
  have t2 := tAdd (x := sg 55 (14 * l + 12 + wy) + (sg 52 (3 * p + 0) - sg 55 (14 * l + 9 + 0)) * sg 55 (14 * l + d + 0)) (y := (sg 52 (3 * p + (0 + 1)) - sg 55 (14 * l + 9 + (0 + 1))) * sg 55 (14 * l + d + (0 + 1))) (by omega) (by omega)
  rw [tAdd (by omega) (by omega), t2, t1, m0, m1, m2]
  have key : (A 2 - corN S P 0) * dirN E 0 + (A 4 - corN S P 1) * dirN E 1 + (A 0 - corN S P 2) * dirN E 2 = A (ow E) := by
    have b0 := hA1 0 (by omega)
    have b2 := hA1 2 (by omega)
    have b4 := hA1 4 (by omega)
    rcases (by omega : E = 0 ∨ E = 1 ∨ E = 2 ∨ E = 3 ∨ E = 4 ∨ E = 5) with rfl | rfl | rfl | rfl | rfl | rfl <;> simp [dirN, axN, ow, cwN] at hc b0 b2 b4 ⊢ <;> omega
  omega
theorem image_xy {S : Nat → Int} (hS : SB S) {sg : Hp} {p l kk : Nat} {P : Pose} {A : Nat → Int} (hp : p < 8) (hl : l < 40) (hkk : kk < 100) (hP : WP P) (hB : BP kk P) (h : MS S sg l P) (hA : PM S sg p A) : (∃ v, f_Mod_liesAt sg (nI p) (nI l) 0 = some (v, sg) ∧ v.toInt = imX P A) ∧ ∃ v, f_Mod_liesAt sg (nI p) (nI l) 1 = some (v, sg) ∧ v.toInt = imY P A := by
  obtain ⟨m1, m2, m3⟩ := id h
  obtain ⟨p1, p3, p4, p5, p6, p7⟩ := id hP
  obtain ⟨y1, y2, y3, y4⟩ := id hB
  have a1 : axN P.2.1 ≠ axN P.1 := fun q => p5 ((axN_eq p3 p1).mp q).symm
  have a2 : axN P.2.2.1 ≠ axN P.1 := fun q => p6 ((axN_eq p4 p1).mp q).symm
  have a3 : axN P.2.2.1 ≠ axN P.2.1 := fun q => p7 ((axN_eq p4 p3).mp q).symm
  constructor
  · obtain ⟨v, g1, g2⟩ := image_m hS (d := 0) (wy := 0) hp hl hkk hP p3 (by omega) h hA (fun k hk => (m1 k hk).1) (by unfold corN; rw [if_neg a1, if_pos rfl]) (by rw [Nat.add_zero, m2]; omega)
    refine ⟨v, g1, ?_⟩
    rw [g2, Nat.add_zero, m2]
    rfl
  · obtain ⟨v, g1, g2⟩ := image_m hS (d := 3) (wy := 1) hp hl hkk hP p4 (by omega) h hA (fun k hk => (m1 k hk).2.1) (by unfold corN; rw [if_neg a2, if_neg a3]) (by rw [m3]; omega)
    refine ⟨v, g1, ?_⟩
    rw [g2, m3]
    rfl
theorem isOn_m {S : Nat → Int} {sg : Hp} (hM : SM S sg) {p f : Nat} {A : Nat → Int} (hp : p < 8) (hf : f < 6) (hA : PM S sg p A) : f_Mod_isOn sg (nI f) (nI p) = some (if A f = 0 then 1 else 0, sg) := by
  unfold f_Mod_isOn
  rw [if_pos (ix30 hp).1, if_pos (ix3 hp (k := 1) (v := 1) (by omega) rfl).1, if_pos (ix3 hp (k := 2) (v := 2) (by omega) rfl).1, (ix30 hp).2, (ix3 hp (k := 1) (v := 1) (by omega) rfl).2, (ix3 hp (k := 2) (v := 2) (by omega) rfl).2]
  obtain ⟨r, g1, g2, g3⟩ := liesOn_m sg hf (sg 52 (3 * p)) (sg 52 (3 * p + 1)) (sg 52 (3 * p + 2))
  rw [g1, Option.bind_some]
  dsimp only
  rw [if_pos g2]
  have hm : mlo sg f (sg 52 (3 * p)) (sg 52 (3 * p + 1)) (sg 52 (3 * p + 2)) ↔ A f = 0 := by
    obtain ⟨m1, m2, m3⟩ := hM
    rw [hA.2]
    unfold mlo sA
    simp only [nEq, m1, m2, m3]
    rcases (by omega : f = 0 ∨ f = 1 ∨ f = 2 ∨ f = 3 ∨ f = 4 ∨ f = 5) with rfl | rfl | rfl | rfl | rfl | rfl <;> simp <;> omega
  by_cases q : A f = 0
  · rw [if_pos q, g3.mpr (hm.mpr q)]
  · rw [if_neg q, g2.resolve_right (fun z => q (hm.mp (g3.mp z)))]
theorem lesser_m (sg : Hp) (x y : Int32) : ∃ v, f_Mod_lesser sg x y = some (v, sg) ∧ v.toInt = min x.toInt y.toInt := by
  unfold f_Mod_lesser
  by_cases h : y ≤ x
  · rw [if_pos h]; rw [nLe] at h; exact ⟨y, rfl, by omega⟩
  · rw [if_neg h]; rw [nLe] at h; exact ⟨x, rfl, by omega⟩
theorem greater_m (sg : Hp) (x y : Int32) : ∃ v, f_Mod_greater sg x y = some (v, sg) ∧ v.toInt = max x.toInt y.toInt := by
  unfold f_Mod_greater
  by_cases h : x ≤ y
  · rw [if_pos h]; rw [nLe] at h; exact ⟨y, rfl, by omega⟩
  · rw [if_neg h]; rw [nLe] at h; exact ⟨x, rfl, by omega⟩
theorem meets_105 {sg : Hp} {t lo hi a b c d : Int32} (b1 : -3200 ≤ t.toInt ∧ t.toInt ≤ 3200) (b2 : -3200 ≤ lo.toInt ∧ lo.toInt ≤ 3200) (b3 : -3200 ≤ hi.toInt ∧ hi.toInt ≤ 3200) (b4 : -3200 ≤ a.toInt ∧ a.toInt ≤ 3200) (b5 : -3200 ≤ b.toInt ∧ b.toInt ≤ 3200) (b6 : -3200 ≤ c.toInt ∧ c.toInt ≤ 3200) (b7 : -3200 ≤ d.toInt ∧ d.toInt ≤ 3200) (hlh : lo.toInt ≤ hi.toInt) : f_Mod_meets_105 sg t lo hi a b c d = some (bI (mts a.toInt c.toInt b.toInt d.toInt t.toInt lo.toInt hi.toInt), sg) := by
  unfold f_Mod_meets_105 mts
  by_cases q1 : a = b
  · rw [if_pos q1]
    have q1' : a.toInt = b.toInt := by rw [q1]
    simp only [if_pos q1']
    by_cases q2 : a = t
    · rw [if_pos q2]
      have q2' : a.toInt = t.toInt := by rw [q2]
      obtain ⟨v1, g1, g2⟩ := lesser_m sg c d
      obtain ⟨v2, g3, g4⟩ := greater_m sg v1 lo
      obtain ⟨v3, g5, g6⟩ := greater_m sg c d
      obtain ⟨v4, g7, g8⟩ := lesser_m sg v3 hi
      rw [g1, Option.bind_some]
      dsimp only
      rw [g3, Option.bind_some]
      dsimp only
      rw [g5, Option.bind_some]
      dsimp only
      rw [g7, Option.bind_some]
      dsimp only
      by_cases q3 : v4 < v2
      · rw [if_pos q3]; rw [nLt] at q3; rw [bI_f (by omega)]
      · rw [if_neg q3]; rw [nLt] at q3; rw [bI_t (by omega)]
    · rw [if_neg q2]
      rw [nEq] at q2
      rw [bI_f (by omega)]
  · rw [if_neg q1]
    have q1' : ¬ a.toInt = b.toInt := by rw [← nEq]; exact q1
    simp only [if_neg q1']
    obtain ⟨v1, g1, g2⟩ := lesser_m sg a b
    obtain ⟨v2, g3, g4⟩ := greater_m sg a b
    rw [g1, Option.bind_some]
    dsimp only
    rw [g3, Option.bind_some]
    dsimp only
    rw [in_i t v1.toInt64 v2.toInt64 (i64T v1) (i64T v2), Option.bind_some]
    dsimp only
    rw [if_b]
    have p193 : ∀ (sn : Int32) (sz : Int), sn.toInt = sz → (sz = 1 ∨ sz = -1) → f_Mod_meets_193 sg t lo hi a b c d sn = some (bI ((lo.toInt - c.toInt) * (sz * (b.toInt - a.toInt)) ≤ (d.toInt - c.toInt) * (sz * (t.toInt - a.toInt)) ∧ (d.toInt - c.toInt) * (sz * (t.toInt - a.toInt)) ≤ (hi.toInt - c.toInt) * (sz * (b.toInt - a.toInt))), sg) := by
      intro sn sz hs hz
      unfold f_Mod_meets_193
      have d1 : (b - a).toInt = b.toInt - a.toInt := tSub (by omega) (by omega)
      have d2 : (d - c).toInt = d.toInt - c.toInt := tSub (by omega) (by omega)
      have d3 : (t - a).toInt = t.toInt - a.toInt := tSub (by omega) (by omega)
      have e1 : (sn * (b - a)).toInt = sz * (b.toInt - a.toInt) := by rw [tMul (by rw [hs, d1]; rcases hz with z | z <;> rw [z] <;> omega) (by rw [hs, d1]; rcases hz with z | z <;> rw [z] <;> omega), hs, d1]
      have e2 : (sn * (d - c)).toInt = sz * (d.toInt - c.toInt) := by rw [tMul (by rw [hs, d2]; rcases hz with z | z <;> rw [z] <;> omega) (by rw [hs, d2]; rcases hz with z | z <;> rw [z] <;> omega), hs, d2]
      have k1 : -6400 ≤ (sn * (b - a)).toInt ∧ (sn * (b - a)).toInt ≤ 6400 := by rw [e1]; rcases hz with z | z <;> rw [z] <;> omega
      have k2 : -6400 ≤ (sn * (d - c)).toInt ∧ (sn * (d - c)).toInt ≤ 6400 := by rw [e2]; rcases hz with z | z <;> rw [z] <;> omega
      have f1 := tMulB (x := c) (y := sn * (b - a)) (by omega) (by omega)
      have f2 := tMulB (x := sn * (d - c)) (y := t - a) (by omega) (by omega)
      have f3 := tMulB (x := lo) (y := sn * (b - a)) (by omega) (by omega)
      have f4 := tMulB (x := hi) (y := sn * (b - a)) (by omega) (by omega)
      have f5 : (c * (sn * (b - a)) + sn * (d - c) * (t - a)).toInt = c.toInt * (sz * (b.toInt - a.toInt)) + (d.toInt - c.toInt) * (sz * (t.toInt - a.toInt)) := by
        rw [tAdd (by omega) (by omega), f1.1, f2.1, e1, e2, d3, Int.mul_comm sz (d.toInt - c.toInt), Int.mul_assoc]
      rw [in_i _ _ _ (i64T _) (i64T _), Option.bind_some]
      dsimp only
      rw [if_pos b01, f5, f3.1, f4.1, e1]
      rw [Int.sub_mul lo.toInt c.toInt, Int.sub_mul hi.toInt c.toInt]
      generalize lo.toInt * (sz * (b.toInt - a.toInt)) = u1
      generalize hi.toInt * (sz * (b.toInt - a.toInt)) = u2
      generalize c.toInt * (sz * (b.toInt - a.toInt)) = u3
      generalize (d.toInt - c.toInt) * (sz * (t.toInt - a.toInt)) = u4
      by_cases z : u1 ≤ u3 + u4 ∧ u3 + u4 ≤ u2
      · rw [if_pos z, bI_t (by omega)]
      · rw [if_neg z, bI_f (by omega)]
    by_cases q2 : v1.toInt ≤ t.toInt ∧ t.toInt ≤ v2.toInt
    · rw [if_pos q2]
      by_cases q3 : b ≤ a
      · rw [if_pos q3, p193 (-1) (-1) (by decide) (by omega)]
        rw [nLe] at q3
        simp only [if_neg (show ¬ a.toInt < b.toInt by omega)]
        rw [show (-1 : Int) * (b.toInt - a.toInt) = a.toInt - b.toInt by omega, show (-1 : Int) * (t.toInt - a.toInt) = a.toInt - t.toInt by omega]
        exact congrArg (fun v => some (v, sg)) (bI_c (by
          constructor
          · intro z; exact ⟨by omega, by omega, z.1, z.2⟩
          · intro z; exact ⟨z.2.2.1, z.2.2.2⟩))
      · rw [if_neg q3, p193 1 1 (by decide) (by omega)]
        rw [nLe] at q3
        simp only [if_pos (show a.toInt < b.toInt by omega)]
        rw [show (1 : Int) * (b.toInt - a.toInt) = b.toInt - a.toInt by omega, show (1 : Int) * (t.toInt - a.toInt) = t.toInt - a.toInt by omega]
        exact congrArg (fun v => some (v, sg)) (bI_c (by
          constructor
          · intro z; exact ⟨by omega, by omega, z.1, z.2⟩
          · intro z; exact ⟨z.2.2.1, z.2.2.2⟩))
    · rw [if_neg q2]
      rw [bI_f]
      intro z
      by_cases q3 : a.toInt < b.toInt
      · rw [if_pos q3] at z; omega
      · rw [if_neg q3] at z; omega
