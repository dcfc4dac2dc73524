/-! THE CLASS'S SEARCH: from all walls; the table -/
theorem wallBits_l {sg : Hp} {a b : Nat} (hb : rt a 0 = b) : ∀ (k j m x : Nat), j + k = 6 → x < 64 → (∀ v, v < 6 → (x.testBit v = true ↔ v < j ∧ sg b v = 0)) → ∃ g, g < 64 ∧ f_Spot_wallBits_4 (m + k + 1) sg a (nI x) (nI j) = some (nI g, sg) ∧ ∀ v, v < 6 → (g.testBit v = true ↔ sg b v = 0) := by
  intro k
  induction k with
  | zero =>
    intro j m x h hx hb2
    rw [f_Spot_wallBits_4, if_pos (by rw [show (6 : Int32) = nI 6 from rfl]; exact nI_le (by omega) (by omega))]
    exact ⟨x, hx, rfl, fun v hv => by rw [hb2 v hv]; exact ⟨fun q => q.2, fun q => ⟨by omega, q⟩⟩⟩
  | succ k ih =>
    intro j m x h hx hb2
    rw [show m + (k + 1) + 1 = (m + k + 1) + 1 by omega, f_Spot_wallBits_4, if_neg (by rw [show (6 : Int32) = nI 6 from rfl]; exact nI_ge (by omega) (by omega)), if_pos (by rw [inb_iff, nI_toInt (by omega)]; omega), nI_clamp (by omega), hb]
    unfold f_Spot_wallBits_25
    rw [bit_w j (by omega), nI_or, nI_1]
    by_cases q : sg b j = 0
    · rw [if_pos q]
      refine ih (j + 1) m _ (by omega) (or_lt hx (pw_lt (by omega))) (fun v hv => ?_)
      rw [Nat.testBit_or, Nat.testBit_two_pow, Bool.or_eq_true, hb2 v hv, decide_eq_true_eq]
      constructor
      · rintro (z | z)
        · exact ⟨by omega, z.2⟩
        · rw [← z]; exact ⟨by omega, q⟩
      · intro z
        by_cases hvj : v = j
        · exact Or.inr hvj.symm
        · exact Or.inl ⟨by omega, z.2⟩
    · rw [if_neg q]
      refine ih (j + 1) m _ (by omega) hx (fun v hv => ?_)
      rw [hb2 v hv]
      constructor
      · intro z; exact ⟨by omega, z.2⟩
      · intro z
        refine ⟨?_, z.2⟩
        have : v ≠ j := fun e => q (by rw [← e]; exact z.2)
        omega
theorem wallBits_c {sg : Hp} {a b : Nat} (hb : rt a 0 = b) : ∃ g, g < 64 ∧ f_Spot_wallBits sg a = some (nI g, sg) ∧ ∀ v, v < 6 → (g.testBit v = true ↔ sg b v = 0) := by
  unfold f_Spot_wallBits
  obtain ⟨m, hm⟩ := LFx 6 (by omega)
  have := wallBits_l (sg := sg) hb 6 0 m 0 (by omega) (by omega) (fun v hv => by rw [Nat.zero_testBit]; exact ⟨fun q => by simp at q, fun q => by omega⟩)
  rw [nI_0] at this
  rw [hm]
  exact this
theorem spotOf_c {sg : Hp} {a b p : Nat} (hb : rt a 0 = b) (h2 : 2 ≠ b) (hp : p < 8) : f_Room_spotOf sg (nI p) a = some (stS sg b 2 (sg 3 p) (sg 4 p) (sg 5 p)) := by
  unfold f_Room_spotOf
  have i1 : inb (nI p) 8 = true := by rw [inb_iff, nI_toInt (by omega)]; omega
  rw [if_pos i1, if_pos i1, if_pos i1, nI_clamp (by omega), set_c hb h2, Option.bind_some]
theorem sA_aw {S : Nat → Int} (hS : SB S) {x y z : Int} (h : onB S x y z) : AW S (sA S x y z) := by
  obtain ⟨h1, h2, h3, h4, h5, h6, -⟩ := h
  have s0 := hS 0 (by omega)
  have s1 := hS 1 (by omega)
  have s2 := hS 2 (by omega)
  intro w hw
  have : w = 0 ∨ w = 1 ∨ w = 2 ∨ w = 3 ∨ w = 4 ∨ w = 5 := by omega
  rcases this with rfl | rfl | rfl | rfl | rfl | rfl <;> simp [sA, ow] <;> omega
theorem spot_v {sg : Hp} {b p : Nat} {x y z : Int32} (hS : ∀ a, a < 3 → 1 ≤ (sg p a).toInt ∧ (sg p a).toInt ≤ 30) (h : onB (fun a => (sg p a).toInt) x.toInt y.toInt z.toInt) : ∀ w, w < 6 → (stS sg b p x y z b w).toInt = sA (fun a => (sg p a).toInt) x.toInt y.toInt z.toInt w := by
  obtain ⟨a0, a1, a2, a3, a4, a5⟩ := stS_at sg b p x y z
  obtain ⟨h1, h2, h3, h4, h5, h6, -⟩ := h
  dsimp only at h2 h4 h6
  have s0 := hS 0 (by omega)
  have s1 := hS 1 (by omega)
  have s2 := hS 2 (by omega)
  intro w hw
  have : w = 0 ∨ w = 1 ∨ w = 2 ∨ w = 3 ∨ w = 4 ∨ w = 5 := by omega
  rcases this with rfl | rfl | rfl | rfl | rfl | rfl
  · rw [a0]; rfl
  · rw [a1, tSub (by omega) (by omega)]; rfl
  · rw [a2]; rfl
  · rw [a3, tSub (by omega) (by omega)]; rfl
  · rw [a4]; rfl
  · rw [a5, tSub (by omega) (by omega)]; rfl
theorem isOn_c {sg : Hp} {a b w : Nat} (hb : rt a 0 = b) (hw : w < 6) : f_Spot_isOn sg a (nI w) = some (if sg b w = 0 then 1 else 0, sg) := by
  unfold f_Spot_isOn
  rw [if_pos (by rw [inb_iff, nI_toInt (by omega)]; omega), nI_clamp (by omega), hb]
  by_cases h : sg b w = 0
  · rw [if_pos h, if_pos h]
  · rw [if_neg h, if_neg h]
theorem find_l {S A B : Nat → Int} {bar : Nat → Nat → Prop} (hS : SB S) (hA : AW S A) (hB : AW S B) {a1 : Nat} (ha1 : a1 < 11 ∨ 24 ≤ a1) : ∀ (q j m : Nat) (sg : Hp) (x : Int × Int × Nat), j + q = 6 → (∀ k, k < 3 → (sg a1 k).toInt = S k) → XS sg x → EV bar A B sg → ∃ sg', f_Search_find_33 (m + q + 1) sg a1 (nI j) = some sg' ∧ XS sg' (((List.range' j q).flatMap (fun w => rowsF 4 [w])).foldl (candC S bar A B pst) x) ∧ ∀ c, c ≠ 11 → c ≠ 16 → c ≠ 18 → (c < 19 ∨ 24 ≤ c) → sg' c = sg c := by
  intro q
  induction q with
  | zero =>
    intro j m sg x h h1 h2 h3
    rw [f_Search_find_33, if_pos (by rw [show (6 : Int32) = nI 6 from rfl]; exact nI_le (by omega) (by omega))]
    exact ⟨sg, rfl, h2, fun _ _ _ _ _ => rfl⟩
  | succ q ih =>
    intro j m sg x h h1 h2 h3
    rw [show m + (q + 1) + 1 = (m + q + 1) + 1 by omega, f_Search_find_33, if_neg (by rw [show (6 : Int32) = nI 6 from rfl]; exact nI_ge (by omega) (by omega)), isOn_c (b := 13) rfl (by omega), Option.bind_some, List.range'_succ, List.flatMap_cons, List.foldl_append]
    unfold f_Search_find_69
    rw [nI_1]
    have hAj := h3.1 j (by omega)
    have z0 : (0 : Int32).toInt = 0 := by decide
    by_cases hz : sg 13 j = 0
    · rw [if_neg (by rw [if_pos hz]; exact (by decide : ¬ (1 : Int32) = 0))]
      obtain ⟨s8, g1, g2, g3⟩ := start_c (S := S) (sg := sg) (c := 19) (a := a1) (w := j) (by omega) (by omega) h1
      have hx8 : XS s8 x := by
        unfold XS at *
        rw [g3 11 (by omega)]
        exact h2
      have he8 : EV bar A B s8 := h3.of (g3 13 (by omega)) (g3 15 (by omega)) (g3 6 (by omega)) (by rw [g3 11 (by omega)])
      have hv : VR [j] := VR.one (by omega)
      have hD : DS S s8 [j] := by
        intro i hi
        simp only [List.length_cons, List.length_nil] at hi ⊢
        have : i = 0 := by omega
        subst this
        exact ⟨g2, fun z => by omega⟩
      obtain ⟨s9, k1, k2, k3⟩ := extend_c hS hA hB 4 [j] (2 ^ j) s8 x rfl hv (fun i hi => by simp at hi) (by rw [show Wr [j] 0 = j from rfl, ← hAj, hz, z0]) (pw_lt (by omega)) (fun v hv6 => by
        rw [Nat.testBit_two_pow, decide_eq_true_eq, List.mem_singleton]
        exact ⟨Eq.symm, Eq.symm⟩) hD hx8 he8
      rw [show nI ([j].length - 1) = 0 from rfl, show 4 + 2 = 6 from rfl] at k1
      rw [g1, Option.bind_some, bit_w j (by omega), k1, Option.bind_some]
      have k4 : ∀ c, c ≠ 11 → c ≠ 16 → c ≠ 18 → (c < 19 ∨ 24 ≤ c) → s9 c = sg c := fun c c1 c2 c3 c4 => by
        rw [k3.1 c c1 c2 c3 (by simp only [List.length_cons, List.length_nil]; omega), g3 c (by omega)]
      obtain ⟨s', l1, l2, l3⟩ := ih (j + 1) m s9 _ (by omega) (by rw [k4 a1 (by omega) (by omega) (by omega) (by omega)]; exact h1) k2 (k3.ev he8)
      exact ⟨s', l1, l2, fun c c1 c2 c3 c4 => by rw [l3 c c1 c2 c3 c4, k4 c c1 c2 c3 c4]⟩
    · rw [if_pos (by rw [if_neg hz])]
      obtain ⟨s', l1, l2, l3⟩ := ih (j + 1) m sg x (by omega) h1 h2 h3
      refine ⟨s', l1, ?_, l3⟩
      rw [candC_not (rowsF 4 [j]) x (fun t ht hw => ?_)]
      · exact l2
      · obtain ⟨p, e⟩ := rowsF_app 4 _ _ ht
        have := hw.1
        rw [e, Wr_app _ _ _ (by simp), show Wr [j] 0 = j from rfl, ← hAj] at this
        exact hz (i_inj (by rw [this, z0]))
theorem find_c {S A B : Nat → Int} {bar : Nat → Nat → Prop} (hS : SB S) (hA : AW S A) (hB : AW S B) {a1 : Nat} (ha1 : a1 < 11 ∨ 24 ≤ a1) {sg : Hp} (h1 : ∀ k, k < 3 → (sg a1 k).toInt = S k) (h2 : ∀ w, w < 6 → (sg 13 w).toInt = A w) (h3 : ∀ w, w < 6 → (sg 15 w).toInt = B w) (h4 : ∀ w, w < 6 → ∃ x, x < 64 ∧ sg 6 w = nI x ∧ ∀ v, v < 6 → (x.testBit v = true ↔ bar w v)) : ∃ sg', f_Search_find sg a1 = some sg' ∧ XS sg' (bestK S bar A B) ∧ ∀ c, c ≠ 11 → c ≠ 16 → c ≠ 18 → (c < 19 ∨ 24 ≤ c) → sg' c = sg c := by
  unfold f_Search_find
  obtain ⟨g, g1, g2, g3⟩ := wallBits_c (sg := sg) (a := 14) (b := 15) rfl
  rw [g2, Option.bind_some, Option.bind_some, Option.bind_some, Option.bind_some, Option.bind_some, Option.bind_some]
  simp only
  generalize hs : w2 (w2 (w2 (w2 (w2 sg 11 6 (nI g)) 11 7 (-1)) 11 8 0) 11 9 0) 11 10 0 = s
  have E : ∀ c, c ≠ 11 → s c = sg c := fun c hc => by rw [← hs, w2_cell _ hc, w2_cell _ hc, w2_cell _ hc, w2_cell _ hc, w2_cell _ hc]
  have z0 : (0 : Int32).toInt = 0 := by decide
  have hx : XS s (-1, 0, 0) := by
    refine ⟨?_, by decide, by decide, ?_, ?_, ?_, by decide⟩ <;> rw [← hs] <;> simp only [w2_app] <;> simp <;> rfl
  have he : EV bar A B s := by
    refine ⟨?_, ?_, ?_, g, g1, by rw [← hs]; simp only [w2_app]; simp, fun w hw => ?_⟩
    · rw [E 13 (by omega)]; exact h2
    · rw [E 15 (by omega)]; exact h3
    · rw [E 6 (by omega)]; exact h4
    · rw [g3 w hw, ← h3 w hw]
      exact ⟨fun q => by rw [q, z0], fun q => i_inj (by rw [q, z0])⟩
  obtain ⟨m, hm⟩ := LFx 6 (by omega)
  obtain ⟨s', l1, l2, l3⟩ := find_l hS hA hB ha1 6 0 m s _ (by omega) (by rw [E a1 (by omega)]; exact h1) hx he
  rw [hm, ← nI_0]
  refine ⟨s', l1, ?_, fun c c1 c2 c3 c4 => by rw [l3 c c1 c2 c3 c4, E c c1]⟩
  rw [← bestK_C]
  unfold allRows
  rw [range6]
  exact l2
theorem Inv.sb {n : Nat} {sg : Hp} (h : Inv n sg) : SB (sS sg) := h.1.2.1
theorem Inv.aw {n : Nat} {sg : Hp} (h : Inv n sg) {p : Nat} (hp : p < 8) : AW (sS sg) (sP sg p) := sA_aw h.sb (h.1.2.2.2.1 p hp)
theorem Inv.bars {n : Nat} {sg : Hp} (h : Inv n sg) : ∀ w, w < 6 → ∃ x, x < 64 ∧ sg 6 w = nI x ∧ ∀ v, v < 6 → (x.testBit v = true ↔ sBar sg w v) := by
  intro w hw
  obtain ⟨-, h2, h3⟩ := h.1.2.2.2.2.1 w hw
  obtain ⟨x, hx, ex⟩ := nI_ex (x := sg 6 w) (n := 63) ⟨h2, by omega⟩ (by omega)
  refine ⟨x, by omega, ex, fun v hv => ?_⟩
  unfold sBar
  rw [ex, nI_toInt (by omega)]
  exact Iff.rfl
theorem ix8 {a b : Nat} (ha : a < 8) (hb : b < 8) : (8 : Int32) * nI a + nI b = nI (8 * a + b) := by
  rw [show (8 : Int32) = nI 8 from rfl, nI_mul, nI_add]
theorem sBest_u (sg : Hp) (a b : Nat) : (sBest sg a b).1 = (bestK (sS sg) (sBar sg) (sP sg a) (sP sg b)).1 ∧ (sBest sg a b).2.1 = (bestK (sS sg) (sBar sg) (sP sg a) (sP sg b)).2.1 ∧ (sBest sg a b).2.2 = (decN (bestK (sS sg) (sBar sg) (sP sg a) (sP sg b)).2.2).reverse := by
  unfold sBest best
  exact ⟨by dsimp only, by dsimp only, by dsimp only⟩
/-- the table, looked up -/
theorem look_c {n : Nat} {sg : Hp} (h : Inv n sg) {a b : Nat} (ha : a < 8) (hb : b < 8) : ∃ sg', f_Table_look sg (nI a) (nI b) = some (nI (8 * a + b), sg') ∧ Inv n sg' ∧ (sg' 25 (8 * a + b) = iI (sBest sg a b).1 ∧ sg' 26 (8 * a + b) = iI (sBest sg a b).2.1 ∧ sg' 27 (8 * a + b) = iI (packR (sBest sg a b).2.2)) ∧ Eo [11, 13, 15, 16, 18, 19, 20, 21, 22, 23, 25, 26, 27, 28] sg sg' := by
  have hT := h.2.2.2.2
  obtain ⟨⟨t1, t2⟩, t3⟩ := id hT
  have i1 : inb (nI (8 * a + b)) 64 = true := by rw [inb_iff, nI_toInt (by omega)]; omega
  unfold f_Table_look
  rw [ix8 ha hb, if_pos i1, nI_clamp (by omega)]
  by_cases hm : sg 28 (8 * a + b) = sg 1 6
  · rw [if_pos hm]
    exact ⟨sg, rfl, h, (t3 a b ha hb).2.2 hm, fun c _ => rfl⟩
  · rw [if_neg hm, spotOf_c (b := 13) rfl (by omega) ha, Option.bind_some]
    rw [spotOf_c (b := 15) rfl (by omega) hb, Option.bind_some]
    generalize hs1 : stS sg 13 2 (sg 3 a) (sg 4 a) (sg 5 a) = s1
    have E1 : ∀ c, c ≠ 13 → s1 c = sg c := fun c hc => by rw [← hs1]; exact stS_cell sg _ _ _ hc
    rw [E1 3 (by omega), E1 4 (by omega), E1 5 (by omega)]
    generalize hs2 : stS s1 15 2 (sg 3 b) (sg 4 b) (sg 5 b) = s2
    have E2 : ∀ c, c ≠ 13 → c ≠ 15 → s2 c = sg c := fun c hc hc2 => by rw [← hs2, stS_cell s1 _ _ _ hc2, E1 c hc]
    have hA := h.aw ha
    have hB := h.aw hb
    have vA : ∀ w, w < 6 → (s2 13 w).toInt = sP sg a w := fun w hw => by
      rw [← hs2, stS_cell s1 _ _ _ (by omega), ← hs1]
      exact spot_v h.1.2.1 (h.1.2.2.2.1 a ha) w hw
    have vB : ∀ w, w < 6 → (s2 15 w).toInt = sP sg b w := fun w hw => by
      have e2 : s1 2 = sg 2 := E1 2 (by omega)
      rw [← hs2]
      have := spot_v (sg := s1) (b := 15) (p := 2) (x := sg 3 b) (y := sg 4 b) (z := sg 5 b) (by rw [e2]; exact h.1.2.1) (by rw [e2]; exact h.1.2.2.2.1 b hb) w hw
      rw [e2] at this
      exact this
    obtain ⟨s3, f1, f2, f3⟩ := find_c (bar := sBar sg) (sg := s2) (a1 := 2) h.sb hA hB (by omega) (fun k hk => by rw [E2 2 (by omega) (by omega)]; rfl) vA vB (by rw [E2 6 (by omega) (by omega)]; exact h.bars)
    rw [f1, Option.bind_some, if_pos i1, Option.bind_some, if_pos i1, Option.bind_some, if_pos i1, Option.bind_some, if_pos i1, Option.bind_some]
    rw [w2_cell _ (show (11 : Nat) ≠ 25 by omega), w2_cell _ (show (11 : Nat) ≠ 26 by omega), w2_cell _ (show (11 : Nat) ≠ 25 by omega), w2_cell _ (show (1 : Nat) ≠ 27 by omega), w2_cell _ (show (1 : Nat) ≠ 26 by omega), w2_cell _ (show (1 : Nat) ≠ 25 by omega)]
    obtain ⟨y1, y2, y3, y4, y5, -⟩ := f2
    generalize hs4 : w2 (w2 (w2 (w2 s3 25 (8 * a + b) (s3 11 7)) 26 (8 * a + b) (s3 11 8)) 27 (8 * a + b) (s3 11 9)) 28 (8 * a + b) (s3 1 6) = s4
    have E4 : Eo [11, 13, 15, 16, 18, 19, 20, 21, 22, 23, 25, 26, 27, 28] sg s4 := by
      intro c hc
      simp only [List.mem_cons, List.not_mem_nil, or_false, not_or] at hc
      rw [← hs4, w2_cell _ (by omega), w2_cell _ (by omega), w2_cell _ (by omega), w2_cell _ (by omega), f3 c (by omega) (by omega) (by omega) (by omega), E2 c (by omega) (by omega)]
    have F3 : ∀ c, c = 25 ∨ c = 26 ∨ c = 27 ∨ c = 28 ∨ c = 1 → s3 c = sg c := fun c hc => by rw [f3 c (by omega) (by omega) (by omega) (by omega), E2 c (by omega) (by omega)]
    have g25 : ∀ i, s4 25 i = if i = 8 * a + b then s3 11 7 else sg 25 i := fun i => by
      rw [← hs4, w2_cell _ (by omega), w2_cell _ (by omega), w2_cell _ (by omega), w2_app, F3 25 (by omega)]
      simp
    have g26 : ∀ i, s4 26 i = if i = 8 * a + b then s3 11 8 else sg 26 i := fun i => by
      rw [← hs4, w2_cell _ (by omega), w2_cell _ (by omega), w2_app, w2_cell _ (by omega), F3 26 (by omega)]
      simp
    have g27 : ∀ i, s4 27 i = if i = 8 * a + b then s3 11 9 else sg 27 i := fun i => by
      rw [← hs4, w2_cell _ (by omega), w2_app, w2_cell _ (by omega), w2_cell _ (by omega), F3 27 (by omega)]
      simp
    have g28 : ∀ i, s4 28 i = if i = 8 * a + b then sg 1 6 else sg 28 i := fun i => by
      rw [← hs4, w2_app, w2_cell _ (by omega), w2_cell _ (by omega), w2_cell _ (by omega), F3 28 (by omega), F3 1 (by omega)]
      simp
    have r1 : s4 25 (8 * a + b) = iI (sBest sg a b).1 := by rw [g25, if_pos rfl, y1, (sBest_u sg a b).1]
    have r2 : s4 26 (8 * a + b) = iI (sBest sg a b).2.1 := by rw [g26, if_pos rfl, y4, (sBest_u sg a b).2.1]
    have r3 : s4 27 (8 * a + b) = iI (packR (sBest sg a b).2.2) := by rw [g27, if_pos rfl, y5, (sBest_u sg a b).2.2]
    have e := fun c hc => E4 c hc
    refine ⟨s4, rfl, ?_, ⟨r1, r2, r3⟩, E4⟩
    obtain ⟨h1, h2, h3, h5, h6⟩ := id h
    refine ⟨h1.of (e 2 (by decide)) (e 3 (by decide)) (e 4 (by decide)) (e 5 (by decide)) (e 6 (by decide)) (e 51 (by decide)) (e 52 (by decide)) (e 53 (by decide)), h2.of (e 9 (by decide)) (e 10 (by decide)) (by rw [e 46 (by decide)]) (e 54 (by decide)),
      h3.of (fun s hs => e (38 + s) (by simp only [List.mem_cons, List.not_mem_nil, or_false]; omega)) (e 47 (by decide)) (e 48 (by decide)) (e 49 (by decide)), h5.of (by rw [e 0 (by decide)]) (by rw [e 46 (by decide)]), ?_⟩
    have e1 : s4 1 6 = sg 1 6 := by rw [e 1 (by decide)]
    refine ⟨by rw [e1]; exact ⟨t1, t2⟩, fun p q hp hq => ?_⟩
    rw [sBest.of (e 2 (by decide)) (e 3 (by decide)) (e 4 (by decide)) (e 5 (by decide)) (e 6 (by decide)), e1]
    by_cases hpq : 8 * p + q = 8 * a + b
    · have ep : p = a := by omega
      have eq : q = b := by omega
      subst ep eq
      rw [g28, if_pos rfl]
      exact ⟨by omega, by omega, fun _ => ⟨r1, r2, r3⟩⟩
    · rw [g25, g26, g27, g28, if_neg hpq, if_neg hpq, if_neg hpq, if_neg hpq]
      exact t3 p q hp hq
