/-- a bar set or taken away in a row of bits -/
def bst (x : Nat) (b v : Nat) : Nat := if v = 1 then x ||| 2 ^ b else x &&& (63 ^^^ 2 ^ b)
theorem bar_bits : ∀ x, x < 64 → ∀ b, b < 6 → (nI x ||| ((1 : Int32) <<< (nI b &&& 31))) = nI (bst x b 1) ∧ (nI x &&& (((1 : Int32) <<< (nI b &&& 31)) ^^^ (-1 : Int32))) = nI (bst x b 0) ∧ ((nI x &&& (((1 : Int32) <<< (nI b &&& 31)) ^^^ (-1 : Int32))) ||| ((1 : Int32) <<< (nI b &&& 31))) = nI (bst x b 1) ∧ ((nI x &&& (((1 : Int32) <<< (nI b &&& 31)) ^^^ (-1 : Int32))) ||| ((0 : Int32) <<< (nI b &&& 31))) = nI (bst x b 0) ∧ bst x b 1 < 64 ∧ bst x b 0 < 64 ∧ ((nI x >>> (nI b &&& 31)) &&& 1) = (if x.testBit b then 1 else 0) := by decide +kernel
theorem bar_test : ∀ x, x < 64 → ∀ b, b < 6 → ∀ c, c < 6 → (bst x b 1).testBit c = (decide (c = b) || x.testBit c) ∧ (bst x b 0).testBit c = (!decide (c = b) && x.testBit c) := by decide +kernel
theorem half_w : ∀ a, a < 6 → ∀ b, b < 6 → ((nI a >>> ((1 : Int32) &&& 31) = nI b >>> ((1 : Int32) &&& 31)) ↔ a / 2 = b / 2) ∧ ((nI a / 2 = nI b / 2) ↔ a / 2 = b / 2) := by decide +kernel
theorem isBarred_c {sg : Hp} {a b x : Nat} (ha : a < 6) (hb : b < 6) (hx : x < 64) (e : sg 6 a = nI x) : f_Room_isBarred sg (nI a) (nI b) = some (if x.testBit b then 1 else 0, sg) := by
  unfold f_Room_isBarred
  rw [if_pos (by rw [inb_iff, nI_toInt (by omega)]; omega), nI_clamp (by omega), e, (bar_bits x hx b hb).2.2.2.2.2.2]
  by_cases h : x.testBit b
  · rw [if_pos h, if_pos rfl]
  · rw [if_neg h, if_neg (by decide)]
def cbr (sg : Hp) (a b x y v : Nat) : Hp := w2 (w2 (w2 sg 6 a (nI (bst x b v))) 6 b (nI (bst y a v))) 1 6 (sg 1 6 + 1)
theorem setBar_c {sg : Hp} {a b x y v : Nat} (ha : a < 6) (hb : b < 6) (hab : a ≠ b) (hx : x < 64) (hy : y < 64) (hv : v < 2) (ea : sg 6 a = nI x) (eb : sg 6 b = nI y) : f_Room_setBar sg (nI a) (nI b) (nI v) = some (cbr sg a b x y v) := by
  have i1 : inb (nI a) 6 = true := by rw [inb_iff, nI_toInt (by omega)]; omega
  have i2 : inb (nI b) 6 = true := by rw [inb_iff, nI_toInt (by omega)]; omega
  obtain ⟨p1, p2, -⟩ := bar_bits x hx b hb
  obtain ⟨q1, q2, -⟩ := bar_bits y hy a ha
  unfold f_Room_setBar f_Room_setBar_59 cbr
  rcases (by omega : v = 0 ∨ v = 1) with rfl | rfl
  · rw [if_pos (show nI 0 = 0 from rfl)]
    simp only [if_pos i1, if_pos i2, Option.bind_some, nI_clamp (show a < 2 ^ 31 by omega), nI_clamp (show b < 2 ^ 31 by omega), ea, p2]
    rw [w2_ne (by omega), eb, q2]
    simp only [w2_app]
    simp
  · rw [if_neg (by decide)]
    simp only [if_pos i1, if_pos i2, Option.bind_some, nI_clamp (show a < 2 ^ 31 by omega), nI_clamp (show b < 2 ^ 31 by omega), ea, p1]
    rw [w2_ne (by omega), eb, q1]
    simp only [w2_app]
    simp
def mbr (sg : Hp) (a b x y v : Nat) : Hp := w2 (w2 sg 53 a (nI (bst x b v))) 53 b (nI (bst y a v))
theorem bar_good {n : Nat} {sg : Hp} (h : Inv n sg) (hn : n ≤ 5000) {a b x y v : Nat} (ha : a < 6) (hb : b < 6) (hab : a ≠ b) (hx : x < 64) (hy : y < 64) (hv : v < 2) (ea : sg 6 a = nI x) (eb : sg 6 b = nI y) : Inv (n + 20) (mbr (cbr sg a b x y v) a b x y v) := by
  obtain ⟨b1, b2, b3, b4, b5, b6⟩ := id h.1
  have hch := h.2.2.2.2.1
  have ht : (sg 1 6 + 1).toInt = (sg 1 6).toInt + 1 := by rw [tAdd (by simp; omega) (by simp; omega)]; simp
  have e : ∀ c, c ≠ 1 → c ≠ 6 → c ≠ 53 → mbr (cbr sg a b x y v) a b x y v c = sg c := fun c c1 c6 c53 => by
    unfold mbr cbr
    rw [w2_cell _ c53, w2_cell _ c53, w2_cell _ c1, w2_cell _ c6, w2_cell _ c6]
  have e1 : mbr (cbr sg a b x y v) a b x y v 1 6 = sg 1 6 + 1 := by
    unfold mbr cbr
    rw [w2_ne (by omega), w2_ne (by omega), w2_at]
  have e6 : ∀ c, mbr (cbr sg a b x y v) a b x y v 6 c = if c = b then nI (bst y a v) else if c = a then nI (bst x b v) else sg 6 c := fun c => by
    unfold mbr cbr
    simp only [w2_app]
    simp
  have e53 : ∀ c, mbr (cbr sg a b x y v) a b x y v 53 c = if c = b then nI (bst y a v) else if c = a then nI (bst x b v) else sg 53 c := fun c => by
    unfold mbr cbr
    simp only [w2_app]
    simp
  have hlt : ∀ x b, x < 64 → b < 6 → bst x b v < 64 := fun x b hx hb => by
    obtain ⟨-, -, -, -, p5, p6, -⟩ := bar_bits x hx b hb
    rcases (by omega : v = 0 ∨ v = 1) with rfl | rfl
    · exact p6
    · exact p5
  have hl1 := hlt x b hx hb
  have hl2 := hlt y a hy ha
  -- the bit c of wall w's row
  have hbit : ∀ w c, w < 6 → c < 6 → (sBar (mbr (cbr sg a b x y v) a b x y v) w c ↔ if (w = a ∧ c = b) ∨ (w = b ∧ c = a) then v = 1 else sBar sg w c) := by
    intro w c hw hc
    unfold sBar
    rw [e6 w]
    have tn : ∀ k, k < 64 → (nI k).toInt.toNat = k := fun k hk => by rw [nI_toInt (by omega)]; omega
    by_cases h1 : w = b
    · rw [if_pos h1, tn _ hl2]
      subst h1
      rw [eb, tn _ hy]
      obtain ⟨t1, t0⟩ := bar_test y hy a ha c hc
      rcases (by omega : v = 0 ∨ v = 1) with rfl | rfl
      · rw [t0]
        by_cases h2 : c = a
        · rw [if_pos (Or.inr ⟨rfl, h2⟩)]; simp [h2]
        · rw [if_neg (by omega)]; simp [h2]
      · rw [t1]
        by_cases h2 : c = a
        · rw [if_pos (Or.inr ⟨rfl, h2⟩)]; simp [h2]
        · rw [if_neg (by omega)]; simp [h2]
    · rw [if_neg h1]
      by_cases h3 : w = a
      · rw [if_pos h3, tn _ hl1]
        subst h3
        rw [ea, tn _ hx]
        obtain ⟨t1, t0⟩ := bar_test x hx b hb c hc
        rcases (by omega : v = 0 ∨ v = 1) with rfl | rfl
        · rw [t0]
          by_cases h2 : c = b
          · rw [if_pos (Or.inl ⟨rfl, h2⟩)]; simp [h2]
          · rw [if_neg (by omega)]; simp [h2]
        · rw [t1]
          by_cases h2 : c = b
          · rw [if_pos (Or.inl ⟨rfl, h2⟩)]; simp [h2]
          · rw [if_neg (by omega)]; simp [h2]
      · rw [if_neg h3, if_neg (by omega)]
  refine h.boxed ?_ ?_ (fun c hc => ?_)
  · refine ⟨?_, ?_, ?_, ?_, ?_, ?_⟩
    · rw [e 51 (by omega) (by omega) (by omega), e 2 (by omega) (by omega) (by omega)]; exact b1
    · rw [e 2 (by omega) (by omega) (by omega)]; exact b2
    · rw [e 52 (by omega) (by omega) (by omega), e 3 (by omega) (by omega) (by omega), e 4 (by omega) (by omega) (by omega), e 5 (by omega) (by omega) (by omega)]; exact b3
    · unfold sS
      rw [e 2 (by omega) (by omega) (by omega), e 3 (by omega) (by omega) (by omega), e 4 (by omega) (by omega) (by omega), e 5 (by omega) (by omega) (by omega)]; exact b4
    · intro w hw
      rw [e6 w, e53 w]
      by_cases h1 : w = b
      · simp only [if_pos h1]
        rw [nI_toInt (by omega)]
        exact ⟨by trivial, by omega, by omega⟩
      · simp only [if_neg h1]
        by_cases h2 : w = a
        · simp only [if_pos h2]
          rw [nI_toInt (by omega)]
          exact ⟨by trivial, by omega, by omega⟩
        · simp only [if_neg h2]
          exact b5 w hw
    · intro w c hw hc
      rw [hbit w c hw hc, hbit c w hc hw]
      by_cases h1 : (w = a ∧ c = b) ∨ (w = b ∧ c = a)
      · rw [if_pos h1, if_pos (by omega)]
      · rw [if_neg h1, if_neg (by omega)]
        exact b6 w c hw hc
  · refine h.2.2.2.2.grown ?_ ?_ (e 28 (by omega) (by omega) (by omega))
    · rw [e1, ht]; omega
    · rw [e1, ht]; omega
  · simp only [List.mem_cons, List.not_mem_nil, or_false, not_or] at hc
    exact e c (by omega) (by omega) (by omega)
theorem k_bar : K_bar := by
  intro n sg h hn a1 a2 a3
  obtain ⟨b1, b2, b3, b4, b5, b6⟩ := id h.1
  unfold PairI f_Box_bar f_Mod_bar
  simp only [isWall_c, isFace_m, isTwo_m, Option.bind_some, if_b]
  by_cases hA : 0 ≤ a1.toInt ∧ a1.toInt ≤ 5
  · by_cases hB : 0 ≤ a2.toInt ∧ a2.toInt ≤ 5
    · obtain ⟨a, ha, rfl⟩ := nI_ex (n := 5) hA (by omega)
      obtain ⟨b, hb, rfl⟩ := nI_ex (n := 5) hB (by omega)
      simp only [if_pos hA, if_pos hB, (half_w a (by omega) b (by omega)).1, (half_w a (by omega) b (by omega)).2]
      by_cases hh : a / 2 = b / 2
      · refine ⟨-2, sg, sg, ?_, ?_, h.same⟩
        · rw [if_pos hh]
        · rw [if_pos hh]
      · simp only [if_neg hh, nLt, nLe, Int32.reduceToInt]
        by_cases hV : 0 ≤ a3.toInt ∧ a3.toInt ≤ 1
        · obtain ⟨v, hv, rfl⟩ := nI_ex (n := 1) hV (by omega)
          have hab : a ≠ b := fun q => hh (by rw [q])
          have i1 : inb (nI a) 6 = true := by rw [inb_iff, nI_toInt (by omega)]; omega
          have i2 : inb (nI b) 6 = true := by rw [inb_iff, nI_toInt (by omega)]; omega
          obtain ⟨m1, m2, m3⟩ := b5 a (by omega)
          obtain ⟨m4, m5, m6⟩ := b5 b (by omega)
          obtain ⟨x, hx, ex⟩ := nI_ex (x := sg 6 a) (n := 63) ⟨m2, by omega⟩ (by omega)
          obtain ⟨y, hy, ey⟩ := nI_ex (x := sg 6 b) (n := 63) ⟨m5, by omega⟩ (by omega)
          simp only [if_pos hV]
          rw [if_neg (by omega), if_pos hV.2, isBarred_c (by omega) (by omega) (by omega) ex]
          refine ⟨if x.testBit b then 1 else 0, cbr sg a b x y v, mbr (cbr sg a b x y v) a b x y v, ?_, ?_, bar_good h hn (by omega) (by omega) hab (by omega) (by omega) (by omega) ex ey⟩
          · rw [Option.bind_some]
            dsimp only
            unfold f_Box_bar_52 f_Box_bar_70
            have hsb := setBar_c (sg := sg) (a := a) (b := b) (v := v) (by omega) (by omega) hab (by omega) (by omega) (by omega) ex ey
            have hvv : ∀ q : Int32, (if nI v = 1 then (f_Room_setBar sg (nI a) (nI b) 1).bind fun y4 => some (q, y4) else (f_Room_setBar sg (nI a) (nI b) 0).bind fun y4 => some (q, y4)) = some (q, cbr sg a b x y v) := by
              intro q
              rcases (by omega : v = 0 ∨ v = 1) with rfl | rfl
              · rw [if_neg (by decide)]
                rw [nI_0] at hsb
                rw [hsb, Option.bind_some]
              · rw [if_pos (show nI 1 = 1 from rfl)]
                rw [show nI 1 = 1 from rfl] at hsb
                rw [hsb, Option.bind_some]
            rw [hvv, hvv]
            by_cases ht : x.testBit b
            · simp [ht]
            · simp [ht]
          · have c53 : cbr sg a b x y v 53 = sg 53 := by unfold cbr; rw [w2_cell _ (by omega), w2_cell _ (by omega), w2_cell _ (by omega)]
            simp only [if_pos i1, if_pos i2, nI_clamp (show a < 2 ^ 31 by omega), nI_clamp (show b < 2 ^ 31 by omega), c53, m1, ex]
            obtain ⟨-, -, p3, p4, -, -, p7⟩ := bar_bits x (by omega) b (by omega)
            obtain ⟨-, -, q3, q4, -, -, -⟩ := bar_bits y (by omega) a (by omega)
            rw [p7, w2_ne (by omega), c53, m4, ey]
            unfold mbr
            rcases (by omega : v = 0 ∨ v = 1) with rfl | rfl
            · rw [nI_0, p4, q4]
            · rw [show nI 1 = 1 from rfl, p3, q3]
        · refine ⟨-2, sg, sg, ?_, ?_, h.same⟩
          · by_cases hv0 : a3.toInt < 0
            · rw [if_pos hv0]
            · rw [if_neg hv0, if_neg (by omega)]
          · rw [if_neg hV]
    · refine ⟨-2, sg, sg, ?_, ?_, h.same⟩
      · rw [if_pos hA, if_neg hB]
      · rw [if_pos hA, if_neg hB]
  · refine ⟨-2, sg, sg, ?_, ?_, h.same⟩
    · rw [if_neg hA]
    · rw [if_neg hA]
