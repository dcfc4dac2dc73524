theorem isThere_m (sg : Hp) {p : Nat} (hp : p < 8) : ∃ r : Int32, f_Mod_isThere sg (nI p) = some (r, sg) ∧ (r = 0 ∨ r = 1) ∧ (r = 1 ↔ onB (mSd sg) (sg 52 (3 * p)).toInt (sg 52 (3 * p + 1)).toInt (sg 52 (3 * p + 2)).toInt) := by
  unfold f_Mod_isThere
  rw [if_pos (ix30 hp).1, if_pos (ix3 hp (k := 1) (v := 1) (by omega) rfl).1, if_pos (ix3 hp (k := 2) (v := 2) (by omega) rfl).1, (ix30 hp).2, (ix3 hp (k := 1) (v := 1) (by omega) rfl).2, (ix3 hp (k := 2) (v := 2) (by omega) rfl).2]
  obtain ⟨r, g1, g2, g3⟩ := isOnBox_m sg (sg 52 (3 * p)) (sg 52 (3 * p + 1)) (sg 52 (3 * p + 2))
  rw [g1, Option.bind_some]
  dsimp only
  rw [if_pos g2]
  exact ⟨r, rfl, g2, g3⟩
/-- what becomes of a place: it stays, or goes to 0, 0, 0 -/
def stay (S : Nat → Int) (x y z x' y' z' : Int32) : Prop := (onB S x.toInt y.toInt z.toInt → x' = x ∧ y' = y ∧ z' = z) ∧ (¬ onB S x.toInt y.toInt z.toInt → x' = 0 ∧ y' = 0 ∧ z' = 0)
theorem stay_one {S : Nat → Int} {x y z a b c a' b' c' : Int32} (h : stay S x y z a b c) (h' : stay S x y z a' b' c') : a = a' ∧ b = b' ∧ c = c' := by
  by_cases q : onB S x.toInt y.toInt z.toInt
  · obtain ⟨h1, h2, h3⟩ := h.1 q
    obtain ⟨g1, g2, g3⟩ := h'.1 q
    rw [h1, h2, h3, g1, g2, g3]
    exact ⟨rfl, rfl, rfl⟩
  · obtain ⟨h1, h2, h3⟩ := h.2 q
    obtain ⟨g1, g2, g3⟩ := h'.2 q
    rw [h1, h2, h3, g1, g2, g3]
    exact ⟨rfl, rfl, rfl⟩
theorem stay_on {S : Nat → Int} (hS : ∀ a, a < 3 → 1 ≤ S a) {x y z a b c : Int32} (h : stay S x y z a b c) : onB S a.toInt b.toInt c.toInt := by
  by_cases q : onB S x.toInt y.toInt z.toInt
  · obtain ⟨h1, h2, h3⟩ := h.1 q
    rw [h1, h2, h3]; exact q
  · obtain ⟨h1, h2, h3⟩ := h.2 q
    rw [h1, h2, h3]
    have := hS 0 (by omega)
    have := hS 1 (by omega)
    have := hS 2 (by omega)
    unfold onB
    simp
    omega
theorem stretch_l (w : Int32) : ∀ (k i m : Nat) (sg : Hp), i + k = 8 → (∀ a, a < 3 → 1 ≤ (sg 2 a).toInt ∧ (sg 2 a).toInt ≤ 30) → 0 ≤ (sg 1 6).toInt → (sg 1 6).toInt + k ≤ 100000 → ∃ sg', f_Room_stretch_17 (m + k + 1) sg w (nI i) = some (w, sg') ∧ (∀ c, c ≠ 1 → c ≠ 3 → c ≠ 4 → c ≠ 5 → c ≠ 8 → sg' c = sg c) ∧ (∀ q, q < i → sg' 3 q = sg 3 q ∧ sg' 4 q = sg 4 q ∧ sg' 5 q = sg 5 q) ∧ (∀ q, i ≤ q → q < 8 → stay (sS sg) (sg 3 q) (sg 4 q) (sg 5 q) (sg' 3 q) (sg' 4 q) (sg' 5 q)) ∧ (sg 1 6).toInt < (sg' 1 6).toInt ∧ (sg' 1 6).toInt ≤ (sg 1 6).toInt + k + 1 := by
  intro k
  induction k with
  | zero =>
    intro i m sg h hS h0 h1
    have ht : (sg 1 6 + 1).toInt = (sg 1 6).toInt + 1 := by rw [tAdd (by simp; omega) (by simp; omega)]; simp
    refine ⟨w2 sg 1 6 (sg 1 6 + 1), ?_, ?_, ?_, ?_, ?_, ?_⟩
    · rw [f_Room_stretch_17, if_pos (by rw [nLe, nI_toInt (by omega)]; simp; omega), Option.bind_some]
    · intro c c1 _ _ _ _
      rw [w2_cell _ c1]
    · intro q _
      simp [w2_app]
    · intro q q1 q2
      omega
    · rw [w2_at, ht]; omega
    · rw [w2_at, ht]; omega
  | succ k ih =>
    intro i m sg h hS h0 h1
    have hi : (nI i).toInt = (i : Int) := nI_toInt (by omega)
    have hb : inb (nI i) 8 = true := by rw [inb_iff, hi]; omega
    obtain ⟨r, e1, e2, e3⟩ := holds_c hS (sg 3 i) (sg 4 i) (sg 5 i)
    rw [show m + (k + 1) + 1 = (m + k + 1) + 1 by omega, f_Room_stretch_17, if_neg (by rw [nLe, hi]; simp; omega), if_pos hb, if_pos hb, if_pos hb, nI_clamp (by omega), e1, Option.bind_some]
    dsimp only
    have cA : ∀ c, c ≠ 8 → stS sg 8 2 (sg 3 i) (sg 4 i) (sg 5 i) c = sg c := fun c hc => stS_cell _ _ _ _ hc
    generalize stS sg 8 2 (sg 3 i) (sg 4 i) (sg 5 i) = A at cA ⊢
    rcases e2 with rfl | rfl
    · rw [if_pos rfl, move_c (by omega), Option.bind_some, f_Room_stretch_61, nI_1]
      have cB : ∀ c, c ≠ 1 → c ≠ 3 → c ≠ 4 → c ≠ 5 → c ≠ 8 → cmv A i 0 0 0 c = sg c := fun c h1 h3 h4 h5 h8 => by rw [cmv_cell _ _ _ _ h1 h3 h4 h5, cA c h8]
      have cQ : ∀ q, cmv A i 0 0 0 3 q = (if q = i then 0 else sg 3 q) ∧ cmv A i 0 0 0 4 q = (if q = i then 0 else sg 4 q) ∧ cmv A i 0 0 0 5 q = (if q = i then 0 else sg 5 q) := fun q => by
        obtain ⟨k1, k2, k3, -⟩ := cmv_at A i q 0 0 0
        rw [k1, k2, k3, cA 3 (by omega), cA 4 (by omega), cA 5 (by omega)]
        exact ⟨rfl, rfl, rfl⟩
      have cN : cmv A i 0 0 0 1 6 = sg 1 6 + 1 := by rw [(cmv_at A i 0 0 0 0).2.2.2, cA 1 (by omega)]
      have ht : (sg 1 6 + 1).toInt = (sg 1 6).toInt + 1 := by rw [tAdd (by simp; omega) (by simp; omega)]; simp
      have hno : ¬ onB (sS sg) (sg 3 i).toInt (sg 4 i).toInt (sg 5 i).toInt := fun q => absurd (e3.mpr q) (by decide)
      generalize cmv A i 0 0 0 = B at cB cQ cN ⊢
      have hSB : sS B = sS sg := by funext a; unfold sS; rw [cB 2 (by omega) (by omega) (by omega) (by omega) (by omega)]
      obtain ⟨sg', g1, g2, g3, g4, g5, g6⟩ := ih (i + 1) m B (by omega) (by rw [cB 2 (by omega) (by omega) (by omega) (by omega) (by omega)]; exact hS) (by rw [cN, ht]; omega) (by rw [cN, ht]; omega)
      rw [cN, ht] at g5 g6
      refine ⟨sg', g1, fun c c1 c3 c4 c5 c8 => by rw [g2 c c1 c3 c4 c5 c8, cB c c1 c3 c4 c5 c8], fun q hq => ?_, fun q q1 q2 => ?_, by omega, by omega⟩
      · obtain ⟨y1, y2, y3⟩ := g3 q (by omega)
        obtain ⟨z1, z2, z3⟩ := cQ q
        rw [y1, y2, y3, z1, z2, z3]
        simp [show ¬ q = i by omega]
      · by_cases hqi : q = i
        · subst hqi
          obtain ⟨y1, y2, y3⟩ := g3 q (by omega)
          obtain ⟨z1, z2, z3⟩ := cQ q
          rw [y1, y2, y3, z1, z2, z3]
          exact ⟨fun t => absurd t hno, fun _ => by simp⟩
        · have := g4 q (by omega) q2
          obtain ⟨z1, z2, z3⟩ := cQ q
          rw [hSB, z1, z2, z3] at this
          simp only [if_neg hqi] at this
          exact this
    · rw [if_neg (by decide), f_Room_stretch_61, nI_1]
      have hon := e3.mp rfl
      have hSA : sS A = sS sg := by funext a; unfold sS; rw [cA 2 (by omega)]
      obtain ⟨sg', g1, g2, g3, g4, g5, g6⟩ := ih (i + 1) m A (by omega) (by rw [cA 2 (by omega)]; exact hS) (by rw [cA 1 (by omega)]; exact h0) (by rw [cA 1 (by omega)]; omega)
      rw [cA 1 (by omega)] at g5 g6
      refine ⟨sg', g1, fun c c1 c3 c4 c5 c8 => by rw [g2 c c1 c3 c4 c5 c8, cA c c8], fun q hq => ?_, fun q q1 q2 => ?_, by omega, by omega⟩
      · obtain ⟨y1, y2, y3⟩ := g3 q (by omega)
        rw [y1, y2, y3, cA 3 (by omega), cA 4 (by omega), cA 5 (by omega)]
        exact ⟨rfl, rfl, rfl⟩
      · by_cases hqi : q = i
        · subst hqi
          obtain ⟨y1, y2, y3⟩ := g3 q (by omega)
          rw [y1, y2, y3, cA 3 (by omega), cA 4 (by omega), cA 5 (by omega)]
          exact ⟨fun _ => ⟨rfl, rfl, rfl⟩, fun t => absurd hon t⟩
        · have := g4 q (by omega) q2
          rw [hSA, cA 3 (by omega), cA 4 (by omega), cA 5 (by omega)] at this
          exact this
theorem side_l (w : Int32) : ∀ (k i m : Nat) (sg : Hp), i + k = 8 → ∃ sg', f_Mod_side_44 (m + k + 1) sg w (nI i) = some (w, sg') ∧ (∀ c, c ≠ 52 → sg' c = sg c) ∧ (∀ q, q < i → sg' 52 (3 * q) = sg 52 (3 * q) ∧ sg' 52 (3 * q + 1) = sg 52 (3 * q + 1) ∧ sg' 52 (3 * q + 2) = sg 52 (3 * q + 2)) ∧ (∀ q, i ≤ q → q < 8 → stay (mSd sg) (sg 52 (3 * q)) (sg 52 (3 * q + 1)) (sg 52 (3 * q + 2)) (sg' 52 (3 * q)) (sg' 52 (3 * q + 1)) (sg' 52 (3 * q + 2))) := by
  intro k
  induction k with
  | zero =>
    intro i m sg h
    refine ⟨sg, ?_, fun _ _ => rfl, fun _ _ => ⟨rfl, rfl, rfl⟩, fun q q1 q2 => by omega⟩
    rw [f_Mod_side_44, if_pos (by rw [nLe, nI_toInt (by omega)]; simp; omega)]
  | succ k ih =>
    intro i m sg h
    have hi : (nI i).toInt = (i : Int) := nI_toInt (by omega)
    obtain ⟨r, e1, e2, e3⟩ := isThere_m sg (p := i) (by omega)
    rw [show m + (k + 1) + 1 = (m + k + 1) + 1 by omega, f_Mod_side_44, if_neg (by rw [nLe, hi]; simp; omega), e1, Option.bind_some]
    dsimp only
    rcases e2 with rfl | rfl
    · rw [if_pos rfl, puts_m (by omega), Option.bind_some, f_Mod_side_69, nI_1]
      have hno : ¬ onB (mSd sg) (sg 52 (3 * i)).toInt (sg 52 (3 * i + 1)).toInt (sg 52 (3 * i + 2)).toInt := fun q => absurd (e3.mpr q) (by decide)
      have cB : ∀ c, c ≠ 52 → mpt sg i 0 0 0 c = sg c := fun c hc => mpt_cell _ _ _ _ hc
      have cQ := fun q => mpt_at sg i q 0 0 0
      generalize mpt sg i 0 0 0 = B at cB cQ ⊢
      have hSB : mSd B = mSd sg := by funext a; unfold mSd; rw [cB 51 (by omega)]
      obtain ⟨sg', g1, g2, g3, g4⟩ := ih (i + 1) m B (by omega)
      refine ⟨sg', g1, fun c hc => by rw [g2 c hc, cB c hc], fun q hq => ?_, fun q q1 q2 => ?_⟩
      · obtain ⟨y1, y2, y3⟩ := g3 q (by omega)
        obtain ⟨z1, z2, z3⟩ := cQ q
        rw [y1, y2, y3, z1, z2, z3]
        simp [show ¬ q = i by omega]
      · obtain ⟨z1, z2, z3⟩ := cQ q
        by_cases hqi : q = i
        · subst hqi
          obtain ⟨y1, y2, y3⟩ := g3 q (by omega)
          rw [y1, y2, y3, z1, z2, z3]
          exact ⟨fun t => absurd t hno, fun _ => by simp⟩
        · have := g4 q (by omega) q2
          rw [hSB, z1, z2, z3] at this
          simp only [if_neg hqi] at this
          exact this
    · rw [if_neg (by decide), f_Mod_side_69, nI_1]
      have hon := e3.mp rfl
      obtain ⟨sg', g1, g2, g3, g4⟩ := ih (i + 1) m sg (by omega)
      refine ⟨sg', g1, g2, fun q hq => g3 q (by omega), fun q q1 q2 => ?_⟩
      by_cases hqi : q = i
      · subst hqi
        obtain ⟨y1, y2, y3⟩ := g3 q (by omega)
        rw [y1, y2, y3]
        exact ⟨fun _ => ⟨rfl, rfl, rfl⟩, fun t => absurd hon t⟩
      · exact g4 q (by omega) q2
theorem axis_c {s : Nat} (hs : s < 3) (sg : Hp) : f_Box_axisOf sg (nI s) = some (nI ((s + 1) % 3), sg) := by
  unfold f_Box_axisOf
  rcases (by omega : s = 0 ∨ s = 1 ∨ s = 2) with rfl | rfl | rfl <;> rfl
theorem side_bc {sg : Hp} {a1 a2 : Int32} (h : ¬ ((0 ≤ a1.toInt ∧ a1.toInt ≤ 2) ∧ 1 ≤ a2.toInt ∧ a2.toInt ≤ 30)) : f_Box_side sg a1 a2 = some (-2, sg) := by
  unfold f_Box_side
  simp only [nLt, nLe, Int32.reduceToInt]
  by_cases h1 : a1.toInt < 0
  · rw [if_pos h1]
  · rw [if_neg h1]
    by_cases h2 : 3 ≤ a1.toInt
    · rw [if_pos h2]
    · rw [if_neg h2]
      by_cases h3 : a2.toInt < 1
      · rw [if_pos h3]
      · rw [if_neg h3, if_neg (by omega)]
theorem side_bm {sg : Hp} {a1 a2 : Int32} (h : ¬ ((0 ≤ a1.toInt ∧ a1.toInt ≤ 2) ∧ 1 ≤ a2.toInt ∧ a2.toInt ≤ 30)) : f_Mod_side sg a1 a2 = some (-2, sg) := by
  unfold f_Mod_side
  rw [in_i a1 (0 : Int64) (2 : Int64) (a := 0) (b := 2) rfl rfl, Option.bind_some]
  dsimp only
  rw [if_b]
  by_cases hc : 0 ≤ a1.toInt ∧ a1.toInt ≤ 2
  · rw [if_pos hc, in_i a2 (1 : Int64) (30 : Int64) (a := 1) (b := 30) rfl rfl, Option.bind_some]
    dsimp only
    rw [if_b, if_neg (fun q => h ⟨hc, q⟩)]
  · rw [if_neg hc]
theorem side_gc {sg : Hp} {s : Nat} (hs : s < 3) {v : Int32} (hv : 1 ≤ v.toInt ∧ v.toInt ≤ 30) (b2 : ∀ a, a < 3 → 1 ≤ (sg 2 a).toInt ∧ (sg 2 a).toInt ≤ 30) (h0 : 0 ≤ (sg 1 6).toInt) (h1 : (sg 1 6).toInt ≤ 90000) : ∃ B, f_Box_side sg (nI s) v = some (sg 2 ((s + 1) % 3), B) ∧ (∀ c, c ≠ 1 → c ≠ 2 → c ≠ 3 → c ≠ 4 → c ≠ 5 → c ≠ 8 → B c = sg c) ∧ (∀ a, B 2 a = if a = (s + 1) % 3 then v else sg 2 a) ∧ (∀ q, q < 8 → stay (sS B) (sg 3 q) (sg 4 q) (sg 5 q) (B 3 q) (B 4 q) (B 5 q)) ∧ (sg 1 6).toInt < (B 1 6).toInt ∧ (B 1 6).toInt ≤ (sg 1 6).toInt + 9 := by
  have hs1 : (nI s).toInt = (s : Int) := nI_toInt (by omega)
  have hax : (s + 1) % 3 < 3 := Nat.mod_lt _ (by omega)
  have hb1 : inb (nI ((s + 1) % 3)) 3 = true := by rw [inb_iff, nI_toInt (by omega)]; omega
  unfold f_Box_side
  simp only [nLt, nLe, Int32.reduceToInt, hs1]
  rw [if_neg (by omega), if_neg (by omega), if_neg (by omega), if_pos (by omega), axis_c hs, Option.bind_some]
  dsimp only
  unfold f_Room_stretch
  rw [if_pos hb1, if_pos hb1, Option.bind_some, nI_clamp (by omega)]
  have cA : ∀ c, c ≠ 2 → w2 sg 2 ((s + 1) % 3) v c = sg c := fun c hc => w2_cell _ hc
  have cS : ∀ a, w2 sg 2 ((s + 1) % 3) v 2 a = if a = (s + 1) % 3 then v else sg 2 a := fun a => by rw [w2_app]; simp
  generalize w2 sg 2 ((s + 1) % 3) v = A at cA cS ⊢
  have hSA : ∀ a, a < 3 → 1 ≤ (A 2 a).toInt ∧ (A 2 a).toInt ≤ 30 := by
    intro a ha
    rw [cS a]
    split
    · exact hv
    · exact b2 a ha
  obtain ⟨m, hm⟩ := LFx 8 (by omega)
  obtain ⟨B, g1, g2, -, g4, g5, g6⟩ := stretch_l (sg 2 ((s + 1) % 3)) 8 0 m A (by omega) hSA (by rw [cA 1 (by omega)]; omega) (by rw [cA 1 (by omega)]; omega)
  rw [cA 1 (by omega)] at g5 g6
  have hSB : sS B = sS A := by funext a; unfold sS; rw [g2 2 (by omega) (by omega) (by omega) (by omega) (by omega)]
  refine ⟨B, ?_, fun c c1 c2 c3 c4 c5 c8 => by rw [g2 c c1 c3 c4 c5 c8, cA c c2], fun a => by rw [g2 2 (by omega) (by omega) (by omega) (by omega) (by omega), cS a], fun q hq => ?_, g5, by omega⟩
  · rw [hm, ← nI_0, g1, Option.bind_some]
  · have := g4 q (by omega) hq
    rw [cA 3 (by omega), cA 4 (by omega), cA 5 (by omega)] at this
    rw [hSB]
    exact this
theorem side_gm {sg : Hp} {s : Nat} (hs : s < 3) {v : Int32} (hv : 1 ≤ v.toInt ∧ v.toInt ≤ 30) : ∃ D, f_Mod_side sg (nI s) v = some (sg 51 s, D) ∧ (∀ c, c ≠ 51 → c ≠ 52 → D c = sg c) ∧ (∀ a, D 51 a = if a = s then v else sg 51 a) ∧ (∀ q, q < 8 → stay (mSd D) (sg 52 (3 * q)) (sg 52 (3 * q + 1)) (sg 52 (3 * q + 2)) (D 52 (3 * q)) (D 52 (3 * q + 1)) (D 52 (3 * q + 2))) := by
  have hs1 : (nI s).toInt = (s : Int) := nI_toInt (by omega)
  have hb2 : inb (nI s) 3 = true := by rw [inb_iff, hs1]; omega
  unfold f_Mod_side
  rw [in_i (nI s) (0 : Int64) (2 : Int64) (a := 0) (b := 2) rfl rfl, Option.bind_some]
  dsimp only
  rw [if_b, if_pos (by omega), in_i v (1 : Int64) (30 : Int64) (a := 1) (b := 30) rfl rfl, Option.bind_some]
  dsimp only
  rw [if_b, if_pos hv, if_pos hb2, if_pos hb2, Option.bind_some, nI_clamp (by omega)]
  have cC : ∀ c, c ≠ 51 → w2 sg 51 s v c = sg c := fun c hc => w2_cell _ hc
  have cS : ∀ a, w2 sg 51 s v 51 a = if a = s then v else sg 51 a := fun a => by rw [w2_app]; simp
  generalize w2 sg 51 s v = E at cC cS ⊢
  obtain ⟨m, hm⟩ := LFx 8 (by omega)
  obtain ⟨D, d1, d2, -, d4⟩ := side_l (sg 51 s) 8 0 m E (by omega)
  have hSD : mSd D = mSd E := by funext a; unfold mSd; rw [d2 51 (by omega)]
  refine ⟨D, ?_, fun c c1 c2 => by rw [d2 c c2, cC c c1], fun a => by rw [d2 51 (by omega), cS a], fun q hq => ?_⟩
  · rw [hm, ← nI_0, d1]
  · have := d4 q (by omega) hq
    rw [cC 52 (by omega)] at this
    rw [hSD]
    exact this
theorem k_side : K_side := by
  intro n sg h hn a1 a2
  have hB := h.1
  obtain ⟨b1, b2, b3, b4, b5, b6⟩ := id hB
  by_cases hc : (0 ≤ a1.toInt ∧ a1.toInt ≤ 2) ∧ 1 ≤ a2.toInt ∧ a2.toInt ≤ 30
  · obtain ⟨hc, hv⟩ := hc
    obtain ⟨s, hs, rfl⟩ := nI_ex (n := 2) hc (by omega)
    have hch := h.2.2.2.2.1
    obtain ⟨B, g1, g2, g3, g4, g5, g6⟩ := side_gc (sg := sg) (s := s) (by omega) hv b2 (by omega) (by omega)
    obtain ⟨D, d1, d2, d3, d4⟩ := side_gm (sg := B) (s := s) (by omega) hv
    rw [g2 51 (by omega) (by omega) (by omega) (by omega) (by omega) (by omega)] at d1 d3
    rw [g2 52 (by omega) (by omega) (by omega) (by omega) (by omega) (by omega)] at d4
    have hwas : sg 51 s = sg 2 ((s + 1) % 3) := by
      rcases (by omega : s = 0 ∨ s = 1 ∨ s = 2) with rfl | rfl | rfl
      · exact b1.1
      · exact b1.2.1
      · exact b1.2.2
    have hmS : ∀ a, a < 3 → mSd D a = sS B a := by
      intro a ha
      unfold mSd sS
      rw [g3 a, d3 0, d3 1, d3 2, b1.1, b1.2.1, b1.2.2]
      rcases (by omega : s = 0 ∨ s = 1 ∨ s = 2) with rfl | rfl | rfl <;> rcases (by omega : a = 0 ∨ a = 1 ∨ a = 2) with rfl | rfl | rfl <;> simp
    have e : ∀ c, c ≠ 1 → c ≠ 2 → c ≠ 3 → c ≠ 4 → c ≠ 5 → c ≠ 8 → c ≠ 51 → c ≠ 52 → D c = sg c := fun c c1 c2 c3 c4 c5 c8 c51 c52 => by rw [d2 c c51 c52, g2 c c1 c2 c3 c4 c5 c8]
    have hSD : sS D = sS B := by funext a; unfold sS; rw [d2 2 (by omega) (by omega)]
    have hpl : ∀ q, q < 8 → D 52 (3 * q) = B 3 q ∧ D 52 (3 * q + 1) = B 4 q ∧ D 52 (3 * q + 2) = B 5 q := by
      intro q hq
      have t1 := d4 q hq
      obtain ⟨p1, p2, p3⟩ := b3 q hq
      rw [p1, p2, p3] at t1
      have t2 := g4 q hq
      refine stay_one (S := sS B) ?_ t2
      unfold stay at t1 ⊢
      rw [onB_eq hmS] at t1
      exact t1
    have hSr : ∀ a, a < 3 → 1 ≤ (D 2 a).toInt ∧ (D 2 a).toInt ≤ 30 := by
      intro a ha
      rw [d2 2 (by omega) (by omega), g3 a]
      split
      · exact hv
      · exact b2 a ha
    refine ⟨sg 2 ((s + 1) % 3), B, D, g1, by rw [← hwas]; exact d1, ?_⟩
    refine h.boxed ?_ ?_ (fun c hc => ?_)
    · refine ⟨?_, hSr, ?_, ?_, ?_, ?_⟩
      · have m0 := hmS 0 (by omega)
        have m1 := hmS 1 (by omega)
        have m2 := hmS 2 (by omega)
        unfold mSd sS at m0 m1 m2
        simp at m0 m1 m2
        rw [d2 2 (by omega) (by omega)]
        exact ⟨i_inj m1, i_inj m2, i_inj m0⟩
      · intro q hq
        rw [d2 3 (by omega) (by omega), d2 4 (by omega) (by omega), d2 5 (by omega) (by omega)]
        exact hpl q hq
      · intro q hq
        rw [hSD, d2 3 (by omega) (by omega), d2 4 (by omega) (by omega), d2 5 (by omega) (by omega)]
        refine stay_on (fun a ha => ?_) (g4 q hq)
        have := hSr a ha
        rw [d2 2 (by omega) (by omega)] at this
        exact this.1
      · rw [e 53 (by omega) (by omega) (by omega) (by omega) (by omega) (by omega) (by omega) (by omega), e 6 (by omega) (by omega) (by omega) (by omega) (by omega) (by omega) (by omega) (by omega)]
        exact b5
      · unfold sBar
        rw [e 6 (by omega) (by omega) (by omega) (by omega) (by omega) (by omega) (by omega) (by omega)]
        exact b6
    · refine h.2.2.2.2.grown ?_ ?_ (e 28 (by omega) (by omega) (by omega) (by omega) (by omega) (by omega) (by omega) (by omega))
      · rw [d2 1 (by omega) (by omega)]; exact g5
      · rw [d2 1 (by omega) (by omega)]; omega
    · simp only [List.mem_cons, List.not_mem_nil, or_false, not_or] at hc
      exact e c (by omega) (by omega) (by omega) (by omega) (by omega) (by omega) (by omega) (by omega)
  · exact ⟨-2, sg, sg, side_bc hc, side_bm hc, h.same⟩
