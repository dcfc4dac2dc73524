/-! THE REFERENCE'S ROLL -/
theorem tw_cell {sg : Hp} {l al ot k : Nat} {on : Bool} {reach up : Int32} {c : Nat} (h : c ≠ 55) : tw sg l al ot on reach up k c = sg c := by
  unfold tw
  rw [w2_cell _ h, w2_cell _ h, w2_cell _ h, w2_cell _ h]
theorem tw_at (sg : Hp) (l al ot k i : Nat) (on : Bool) (reach up : Int32) : tw sg l al ot on reach up k 55 i = if i = 14 * l + 14 + 9 + k then sg 55 (14 * l + 9 + k) + (if on then reach * sg 55 (14 * l + al + k) else up * sg 55 (14 * l + 6 + k)) else if i = 14 * l + 14 + 6 + k then (if on then -(sg 55 (14 * l + al + k)) else sg 55 (14 * l + al + k)) else if i = 14 * l + 14 + ot + k then sg 55 (14 * l + ot + k) else if i = 14 * l + 14 + al + k then (if on then sg 55 (14 * l + 6 + k) else -(sg 55 (14 * l + 6 + k))) else sg 55 i := by
  unfold tw
  simp only [w2_app, true_and]
/-- all three directions turned -/
theorem turns_l {sg : Hp} {l al ot : Nat} {on : Bool} {reach up : Int32} (hl : l < 39) (ha : (al = 0 ∧ ot = 3) ∨ (al = 3 ∧ ot = 0)) (m : Nat) : ∃ T, f_Mod_turns_63 (m + 3 + 1) sg (nI l) (nI (14 * l)) (nI (14 * l + 14)) (nI al) (nI ot) (oI on) reach up (nI 0) = f_Mod_turns_63 (m + 1) T (nI l) (nI (14 * l)) (nI (14 * l + 14)) (nI al) (nI ot) (oI on) reach up (nI 3) ∧ (∀ c, c ≠ 55 → T c = sg c) ∧ (∀ i, (i < 14 * l + 14 ∨ 14 * l + 28 ≤ i) → T 55 i = sg 55 i) ∧ ∀ k, k < 3 → T 55 (14 * l + 14 + al + k) = (if on then sg 55 (14 * l + 6 + k) else -(sg 55 (14 * l + 6 + k))) ∧ T 55 (14 * l + 14 + ot + k) = sg 55 (14 * l + ot + k) ∧ T 55 (14 * l + 14 + 6 + k) = (if on then -(sg 55 (14 * l + al + k)) else sg 55 (14 * l + al + k)) ∧ T 55 (14 * l + 14 + 9 + k) = sg 55 (14 * l + 9 + k) + (if on then reach * sg 55 (14 * l + al + k) else up * sg 55 (14 * l + 6 + k)) := by
  have lo : ∀ (s : Hp) (k i : Nat), k < 3 → (i < 14 * l + 14 ∨ 14 * l + 28 ≤ i) → tw s l al ot on reach up k 55 i = s 55 i := fun s k i hk hi => by
    rw [tw_at, if_neg (by omega), if_neg (by omega), if_neg (by omega), if_neg (by omega)]
  have me : ∀ (s : Hp) (k : Nat), k < 3 → tw s l al ot on reach up k 55 (14 * l + 14 + al + k) = (if on then s 55 (14 * l + 6 + k) else -(s 55 (14 * l + 6 + k))) ∧ tw s l al ot on reach up k 55 (14 * l + 14 + ot + k) = s 55 (14 * l + ot + k) ∧ tw s l al ot on reach up k 55 (14 * l + 14 + 6 + k) = (if on then -(s 55 (14 * l + al + k)) else s 55 (14 * l + al + k)) ∧ tw s l al ot on reach up k 55 (14 * l + 14 + 9 + k) = s 55 (14 * l + 9 + k) + (if on then reach * s 55 (14 * l + al + k) else up * s 55 (14 * l + 6 + k)) := fun s k hk => by
    refine ⟨?_, ?_, ?_, ?_⟩
    · rw [tw_at, if_neg (by omega), if_neg (by omega), if_neg (by omega), if_pos rfl]
    · rw [tw_at, if_neg (by omega), if_neg (by omega), if_pos rfl]
    · rw [tw_at, if_neg (by omega), if_pos rfl]
    · rw [tw_at, if_pos rfl]
  have ot' : ∀ (s : Hp) (k k' d : Nat), k < 3 → k' < 3 → k ≠ k' → (d = al ∨ d = ot ∨ d = 6 ∨ d = 9) → tw s l al ot on reach up k 55 (14 * l + 14 + d + k') = s 55 (14 * l + 14 + d + k') := fun s k k' d hk hk' hkk hd => by
    rw [tw_at, if_neg (by omega), if_neg (by omega), if_neg (by omega), if_neg (by omega)]
  refine ⟨tw (tw (tw sg l al ot on reach up 0) l al ot on reach up 1) l al ot on reach up 2, ?_, fun c hc => by rw [tw_cell hc, tw_cell hc, tw_cell hc], fun i hi => by rw [lo _ 2 i (by omega) hi, lo _ 1 i (by omega) hi, lo _ 0 i (by omega) hi], fun k hk => ?_⟩
  · rw [show m + 3 + 1 = (m + 1 + 1 + 1) + 1 by omega, turns_step hl ha (by omega), turns_step hl ha (by omega), turns_step hl ha (by omega)]
  · rcases (by omega : k = 0 ∨ k = 1 ∨ k = 2) with rfl | rfl | rfl
    · rw [ot' _ 2 0 al (by omega) (by omega) (by omega) (by omega), ot' _ 2 0 ot (by omega) (by omega) (by omega) (by omega), ot' _ 2 0 6 (by omega) (by omega) (by omega) (by omega), ot' _ 2 0 9 (by omega) (by omega) (by omega) (by omega), ot' _ 1 0 al (by omega) (by omega) (by omega) (by omega), ot' _ 1 0 ot (by omega) (by omega) (by omega) (by omega), ot' _ 1 0 6 (by omega) (by omega) (by omega) (by omega), ot' _ 1 0 9 (by omega) (by omega) (by omega) (by omega)]
      exact me sg 0 (by omega)
    · rw [ot' _ 2 1 al (by omega) (by omega) (by omega) (by omega), ot' _ 2 1 ot (by omega) (by omega) (by omega) (by omega), ot' _ 2 1 6 (by omega) (by omega) (by omega) (by omega), ot' _ 2 1 9 (by omega) (by omega) (by omega) (by omega)]
      obtain ⟨a, b, c, d⟩ := me (tw sg l al ot on reach up 0) 1 (by omega)
      rw [a, b, c, d, lo sg 0 _ (by omega) (by omega), lo sg 0 _ (by omega) (by omega), lo sg 0 _ (by omega) (by omega), lo sg 0 _ (by omega) (by omega)]
      exact ⟨rfl, rfl, rfl, rfl⟩
    · obtain ⟨a, b, c, d⟩ := me (tw (tw sg l al ot on reach up 0) l al ot on reach up 1) 2 (by omega)
      rw [a, b, c, d, lo _ 1 _ (by omega) (by omega), lo _ 1 _ (by omega) (by omega), lo _ 1 _ (by omega) (by omega), lo _ 1 _ (by omega) (by omega), lo sg 0 _ (by omega) (by omega), lo sg 0 _ (by omega) (by omega), lo sg 0 _ (by omega) (by omega), lo sg 0 _ (by omega) (by omega)]
      exact ⟨rfl, rfl, rfl, rfl⟩
/-- the edge over which the box is rolled onto wall w -/
def EG (S : Nat → Int) (sg : Hp) (l : Nat) (P : Pose) (w : Nat) : Prop :=
  sg 56 (4 * l) = (if w = P.2.1 ∨ w = ow P.2.1 then 1 else 0) ∧
  (sg 56 (4 * l + 1)).toInt = (if w = P.2.1 then P.2.2.2.1 + S (P.2.1 / 2) else if w = ow P.2.1 then P.2.2.2.1 else if w = P.2.2.1 then P.2.2.2.2 + S (P.2.2.1 / 2) else P.2.2.2.2) ∧
  (sg 56 (4 * l + 2)).toInt = (if w = P.2.1 ∨ w = ow P.2.1 then P.2.2.2.2 else P.2.2.2.1) ∧
  (sg 56 (4 * l + 3)).toInt = (if w = P.2.1 ∨ w = ow P.2.1 then P.2.2.2.2 + S (P.2.2.1 / 2) else P.2.2.2.1 + S (P.2.1 / 2))
/-- the last steps of a roll -/
theorem turns_e {S : Nat → Int} {T : Hp} {l al ot wy d : Nat} {on : Bool} {reach up fo : Int32} (hM : SM S T) (hl : l < 39) (ha : (al = 0 ∧ ot = 3 ∧ wy = 0) ∨ (al = 3 ∧ ot = 0 ∧ wy = 1)) (hd : d < 6) (hv : ∀ k, k < 3 → (T 55 (14 * l + ot + k)).toInt = dirN d k) (m : Nat) : ∃ T' fo, f_Mod_turns_63 (m + 1) T (nI l) (nI (14 * l)) (nI (14 * l + 14)) (nI al) (nI ot) (oI on) reach up (nI 3) = some T' ∧ (∀ c, c ≠ 55 → c ≠ 56 → T' c = T c) ∧ (∀ i, i ≠ 14 * l + 26 → i ≠ 14 * l + 27 → T' 55 i = T 55 i) ∧ (∀ i, (i < 4 * l ∨ 4 * l + 4 ≤ i) → T' 56 i = T 56 i) ∧ T' 55 (14 * l + 26 + wy) = T 55 (14 * l + 12 + wy) + (if on then reach else -up) ∧ T' 55 (14 * l + 27 - wy) = T 55 (14 * l + 13 - wy) ∧ T' 56 (4 * l) = nI (1 - wy) ∧ T' 56 (4 * l + 1) = T 55 (14 * l + 12 + wy) + (if on then reach else 0) ∧ T' 56 (4 * l + 2) = T 55 (14 * l + 13 - wy) ∧ T' 56 (4 * l + 3) = T 55 (14 * l + 13 - wy) + fo ∧ fo.toInt = S (d / 2) := by
  have w13 : 14 * l + 12 + (1 - wy) = 14 * l + 13 - wy := by omega
  have e3 : nI al / (3 : Int32) = nI wy := by rcases ha with ⟨rfl, -, rfl⟩ | ⟨rfl, -, rfl⟩ <;> decide
  have e1 : (1 : Int32) - nI wy = nI (1 - wy) := by rcases ha with ⟨-, -, rfl⟩ | ⟨-, -, rfl⟩ <;> decide
  have hwy : wy < 2 := by omega
  have x1 : nI (14 * l + 14) + (12 : Int32) + nI wy = nI (14 * l + 26 + wy) := by rw [show (12 : Int32) = nI 12 from rfl, nI_add, nI_add]
  have x2 : nI (14 * l + 14) + (13 : Int32) - nI wy = nI (14 * l + 27 - wy) := by
    rw [show (13 : Int32) = nI 13 from rfl, nI_add]
    apply i_inj
    rw [tSub (by rw [nI_toInt (by omega), nI_toInt (by omega)]; omega) (by rw [nI_toInt (by omega), nI_toInt (by omega)]; omega), nI_toInt (by omega), nI_toInt (by omega), nI_toInt (by omega)]
    omega
  have y0 : (4 : Int32) * nI l = nI (4 * l) := by rw [show (4 : Int32) = nI 4 from rfl, nI_mul]
  have fin : ∀ (U : Hp) (xs : Int32), SM S U → (∀ k, k < 3 → (U 55 (14 * l + ot + k)).toInt = dirN d k) → ∃ fo, f_Mod_turns_325 U (nI l) (nI ot) (nI wy) (nI (4 * l + 1)) (U 55 (14 * l + 12 + wy)) xs = some (w2 (w2 (w2 U 56 (4 * l + 1) (U 55 (14 * l + 12 + wy) + xs)) 56 (4 * l + 2) (U 55 (14 * l + 13 - wy))) 56 (4 * l + 3) (U 55 (14 * l + 13 - wy) + fo)) ∧ fo.toInt = S (d / 2) := by
    intro U xs hU hv
    unfold f_Mod_turns_325
    rw [if_pos (ib (by omega) (by omega)), nI_clamp (by omega), Option.bind_some, e1, southWest_m (by omega) (by omega), Option.bind_some, y0, show nI (4 * l) + (2 : Int32) = nI (4 * l + 2) from by rw [show (2 : Int32) = nI 2 from rfl, nI_add], if_pos (ib (by omega) (by omega)), nI_clamp (by omega), Option.bind_some]
    dsimp only
    rw [southWest_m (by omega) (by omega), Option.bind_some, w13]
    dsimp only
    obtain ⟨fo, g1, g2⟩ := far_m (S := S) (sg := w2 (w2 U 56 (4 * l + 1) (U 55 (14 * l + 12 + wy) + xs)) 56 (4 * l + 2) (w2 U 56 (4 * l + 1) (U 55 (14 * l + 12 + wy) + xs) 55 (14 * l + 13 - wy))) (by
      unfold SM at *
      rw [w2_cell _ (by omega), w2_cell _ (by omega)]
      exact hU) (l := l) (d := ot) (w := d) (by omega) hd (fun k hk => by rw [w2_cell _ (by omega), w2_cell _ (by omega)]; exact hv k hk)
    rw [g1, Option.bind_some]
    dsimp only
    rw [show nI (4 * l) + (3 : Int32) = nI (4 * l + 3) from by rw [show (3 : Int32) = nI 3 from rfl, nI_add], if_pos (ib (by omega) (by omega)), nI_clamp (by omega), Option.bind_some]
    rw [w2_cell _ (show (55 : Nat) ≠ 56 by omega), w2_cell _ (show (55 : Nat) ≠ 56 by omega)]
    exact ⟨fo, rfl, g2⟩
  have mid : ∀ (q : Int32), ∃ T' fo, f_Mod_turns_262 T (nI l) (nI (14 * l + 14)) (nI ot) (oI on) reach (nI wy) (nI (14 * l + 26 + wy)) (T 55 (14 * l + 12 + wy)) q = some T' ∧ (∀ c, c ≠ 55 → c ≠ 56 → T' c = T c) ∧ (∀ i, i ≠ 14 * l + 26 → i ≠ 14 * l + 27 → T' 55 i = T 55 i) ∧ (∀ i, (i < 4 * l ∨ 4 * l + 4 ≤ i) → T' 56 i = T 56 i) ∧ T' 55 (14 * l + 26 + wy) = T 55 (14 * l + 12 + wy) + q ∧ T' 55 (14 * l + 27 - wy) = T 55 (14 * l + 13 - wy) ∧ T' 56 (4 * l) = nI (1 - wy) ∧ T' 56 (4 * l + 1) = T 55 (14 * l + 12 + wy) + (if on then reach else 0) ∧ T' 56 (4 * l + 2) = T 55 (14 * l + 13 - wy) ∧ T' 56 (4 * l + 3) = T 55 (14 * l + 13 - wy) + fo ∧ fo.toInt = S (d / 2) := by
    intro q
    unfold f_Mod_turns_262
    rw [if_pos (ib (by omega) (by omega)), nI_clamp (by omega), Option.bind_some, e1, southWest_m (by omega) (by omega), Option.bind_some, x2, if_pos (ib (by omega) (by omega)), nI_clamp (by omega), Option.bind_some, y0, if_pos (ib (by omega) (by omega)), nI_clamp (by omega), Option.bind_some]
    dsimp only
    rw [southWest_m (by omega) (by omega), Option.bind_some, w13, nI_1]
    dsimp only
    rw [w2_ne (show ¬ (55 = 55 ∧ 14 * l + 13 - wy = 14 * l + 26 + wy) by omega)]
    generalize hU : w2 (w2 (w2 T 55 (14 * l + 26 + wy) (T 55 (14 * l + 12 + wy) + q)) 55 (14 * l + 27 - wy) (T 55 (14 * l + 13 - wy))) 56 (4 * l) (nI (1 - wy)) = U
    have u51 : SM S U := by
      unfold SM at *
      rw [← hU, w2_cell _ (by omega), w2_cell _ (by omega), w2_cell _ (by omega)]
      exact hM
    have u55 : ∀ i, i ≠ 14 * l + 26 → i ≠ 14 * l + 27 → U 55 i = T 55 i := fun i h1 h2 => by
      rw [← hU, w2_cell _ (by omega), w2_ne (by omega), w2_ne (by omega)]
    have u56 : ∀ i, i ≠ 4 * l → U 56 i = T 56 i := fun i h1 => by
      rw [← hU, w2_ne (by omega), w2_cell _ (by omega), w2_cell _ (by omega)]
    have u56' : U 56 (4 * l) = nI (1 - wy) := by rw [← hU, w2_at]
    have uc : ∀ c, c ≠ 55 → c ≠ 56 → U c = T c := fun c h1 h2 => by
      rw [← hU, w2_cell _ h2, w2_cell _ h1, w2_cell _ h1]
    have ua : U 55 (14 * l + 26 + wy) = T 55 (14 * l + 12 + wy) + q := by rw [← hU, w2_cell _ (by omega), w2_ne (by omega), w2_at]
    have ub : U 55 (14 * l + 27 - wy) = T 55 (14 * l + 13 - wy) := by rw [← hU, w2_cell _ (by omega), w2_at]
    have huv : ∀ k, k < 3 → (U 55 (14 * l + ot + k)).toInt = dirN d k := fun k hk => by rw [u55 _ (by omega) (by omega)]; exact hv k hk
    have u12 : U 55 (14 * l + 12 + wy) = T 55 (14 * l + 12 + wy) := u55 _ (by omega) (by omega)
    have u13 : U 55 (14 * l + 13 - wy) = T 55 (14 * l + 13 - wy) := u55 _ (by omega) (by omega)
    have last : ∀ xs : Int32, ∃ T' fo, f_Mod_turns_325 U (nI l) (nI ot) (nI wy) (nI (4 * l + 1)) (U 55 (14 * l + 12 + wy)) xs = some T' ∧ (∀ c, c ≠ 55 → c ≠ 56 → T' c = T c) ∧ (∀ i, i ≠ 14 * l + 26 → i ≠ 14 * l + 27 → T' 55 i = T 55 i) ∧ (∀ i, (i < 4 * l ∨ 4 * l + 4 ≤ i) → T' 56 i = T 56 i) ∧ T' 55 (14 * l + 26 + wy) = T 55 (14 * l + 12 + wy) + q ∧ T' 55 (14 * l + 27 - wy) = T 55 (14 * l + 13 - wy) ∧ T' 56 (4 * l) = nI (1 - wy) ∧ T' 56 (4 * l + 1) = T 55 (14 * l + 12 + wy) + xs ∧ T' 56 (4 * l + 2) = T 55 (14 * l + 13 - wy) ∧ T' 56 (4 * l + 3) = T 55 (14 * l + 13 - wy) + fo ∧ fo.toInt = S (d / 2) := by
      intro xs
      obtain ⟨fo, g1, g2⟩ := fin U xs u51 huv
      rw [u12, u13] at g1
      rw [u12]
      refine ⟨_, fo, g1, fun c h1 h2 => by rw [w2_cell _ h2, w2_cell _ h2, w2_cell _ h2, uc c h1 h2], fun i h1 h2 => by rw [w2_cell _ (by omega), w2_cell _ (by omega), w2_cell _ (by omega), u55 i h1 h2], fun i h1 => by rw [w2_ne (by omega), w2_ne (by omega), w2_ne (by omega), u56 i (by omega)], by rw [w2_cell _ (by omega), w2_cell _ (by omega), w2_cell _ (by omega), ua], by rw [w2_cell _ (by omega), w2_cell _ (by omega), w2_cell _ (by omega), ub], by rw [w2_ne (by omega), w2_ne (by omega), w2_ne (by omega), u56'], by rw [w2_ne (by omega), w2_ne (by omega), w2_at], by rw [w2_ne (by omega), w2_at], by rw [w2_at], g2⟩
    cases on
    · rw [if_pos (show oI false = 0 from rfl)]
      exact last 0
    · rw [if_neg (show ¬ oI true = 0 by decide)]
      exact last reach
  rw [f_Mod_turns_63, if_pos (by rw [show (3 : Int32) = nI 3 from rfl]; exact nI_le (by omega) (by omega)), e3, southWest_m (by omega) hwy, Option.bind_some, x1]
  dsimp only
  cases on
  · rw [if_pos (show oI false = 0 from rfl)]
    exact mid (-up)
  · rw [if_neg (show ¬ oI true = 0 by decide)]
    exact mid reach
