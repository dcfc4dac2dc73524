/-! FARTHEST, SIT, NEARER, WITHIN -/
theorem iLe {a b : Int} (ha : -1000000000 ≤ a ∧ a ≤ 1000000000) (hb : -1000000000 ≤ b ∧ b ≤ 1000000000) : (iI a ≤ iI b) = (a ≤ b) := by rw [nLe, iT (by omega) (by omega), iT (by omega) (by omega)]
theorem iLt {a b : Int} (ha : -1000000000 ≤ a ∧ a ≤ 1000000000) (hb : -1000000000 ≤ b ∧ b ≤ 1000000000) : (iI a < iI b) = (a < b) := by rw [nLt, iT (by omega) (by omega), iT (by omega) (by omega)]
theorem iM1 : iI (-1) = (-1 : Int32) := by decide
theorem iE1 {a : Int} (ha : -1000000000 ≤ a ∧ a ≤ 1000000000) : (iI a = (-1 : Int32)) = (a = -1) := by rw [← iM1, nEq, iT (by omega) (by omega), iT (by omega) (by omega)]
theorem le8 {j : Nat} (h : 8 ≤ j) (hj : j < 100) : (8 : Int32) ≤ nI j := by rw [show (8 : Int32) = nI 8 from rfl]; exact nI_le h (by omega)
theorem nle8 {j : Nat} (h : j < 8) : ¬ (8 : Int32) ≤ nI j := by rw [show (8 : Int32) = nI 8 from rfl]; exact nI_ge h (by omega)
def farL (D : Nat → Int) : Nat → Nat → Int32 → Int → Int32
  | 0, _, b, _ => b
  | k + 1, j, b, m => if D j ≤ m then farL D k (j + 1) b m else farL D k (j + 1) (nI j) (D j)
theorem farL_any {D : Nat → Int} : ∀ (k j : Nat) (b b' : Int32) (m : Int), (∃ q, j ≤ q ∧ q < j + k ∧ m < D q) → farL D k j b m = farL D k j b' m := by
  intro k
  induction k with
  | zero => rintro j b b' m ⟨q, h1, h2, h3⟩; omega
  | succ k ih =>
    rintro j b b' m ⟨q, h1, h2, h3⟩
    rw [farL, farL]
    by_cases hq : D j ≤ m
    · rw [if_pos hq, if_pos hq]
      refine ih _ _ _ _ ⟨q, ?_, by omega, h3⟩
      have : q ≠ j := fun e => by rw [e] at h3; omega
      omega
    · rw [if_neg hq, if_neg hq]
theorem far_c {n : Nat} {sg : Hp} (h : Inv n sg) {p : Nat} (hp : p < 8) : ∀ (k j m : Nat) (x2 x3 : Int32) (mo : Int) (s : Hp), j + k = 8 → x3 = iI mo → -1 ≤ mo ∧ mo ≤ 100000000 → PF n sg s → ∃ s', f_Box_farthest_17 (m + k + 1) s (nI p) x2 x3 (nI j) = some (farL (Dl sg p) k j x2 mo, s') ∧ PF n sg s' := by
  intro k
  induction k with
  | zero =>
    intro j m x2 x3 mo s hj hx hm hs
    rw [f_Box_farthest_17, if_pos (le8 (by omega) (by omega))]
    exact ⟨s, rfl, hs⟩
  | succ k ih =>
    intro j m x2 x3 mo s hj hx hm hs
    have hr := D_rng h hp (show j < 8 by omega)
    obtain ⟨s1, e1, e2, e3, -, -⟩ := look_d hs hp (show j < 8 by omega)
    rw [show m + (k + 1) + 1 = (m + k + 1) + 1 by omega, f_Box_farthest_17, if_neg (nle8 (by omega)), e1, Option.bind_some]
    dsimp only
    have L : (iI (Dl sg p j) ≤ iI mo) = (Dl sg p j ≤ mo) := iLe (by omega) (by omega)
    rw [if_pos (ix64 hp (by omega)).1]
    unfold f_Box_farthest_56
    simp only [(ix64 hp (show j < 8 by omega)).2, e3, hx, L]
    rw [farL, nI_1]
    by_cases q : Dl sg p j ≤ mo
    · rw [if_pos q, if_pos q]
      exact ih (j + 1) m _ _ mo s1 (by omega) rfl hm e2
    · rw [if_neg q, if_neg q]
      exact ih (j + 1) m _ _ _ s1 (by omega) rfl hr e2
theorem max_i {x y v : Int32} {a b : Int} (hx : x = iI a) (hy : y = iI b) (ha : -1000000000 ≤ a ∧ a ≤ 1000000000) (hb : -1000000000 ≤ b ∧ b ≤ 1000000000) (h : v.toInt = max x.toInt y.toInt) : v = iI (max a b) := by
  apply i_inj
  rw [h, hx, hy, iT (by omega) (by omega), iT (by omega) (by omega), iT (by omega) (by omega)]
theorem far_m' {n : Nat} {sg : Hp} (h : Inv n sg) {p : Nat} (hp : p < 8) : ∀ (k j m : Nat) (x2 x3 : Int32) (mo : Int) (s : Hp), j + k = 8 → x3 = iI mo → -1 ≤ mo ∧ mo ≤ 100000000 → PF n sg s → ∃ s', f_Mod_farthestOf_7 (m + k + 1) s (nI p) x2 x3 (nI j) = some (farL (Dl sg p) k j x2 mo, s') ∧ PF n sg s' := by
  intro k
  induction k with
  | zero =>
    intro j m x2 x3 mo s hj hx hm hs
    rw [f_Mod_farthestOf_7, if_pos (le8 (by omega) (by omega))]
    exact ⟨s, rfl, hs⟩
  | succ k ih =>
    intro j m x2 x3 mo s hj hx hm hs
    have hr := D_rng h hp (show j < 8 by omega)
    obtain ⟨s1, d, e1, e2, -⟩ := short_d hs hp (show j < 8 by omega)
    rw [show m + (k + 1) + 1 = (m + k + 1) + 1 by omega, f_Mod_farthestOf_7, if_neg (nle8 (by omega)), e1, Option.bind_some]
    dsimp only
    obtain ⟨v, g1, g2⟩ := greater_m s1 (iI (Dl sg p j)) x3
    have g3 := max_i rfl hx (by omega) (by omega) g2
    have L : (iI (Dl sg p j) ≤ iI mo) = (Dl sg p j ≤ mo) := iLe (by omega) (by omega)
    have st : ∀ y, f_Mod_farthestOf_35 (f_Mod_farthestOf_7 (m + k + 1)) s1 (nI p) x3 (nI j) (iI (Dl sg p j)) y = f_Mod_farthestOf_7 (m + k + 1) s1 (nI p) y v (nI (j + 1)) := by
      intro y
      unfold f_Mod_farthestOf_35
      rw [g1, Option.bind_some, nI_1]
    rw [st, st]
    simp only [hx, L]
    rw [farL]
    by_cases q : Dl sg p j ≤ mo
    · rw [if_pos q, if_pos q]
      exact ih (j + 1) m _ _ mo s1 (by omega) (by rw [g3]; exact congrArg iI (by omega)) hm e2
    · rw [if_neg q, if_neg q]
      exact ih (j + 1) m _ _ _ s1 (by omega) (by rw [g3]; exact congrArg iI (by omega)) hr e2
noncomputable def farV (sg : Hp) (p : Nat) : Int32 := farL (Dl sg p) 8 0 (-1) (-1)
theorem c_farthest {n : Nat} {sg : Hp} (h : Inv n sg) {p : Nat} (hp : p < 8) : Q n sg (fun s => f_Box_farthest s (nI p)) (farV sg p) := by
  intro s hs
  obtain ⟨m, hm⟩ := LFx 8 (by omega)
  obtain ⟨s', e1, e2⟩ := far_c h hp 8 0 m (-1) (-1) (-1) s (by omega) iM1.symm (by omega) hs
  refine ⟨s', ?_, e2⟩
  show f_Box_farthest s (nI p) = _
  unfold f_Box_farthest
  rw [isPlace_c, Option.bind_some]
  dsimp only
  rw [if_b, if_pos (pl8 hp), hm, ← nI_0]
  exact e1
theorem m_farthest {n : Nat} {sg : Hp} (h : Inv n sg) {p : Nat} (hp : p < 8) : Q n sg (fun s => f_Mod_farthestOf s (nI p)) (farV sg p) := by
  intro s hs
  obtain ⟨m, hm⟩ := LFx 8 (by omega)
  obtain ⟨s', e1, e2⟩ := far_m' h hp 8 0 m (nI p) (-1) (-1) s (by omega) iM1.symm (by omega) hs
  refine ⟨s', ?_, e2⟩
  show f_Mod_farthestOf s (nI p) = _
  unfold f_Mod_farthestOf farV
  rw [hm, ← nI_0, e1, farL_any 8 0 (nI p) (-1) (-1) ⟨p, by omega, by omega, by have := D_self h hp; omega⟩]
theorem k_farthest : K_farthest := by
  intro n sg h hn a1
  by_cases c1 : 0 ≤ a1.toInt ∧ a1.toInt ≤ 7
  · obtain ⟨a, ha, rfl⟩ := nI_ex (n := 7) c1 (by omega)
    refine pair_q h (c_farthest h (by omega)) (Q.eq (fun s => ?_) (m_farthest h (by omega)))
    unfold f_Mod_farthest
    rw [isPlace_m, Option.bind_some]
    dsimp only
    rw [if_b, if_pos c1, bid]
  · refine pair_q h (q_bad (v := -2) (fun s => ?_)) (q_bad (fun s => ?_))
    · unfold f_Box_farthest
      rw [isPlace_c, Option.bind_some]
      dsimp only
      rw [if_b, if_neg c1]
    · unfold f_Mod_farthest
      rw [isPlace_m, Option.bind_some]
      dsimp only
      rw [if_b, if_neg c1]
/-! sit -/
def rchL (D : Nat → Int) : Nat → Nat → Int → Int
  | 0, _, g => g
  | k + 1, j, g => if D j = -1 then -1 else rchL D k (j + 1) (max g (D j))
theorem rchL_rng {D : Nat → Int} : ∀ (k j : Nat) (g : Int), (∀ q, j ≤ q → q < j + k → -1 ≤ D q ∧ D q ≤ 100000000) → -1 ≤ g ∧ g ≤ 100000000 → -1 ≤ rchL D k j g ∧ rchL D k j g ≤ 100000000 := by
  intro k
  induction k with
  | zero => intro j g _ h; exact h
  | succ k ih =>
    intro j g h hg
    rw [rchL]
    have := h j (by omega) (by omega)
    split
    · omega
    · exact ih (j + 1) _ (fun q h1 h2 => h q (by omega) (by omega)) (by omega)
theorem reach_c {n : Nat} {sg : Hp} (h : Inv n sg) {p : Nat} (hp : p < 8) : ∀ (k j m : Nat) (g : Int) (s : Hp), j + k = 8 → -1 ≤ g ∧ g ≤ 100000000 → PF n sg s → ∃ s', f_Box_reachOf_4 (m + k + 1) s (nI p) (iI g) (nI j) = some (iI (rchL (Dl sg p) k j g), s') ∧ PF n sg s' := by
  intro k
  induction k with
  | zero =>
    intro j m g s hj hg hs
    rw [f_Box_reachOf_4, if_pos (le8 (by omega) (by omega))]
    exact ⟨s, rfl, hs⟩
  | succ k ih =>
    intro j m g s hj hg hs
    have hr := D_rng h hp (show j < 8 by omega)
    obtain ⟨s1, e1, e2, e3, -, -⟩ := look_d hs hp (show j < 8 by omega)
    rw [show m + (k + 1) + 1 = (m + k + 1) + 1 by omega, f_Box_reachOf_4, if_neg (nle8 (by omega)), e1, Option.bind_some]
    dsimp only
    have L1 : (iI (Dl sg p j) = (-1 : Int32)) = (Dl sg p j = -1) := iE1 (by omega)
    have L2 : (iI g < iI (Dl sg p j)) = (g < Dl sg p j) := iLt (by omega) (by omega)
    rw [if_pos (ix64 hp (by omega)).1]
    simp only [(ix64 hp (show j < 8 by omega)).2, e3, L1, L2]
    rw [rchL, nI_1]
    by_cases q : Dl sg p j = -1
    · rw [if_pos q, if_pos q, iM1]
      exact ⟨s1, rfl, e2⟩
    · rw [if_neg q, if_neg q]
      have : (if g < Dl sg p j then iI (Dl sg p j) else iI g) = iI (max g (Dl sg p j)) := by
        split
        · exact congrArg iI (by omega)
        · exact congrArg iI (by omega)
      rw [this]
      exact ih (j + 1) m _ s1 (by omega) (by omega) e2
noncomputable def rchV (sg : Hp) (p : Nat) : Int := rchL (Dl sg p) 8 0 0
theorem rchV_rng {n : Nat} {sg : Hp} (h : Inv n sg) {p : Nat} (hp : p < 8) : -1 ≤ rchV sg p ∧ rchV sg p ≤ 100000000 := rchL_rng 8 0 0 (fun q _ hq => D_rng h hp (by omega)) (by omega)
def sitL (R : Nat → Int) : Nat → Nat → Int32 → Int → Int32
  | 0, _, b, _ => b
  | k + 1, j, b, l => if R j = -1 then sitL R k (j + 1) b l else if b = -1 then sitL R k (j + 1) (nI j) (R j) else if l ≤ R j then sitL R k (j + 1) b l else sitL R k (j + 1) (nI j) (R j)
theorem sitL_any {R : Nat → Int} : ∀ (k j : Nat) (l l' : Int), sitL R k j (-1) l = sitL R k j (-1) l' := by
  intro k
  induction k with
  | zero => intro j l l'; rfl
  | succ k ih =>
    intro j l l'
    rw [sitL, sitL, if_pos rfl, if_pos rfl, ih (j + 1) l l']
theorem sit_c {n : Nat} {sg : Hp} (h : Inv n sg) : ∀ (k j m : Nat) (b : Int32) (l : Int) (s : Hp), j + k = 8 → -1 ≤ l ∧ l ≤ 100000000 → PF n sg s → ∃ s', f_Box_sit_6 (m + k + 1) s b (iI l) (nI j) = some (sitL (rchV sg) k j b l, s') ∧ PF n sg s' := by
  intro k
  induction k with
  | zero =>
    intro j m b l s hj hl hs
    rw [f_Box_sit_6, if_pos (le8 (by omega) (by omega))]
    exact ⟨s, rfl, hs⟩
  | succ k ih =>
    intro j m b l s hj hl hs
    have hr := rchV_rng h (show j < 8 by omega)
    obtain ⟨m8, hm⟩ := LFx 8 (by omega)
    obtain ⟨s1, e1, e2⟩ := reach_c h (show j < 8 by omega) 8 0 m8 0 s (by omega) (by omega) hs
    have e1' : f_Box_reachOf s (nI j) = some (iI (rchV sg j), s1) := by
      unfold f_Box_reachOf
      rw [hm, ← nI_0]
      exact e1
    rw [show m + (k + 1) + 1 = (m + k + 1) + 1 by omega, f_Box_sit_6, if_neg (nle8 (by omega)), e1', Option.bind_some]
    unfold f_Box_sit_36 f_Box_sit_41
    have L1 : (iI (rchV sg j) = (-1 : Int32)) = (rchV sg j = -1) := iE1 (by omega)
    have L2 : (iI l ≤ iI (rchV sg j)) = (l ≤ rchV sg j) := iLe (by omega) (by omega)
    simp only [L1, L2]
    rw [sitL, nI_1]
    by_cases q : rchV sg j = -1
    · rw [if_pos q, if_pos q]
      exact ih (j + 1) m _ l s1 (by omega) hl e2
    · rw [if_neg q, if_neg q]
      by_cases q2 : b = -1
      · rw [if_pos q2, if_pos q2]
        exact ih (j + 1) m _ _ s1 (by omega) hr e2
      · rw [if_neg q2, if_neg q2]
        by_cases q3 : l ≤ rchV sg j
        · rw [if_pos q3, if_pos q3]
          exact ih (j + 1) m _ l s1 (by omega) hl e2
        · rw [if_neg q3, if_neg q3]
          exact ih (j + 1) m _ _ s1 (by omega) hr e2
def rchM (D : Nat → Int) : Nat → Nat → Int → Bool → Int
  | 0, _, g, ok => if ok then g else -1
  | k + 1, j, g, ok => rchM D k (j + 1) (max g (D j)) (ok && decide (D j ≠ -1))
theorem rchM_f {D : Nat → Int} : ∀ (k j : Nat) (g : Int), rchM D k j g false = -1 := by
  intro k
  induction k with
  | zero => intro j g; rfl
  | succ k ih => intro j g; rw [rchM, Bool.false_and]; exact ih ..
theorem rchM_t {D : Nat → Int} : ∀ (k j : Nat) (g : Int), rchM D k j g true = rchL D k j g := by
  intro k
  induction k with
  | zero => intro j g; rfl
  | succ k ih =>
    intro j g
    rw [rchM, rchL, Bool.true_and]
    by_cases q : D j = -1
    · rw [if_pos q, decide_eq_false (fun z => z q), rchM_f]
    · rw [if_neg q, decide_eq_true q, ih]
theorem sit_21 {n : Nat} {sg : Hp} (h : Inv n sg) {p : Nat} (hp : p < 8) (k6 : Hp → Int32 → Int32 → Int32 → Option (Int32 × Hp)) (x1 x2 : Int32) : ∀ (k j m : Nat) (g : Int) (ok : Bool) (s : Hp), j + k = 8 → 0 ≤ g ∧ g ≤ 100000000 → PF n sg s → ∃ s', f_Mod_sitNow_21 k6 (m + k + 1) s x1 x2 (nI p) (iI g) (if ok then 1 else 0) (nI j) = (if rchM (Dl sg p) k j g ok = -1 then f_Mod_sitNow_91 k6 s' x1 x2 (nI p) else if x1 = -1 then f_Mod_sitNow_86 k6 s' (nI p) (iI (rchM (Dl sg p) k j g ok)) else if x2 ≤ iI (rchM (Dl sg p) k j g ok) then f_Mod_sitNow_91 k6 s' x1 x2 (nI p) else f_Mod_sitNow_86 k6 s' (nI p) (iI (rchM (Dl sg p) k j g ok))) ∧ PF n sg s' := by
  intro k
  induction k with
  | zero =>
    intro j m g ok s hj hg hs
    refine ⟨s, ?_, hs⟩
    rw [f_Mod_sitNow_21, if_pos (le8 (by omega) (by omega)), rchM]
    cases ok with
    | false =>
      rw [if_pos (by rfl), if_pos (by rfl)]
    | true =>
      rw [if_neg (by decide), if_pos (rfl : true = true), if_neg (show ¬ g = -1 by omega)]
  | succ k ih =>
    intro j m g ok s hj hg hs
    have hr := D_rng h hp (show j < 8 by omega)
    obtain ⟨s1, d, e1, e2, -⟩ := short_d hs hp (show j < 8 by omega)
    obtain ⟨v, g1, g2⟩ := greater_m s1 (iI (Dl sg p j)) (iI g)
    have g3 := max_i rfl rfl (by omega) (by omega) g2
    rw [Int.max_comm] at g3
    rw [show m + (k + 1) + 1 = (m + k + 1) + 1 by omega, f_Mod_sitNow_21, if_neg (nle8 (by omega)), e1, Option.bind_some]
    have st : ∀ y, f_Mod_sitNow_53 k6 (f_Mod_sitNow_21 k6 (m + k + 1)) s1 x1 x2 (nI p) (iI g) (nI j) (iI (Dl sg p j)) y = f_Mod_sitNow_21 k6 (m + k + 1) s1 x1 x2 (nI p) (iI (max g (Dl sg p j))) y (nI (j + 1)) := by
      intro y
      unfold f_Mod_sitNow_53
      rw [g1, Option.bind_some, nI_1, g3]
    have L1 : (iI (Dl sg p j) = (-1 : Int32)) = (Dl sg p j = -1) := iE1 (by omega)
    unfold f_Mod_sitNow_52
    dsimp only
    rw [st, st]
    simp only [L1]
    rw [rchM]
    cases ok with
    | false =>
      rw [if_pos (by rfl), Bool.false_and]
      exact ih (j + 1) m _ false s1 (by omega) (by omega) e2
    | true =>
      rw [if_neg (by decide), Bool.true_and]
      by_cases q : Dl sg p j = -1
      · rw [if_pos q, decide_eq_false (fun z => z q)]
        exact ih (j + 1) m _ false s1 (by omega) (by omega) e2
      · rw [if_neg q, decide_eq_true q]
        exact ih (j + 1) m _ true s1 (by omega) (by omega) e2
theorem sit_m {n : Nat} {sg : Hp} (h : Inv n sg) : ∀ (k j m : Nat) (b : Int32) (l : Int) (s : Hp), j + k = 8 → -1 ≤ l ∧ l ≤ 100000000 → PF n sg s → ∃ s', f_Mod_sitNow_6 (m + k + 1) s b (iI l) (nI j) = some (sitL (rchV sg) k j b l, s') ∧ PF n sg s' := by
  intro k
  induction k with
  | zero =>
    intro j m b l s hj hl hs
    rw [f_Mod_sitNow_6, if_pos (le8 (by omega) (by omega))]
    exact ⟨s, rfl, hs⟩
  | succ k ih =>
    intro j m b l s hj hl hs
    have hr := rchV_rng h (show j < 8 by omega)
    obtain ⟨m8, hm⟩ := LFx 8 (by omega)
    obtain ⟨s1, e1, e2⟩ := sit_21 h (show j < 8 by omega) (f_Mod_sitNow_6 (m + k + 1)) b (iI l) 8 0 m8 0 true s (by omega) (by omega) hs
    have L2 : (iI l ≤ iI (rchV sg j)) = (l ≤ rchV sg j) := iLe (by omega) (by omega)
    rw [rchM_t, show rchL (Dl sg j) 8 0 0 = rchV sg j from rfl, ← hm, nI_0, show iI 0 = (0 : Int32) from rfl, if_pos (rfl : true = true)] at e1
    unfold f_Mod_sitNow_86 f_Mod_sitNow_91 at e1
    simp only [L2] at e1
    rw [show m + (k + 1) + 1 = (m + k + 1) + 1 by omega, f_Mod_sitNow_6, if_neg (nle8 (by omega)), e1, sitL, nI_1]
    by_cases q : rchV sg j = -1
    · rw [if_pos q, if_pos q]
      exact ih (j + 1) m _ l s1 (by omega) hl e2
    · rw [if_neg q, if_neg q]
      by_cases q2 : b = -1
      · rw [if_pos q2, if_pos q2]
        exact ih (j + 1) m _ _ s1 (by omega) hr e2
      · rw [if_neg q2, if_neg q2]
        by_cases q3 : l ≤ rchV sg j
        · rw [if_pos q3, if_pos q3]
          exact ih (j + 1) m _ l s1 (by omega) hl e2
        · rw [if_neg q3, if_neg q3]
          exact ih (j + 1) m _ _ s1 (by omega) hr e2
noncomputable def sitV (sg : Hp) : Int32 := sitL (rchV sg) 8 0 (-1) (-1)
theorem c_sit {n : Nat} {sg : Hp} (h : Inv n sg) : Q n sg (fun s => f_Box_sit s) (sitV sg) := by
  intro s hs
  obtain ⟨m, hm⟩ := LFx 8 (by omega)
  obtain ⟨s', e1, e2⟩ := sit_c h 8 0 m (-1) (-1) s (by omega) (by omega) hs
  refine ⟨s', ?_, e2⟩
  show f_Box_sit s = _
  unfold f_Box_sit
  rw [iM1, nI_0, ← hm] at e1
  exact e1
theorem m_sit {n : Nat} {sg : Hp} (h : Inv n sg) : Q n sg (fun s => f_Mod_sitNow s) (sitV sg) := by
  intro s hs
  obtain ⟨m, hm⟩ := LFx 8 (by omega)
  obtain ⟨s', e1, e2⟩ := sit_m h 8 0 m (-1) 0 s (by omega) (by omega) hs
  refine ⟨s', ?_, e2⟩
  show f_Mod_sitNow s = _
  unfold f_Mod_sitNow sitV
  rw [show iI 0 = (0 : Int32) from rfl, nI_0, ← hm, sitL_any 8 0 0 (-1)] at e1
  exact e1
theorem k_sit : K_sit := by
  intro n sg h hn
  refine pair_q h (c_sit h) (Q.eq (fun s => ?_) (m_sit h))
  unfold f_Mod_sit
  rw [bid]
/-! nearer -/
def nrL (F G : Nat → Int) : Nat → Nat → Int32 → Int32
  | 0, _, x => x
  | k + 1, j, x => nrL F G k (j + 1) (if F j = -1 then x else if G j = -1 then x ||| ((1 : Int32) <<< (nI j &&& 31)) else if G j ≤ F j then x else x ||| ((1 : Int32) <<< (nI j &&& 31)))
theorem near_c {n : Nat} {sg : Hp} (h : Inv n sg) {a b : Nat} (ha : a < 8) (hb : b < 8) : ∀ (k j m : Nat) (x : Int32) (s : Hp), j + k = 8 → PF n sg s → ∃ s', f_Box_nearer_27 (m + k + 1) s (nI a) (nI b) x (nI j) = some (nrL (Dl sg a) (Dl sg b) k j x, s') ∧ PF n sg s' := by
  intro k
  induction k with
  | zero =>
    intro j m x s hj hs
    rw [f_Box_nearer_27, if_pos (le8 (by omega) (by omega))]
    exact ⟨s, rfl, hs⟩
  | succ k ih =>
    intro j m x s hj hs
    have hr := D_rng h ha (show j < 8 by omega)
    have hr2 := D_rng h hb (show j < 8 by omega)
    obtain ⟨s1, e1, e2, e3, -, -⟩ := look_d hs ha (show j < 8 by omega)
    obtain ⟨s2, f1, f2, f3, -, -⟩ := look_d e2 hb (show j < 8 by omega)
    rw [show m + (k + 1) + 1 = (m + k + 1) + 1 by omega, f_Box_nearer_27, if_neg (nle8 (by omega)), e1, Option.bind_some]
    dsimp only
    rw [if_pos (ix64 ha (by omega)).1, f1, Option.bind_some]
    unfold f_Box_nearer_93 f_Box_nearer_100
    dsimp only
    have L1 : (iI (Dl sg a j) = (-1 : Int32)) = (Dl sg a j = -1) := iE1 (by omega)
    have L2 : (iI (Dl sg b j) = (-1 : Int32)) = (Dl sg b j = -1) := iE1 (by omega)
    have L3 : (iI (Dl sg b j) ≤ iI (Dl sg a j)) = (Dl sg b j ≤ Dl sg a j) := iLe (by omega) (by omega)
    rw [if_pos (ix64 hb (by omega)).1]
    simp only [(ix64 ha (show j < 8 by omega)).2, (ix64 hb (show j < 8 by omega)).2, e3, f3, L1, L2, L3]
    rw [nrL, nI_1]
    by_cases q1 : Dl sg a j = -1
    · rw [if_pos q1, if_pos q1]
      exact ih (j + 1) m _ s2 (by omega) f2
    · rw [if_neg q1, if_neg q1]
      by_cases q2 : Dl sg b j = -1
      · rw [if_pos q2, if_pos q2]
        exact ih (j + 1) m _ s2 (by omega) f2
      · rw [if_neg q2, if_neg q2]
        by_cases q3 : Dl sg b j ≤ Dl sg a j
        · rw [if_pos q3, if_pos q3]
          exact ih (j + 1) m _ s2 (by omega) f2
        · rw [if_neg q3, if_neg q3]
          exact ih (j + 1) m _ s2 (by omega) f2
theorem near_m {n : Nat} {sg : Hp} (h : Inv n sg) {a b : Nat} (ha : a < 8) (hb : b < 8) : ∀ (k j m : Nat) (x : Int32) (s : Hp), j + k = 8 → PF n sg s → ∃ s', f_Mod_nearerOf_5 (m + k + 1) s (nI a) (nI b) x (nI j) = some (nrL (Dl sg a) (Dl sg b) k j x, s') ∧ PF n sg s' := by
  intro k
  induction k with
  | zero =>
    intro j m x s hj hs
    rw [f_Mod_nearerOf_5, if_pos (le8 (by omega) (by omega))]
    exact ⟨s, rfl, hs⟩
  | succ k ih =>
    intro j m x s hj hs
    have hr := D_rng h ha (show j < 8 by omega)
    have hr2 := D_rng h hb (show j < 8 by omega)
    obtain ⟨s1, d, e1, e2, -⟩ := short_d hs ha (show j < 8 by omega)
    obtain ⟨s2, d2, f1, f2, -⟩ := short_d e2 hb (show j < 8 by omega)
    rw [show m + (k + 1) + 1 = (m + k + 1) + 1 by omega, f_Mod_nearerOf_5, if_neg (nle8 (by omega)), e1, Option.bind_some]
    dsimp only
    rw [f1, Option.bind_some]
    unfold f_Mod_nearerOf_50 f_Mod_nearerOf_57 f_Mod_nearerOf_58
    have L1 : (iI (Dl sg a j) = (-1 : Int32)) = (Dl sg a j = -1) := iE1 (by omega)
    have L2 : (iI (Dl sg b j) = (-1 : Int32)) = (Dl sg b j = -1) := iE1 (by omega)
    have L3 : (iI (Dl sg b j) ≤ iI (Dl sg a j)) = (Dl sg b j ≤ Dl sg a j) := iLe (by omega) (by omega)
    simp only [L1, L2, L3, Int32.or_zero]
    rw [nrL, nI_1]
    by_cases q1 : Dl sg a j = -1
    · rw [if_pos q1, if_pos q1]
      exact ih (j + 1) m _ s2 (by omega) f2
    · rw [if_neg q1, if_neg q1]
      by_cases q2 : Dl sg b j = -1
      · rw [if_pos q2, if_pos q2]
        exact ih (j + 1) m _ s2 (by omega) f2
      · rw [if_neg q2, if_neg q2]
        by_cases q3 : Dl sg b j ≤ Dl sg a j
        · rw [if_pos q3, if_pos q3]
          exact ih (j + 1) m _ s2 (by omega) f2
        · rw [if_neg q3, if_neg q3]
          exact ih (j + 1) m _ s2 (by omega) f2
noncomputable def nrV (sg : Hp) (a b : Nat) : Int32 := nrL (Dl sg a) (Dl sg b) 8 0 0
theorem c_nearer {n : Nat} {sg : Hp} (h : Inv n sg) {a b : Nat} (ha : a < 8) (hb : b < 8) (hab : a ≠ b) : Q n sg (fun s => f_Box_nearer s (nI a) (nI b)) (nrV sg a b) := by
  intro s hs
  obtain ⟨m, hm⟩ := LFx 8 (by omega)
  obtain ⟨s', e1, e2⟩ := near_c h ha hb 8 0 m 0 s (by omega) hs
  refine ⟨s', ?_, e2⟩
  show f_Box_nearer s (nI a) (nI b) = _
  unfold f_Box_nearer
  rw [isPlace_c, Option.bind_some]
  dsimp only
  rw [if_b, if_pos (pl8 ha), isPlace_c, Option.bind_some]
  dsimp only
  rw [if_b, if_pos (pl8 hb), if_neg (fun q => hab ((nI_eq (by omega) (by omega)).mp q))]
  rw [nI_0, ← hm] at e1
  exact e1
theorem m_nearer {n : Nat} {sg : Hp} (h : Inv n sg) {a b : Nat} (ha : a < 8) (hb : b < 8) : Q n sg (fun s => f_Mod_nearerOf s (nI a) (nI b)) (nrV sg a b) := by
  intro s hs
  obtain ⟨m, hm⟩ := LFx 8 (by omega)
  obtain ⟨s', e1, e2⟩ := near_m h ha hb 8 0 m 0 s (by omega) hs
  refine ⟨s', ?_, e2⟩
  show f_Mod_nearerOf s (nI a) (nI b) = _
  unfold f_Mod_nearerOf
  rw [nI_0, ← hm] at e1
  exact e1
theorem k_nearer : K_nearer := by
  intro n sg h hn a1 a2
  by_cases c1 : 0 ≤ a1.toInt ∧ a1.toInt ≤ 7
  · by_cases c2 : 0 ≤ a2.toInt ∧ a2.toInt ≤ 7
    · by_cases c3 : a1 = a2
      · refine pair_q h (q_bad (v := -2) (fun s => ?_)) (q_bad (fun s => ?_))
        · unfold f_Box_nearer
          rw [isPlace_c, Option.bind_some]
          dsimp only
          rw [if_b, if_pos c1, isPlace_c, Option.bind_some]
          dsimp only
          rw [if_b, if_pos c2, if_pos c3]
        · unfold f_Mod_nearer
          rw [isPlace_m, Option.bind_some]
          dsimp only
          rw [if_b, if_pos c1, isPlace_m, Option.bind_some]
          dsimp only
          rw [if_b, if_pos c2, if_pos c3]
      · obtain ⟨a, ha, rfl⟩ := nI_ex (n := 7) c1 (by omega)
        obtain ⟨b, hb, rfl⟩ := nI_ex (n := 7) c2 (by omega)
        refine pair_q h (c_nearer h (by omega) (by omega) (fun q => c3 (by rw [q]))) (Q.eq (fun s => ?_) (m_nearer h (by omega) (by omega)))
        unfold f_Mod_nearer
        rw [isPlace_m, Option.bind_some]
        dsimp only
        rw [if_b, if_pos c1, isPlace_m, Option.bind_some]
        dsimp only
        rw [if_b, if_pos c2, if_neg c3, bid]
    · refine pair_q h (q_bad (v := -2) (fun s => ?_)) (q_bad (fun s => ?_))
      · unfold f_Box_nearer
        rw [isPlace_c, Option.bind_some]
        dsimp only
        rw [if_b, if_pos c1, isPlace_c, Option.bind_some]
        dsimp only
        rw [if_b, if_neg c2]
      · unfold f_Mod_nearer
        rw [isPlace_m, Option.bind_some]
        dsimp only
        rw [if_b, if_pos c1, isPlace_m, Option.bind_some]
        dsimp only
        rw [if_b, if_neg c2]
  · refine pair_q h (q_bad (v := -2) (fun s => ?_)) (q_bad (fun s => ?_))
    · unfold f_Box_nearer
      rw [isPlace_c, Option.bind_some]
      dsimp only
      rw [if_b, if_neg c1]
    · unfold f_Mod_nearer
      rw [isPlace_m, Option.bind_some]
      dsimp only
      rw [if_b, if_neg c1]
