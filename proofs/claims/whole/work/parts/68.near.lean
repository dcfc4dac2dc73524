/-! WITHIN, FLIES -/
noncomputable def nrB (sg : Hp) (x : Int32) (a b : Nat) : Int32 := if 0 ≤ Dl sg a b ∧ Dl sg a b ≤ x.toInt then 1 else 0
theorem isNear_c {n : Nat} {sg s : Hp} (h : Inv n sg) {a b : Nat} (ha : a < 8) (hb : b < 8) (x : Int32) (hs : PF n sg s) : ∃ s', f_Box_isNear s (nI a) (nI b) x = some (nrB sg x a b, s') ∧ PF n sg s' := by
  have hr := D_rng h ha hb
  obtain ⟨s1, e1, e2, e3, -, -⟩ := look_d hs ha hb
  refine ⟨s1, ?_, e2⟩
  unfold f_Box_isNear nrB
  rw [e1, Option.bind_some]
  dsimp only
  have L1 : (iI (Dl sg a b) = (-1 : Int32)) = (Dl sg a b = -1) := iE1 (by omega)
  have L2 : (x < iI (Dl sg a b)) = (x.toInt < Dl sg a b) := by rw [nLt, iT (by omega) (by omega)]
  rw [if_pos (ix64 ha hb).1]
  simp only [(ix64 ha hb).2, e3, L1, L2]
  by_cases q1 : Dl sg a b = -1
  · rw [if_pos q1, if_neg (by omega)]
  · rw [if_neg q1]
    by_cases q2 : x.toInt < Dl sg a b
    · rw [if_pos q2, if_neg (by omega)]
    · rw [if_neg q2, if_pos (by omega)]
theorem in_near {n : Nat} {sg : Hp} (h : Inv n sg) {a b : Nat} (ha : a < 8) (hb : b < 8) (x : Int32) (s : Hp) : f_Mod_in s (iI (Dl sg a b)).toInt64 (0 : Int64) x.toInt64 = some (nrB sg x a b, s) := by
  have hr := D_rng h ha hb
  rw [in_i (iI (Dl sg a b)) 0 x.toInt64 (a := 0) (b := x.toInt) rfl (i64T x), iT (by omega) (by omega)]
  rfl
theorem nrB_01 (sg : Hp) (x : Int32) (a b : Nat) : nrB sg x a b = 0 ∨ nrB sg x a b = 1 := by
  unfold nrB
  split
  · exact Or.inr rfl
  · exact Or.inl rfl
def wiL (W : Nat → Int32) : Nat → Nat → Int32 → Int32
  | 0, _, x => x
  | k + 1, j, x => wiL W k (j + 1) (x + W j)
theorem wiL_s (W : Nat → Int32) (k j : Nat) (x : Int32) : wiL W (k + 1) j x = wiL W k (j + 1) (x + W j) := rfl
theorem with_c {n : Nat} {sg : Hp} (h : Inv n sg) {a : Nat} (ha : a < 8) (y : Int32) : ∀ (k j m : Nat) (x : Int32) (s : Hp), j + k = 8 → PF n sg s → ∃ s', f_Box_within_22 (m + k + 1) s (nI a) y x (nI j) = some (wiL (nrB sg y a) k j x, s') ∧ PF n sg s' := by
  intro k
  induction k with
  | zero =>
    intro j m x s hj hs
    rw [f_Box_within_22, if_pos (le8 (by omega) (by omega))]
    exact ⟨s, rfl, hs⟩
  | succ k ih =>
    intro j m x s hj hs
    obtain ⟨s1, e1, e2⟩ := isNear_c h ha (show j < 8 by omega) y hs
    rw [show m + (k + 1) + 1 = (m + k + 1) + 1 by omega, f_Box_within_22, if_neg (nle8 (by omega)), e1, Option.bind_some]
    unfold f_Box_within_43
    dsimp only
    by_cases q : nrB sg y a j = 0
    · rw [if_pos q, wiL_s, nI_1 j, q, Int32.add_zero]
      exact ih (j + 1) m _ s1 (by omega) e2
    · rw [if_neg q, wiL_s, nI_1 j, (nrB_01 sg y a j).resolve_left q]
      exact ih (j + 1) m _ s1 (by omega) e2
theorem with_m {n : Nat} {sg : Hp} (h : Inv n sg) {a : Nat} (ha : a < 8) (y : Int32) : ∀ (k j m : Nat) (x : Int32) (s : Hp), j + k = 8 → PF n sg s → ∃ s', f_Mod_withinOf_5 (m + k + 1) s (nI a) y x (nI j) = some (wiL (nrB sg y a) k j x, s') ∧ PF n sg s' := by
  intro k
  induction k with
  | zero =>
    intro j m x s hj hs
    rw [f_Mod_withinOf_5, if_pos (le8 (by omega) (by omega))]
    exact ⟨s, rfl, hs⟩
  | succ k ih =>
    intro j m x s hj hs
    obtain ⟨s1, d, e1, e2, -⟩ := short_d hs ha (show j < 8 by omega)
    rw [show m + (k + 1) + 1 = (m + k + 1) + 1 by omega, f_Mod_withinOf_5, if_neg (nle8 (by omega)), e1, Option.bind_some]
    dsimp only
    rw [in_near h ha (show j < 8 by omega), Option.bind_some]
    unfold f_Mod_withinOf_35
    dsimp only
    by_cases q : nrB sg y a j = 0
    · rw [if_pos q, wiL_s, nI_1 j, q]
      exact ih (j + 1) m _ s1 (by omega) e2
    · rw [if_neg q, wiL_s, nI_1 j, (nrB_01 sg y a j).resolve_left q]
      exact ih (j + 1) m _ s1 (by omega) e2
noncomputable def wiV (sg : Hp) (a : Nat) (y : Int32) : Int32 := wiL (nrB sg y a) 8 0 0
theorem c_within {n : Nat} {sg : Hp} (h : Inv n sg) {a : Nat} (ha : a < 8) {y : Int32} (hy : 0 ≤ y.toInt ∧ y.toInt ≤ 9999) : Q n sg (fun s => f_Box_within s (nI a) y) (wiV sg a y) := by
  intro s hs
  obtain ⟨m, hm⟩ := LFx 8 (by omega)
  obtain ⟨s', e1, e2⟩ := with_c h ha y 8 0 m 0 s (by omega) hs
  refine ⟨s', ?_, e2⟩
  show f_Box_within s (nI a) y = _
  unfold f_Box_within
  rw [isPlace_c, Option.bind_some]
  dsimp only
  rw [if_b, if_pos (pl8 ha), isLength_c, Option.bind_some]
  dsimp only
  rw [if_b, if_pos hy]
  rw [nI_0, ← hm] at e1
  exact e1
theorem m_within {n : Nat} {sg : Hp} (h : Inv n sg) {a : Nat} (ha : a < 8) (y : Int32) : Q n sg (fun s => f_Mod_withinOf s (nI a) y) (wiV sg a y) := by
  intro s hs
  obtain ⟨m, hm⟩ := LFx 8 (by omega)
  obtain ⟨s', e1, e2⟩ := with_m h ha y 8 0 m 0 s (by omega) hs
  refine ⟨s', ?_, e2⟩
  show f_Mod_withinOf s (nI a) y = _
  unfold f_Mod_withinOf
  rw [nI_0, ← hm] at e1
  exact e1
theorem k_within : K_within := by
  intro n sg h hn a1 a2
  by_cases c1 : 0 ≤ a1.toInt ∧ a1.toInt ≤ 7
  · by_cases c2 : 0 ≤ a2.toInt ∧ a2.toInt ≤ 9999
    · obtain ⟨a, ha, rfl⟩ := nI_ex (n := 7) c1 (by omega)
      refine pair_q h (c_within h (by omega) c2) (Q.eq (fun s => ?_) (m_within h (by omega) a2))
      unfold f_Mod_within
      rw [isPlace_m, Option.bind_some]
      dsimp only
      rw [if_b, if_pos c1, in_i a2 0 9999 (a := 0) (b := 9999) rfl rfl, Option.bind_some]
      dsimp only
      rw [if_b, if_pos c2, bid]
    · refine pair_q h (q_bad (v := -2) (fun s => ?_)) (q_bad (fun s => ?_))
      · unfold f_Box_within
        rw [isPlace_c, Option.bind_some]
        dsimp only
        rw [if_b, if_pos c1, isLength_c, Option.bind_some]
        dsimp only
        rw [if_b, if_neg c2]
      · unfold f_Mod_within
        rw [isPlace_m, Option.bind_some]
        dsimp only
        rw [if_b, if_pos c1, in_i a2 0 9999 (a := 0) (b := 9999) rfl rfl, Option.bind_some]
        dsimp only
        rw [if_b, if_neg c2]
  · refine pair_q h (q_bad (v := -2) (fun s => ?_)) (q_bad (fun s => ?_))
    · unfold f_Box_within
      rw [isPlace_c, Option.bind_some]
      dsimp only
      rw [if_b, if_neg c1]
    · unfold f_Mod_within
      rw [isPlace_m, Option.bind_some]
      dsimp only
      rw [if_b, if_neg c1]
/-! flies -/
theorem tdivI {a b : Nat} (ha : a < 2 ^ 31) (hb : b < 2 ^ 31) : nI a / nI b = nI (a / b) := by
  apply i_inj
  have hq : a / b ≤ a := Nat.div_le_self a b
  rw [Int32.toInt_div, nI_toInt ha, nI_toInt hb, nI_toInt (by omega), ← Int.ofNat_tdiv]
  generalize a / b = q at hq ⊢
  exact bm32 (by omega) (by omega)
theorem nI_sub {a b : Nat} (h : b ≤ a) : nI a - nI b = nI (a - b) := by
  have e : nI a = nI (a - b) + nI b := by rw [nI_add, Nat.sub_add_cancel h]
  rw [e, Int32.add_sub_cancel]
theorem rem8 {a : Nat} (ha : a < 2 ^ 31) : nI a - nI a / (8 : Int32) * (8 : Int32) = nI (a % 8) := by
  rw [show (8 : Int32) = nI 8 from rfl, tdivI ha (by omega), nI_mul, nI_sub (by omega)]
  congr 1
  omega
theorem ushr16 (y : Int32) : ∃ v, v < 65536 ∧ (y.toUInt32 >>> ((16 : Int32).toUInt32 &&& Int32.toUInt32 31)).toInt32 = nI v := by
  refine ⟨y.toUInt32.toNat / 65536, ?_, ?_⟩
  · have := y.toUInt32.toNat_lt
    omega
  · rw [show (16 : Int32).toUInt32 &&& Int32.toUInt32 31 = 16 by decide]
    apply Int32.toBitVec_inj.mp
    apply BitVec.eq_of_toNat_eq
    rw [show (y.toUInt32 >>> 16).toInt32.toBitVec.toNat = (y.toUInt32 >>> 16).toNat from rfl, UInt32.toNat_shiftRight]
    unfold nI
    rw [Int32.toBitVec_ofNat', BitVec.toNat_ofNat, show (16 : UInt32).toNat % 32 = 16 by decide, Nat.shiftRight_eq_div_pow]
    have := y.toUInt32.toNat_lt
    omega
def nxt (x : Int32) : Int32 := ((1103515245 : Int32) * x) + (12345 : Int32)
theorem lot_n (x : Int32) : ∃ q, q < 8 ∧ ((nxt x).toUInt32 >>> ((16 : Int32).toUInt32 &&& Int32.toUInt32 31)).toInt32 - ((nxt x).toUInt32 >>> ((16 : Int32).toUInt32 &&& Int32.toUInt32 31)).toInt32 / (8 : Int32) * (8 : Int32) = nI q := by
  obtain ⟨v, hv, e⟩ := ushr16 (nxt x)
  exact ⟨v % 8, by omega, by rw [e, rem8 (by omega)]⟩
def lotN (x : Int32) : Nat := (((nxt x).toUInt32 >>> ((16 : Int32).toUInt32 &&& Int32.toUInt32 31)).toInt32 - ((nxt x).toUInt32 >>> ((16 : Int32).toUInt32 &&& Int32.toUInt32 31)).toInt32 / (8 : Int32) * (8 : Int32)).toNatClampNeg
theorem lotN_s (x : Int32) : lotN x < 8 ∧ ((nxt x).toUInt32 >>> ((16 : Int32).toUInt32 &&& Int32.toUInt32 31)).toInt32 - ((nxt x).toUInt32 >>> ((16 : Int32).toUInt32 &&& Int32.toUInt32 31)).toInt32 / (8 : Int32) * (8 : Int32) = nI (lotN x) := by
  obtain ⟨q, hq, e⟩ := lot_n x
  have : lotN x = q := by unfold lotN; rw [e, nI_clamp (by omega)]
  rw [this]
  exact ⟨hq, e⟩
def flL (W : Nat → Int32) : Nat → Int32 → Int32 → Int32
  | 0, _, c => c
  | k + 1, x, c => flL W k (nxt x) (c + W (lotN x))
theorem flL_s (W : Nat → Int32) (k : Nat) (x c : Int32) : flL W (k + 1) x c = flL W k (nxt x) (c + W (lotN x)) := rfl
theorem flies_c {n : Nat} {sg : Hp} (h : Inv n sg) {a N : Nat} (ha : a < 8) (hN : N < 100) (y : Int32) : ∀ (k j m : Nat) (c x : Int32) (s : Hp), j + k = N → PF n sg s → ∃ s', f_Box_flies_37 (m + k + 1) s (nI a) (nI N) y c x (nI j) = some (flL (nrB sg y a) k x c, s') ∧ PF n sg s' := by
  intro k
  induction k with
  | zero =>
    intro j m c x s hj hs
    rw [f_Box_flies_37, if_pos (nI_le (by omega) (by omega))]
    exact ⟨s, rfl, hs⟩
  | succ k ih =>
    intro j m c x s hj hs
    obtain ⟨l1, l2⟩ := lotN_s x
    obtain ⟨s1, e1, e2⟩ := isNear_c h ha l1 y hs
    rw [show m + (k + 1) + 1 = (m + k + 1) + 1 by omega, f_Box_flies_37, if_neg (nI_ge (by omega) (by omega))]
    rw [show ((1103515245 : Int32) * x) + (12345 : Int32) = nxt x from rfl, l2, e1, Option.bind_some]
    unfold f_Box_flies_76
    dsimp only
    by_cases q : nrB sg y a (lotN x) = 0
    · rw [if_pos q, flL_s, nI_1 j, q, Int32.add_zero]
      exact ih (j + 1) m _ _ s1 (by omega) e2
    · rw [if_neg q, flL_s, nI_1 j, (nrB_01 sg y a (lotN x)).resolve_left q]
      exact ih (j + 1) m _ _ s1 (by omega) e2
theorem flies_55 {W : Nat → Int32} {s : Hp} (hW : ∀ q, q < 8 → s 62 q = W q) {N : Nat} (hN : N < 100) : ∀ (k j m : Nat) (c x : Int32), j + k = N → f_Mod_fliesOf_55 (m + k + 1) s (nI N) x c (nI j) = some (flL W k x c, s) := by
  intro k
  induction k with
  | zero =>
    intro j m c x hj
    rw [f_Mod_fliesOf_55, if_pos (nI_le (by omega) (by omega))]
    rfl
  | succ k ih =>
    intro j m c x hj
    obtain ⟨l1, l2⟩ := lotN_s x
    rw [show m + (k + 1) + 1 = (m + k + 1) + 1 by omega, f_Mod_fliesOf_55, if_neg (nI_ge (by omega) (by omega))]
    rw [show ((1103515245 : Int32) * x) + (12345 : Int32) = nxt x from rfl, l2, if_pos (ib l1 (by omega)), nI_clamp (by omega), hW _ l1, nI_1 j, ih (j + 1) m _ _ (by omega), flL_s]
theorem flies_3 {n : Nat} {sg : Hp} (h : Inv n sg) {a : Nat} (ha : a < 8) (y x2 x3 : Int32) : ∀ (k j m : Nat) (s : Hp), j + k = 8 → PF n sg s → (∀ q, q < j → s 62 q = nrB sg y a q) → ∃ s', f_Mod_fliesOf_3 (m + k + 1) s (nI a) x2 x3 y (nI j) = f_Mod_fliesOf_55 LF s' x3 x2 0 0 ∧ PF n sg s' ∧ ∀ q, q < 8 → s' 62 q = nrB sg y a q := by
  intro k
  induction k with
  | zero =>
    intro j m s hj hs hq
    rw [f_Mod_fliesOf_3, if_pos (le8 (by omega) (by omega))]
    exact ⟨s, rfl, hs, fun q h8 => hq q (by omega)⟩
  | succ k ih =>
    intro j m s hj hs hq
    obtain ⟨s1, d, e1, e2, f, -⟩ := short_d hs ha (show j < 8 by omega)
    have st : ∀ v, v = nrB sg y a j → ∃ s', f_Mod_fliesOf_39 (f_Mod_fliesOf_3 (m + k + 1)) s1 (nI a) x2 x3 y (nI j) (nI j) v = f_Mod_fliesOf_55 LF s' x3 x2 0 0 ∧ PF n sg s' ∧ ∀ q, q < 8 → s' 62 q = nrB sg y a q := by
      intro v hv
      unfold f_Mod_fliesOf_39
      rw [if_pos (ib (show j < 8 by omega) (by omega)), Option.bind_some, nI_1 j, nI_clamp (by omega)]
      refine ih (j + 1) m _ (by omega) (e2.mx (fun c c1 c2 c3 => w2_cell _ (by omega)) (by rw [w2_cell _ (by omega)]) (by rw [w2_cell _ (by omega)])) (fun q hq2 => ?_)
      by_cases hqj : q = j
      · rw [hqj, w2_at, hv]
      · rw [w2_ne (by omega), f.1 62 (by omega) (by omega)]
        exact hq q (by omega)
    rw [show m + (k + 1) + 1 = (m + k + 1) + 1 by omega, f_Mod_fliesOf_3, if_neg (nle8 (by omega)), e1, Option.bind_some]
    dsimp only
    rw [in_near h ha (show j < 8 by omega), Option.bind_some]
    dsimp only
    by_cases q : nrB sg y a j = 0
    · rw [if_pos q]
      exact st 0 q.symm
    · rw [if_neg q]
      exact st 1 ((nrB_01 _ _ _ _).resolve_left q).symm
noncomputable def flV (sg : Hp) (a : Nat) (x : Int32) (N : Nat) (y : Int32) : Int32 := flL (nrB sg y a) N x 0
theorem c_flies {n : Nat} {sg : Hp} (h : Inv n sg) {a N : Nat} (ha : a < 8) (hN : N < 100) (x : Int32) {y : Int32} (hy : 0 ≤ y.toInt ∧ y.toInt ≤ 9999) : Q n sg (fun s => f_Box_flies s (nI a) x (nI N) y) (flV sg a x N y) := by
  intro s hs
  obtain ⟨m, hm⟩ := LFx N (by omega)
  obtain ⟨s', e1, e2⟩ := flies_c h ha hN y N 0 m 0 x s (by omega) hs
  refine ⟨s', ?_, e2⟩
  show f_Box_flies s (nI a) x (nI N) y = _
  unfold f_Box_flies
  rw [isPlace_c, Option.bind_some]
  dsimp only
  rw [if_b, if_pos (pl8 ha), if_neg (nI_pos (by omega)), if_neg (by rw [show (99 : Int32) = nI 99 from rfl]; exact nI_nlt (by omega) (by omega)), isLength_c, Option.bind_some]
  dsimp only
  rw [if_b, if_pos hy]
  rw [nI_0, ← hm] at e1
  exact e1
theorem m_flies {n : Nat} {sg : Hp} (h : Inv n sg) {a N : Nat} (ha : a < 8) (hN : N < 100) (x : Int32) (y : Int32) : Q n sg (fun s => f_Mod_fliesOf s (nI a) x (nI N) y) (flV sg a x N y) := by
  intro s hs
  obtain ⟨m, hm⟩ := LFx N (by omega)
  obtain ⟨m8, hm8⟩ := LFx 8 (by omega)
  obtain ⟨s', e1, e2, e3⟩ := flies_3 h ha y x (nI N) 8 0 m8 s (by omega) hs (fun q hq => by omega)
  refine ⟨s', ?_, e2⟩
  show f_Mod_fliesOf s (nI a) x (nI N) y = _
  unfold f_Mod_fliesOf
  have e4 := flies_55 e3 hN N 0 m 0 x (by omega)
  rw [nI_0, ← hm] at e4
  rw [nI_0, ← hm8] at e1
  rw [e1, e4]
  rfl
theorem k_flies : K_flies := by
  intro n sg h hn a1 a2 a3 a4
  by_cases c1 : 0 ≤ a1.toInt ∧ a1.toInt ≤ 7
  · by_cases c3 : 0 ≤ a3.toInt ∧ a3.toInt ≤ 99
    · by_cases c4 : 0 ≤ a4.toInt ∧ a4.toInt ≤ 9999
      · obtain ⟨a, ha, rfl⟩ := nI_ex (n := 7) c1 (by omega)
        obtain ⟨N, hN, rfl⟩ := nI_ex (n := 99) c3 (by omega)
        refine pair_q h (c_flies h (by omega) (by omega) a2 c4) (Q.eq (fun s => ?_) (m_flies h (by omega) (by omega) a2 a4))
        unfold f_Mod_flies
        rw [isPlace_m, Option.bind_some]
        dsimp only
        rw [if_b, if_pos c1, in_i (nI N) 0 99 (a := 0) (b := 99) rfl rfl, Option.bind_some]
        dsimp only
        rw [if_b, if_pos c3, in_i a4 0 9999 (a := 0) (b := 9999) rfl rfl, Option.bind_some]
        dsimp only
        rw [if_b, if_pos c4, bid]
      · refine pair_q h (q_bad (v := -2) (fun s => ?_)) (q_bad (fun s => ?_))
        · unfold f_Box_flies
          rw [isPlace_c, Option.bind_some]
          dsimp only
          rw [if_b, if_pos c1, if_neg (by rw [nLt]; simp; omega), if_neg (by rw [nLt]; simp; omega), isLength_c, Option.bind_some]
          dsimp only
          rw [if_b, if_neg c4]
        · unfold f_Mod_flies
          rw [isPlace_m, Option.bind_some]
          dsimp only
          rw [if_b, if_pos c1, in_i a3 0 99 (a := 0) (b := 99) rfl rfl, Option.bind_some]
          dsimp only
          rw [if_b, if_pos c3, in_i a4 0 9999 (a := 0) (b := 9999) rfl rfl, Option.bind_some]
          dsimp only
          rw [if_b, if_neg c4]
    · refine pair_q h (q_bad (v := -2) (fun s => ?_)) (q_bad (fun s => ?_))
      · unfold f_Box_flies
        rw [isPlace_c, Option.bind_some]
        dsimp only
        rw [if_b, if_pos c1]
        by_cases c5 : a3 < 0
        · rw [if_pos c5]
        · rw [if_neg c5, if_pos (by rw [nLt] at c5 ⊢; simp at c5 ⊢; omega)]
      · unfold f_Mod_flies
        rw [isPlace_m, Option.bind_some]
        dsimp only
        rw [if_b, if_pos c1, in_i a3 0 99 (a := 0) (b := 99) rfl rfl, Option.bind_some]
        dsimp only
        rw [if_b, if_neg c3]
  · refine pair_q h (q_bad (v := -2) (fun s => ?_)) (q_bad (fun s => ?_))
    · unfold f_Box_flies
      rw [isPlace_c, Option.bind_some]
      dsimp only
      rw [if_b, if_neg c1]
    · unfold f_Mod_flies
      rw [isPlace_m, Option.bind_some]
      dsimp only
      rw [if_b, if_neg c1]
