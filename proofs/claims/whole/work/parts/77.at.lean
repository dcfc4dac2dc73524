/-! AT, COUNT -/
def wbL (A : Nat → Int) : Nat → Nat → Nat → Nat
  | 0, _, x => x
  | k + 1, j, x => wbL A k (j + 1) (if A j = 0 then x ||| 2 ^ j else x)
theorem z32 : (0 : Int32).toInt = 0 := by decide
theorem wb_c {s : Hp} {A : Nat → Int} (hA : ∀ w, w < 6 → (s 36 w).toInt = A w) : ∀ (k j m x : Nat), j + k = 6 → f_Spot_wallBits_4 (m + k + 1) s 35 (nI x) (nI j) = some (nI (wbL A k j x), s) := by
  intro k
  induction k with
  | zero =>
    intro j m x h
    rw [f_Spot_wallBits_4, if_pos (by rw [show (6 : Int32) = nI 6 from rfl]; exact nI_le (by omega) (by omega))]
    rfl
  | succ k ih =>
    intro j m x h
    rw [show m + (k + 1) + 1 = (m + k + 1) + 1 by omega, f_Spot_wallBits_4, if_neg (by rw [show (6 : Int32) = nI 6 from rfl]; exact nI_ge (by omega) (by omega)), if_pos (ib (show j < 6 by omega) (by omega)), nI_clamp (by omega), show rt 35 0 = 36 from rfl]
    unfold f_Spot_wallBits_25
    rw [bit_w j (by omega), nI_or, nI_1 j]
    have hj := hA j (by omega)
    show _ = some (nI (wbL A k (j + 1) (if A j = 0 then x ||| 2 ^ j else x)), s)
    by_cases q : A j = 0
    · rw [if_pos (i_inj (by rw [hj, q, z32])), if_pos q]
      exact ih (j + 1) m _ (by omega)
    · rw [if_neg (fun z => q (by rw [← hj, z, z32])), if_neg q]
      exact ih (j + 1) m _ (by omega)
theorem wb_m {S A : Nat → Int} {s : Hp} (hM : SM S s) {p : Nat} (hp : p < 8) (hA : PM S s p A) : ∀ (k j m x : Nat), j + k = 6 → f_Mod_facesOf_4 (m + k + 1) s (nI p) (nI x) (nI j) = some (nI (wbL A k j x), s) := by
  intro k
  induction k with
  | zero =>
    intro j m x h
    rw [f_Mod_facesOf_4, if_pos (by rw [show (6 : Int32) = nI 6 from rfl]; exact nI_le (by omega) (by omega))]
    rfl
  | succ k ih =>
    intro j m x h
    rw [show m + (k + 1) + 1 = (m + k + 1) + 1 by omega, f_Mod_facesOf_4, if_neg (by rw [show (6 : Int32) = nI 6 from rfl]; exact nI_ge (by omega) (by omega)), isOn_m hM hp (show j < 6 by omega) hA, Option.bind_some]
    unfold f_Mod_facesOf_27
    dsimp only
    rw [if_b, bit_w j (by omega), nI_or, nI_1 j, Int32.or_zero]
    show _ = some (nI (wbL A k (j + 1) (if A j = 0 then x ||| 2 ^ j else x)), s)
    by_cases q : A j = 0
    · rw [if_pos q, if_pos q]
      exact ih (j + 1) m _ (by omega)
    · rw [if_neg q, if_neg q]
      exact ih (j + 1) m _ (by omega)
noncomputable def atV (sg : Hp) (p w : Nat) : Int32 := if w = 0 then sg 3 p else if w = 1 then sg 4 p else if w = 2 then sg 5 p else nI (wbL (sP sg p) 6 0 0)
theorem c_at {n : Nat} {sg : Hp} {p w : Nat} (hp : p < 8) (hw : w < 4) : Q n sg (fun s => f_Box_at s (nI p) (nI w)) (atV sg p w) := by
  intro s hs
  have i8 : inb (nI p) 8 = true := ib hp (by omega)
  have top : f_Box_at s (nI p) (nI w) = if nI w = (0 : Int32) then some (s 3 p, s) else if nI w = (1 : Int32) then some (s 4 p, s) else if nI w = (2 : Int32) then some (s 5 p, s) else (f_Room_spotOf s (nI p) 35).bind fun y6 => (f_Spot_wallBits y6 35).bind fun y7 => some (y7.1, y7.2) := by
    unfold f_Box_at
    rw [isPlace_c, Option.bind_some]
    dsimp only
    rw [if_b, if_pos (pl8 hp), if_neg (nI_pos (by omega)), if_pos (by rw [show (3 : Int32) = nI 3 from rfl]; exact nI_le (by omega) (by omega)), if_pos i8, if_pos i8, if_pos i8, nI_clamp (by omega)]
  show ∃ s', f_Box_at s (nI p) (nI w) = _ ∧ _
  rw [top]
  unfold atV
  rcases (by omega : w = 0 ∨ w = 1 ∨ w = 2 ∨ w = 3) with rfl | rfl | rfl | rfl
  · rw [if_pos (by decide), if_pos rfl, hs.2.1 3 (by decide)]
    exact ⟨s, rfl, hs⟩
  · rw [if_neg (by decide), if_pos (by decide), if_neg (by omega), if_pos rfl, hs.2.1 4 (by decide)]
    exact ⟨s, rfl, hs⟩
  · rw [if_neg (by decide), if_neg (by decide), if_pos (by decide), if_neg (by omega), if_neg (by omega), if_pos rfl, hs.2.1 5 (by decide)]
    exact ⟨s, rfl, hs⟩
  · rw [if_neg (by decide), if_neg (by decide), if_neg (by decide), if_neg (by omega), if_neg (by omega), if_neg (by omega)]
    obtain ⟨s1, f1, f2, f3, f4⟩ := spot_c hs hp
    obtain ⟨m, hm⟩ := LFx 6 (by omega)
    have g := wb_c f2 6 0 m 0 (by omega)
    rw [nI_0, ← hm] at g
    rw [f1, Option.bind_some, bid]
    exact ⟨s1, g, f4⟩
theorem m_at {n : Nat} {sg : Hp} {p w : Nat} (hp : p < 8) (hw : w < 4) : Q n sg (fun s => f_Mod_atOf s (nI p) (nI w)) (atV sg p w) := by
  intro s hs
  obtain ⟨-, -, hB⟩ := hs.b
  obtain ⟨y1, y2, y3⟩ := hB.2.2.1 p hp
  refine ⟨s, ?_, hs⟩
  show f_Mod_atOf s (nI p) (nI w) = _
  unfold f_Mod_atOf atV
  rcases (by omega : w = 0 ∨ w = 1 ∨ w = 2 ∨ w = 3) with rfl | rfl | rfl | rfl
  · rw [if_neg (by decide), if_pos rfl, if_pos (ix3 hp (k := 0) (by omega) rfl).1, (ix3 hp (k := 0) (by omega) rfl).2, hs.2.1 52 (by decide), Nat.add_zero, y1]
  · rw [if_neg (by decide), if_pos (ix3 hp (k := 1) (by omega) rfl).1, (ix3 hp (k := 1) (by omega) rfl).2, if_neg (by omega), if_pos rfl, hs.2.1 52 (by decide), y2]
  · rw [if_neg (by decide), if_pos (ix3 hp (k := 2) (by omega) rfl).1, (ix3 hp (k := 2) (by omega) rfl).2, if_neg (by omega), if_neg (by omega), if_pos rfl, hs.2.1 52 (by decide), y3]
  · rw [if_pos (by decide), if_neg (by omega), if_neg (by omega), if_neg (by omega), bid]
    obtain ⟨hM, -, hA, -⟩ := hs.me hp hp
    obtain ⟨m, hm⟩ := LFx 6 (by omega)
    have g := wb_m hM hp hA 6 0 m 0 (by omega)
    rw [nI_0, ← hm] at g
    exact g
theorem k_at : K_at := by
  intro n sg h hn a1 a2
  by_cases c1 : 0 ≤ a1.toInt ∧ a1.toInt ≤ 7
  · by_cases c2 : 0 ≤ a2.toInt ∧ a2.toInt ≤ 3
    · obtain ⟨p, hp, rfl⟩ := nI_ex (n := 7) c1 (by omega)
      obtain ⟨w, hw, rfl⟩ := nI_ex (n := 3) c2 (by omega)
      refine pair_q h (c_at (by omega) (by omega)) (Q.eq (fun s => ?_) (m_at (by omega) (by omega)))
      unfold f_Mod_at
      rw [isPlace_m, Option.bind_some]
      dsimp only
      rw [if_b, if_pos c1, in_i (nI w) 0 3 (a := 0) (b := 3) rfl rfl, Option.bind_some]
      dsimp only
      rw [if_b, if_pos c2, bid]
    · refine pair_q h (q_bad (v := -2) (fun s => ?_)) (q_bad (fun s => ?_))
      · unfold f_Box_at
        rw [isPlace_c, Option.bind_some]
        dsimp only
        rw [if_b, if_pos c1]
        by_cases c3 : a2 < 0
        · rw [if_pos c3]
        · rw [if_neg c3, if_neg (by rw [nLt] at c3; rw [nLe]; simp at c3 ⊢; omega)]
      · unfold f_Mod_at
        rw [isPlace_m, Option.bind_some]
        dsimp only
        rw [if_b, if_pos c1, in_i a2 0 3 (a := 0) (b := 3) rfl rfl, Option.bind_some]
        dsimp only
        rw [if_b, if_neg c2]
  · refine pair_q h (q_bad (v := -2) (fun s => ?_)) (q_bad (fun s => ?_))
    · unfold f_Box_at
      rw [isPlace_c, Option.bind_some]
      dsimp only
      rw [if_b, if_neg c1]
    · unfold f_Mod_at
      rw [isPlace_m, Option.bind_some]
      dsimp only
      rw [if_b, if_neg c1]
/-! barred edges -/
def popN (x : Nat) : Nat := x % 2 + x / 2 % 2 + x / 4 % 2 + x / 8 % 2 + x / 16 % 2 + x / 32 % 2
def bcE (x : Int32) : Int32 := ((f_Int_bitCount (fun _ _ => 0) x).map (fun y => y.1)).getD 0
theorem bc_s (s : Hp) (x : Int32) : f_Int_bitCount s x = some (bcE x, s) := rfl
theorem bc_v : ∀ x, x < 64 → bcE (nI x) = nI (popN x) := by decide +kernel
theorem lowb : ∀ x, x < 64 → x ≠ 0 → (nI x &&& (nI x - (1 : Int32))) = nI (x &&& (x - 1)) ∧ (x &&& (x - 1)) < 64 ∧ popN (x &&& (x - 1)) + 1 = popN x := by decide +kernel
theorem pop0 : ∀ x, x < 64 → popN x = 0 → x = 0 := by decide +kernel
def brL (B : Nat → Int32) : Nat → Nat → Int32 → Int32
  | 0, _, c => c / (2 : Int32)
  | k + 1, j, c => brL B k (j + 1) (c + nI (popN (B j).toInt.toNat))
theorem brL_s (B : Nat → Int32) (k j : Nat) (c : Int32) : brL B (k + 1) j c = brL B k (j + 1) (c + nI (popN (B j).toInt.toNat)) := rfl
theorem bar_c {s : Hp} (hb : ∀ w, w < 6 → 0 ≤ (s 6 w).toInt ∧ (s 6 w).toInt < 64) : ∀ (k j m : Nat) (c : Int32), j + k = 6 → f_Room_barredEdges_4 (m + k + 1) s c (nI j) = some (brL (s 6) k j c, s) := by
  intro k
  induction k with
  | zero =>
    intro j m c h
    rw [f_Room_barredEdges_4, if_pos (by rw [show (6 : Int32) = nI 6 from rfl]; exact nI_le (by omega) (by omega))]
    rfl
  | succ k ih =>
    intro j m c h
    have hj := hb j (by omega)
    obtain ⟨x, hx, ex⟩ := nI_ex (x := s 6 j) (n := 63) ⟨hj.1, by omega⟩ (by omega)
    rw [show m + (k + 1) + 1 = (m + k + 1) + 1 by omega, f_Room_barredEdges_4, if_neg (by rw [show (6 : Int32) = nI 6 from rfl]; exact nI_ge (by omega) (by omega)), if_pos (ib (show j < 6 by omega) (by omega)), nI_clamp (by omega), bc_s, Option.bind_some]
    dsimp only
    rw [nI_1 j, brL_s, ex, bc_v x (by omega), nI_toInt (by omega), Int.toNat_natCast]
    exact ih (j + 1) m _ (by omega)
theorem barr_17 (k4 : Hp → Int32 → Int32 → Option (Int32 × Hp)) (s : Hp) (w : Int32) : ∀ (k m x : Nat) (c : Int32), x < 64 → popN x = k → f_Mod_barred_17 k4 (m + k + 1) s c w (nI x) = k4 s (c + nI k) (w + 1) := by
  intro k
  induction k with
  | zero =>
    intro m x c hx hk
    have e := pop0 x hx hk
    subst e
    rw [f_Mod_barred_17, if_pos nI_0, nI_0, Int32.add_zero]
  | succ k ih =>
    intro m x c hx hk
    have hx0 : x ≠ 0 := fun e => by subst e; have : popN 0 = 0 := rfl; omega
    obtain ⟨l1, l2, l3⟩ := lowb x hx hx0
    have hne : ¬ nI x = (0 : Int32) := fun e => hx0 ((nI_eq (b := 0) (by omega) (by omega)).mp e)
    rw [show m + (k + 1) + 1 = (m + k + 1) + 1 by omega, f_Mod_barred_17, if_neg hne, l1, ih m _ _ l2 (by omega), ← nI_1 k, Int32.add_assoc, Int32.add_comm 1]
theorem bar_m {s : Hp} (hb : ∀ w, w < 6 → 0 ≤ (s 53 w).toInt ∧ (s 53 w).toInt < 64) : ∀ (k j m : Nat) (c : Int32), j + k = 6 → f_Mod_barred_4 (m + k + 1) s c (nI j) = some (brL (s 53) k j c, s) := by
  intro k
  induction k with
  | zero =>
    intro j m c h
    rw [f_Mod_barred_4, if_pos (by rw [show (6 : Int32) = nI 6 from rfl]; exact nI_le (by omega) (by omega))]
    rfl
  | succ k ih =>
    intro j m c h
    have hj := hb j (by omega)
    obtain ⟨x, hx, ex⟩ := nI_ex (x := s 53 j) (n := 63) ⟨hj.1, by omega⟩ (by omega)
    have hp6 : popN x ≤ 6 := by unfold popN; omega
    obtain ⟨m', hm'⟩ := LFx (popN x) (by omega)
    rw [show m + (k + 1) + 1 = (m + k + 1) + 1 by omega, f_Mod_barred_4, if_neg (by rw [show (6 : Int32) = nI 6 from rfl]; exact nI_ge (by omega) (by omega)), if_pos (ib (show j < 6 by omega) (by omega)), nI_clamp (by omega), ex, hm', barr_17 _ s (nI j) (popN x) m' x c (by omega) rfl, nI_1 j, brL_s, ex, nI_toInt (by omega), Int.toNat_natCast]
    exact ih (j + 1) m _ (by omega)
theorem brL_cg {B B' : Nat → Int32} : ∀ (k j : Nat) (c : Int32), (∀ i, j ≤ i → i < j + k → B i = B' i) → brL B k j c = brL B' k j c := by
  intro k
  induction k with
  | zero => intro j c _; rfl
  | succ k ih =>
    intro j c h
    rw [brL_s, brL_s, h j (by omega) (by omega), ih (j + 1) _ (fun i h1 h2 => h i (by omega) (by omega))]
/-! unlike places -/
def lik (sg : Hp) (q p : Nat) : Prop := sg 3 q = sg 3 p ∧ sg 4 q = sg 4 p ∧ sg 5 q = sg 5 p
def unL (v : Nat → Int32) : Nat → Nat → Int32 → Int32
  | 0, _, c => c
  | k + 1, j, c => unL v k (j + 1) (if v j = 0 then c + 1 else c)
theorem unL_s (v : Nat → Int32) (k j : Nat) (c : Int32) : unL v (k + 1) j c = unL v k (j + 1) (if v j = 0 then c + 1 else c) := rfl
theorem like_c {s : Hp} {p : Nat} (hp : p < 8) : ∀ (k j m : Nat), j + k = p → f_Room_hasLikeBefore_2 (m + k + 1) s (nI p) (nI j) = some (bI (∃ q, j ≤ q ∧ q < p ∧ lik s q p), s) := by
  intro k
  induction k with
  | zero =>
    intro j m h
    rw [f_Room_hasLikeBefore_2, if_pos (nI_le (by omega) (by omega)), bI_f (by rintro ⟨q, h1, h2, -⟩; omega)]
  | succ k ih =>
    intro j m h
    have ij : inb (nI j) 8 = true := ib (by omega) (by omega)
    have ip : inb (nI p) 8 = true := ib hp (by omega)
    rw [show m + (k + 1) + 1 = (m + k + 1) + 1 by omega, f_Room_hasLikeBefore_2, if_neg (nI_ge (by omega) (by omega)), if_pos ij, if_pos ip, if_pos ij, if_pos ip, if_pos ij, if_pos ip, nI_clamp (show j < 2 ^ 31 by omega), nI_clamp (show p < 2 ^ 31 by omega)]
    unfold f_Room_hasLikeBefore_54
    rw [nI_1 j]
    have no : ¬ lik s j p → f_Room_hasLikeBefore_2 (m + k + 1) s (nI p) (nI (j + 1)) = some (bI (∃ q, j ≤ q ∧ q < p ∧ lik s q p), s) := by
      intro z
      rw [ih (j + 1) m (by omega)]
      refine congrArg (fun v => some (v, s)) (bI_c ⟨?_, ?_⟩)
      · rintro ⟨q, h1, h2, h3⟩
        exact ⟨q, by omega, h2, h3⟩
      · rintro ⟨q, h1, h2, h3⟩
        refine ⟨q, ?_, h2, h3⟩
        have : q ≠ j := fun e => z (by rw [← e]; exact h3)
        omega
    by_cases q1 : s 3 j = s 3 p
    · rw [if_pos q1]
      by_cases q2 : s 4 j = s 4 p
      · rw [if_pos q2]
        by_cases q3 : s 5 j = s 5 p
        · rw [if_pos q3, bI_t ⟨j, by omega, by omega, q1, q2, q3⟩]
        · rw [if_neg q3]
          exact no (fun z => q3 z.2.2)
      · rw [if_neg q2]
        exact no (fun z => q2 z.2.1)
    · rw [if_neg q1]
      exact no (fun z => q1 z.1)
theorem unl_c {s : Hp} : ∀ (k j m : Nat) (c : Int32), j + k = 8 → f_Room_unlikePlaces_4 (m + k + 1) s c (nI j) = some (unL (fun p => bI (∃ q, q < p ∧ lik s q p)) k j c, s) := by
  intro k
  induction k with
  | zero =>
    intro j m c h
    rw [f_Room_unlikePlaces_4, if_pos (le8 (by omega) (by omega))]
    rfl
  | succ k ih =>
    intro j m c h
    obtain ⟨m', hm'⟩ := LFx j (by omega)
    have e1 : f_Room_hasLikeBefore s (nI j) = some (bI (∃ q, q < j ∧ lik s q j), s) := by
      unfold f_Room_hasLikeBefore
      have := like_c (s := s) (show j < 8 by omega) j 0 m' (by omega)
      rw [nI_0, ← hm'] at this
      rw [this]
      exact congrArg (fun v => some (v, s)) (bI_c ⟨fun ⟨q, _, h2, h3⟩ => ⟨q, h2, h3⟩, fun ⟨q, h2, h3⟩ => ⟨q, by omega, h2, h3⟩⟩)
    rw [show m + (k + 1) + 1 = (m + k + 1) + 1 by omega, f_Room_unlikePlaces_4, if_neg (nle8 (by omega)), e1, Option.bind_some]
    unfold f_Room_unlikePlaces_21
    dsimp only
    rw [nI_1 j]
    by_cases z : bI (∃ q, q < j ∧ lik s q j) = 0
    · rw [if_pos z, unL_s]
      rw [if_pos z]
      exact ih (j + 1) m _ (by omega)
    · rw [if_neg z, unL_s]
      rw [if_neg z]
      exact ih (j + 1) m _ (by omega)
theorem like_m {sg s : Hp} {p : Nat} (hp : p < 8) (hP : ∀ p, p < 8 → s 52 (3 * p) = sg 3 p ∧ s 52 (3 * p + 1) = sg 4 p ∧ s 52 (3 * p + 2) = sg 5 p) (k4 : Hp → Int32 → Int32 → Option (Int32 × Hp)) (c : Int32) : ∀ (k j m : Nat) (had : Prop), j + k = p → f_Mod_unlike_15 k4 (m + k + 1) s c (nI p) (bI had) (nI j) = f_Mod_unlike_115 k4 s (nI p) c (if bI (had ∨ ∃ q, j ≤ q ∧ q < p ∧ lik sg q p) = 0 then 1 else 0) := by
  intro k
  induction k with
  | zero =>
    intro j m had h
    have e : (had ∨ ∃ q, j ≤ q ∧ q < p ∧ lik sg q p) ↔ had := ⟨fun z => z.resolve_right (by rintro ⟨q, h1, h2, -⟩; omega), Or.inl⟩
    rw [f_Mod_unlike_15, if_pos (nI_le (by omega) (by omega)), bI_c e]
    by_cases z : bI had = 0
    · rw [if_pos z, if_pos z]
    · rw [if_neg z, if_neg z]
  | succ k ih =>
    intro j m had h
    have hj : j < 8 := by omega
    obtain ⟨a1, a2, a3⟩ := hP j hj
    obtain ⟨b1, b2, b3⟩ := hP p hp
    rw [show m + (k + 1) + 1 = (m + k + 1) + 1 by omega, f_Mod_unlike_15, if_neg (nI_ge (by omega) (by omega)), if_pos (ix30 hp).1, if_pos (ix30 hj).1, if_pos (ix3 hp (k := 1) (v := 1) (by omega) rfl).1, if_pos (ix3 hj (k := 1) (v := 1) (by omega) rfl).1, if_pos (ix3 hp (k := 2) (v := 2) (by omega) rfl).1, if_pos (ix3 hj (k := 2) (v := 2) (by omega) rfl).1, (ix30 hp).2, (ix30 hj).2, (ix3 hp (k := 1) (v := 1) (by omega) rfl).2, (ix3 hj (k := 1) (v := 1) (by omega) rfl).2, (ix3 hp (k := 2) (v := 2) (by omega) rfl).2, (ix3 hj (k := 2) (v := 2) (by omega) rfl).2]
    unfold f_Mod_unlike_93 f_Mod_unlike_97 f_Mod_unlike_98
    rw [nI_1 j]
    have yes : (had ∨ lik sg j p) → f_Mod_unlike_15 k4 (m + k + 1) s c (nI p) 1 (nI (j + 1)) = f_Mod_unlike_115 k4 s (nI p) c (if bI (had ∨ ∃ q, j ≤ q ∧ q < p ∧ lik sg q p) = 0 then 1 else 0) := by
      intro z
      have := ih (j + 1) m True (by omega)
      rw [bI_t trivial] at this
      rw [this, bI_t (Or.inl trivial), bI_t (by
        rcases z with z | z
        · exact Or.inl z
        · exact Or.inr ⟨j, by omega, by omega, z⟩)]
    have no : ¬ had → ¬ lik sg j p → f_Mod_unlike_15 k4 (m + k + 1) s c (nI p) 0 (nI (j + 1)) = f_Mod_unlike_115 k4 s (nI p) c (if bI (had ∨ ∃ q, j ≤ q ∧ q < p ∧ lik sg q p) = 0 then 1 else 0) := by
      intro z1 z2
      have := ih (j + 1) m had (by omega)
      rw [bI_f z1] at this
      rw [this]
      have e : (had ∨ ∃ q, j + 1 ≤ q ∧ q < p ∧ lik sg q p) ↔ (had ∨ ∃ q, j ≤ q ∧ q < p ∧ lik sg q p) := by
        constructor
        · rintro (y | ⟨q, h1, h2, h3⟩)
          · exact Or.inl y
          · exact Or.inr ⟨q, by omega, h2, h3⟩
        · rintro (y | ⟨q, h1, h2, h3⟩)
          · exact Or.inl y
          · refine Or.inr ⟨q, ?_, h2, h3⟩
            have : q ≠ j := fun e => z2 (by rw [← e]; exact h3)
            omega
      rw [bI_c e]
    by_cases hd : had
    · rw [bI_t hd, if_neg (by decide)]
      exact yes (Or.inl hd)
    · rw [bI_f hd, if_pos rfl, b1, a1, b2, a2, b3, a3]
      by_cases q1 : sg 3 p = sg 3 j
      · rw [if_pos q1]
        by_cases q2 : sg 4 p = sg 4 j
        · rw [if_pos q2]
          by_cases q3 : sg 5 p = sg 5 j
          · rw [if_pos q3]
            exact yes (Or.inr ⟨q1.symm, q2.symm, q3.symm⟩)
          · rw [if_neg q3]
            exact no hd (fun z => q3 z.2.2.symm)
        · rw [if_neg q2]
          exact no hd (fun z => q2 z.2.1.symm)
      · rw [if_neg q1]
        exact no hd (fun z => q1 z.1.symm)
theorem unl_m {sg s : Hp} (hP : ∀ p, p < 8 → s 52 (3 * p) = sg 3 p ∧ s 52 (3 * p + 1) = sg 4 p ∧ s 52 (3 * p + 2) = sg 5 p) : ∀ (k j m : Nat) (c : Int32), j + k = 8 → f_Mod_unlike_4 (m + k + 1) s c (nI j) = some (unL (fun p => bI (∃ q, q < p ∧ lik sg q p)) k j c, s) := by
  intro k
  induction k with
  | zero =>
    intro j m c h
    rw [f_Mod_unlike_4, if_pos (le8 (by omega) (by omega))]
    rfl
  | succ k ih =>
    intro j m c h
    obtain ⟨m', hm'⟩ := LFx j (by omega)
    have e1 := like_m (sg := sg) (s := s) (show j < 8 by omega) hP (f_Mod_unlike_4 (m + k + 1)) c j 0 m' False (by omega)
    have e2 : (False ∨ ∃ q, 0 ≤ q ∧ q < j ∧ lik sg q j) ↔ ∃ q, q < j ∧ lik sg q j := ⟨fun z => by
      rcases z with z | ⟨q, _, h2, h3⟩
      · exact absurd z id
      · exact ⟨q, h2, h3⟩, fun ⟨q, h2, h3⟩ => Or.inr ⟨q, by omega, h2, h3⟩⟩
    rw [nI_0, ← hm', bI_f (id : ¬ False), bI_c e2] at e1
    rw [show m + (k + 1) + 1 = (m + k + 1) + 1 by omega, f_Mod_unlike_4, if_neg (nle8 (by omega)), e1]
    unfold f_Mod_unlike_115
    rw [nI_1 j, unL_s]
    by_cases z : bI (∃ q, q < j ∧ lik sg q j) = 0
    · rw [if_pos z, if_pos z]
      exact ih (j + 1) m _ (by omega)
    · rw [if_neg z, if_neg z, Int32.add_zero]
      exact ih (j + 1) m _ (by omega)
