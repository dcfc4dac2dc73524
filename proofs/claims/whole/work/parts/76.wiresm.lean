/-! WIRES: the reference -/
theorem isIn8 (s : Hp) {x w : Nat} (hx : x < 256) (hw : w < 8) : f_Mod_isIn s (nI x) (nI w) = some (if x.testBit w = true then 1 else 0, s) := by
  unfold f_Mod_isIn
  by_cases h : x.testBit w = true
  · rw [if_pos ((bit8 x hx w hw).mpr h), if_pos h]
  · rw [if_neg (fun q => h ((bit8 x hx w hw).mp q)), if_neg h]
def FI (sg : Hp) (pp : Nat) (s : Hp) (u : Nat) : Prop := ∀ t, t < u → t < 64 → t / 8 < t % 8 → s 60 t = iI (Wt sg pp t)
theorem fill_20 {n : Nat} {sg : Hp} {pp a : Nat} (hp : pp < 256) (ha : a < 8) (x2 : Int32) (k2 : Hp → Int32 → Int32 → Int32 → Option (Int32 × Hp)) : ∀ (q b m : Nat) (s : Hp), b + q = 8 → a < b → PF n sg s → FI sg pp s (8 * a + b) → ∃ s', f_Mod_wiresOf_20 k2 (m + q + 1) s (nI pp) x2 (nI a) (nI b) = k2 s' (nI pp) x2 (nI (a + 1)) ∧ PF n sg s' ∧ s' 61 = s 61 ∧ FI sg pp s' (8 * a + 8) := by
  intro q
  induction q with
  | zero =>
    intro b m s hb hab hs hF
    rw [f_Mod_wiresOf_20, if_pos (le8 (by omega) (by omega)), nI_1 a]
    exact ⟨s, rfl, hs, rfl, by rw [show 8 * a + 8 = 8 * a + b by omega]; exact hF⟩
  | succ q ih =>
    intro b m s hb hab hs hF
    have st : ∀ (s1 : Hp) (v : Int32), PF n sg s1 → s1 61 = s 61 → s1 60 = s 60 → v = iI (Wt sg pp (8 * a + b)) → ∃ s', f_Mod_wiresOf_66 k2 (f_Mod_wiresOf_20 k2 (m + q + 1)) s1 (nI pp) x2 (nI a) (nI b) ((8 : Int32) * nI a + nI b) v = k2 s' (nI pp) x2 (nI (a + 1)) ∧ PF n sg s' ∧ s' 61 = s 61 ∧ FI sg pp s' (8 * a + 8) := by
      intro s1 v p1 e61 e60 hv
      unfold f_Mod_wiresOf_66
      rw [ix8 ha (show b < 8 by omega), if_pos (ib (by omega) (by omega)), Option.bind_some, nI_clamp (by omega), nI_1 b]
      obtain ⟨s', f1, f2, f3, f4⟩ := ih (b + 1) m (w2 s1 60 (8 * a + b) v) (by omega) (by omega) (p1.mx (fun c c1 c2 c3 => w2_cell _ (by omega)) (by rw [w2_cell _ (by omega)]) (by rw [w2_cell _ (by omega)])) (fun t t1 t2 t3 => by
        by_cases e : t = 8 * a + b
        · rw [e, w2_at, hv]
        · rw [w2_ne (by omega), e60]
          exact hF t (by omega) t2 t3)
      exact ⟨s', f1, f2, by rw [f3, w2_cell _ (by omega), e61], f4⟩
    have e8 : (8 * a + b) / 8 = a := by omega
    have e9 : (8 * a + b) % 8 = b := by omega
    have wno : ¬ (pp.testBit a = true ∧ pp.testBit b = true) → Wt sg pp (8 * a + b) = -1 := by
      intro z
      unfold Wt
      rw [e8, e9, if_neg (fun y => z y.2)]
    rw [show m + (q + 1) + 1 = (m + q + 1) + 1 by omega, f_Mod_wiresOf_20, if_neg (nle8 (by omega)), isIn8 s hp ha, Option.bind_some]
    unfold f_Mod_wiresOf_65
    dsimp only
    by_cases q1 : pp.testBit a = true
    · rw [if_pos q1, if_neg (by decide), isIn8 s hp (show b < 8 by omega), Option.bind_some]
      dsimp only
      by_cases q2 : pp.testBit b = true
      · rw [if_pos q2, if_neg (by decide)]
        obtain ⟨T, d, t1, t2, t3, -⟩ := short_d hs ha (show b < 8 by omega)
        rw [t1, Option.bind_some]
        dsimp only
        refine st T _ t2 (t3.1 61 (by omega) (by omega)) (t3.1 60 (by omega) (by omega)) ?_
        unfold Wt
        rw [e8, e9, if_pos ⟨hab, q1, q2⟩]
      · rw [if_neg q2, if_pos rfl]
        exact st s _ hs rfl rfl (by rw [wno (fun z => q2 z.2), iM1])
    · rw [if_neg q1, if_pos rfl]
      exact st s _ hs rfl rfl (by rw [wno (fun z => q1 z.1), iM1])
theorem fill_2 {n : Nat} {sg : Hp} {pp : Nat} (hp : pp < 256) (x2 : Int32) : ∀ (q a m : Nat) (s : Hp), a + q = 8 → PF n sg s → FI sg pp s (8 * a) → (∀ p, p < a → s 61 p = nI p) → ∃ s', f_Mod_wiresOf_2 (m + q + 1) s (nI pp) x2 (nI a) = f_Mod_wiresOf_90 LF s' x2 0 0 (-1) 1 ∧ PF n sg s' ∧ FI sg pp s' 64 ∧ ∀ p, p < 8 → s' 61 p = nI p := by
  intro q
  induction q with
  | zero =>
    intro a m s ha hs hF hG
    rw [f_Mod_wiresOf_2, if_pos (le8 (by omega) (by omega))]
    exact ⟨s, rfl, hs, by rw [show 64 = 8 * a by omega]; exact hF, fun p hp => hG p (by omega)⟩
  | succ q ih =>
    intro a m s ha hs hF hG
    have ha8 : a < 8 := by omega
    rw [show m + (q + 1) + 1 = (m + q + 1) + 1 by omega, f_Mod_wiresOf_2, if_neg (nle8 ha8), if_pos (ib ha8 (by omega)), Option.bind_some, nI_clamp (by omega), nI_1 a]
    obtain ⟨m', hm'⟩ := LFx (7 - a) (by omega)
    obtain ⟨s1, f1, f2, f3, f4⟩ := fill_20 (n := n) (sg := sg) hp ha8 x2 (f_Mod_wiresOf_2 (m + q + 1)) (7 - a) (a + 1) m' (w2 s 61 a (nI a)) (by omega) (by omega) (hs.mx (fun c c1 c2 c3 => w2_cell _ (by omega)) (by rw [w2_cell _ (by omega)]) (by rw [w2_cell _ (by omega)])) (fun t t1 t2 t3 => by
      rw [w2_cell _ (by omega)]
      exact hF t (by omega) t2 t3)
    rw [← hm'] at f1
    rw [f1]
    refine ih (a + 1) m s1 (by omega) f2 (by rw [show 8 * (a + 1) = 8 * a + 8 by omega]; exact f4) (fun p hp => ?_)
    rw [f3]
    by_cases e : p = a
    · rw [e, w2_at]
    · rw [w2_ne (by omega)]
      exact hG p (by omega)
def xok (x : Int) : Prop := x = -1 ∨ ∃ i : Nat, i < 64 ∧ x = (i : Int) ∧ i / 8 < i % 8
theorem Wt_ok {sg : Hp} {pp t : Nat} (h : Wt sg pp t ≠ -1) : t / 8 < t % 8 := by
  unfold Wt at h
  by_cases z : t / 8 < t % 8 ∧ pp.testBit (t / 8) = true ∧ pp.testBit (t % 8) = true
  · exact z.1
  · rw [if_neg z] at h; exact absurd rfl h
theorem scn_xok {sg : Hp} {pp : Nat} {g : Nat → Int32} {k t : Nat} {x : Int} (ht : t + k ≤ 64) (hx : xok x) : xok (scn (Wt sg pp) g k t x) := by
  have h1 : -1 ≤ x := by rcases hx with h | ⟨i, -, h, -⟩ <;> omega
  by_cases q : scn (Wt sg pp) g k t x = -1
  · exact Or.inl q
  · obtain ⟨a1, -, -⟩ := (scn_p (W := Wt sg pp) (g := g) k t x h1).2 q
    rcases a1 with a1 | ⟨i, b1, b2, b3, b4⟩
    · rw [a1]; exact hx
    · exact Or.inr ⟨i, by omega, b4, Wt_ok b3.1⟩
/-- the reference's wires -/
def MW (sg : Hp) (pp : Nat) (g : Nat → Int32) (s : Hp) : Prop := (∀ p, p < 8 → s 61 p = g p) ∧ FI sg pp s 64
theorem scan_114 {n : Nat} {sg : Hp} (h : Inv n sg) {pp a : Nat} (ha : a < 8) {g : Nat → Int32} {s : Hp} (hw : MW sg pp g s) (k90 : Hp → Int32 → Int32 → Int32 → Int32 → Int32 → Option (Int32 × Hp)) (k101 : Hp → Int32 → Int32 → Int32 → Int32 → Int32 → Int32 → Option (Int32 × Hp)) (x2 x3 x4 x5 : Int32) : ∀ (q b m : Nat) (x : Int), b + q = 8 → a < b → xok x → f_Mod_wiresOf_114 k90 k101 (m + q + 1) s x2 x3 x4 x5 (iI x) (nI a) (nI b) = k101 s x2 x3 x4 x5 (iI (scn (Wt sg pp) g q (8 * a + b) x)) (nI (a + 1)) := by
  intro q
  induction q with
  | zero =>
    intro b m x hb hab hx
    rw [f_Mod_wiresOf_114, if_pos (le8 (by omega) (by omega)), nI_1 a]
    rfl
  | succ q ih =>
    intro b m x hb hab hx
    have hb8 : b < 8 := by omega
    have hW := Wt_rng h (pp := pp) (t := 8 * a + b) (by omega)
    have e8 : (8 * a + b) / 8 = a := by omega
    have e9 : (8 * a + b) % 8 = b := by omega
    have e60 : s 60 (8 * a + b) = iI (Wt sg pp (8 * a + b)) := hw.2 _ (by omega) (by omega) (by omega)
    rw [show m + (q + 1) + 1 = (m + q + 1) + 1 by omega, f_Mod_wiresOf_114, if_neg (nle8 hb8), ix8 ha hb8, if_pos (ib (show 8 * a + b < 64 by omega) (by omega)), nI_clamp (show 8 * a + b < 2 ^ 31 by omega), if_pos (ib ha (by omega)), if_pos (ib hb8 (by omega)), nI_clamp (show a < 2 ^ 31 by omega), nI_clamp (show b < 2 ^ 31 by omega), scn_s]
    have keep : sc1 (Wt sg pp) g (8 * a + b) x = x → f_Mod_wiresOf_114 k90 k101 (m + q + 1) s x2 x3 x4 x5 (iI x) (nI a) (nI b + 1) = k101 s x2 x3 x4 x5 (iI (scn (Wt sg pp) g q (8 * a + b + 1) (sc1 (Wt sg pp) g (8 * a + b) x))) (nI (a + 1)) := by
      intro e
      rw [e, nI_1 b]
      exact ih (b + 1) m x (by omega) (by omega) hx
    have take : sc1 (Wt sg pp) g (8 * a + b) x = ((8 * a + b : Nat) : Int) → f_Mod_wiresOf_114 k90 k101 (m + q + 1) s x2 x3 x4 x5 (nI (8 * a + b)) (nI a) (nI b + 1) = k101 s x2 x3 x4 x5 (iI (scn (Wt sg pp) g q (8 * a + b + 1) (sc1 (Wt sg pp) g (8 * a + b) x))) (nI (a + 1)) := by
      intro e
      rw [e, nI_1 b]
      exact ih (b + 1) m ((8 * a + b : Nat) : Int) (by omega) (by omega) (Or.inr ⟨8 * a + b, by omega, rfl, by omega⟩)
    unfold f_Mod_wiresOf_163 f_Mod_wiresOf_164 f_Mod_wiresOf_189 f_Mod_wiresOf_200 f_Mod_wiresOf_202
    rw [ix8 ha hb8]
    by_cases q1 : Wt sg pp (8 * a + b) = -1
    · rw [if_pos (by rw [e60, q1, iM1]), if_pos rfl]
      exact keep (sc1_f (fun z => z.1.1 q1))
    · rw [if_neg (by rw [e60, iE1 (by omega)]; exact q1)]
      by_cases q2 : g a = g b
      · rw [if_pos (by rw [hw.1 a ha, hw.1 b hb8]; exact q2), if_pos rfl]
        exact keep (sc1_f (fun z => z.1.2 (by rw [e8, e9]; exact q2)))
      · have ok : okW (Wt sg pp) g (8 * a + b) := ⟨q1, by rw [e8, e9]; exact q2⟩
        rw [if_neg (by rw [hw.1 a ha, hw.1 b hb8]; exact q2), if_neg (by decide)]
        rcases hx with q3 | ⟨i, i1, i2, i3⟩
        · rw [if_pos (by rw [q3, iM1])]
          exact take (sc1_t ⟨ok, Or.inl q3⟩)
        · have hWi := Wt_rng h (pp := pp) i1
          have ei : iI x = nI i := by rw [i2]; rfl
          have e6i : s 60 i = iI (Wt sg pp i) := hw.2 i i1 i1 i3
          rw [if_neg (by rw [ei]; exact nI_m1 (by omega)), if_pos (by rw [ei]; exact ib i1 (by omega))]
          have L : (s 60 (iI x).toNatClampNeg ≤ s 60 (8 * a + b)) = (Wt sg pp i ≤ Wt sg pp (8 * a + b)) := by rw [ei, nI_clamp (by omega), e6i, e60]; exact iLe (by omega) (by omega)
          have xi : x.toNat = i := by rw [i2, Int.toNat_natCast]
          by_cases q4 : Wt sg pp i ≤ Wt sg pp (8 * a + b)
          · rw [if_pos (by rw [L]; exact q4)]
            exact keep (sc1_f (fun z => by rcases z.2 with z2 | z2; omega; rw [xi] at z2; omega))
          · rw [if_neg (by rw [L]; exact q4)]
            exact take (sc1_t ⟨ok, Or.inr (by rw [xi]; omega)⟩)
theorem scan_101 {n : Nat} {sg : Hp} (h : Inv n sg) {pp : Nat} {g : Nat → Int32} {s : Hp} (hw : MW sg pp g s) (k90 : Hp → Int32 → Int32 → Int32 → Int32 → Int32 → Option (Int32 × Hp)) (x2 x3 x4 x5 : Int32) : ∀ (q a m : Nat) (x : Int), a + q = 8 → xok x → f_Mod_wiresOf_101 k90 (m + q + 1) s x2 x3 x4 x5 (iI x) (nI a) = f_Mod_wiresOf_101 k90 (m + 1) s x2 x3 x4 x5 (iI (scn (Wt sg pp) g (8 * q) (8 * a) x)) (nI 8) := by
  intro q
  induction q with
  | zero =>
    intro a m x ha hx
    rw [show a = 8 by omega]
    rfl
  | succ q ih =>
    intro a m x ha hx
    have ha8 : a < 8 := by omega
    rw [show m + (q + 1) + 1 = (m + q + 1) + 1 by omega, f_Mod_wiresOf_101, if_neg (nle8 ha8), nI_1 a]
    obtain ⟨m', hm'⟩ := LFx (7 - a) (by omega)
    have f1 := scan_114 h ha8 hw k90 (f_Mod_wiresOf_101 k90 (m + q + 1)) x2 x3 x4 x5 (7 - a) (a + 1) m' x (by omega) (by omega) hx
    rw [← hm'] at f1
    have e : scn (Wt sg pp) g (8 * (q + 1)) (8 * a) x = scn (Wt sg pp) g (8 * q) (8 * (a + 1)) (scn (Wt sg pp) g (7 - a) (8 * a + (a + 1)) x) := by
      rw [show 8 * (q + 1) = (a + 1) + ((7 - a) + 8 * q) by omega, scn_add, scn_id (a + 1) (8 * a) x (fun i h1 h2 => ?_), scn_add, show 8 * a + (a + 1) + (7 - a) = 8 * (a + 1) by omega]
      by_cases z : Wt sg pp i = -1
      · exact z
      · have := Wt_ok z
        omega
    rw [f1, e]
    exact ih (a + 1) m _ (by omega) (scn_xok (by omega) hx)
theorem joins_l {a : Nat} (ha : a < 8) {ga fr : Int32} (hne : ga ≠ fr) : ∀ (k j m : Nat) (s : Hp), j + k = 8 → s 61 a = ga → ∃ s', f_Mod_joins_10 (m + k + 1) s (nI a) fr (nI j) = some s' ∧ (∀ c, c ≠ 61 → s' c = s c) ∧ ∀ p, p < 8 → s' 61 p = if j ≤ p ∧ s 61 p = fr then ga else s 61 p := by
  intro k
  induction k with
  | zero =>
    intro j m s hj hA
    rw [f_Mod_joins_10, if_pos (le8 (by omega) (by omega))]
    exact ⟨s, rfl, fun _ _ => rfl, fun p hp => by rw [if_neg (by omega)]⟩
  | succ k ih =>
    intro j m s hj hA
    have hj8 : j < 8 := by omega
    rw [show m + (k + 1) + 1 = (m + k + 1) + 1 by omega, f_Mod_joins_10, if_neg (nle8 hj8), if_pos (ib hj8 (by omega)), if_pos (ib ha (by omega)), if_pos (ib hj8 (by omega)), nI_clamp (show j < 2 ^ 31 by omega), nI_clamp (show a < 2 ^ 31 by omega)]
    unfold f_Mod_joins_50
    rw [if_pos (ib hj8 (by omega)), if_pos (ib hj8 (by omega)), Option.bind_some, Option.bind_some, nI_clamp (show j < 2 ^ 31 by omega), nI_1 j]
    by_cases q : s 61 j = fr
    · rw [if_pos q, hA]
      have haj : a ≠ j := fun e => hne (by rw [← hA, e, q])
      obtain ⟨s', f1, f2, f3⟩ := ih (j + 1) m (w2 s 61 j ga) (by omega) (by rw [w2_ne (by omega)]; exact hA)
      refine ⟨s', f1, fun c hc => by rw [f2 c hc, w2_cell _ hc], fun p hp => ?_⟩
      rw [f3 p hp]
      by_cases e : p = j
      · subst e
        rw [if_neg (by omega), w2_at, if_pos ⟨by omega, q⟩]
      · rw [w2_ne (by omega)]
        by_cases z : j + 1 ≤ p ∧ s 61 p = fr
        · rw [if_pos z, if_pos ⟨by omega, z.2⟩]
        · rw [if_neg z, if_neg (fun y => z ⟨by omega, y.2⟩)]
    · rw [if_neg q]
      have same : ∀ p, w2 s 61 j (s 61 j) 61 p = s 61 p := fun p => by
        by_cases e : p = j
        · rw [e, w2_at]
        · rw [w2_ne (by omega)]
      obtain ⟨s', f1, f2, f3⟩ := ih (j + 1) m (w2 s 61 j (s 61 j)) (by omega) (by rw [same]; exact hA)
      refine ⟨s', f1, fun c hc => by rw [f2 c hc, w2_cell _ hc], fun p hp => ?_⟩
      rw [f3 p hp, same]
      by_cases e : p = j
      · subst e
        rw [if_neg (by omega), if_neg (fun y => q y.2)]
      · by_cases z : j + 1 ≤ p ∧ s 61 p = fr
        · rw [if_pos z, if_pos ⟨by omega, z.2⟩]
        · rw [if_neg z, if_neg (fun y => z ⟨by omega, y.2⟩)]
noncomputable def ask (W : Nat → Int) (x2 : Int32) (r : Nat) : Int32 := if 0 ≤ x2.toInt ∧ x2.toInt < r then iI (Xs W x2.toInt.toNat) else -1
theorem mst_rng {n : Nat} {sg : Hp} (h : Inv n sg) {pp r : Nat} (hX : ∀ i, i < r → Xs (Wt sg pp) i ≠ -1) : 0 ≤ mst (Wt sg pp) r ∧ mst (Wt sg pp) r ≤ 100000000 := by
  unfold mst
  by_cases q : r = 0
  · rw [if_pos q]; omega
  · rw [if_neg q]
    obtain ⟨t, t1, t2, t3, -⟩ := Xs_ok (hX (r - 1) (by omega))
    rw [t2, Int.toNat_natCast]
    have := Wt_rng h (pp := pp) t1
    have := t3.1
    omega
theorem wires_90 {n : Nat} {sg : Hp} (h : Inv n sg) {pp M : Nat} (hM : M ≤ 7) (hX : ∀ i, i < M → Xs (Wt sg pp) i ≠ -1) (hX2 : Xs (Wt sg pp) M = -1) {x2 : Int32} (h2 : -2 ≤ x2.toInt) : ∀ (q r m : Nat) (s : Hp), r + q = M → PF n sg s → MW sg pp (Gs (Wt sg pp) r) s → ∃ s', f_Mod_wiresOf_90 (m + q + 2) s x2 (nI r) (iI (mst (Wt sg pp) r)) (ask (Wt sg pp) x2 r) 1 = some (wrA (Wt sg pp) x2 M, s') ∧ PF n sg s' := by
  intro q
  induction q with
  | zero =>
    intro r m s hr hs hw
    have e : r = M := by omega
    subst e
    obtain ⟨m8, hm8⟩ := LFx 8 (by omega)
    have f1 := scan_101 h hw (f_Mod_wiresOf_90 (m + 0 + 1)) x2 (nI r) (iI (mst (Wt sg pp) r)) (ask (Wt sg pp) x2 r) 8 0 m8 (-1) (by omega) (Or.inl rfl)
    rw [show scn (Wt sg pp) (Gs (Wt sg pp) r) (8 * 8) (8 * 0) (-1) = Xs (Wt sg pp) r from rfl, hX2, ← hm8, iM1, nI_0] at f1
    rw [f_Mod_wiresOf_90, if_neg (by decide), f1, f_Mod_wiresOf_101, if_pos (le8 (by omega) (by omega)), if_pos rfl]
    unfold f_Mod_wiresOf_227 f_Mod_wiresOf_279
    rw [if_pos rfl, show m + 0 + 1 = m + 1 by omega, f_Mod_wiresOf_90, if_pos rfl]
    refine ⟨s, ?_, hs⟩
    unfold wrA ask
    by_cases q1 : x2 = -1
    · rw [if_pos q1, if_pos q1]
    · rw [if_neg q1, if_neg q1]
      by_cases q2 : x2 = -2
      · rw [if_pos q2, if_pos q2]
      · rw [if_neg q2, if_neg q2]
        have r1 : (-1 : Int32).toInt = -1 := by decide
        have r2 : (-2 : Int32).toInt = -2 := by decide
        have q1' : x2.toInt ≠ -1 := fun z => q1 (i_inj (by rw [z, r1]))
        have q2' : x2.toInt ≠ -2 := fun z => q2 (i_inj (by rw [z, r2]))
        by_cases q3 : x2.toInt < r
        · rw [if_pos ⟨by omega, q3⟩, if_pos q3]
        · rw [if_neg (fun z => q3 z.2), if_neg q3]
  | succ q ih =>
    intro r m s hr hs hw
    have hXr := hX r (by omega)
    obtain ⟨t, t1, t2, t3, -⟩ := Xs_ok hXr
    obtain ⟨m8, hm8⟩ := LFx 8 (by omega)
    have f1 := scan_101 h hw (f_Mod_wiresOf_90 (m + q + 2)) x2 (nI r) (iI (mst (Wt sg pp) r)) (ask (Wt sg pp) x2 r) 8 0 m8 (-1) (by omega) (Or.inl rfl)
    have et : iI (Xs (Wt sg pp) r) = nI t := by rw [t2]; rfl
    rw [show scn (Wt sg pp) (Gs (Wt sg pp) r) (8 * 8) (8 * 0) (-1) = Xs (Wt sg pp) r from rfl, et, ← hm8, iM1, nI_0] at f1
    rw [show m + (q + 1) + 2 = (m + q + 2) + 1 by omega, f_Mod_wiresOf_90, if_neg (by decide), f1, f_Mod_wiresOf_101, if_pos (le8 (by omega) (by omega)), if_neg (nI_m1 (by omega))]
    unfold f_Mod_wiresOf_227 f_Mod_wiresOf_274 f_Mod_wiresOf_279
    have e1 : nI t / (8 : Int32) = nI (t / 8) := by rw [show (8 : Int32) = nI 8 from rfl, tdivI (by omega) (by omega)]
    have e2 : nI t - nI t / (8 : Int32) * (8 : Int32) = nI (t % 8) := rem8 (by omega)
    obtain ⟨s1, k1, k2, k3⟩ := joins_l (show t / 8 < 8 by omega) (ga := s 61 (t / 8)) (fr := s 61 (t % 8)) (by rw [hw.1 _ (by omega), hw.1 _ (by omega)]; exact t3.2) 8 0 m8 s (by omega) rfl
    have kj : f_Mod_joins s (nI (t / 8)) (nI (t % 8)) = some s1 := by
      unfold f_Mod_joins
      rw [if_pos (ib (show t % 8 < 8 by omega) (by omega)), nI_clamp (by omega)]
      rw [nI_0, ← hm8] at k1
      exact k1
    have hWt := Wt_rng h (pp := pp) t1
    have e60 : s1 60 t = iI (Wt sg pp t) := by
      rw [k2 60 (by omega)]
      exact hw.2 t t1 t1 (Wt_ok t3.1)
    obtain ⟨v, v1, v2⟩ := greater_m s1 (iI (mst (Wt sg pp) r)) (s1 60 t)
    have hms := mst_rng h (pp := pp) (r := r) (fun i hi => hX i (by omega))
    have v3 := max_i rfl e60 (by omega) (by omega) v2
    have hmx : max (mst (Wt sg pp) r) (Wt sg pp t) = mst (Wt sg pp) (r + 1) := by
      have e5 : mst (Wt sg pp) (r + 1) = Wt sg pp t := by
        unfold mst
        rw [if_neg (by omega), show r + 1 - 1 = r by omega, t2, Int.toNat_natCast]
      rw [e5]
      have : mst (Wt sg pp) r ≤ Wt sg pp t := by
        by_cases z : r = 0
        · unfold mst
          rw [if_pos z]
          have := t3.1
          omega
        · unfold mst
          rw [if_neg z]
          have := Xs_mono (W := Wt sg pp) (i := r - 1) (hX _ (by omega)) (by rw [show r - 1 + 1 = r by omega]; exact hXr)
          rw [show r - 1 + 1 = r by omega, t2, Int.toNat_natCast] at this
          exact this
      omega
    rw [hmx] at v3
    rw [if_neg (by decide), e2, e1, kj, Option.bind_some, if_pos (ib (show t < 64 by omega) (by omega)), nI_clamp (show t < 2 ^ 31 by omega), v1, Option.bind_some]
    dsimp only
    rw [v3, nI_1 r]
    have P1 : PF n sg s1 := hs.mx (fun c c1 c2 c3 => k2 c (by omega)) (by rw [k2 46 (by omega)]) (by rw [k2 46 (by omega)])
    have W1 : MW sg pp (Gs (Wt sg pp) (r + 1)) s1 := by
      refine ⟨fun p hp => ?_, fun u u1 u2 u3 => by rw [k2 60 (by omega)]; exact hw.2 u u1 u2 u3⟩
      rw [k3 p hp, hw.1 p hp, hw.1 _ (show t / 8 < 8 by omega), hw.1 _ (show t % 8 < 8 by omega), Gs_s hXr, t2, Int.toNat_natCast]
      unfold jn
      by_cases z : Gs (Wt sg pp) r p = Gs (Wt sg pp) r (t % 8)
      · rw [if_pos ⟨by omega, z⟩, if_pos z]
      · rw [if_neg (fun y => z y.2), if_neg z]
    have key := ih (r + 1) m s1 (by omega) P1 W1
    by_cases z : nI r = x2
    · rw [if_pos z]
      have ez : x2.toInt = (r : Int) := by rw [← z, nI_toInt (by omega)]
      have ea : ask (Wt sg pp) x2 (r + 1) = nI t := by
        unfold ask
        rw [if_pos (by omega), ez, Int.toNat_natCast, et]
      rw [ea] at key
      exact key
    · rw [if_neg z]
      have ez : x2.toInt ≠ (r : Int) := fun y => z (i_inj (by rw [y, nI_toInt (by omega)]))
      have ea : ask (Wt sg pp) x2 (r + 1) = ask (Wt sg pp) x2 r := by
        unfold ask
        by_cases y : 0 ≤ x2.toInt ∧ x2.toInt < r
        · rw [if_pos (by omega), if_pos y]
        · rw [if_neg (by omega), if_neg y]
      rw [ea] at key
      exact key
theorem m_wires {n : Nat} {sg : Hp} (h : Inv n sg) {pp M : Nat} (hp : pp < 256) (hM : M ≤ 7) (hX : ∀ i, i < M → Xs (Wt sg pp) i ≠ -1) (hX2 : Xs (Wt sg pp) M = -1) {x2 : Int32} (h2 : -2 ≤ x2.toInt) : Q n sg (fun s => f_Mod_wiresOf s (nI pp) x2) (wrA (Wt sg pp) x2 M) := by
  intro s hs
  obtain ⟨m8, hm8⟩ := LFx 8 (by omega)
  obtain ⟨s1, f1, f2, f3, f4⟩ := fill_2 (n := n) (sg := sg) hp x2 8 0 m8 s (by omega) hs (fun t t1 => by omega) (fun p hp => by omega)
  obtain ⟨m, hm⟩ := LFx (M + 1) (by omega)
  obtain ⟨s', g1, g2⟩ := wires_90 h hM hX hX2 h2 M 0 m s1 (by omega) f2 ⟨f4, f3⟩
  refine ⟨s', ?_, g2⟩
  show f_Mod_wiresOf s (nI pp) x2 = _
  unfold f_Mod_wiresOf
  rw [nI_0, ← hm8] at f1
  have ea : ask (Wt sg pp) x2 0 = -1 := by
    unfold ask
    rw [if_neg (by omega)]
  rw [show m + M + 2 = m + (M + 1) + 1 by omega, ← hm, nI_0, ea, show iI (mst (Wt sg pp) 0) = (0 : Int32) from rfl] at g1
  rw [f1, g1]
theorem k_wires : K_wires := by
  intro n sg h hn a1 a2
  have r2 : (-2 : Int32).toInt = -2 := by decide
  have r0 : (0 : Int32).toInt = 0 := by decide
  have r6 : (256 : Int32).toInt = 256 := by decide
  have mtop : ∀ s, f_Mod_wires s a1 a2 = if 0 ≤ a1.toInt ∧ a1.toInt ≤ 255 then (if a2 < -2 then some (-2, s) else f_Mod_wiresOf s a1 a2) else some (-2, s) := by
    intro s
    unfold f_Mod_wires
    rw [in_i a1 0 255 (a := 0) (b := 255) rfl rfl, Option.bind_some]
    dsimp only
    rw [if_b, bid]
  by_cases c : (0 ≤ a1.toInt ∧ a1.toInt ≤ 255) ∧ -2 ≤ a2.toInt
  · obtain ⟨c1, c2⟩ := c
    obtain ⟨pp, hp, rfl⟩ := nI_ex (n := 255) c1 (by omega)
    obtain ⟨M, m1, m2, m3⟩ := Xs_M (Wt sg pp)
    refine pair_q h (c_wires h (by omega) m1 m2 m3 c2) (Q.eq (fun s => ?_) (m_wires h (by omega) m1 m2 m3 c2))
    show f_Mod_wires s _ _ = _
    rw [mtop, if_pos c1, if_neg (by rw [nLt, r2]; omega)]
  · refine pair_q h (q_bad (v := -2) (fun s => ?_)) (q_bad (fun s => ?_))
    · unfold f_Box_wires
      by_cases q1 : a1 < 0
      · rw [if_pos q1]
      · rw [if_neg q1]
        by_cases q2 : (256 : Int32) ≤ a1
        · rw [if_pos q2]
        · rw [if_neg q2, if_neg (by rw [nLt, r0] at q1; rw [nLe, r6] at q2; rw [nLe, r2]; omega)]
    · show f_Mod_wires s _ _ = _
      rw [mtop]
      by_cases q1 : 0 ≤ a1.toInt ∧ a1.toInt ≤ 255
      · rw [if_pos q1, if_pos (by rw [nLt, r2]; omega)]
      · rw [if_neg q1]
