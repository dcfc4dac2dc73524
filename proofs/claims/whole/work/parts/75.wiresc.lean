/-! WIRES: the class -/
theorem bit8 : ∀ x, x < 256 → ∀ w, w < 8 → (((nI x >>> (nI w &&& 31)) &&& (1 : Int32) = 1) ↔ x.testBit w = true) := by decide +kernel
noncomputable def Wt (sg : Hp) (pp t : Nat) : Int := if t / 8 < t % 8 ∧ pp.testBit (t / 8) = true ∧ pp.testBit (t % 8) = true then Dl sg (t / 8) (t % 8) else -1
theorem Wt_rng {n : Nat} {sg : Hp} (h : Inv n sg) {pp t : Nat} (ht : t < 64) : -1 ≤ Wt sg pp t ∧ Wt sg pp t ≤ 100000000 := by
  unfold Wt
  split
  · exact D_rng h (by omega) (by omega)
  · omega
theorem look_e {n : Nat} {sg s : Hp} (h : PF n sg s) {a b : Nat} (ha : a < 8) (hb : b < 8) : ∃ s', f_Table_look s (nI a) (nI b) = some (nI (8 * a + b), s') ∧ PF n sg s' ∧ s' 25 (8 * a + b) = iI (Dl sg a b) ∧ ∀ c, 29 ≤ c → s' c = s c := by
  obtain ⟨s', e1, e2, ⟨e3, e4, e5⟩, e6⟩ := look_c h.1 ha hb
  rw [h.best] at e3
  refine ⟨s', e1, ⟨e2, fun c hc => ?_, ?_, ?_⟩, e3, fun c hc => e6 c (by simp only [List.mem_cons, List.not_mem_nil, or_false]; omega)⟩
  · have k : ∀ c, c ∈ PC → c ∉ [11, 13, 15, 16, 18, 19, 20, 21, 22, 23, 25, 26, 27, 28] := by decide
    rw [e6 c (k c hc), h.2.1 c hc]
  · rw [e6 46 (by decide), h.2.2.1]
  · rw [e6 46 (by decide), h.2.2.2]
theorem open_c {s : Hp} {pp t : Nat} (hp : pp < 256) (ht : t < 64) : ∃ v : Int32, f_Wiring_isOpen s (nI t) (nI pp) = some (v, s) ∧ (v = 0 ↔ ¬ ((t / 8 < t % 8 ∧ pp.testBit (t / 8) = true ∧ pp.testBit (t % 8) = true) ∧ s 30 (t / 8) ≠ s 30 (t % 8))) := by
  have e1 : nI t / (8 : Int32) = nI (t / 8) := by rw [show (8 : Int32) = nI 8 from rfl, tdivI (by omega) (by omega)]
  have e2 : nI t - nI t / (8 : Int32) * (8 : Int32) = nI (t % 8) := rem8 (by omega)
  unfold f_Wiring_isOpen f_Wiring_isOpen_34
  rw [e2, e1]
  have b1 := bit8 pp hp (t / 8) (by omega)
  have b2 := bit8 pp hp (t % 8) (by omega)
  have no : f_Wiring_isOpen_35 s (nI (t / 8)) (nI (t % 8)) 0 = some (0, s) := by
    unfold f_Wiring_isOpen_35
    by_cases q : nI (t % 8) ≤ nI (t / 8)
    · rw [if_pos q]
    · rw [if_neg q, if_pos rfl]
  by_cases q1 : pp.testBit (t / 8) = true
  · rw [if_pos (b1.mpr q1)]
    by_cases q2 : pp.testBit (t % 8) = true
    · rw [if_pos (b2.mpr q2)]
      unfold f_Wiring_isOpen_35
      by_cases q3 : t / 8 < t % 8
      · rw [if_neg (nI_ge q3 (by omega)), if_neg (by decide), if_pos (ib (by omega) (by omega)), if_pos (ib (by omega) (by omega)), nI_clamp (by omega), nI_clamp (by omega)]
        by_cases q4 : s 30 (t / 8) = s 30 (t % 8)
        · rw [if_pos q4]
          exact ⟨0, rfl, fun _ z => z.2 q4, fun _ => rfl⟩
        · rw [if_neg q4]
          exact ⟨1, rfl, fun z => absurd z (by decide), fun z => absurd ⟨⟨q3, q1, q2⟩, q4⟩ z⟩
      · rw [if_pos (nI_le (by omega) (by omega))]
        exact ⟨0, rfl, fun _ z => q3 z.1.1, fun _ => rfl⟩
    · rw [if_neg (fun z => q2 (b2.mp z)), no]
      exact ⟨0, rfl, fun _ z => q2 z.1.2.2, fun _ => rfl⟩
  · rw [if_neg (fun z => q1 (b1.mp z)), no]
    exact ⟨0, rfl, fun _ z => q1 z.1.2.1, fun _ => rfl⟩
theorem join_8 {n : Nat} {sg : Hp} (h : Inv n sg) {pp : Nat} (hp : pp < 256) {g : Nat → Int32} : ∀ (k t m : Nat) (x : Int) (x4 : Int32) (s : Hp), t + k = 64 → PF n sg s → (∀ p, p < 8 → s 30 p = g p) → (x = -1 ∨ (0 ≤ x ∧ x < 64 ∧ x4 = iI (Wt sg pp x.toNat))) → ∃ s' y4, f_Wiring_joinNext_8 (m + k + 1) s (nI pp) (iI x) x4 (nI t) = f_Wiring_joinNext_8 (m + 1) s' (nI pp) (iI (scn (Wt sg pp) g k t x)) y4 (nI 64) ∧ PF n sg s' ∧ (∀ c, 29 ≤ c → s' c = s c) ∧ (scn (Wt sg pp) g k t x ≠ -1 → y4 = iI (Wt sg pp (scn (Wt sg pp) g k t x).toNat)) := by
  intro k
  induction k with
  | zero =>
    intro t m x x4 s ht hs hg hx
    refine ⟨s, x4, by rw [show t = 64 by omega]; rfl, hs, fun _ _ => rfl, fun q => ?_⟩
    rcases hx with hx | hx
    · exact absurd hx q
    · exact hx.2.2
  | succ k ih =>
    intro t m x x4 s ht hs hg hx
    have ht64 : t < 64 := by omega
    have hW := Wt_rng h (pp := pp) ht64
    have e1 : nI t / (8 : Int32) = nI (t / 8) := by rw [show (8 : Int32) = nI 8 from rfl, tdivI (by omega) (by omega)]
    have e2 : nI t - nI t / (8 : Int32) * (8 : Int32) = nI (t % 8) := rem8 (by omega)
    obtain ⟨v, v1, v2⟩ := open_c (s := s) hp ht64
    rw [show m + (k + 1) + 1 = (m + k + 1) + 1 by omega, f_Wiring_joinNext_8, if_neg (by rw [show (64 : Int32) = nI 64 from rfl]; exact nI_ge ht64 (by omega)), v1, Option.bind_some, scn_s]
    unfold f_Wiring_joinNext_64 f_Wiring_joinNext_71
    dsimp only
    rw [nI_1 t]
    rw [hg _ (show t / 8 < 8 by omega), hg _ (show t % 8 < 8 by omega)] at v2
    by_cases q0 : v = 0
    · rw [if_pos q0]
      have no := v2.mp q0
      have nok : ¬ (okW (Wt sg pp) g t ∧ (x = -1 ∨ Wt sg pp t < Wt sg pp x.toNat)) := by
        rintro ⟨⟨z1, z2⟩, -⟩
        apply no
        refine ⟨?_, z2⟩
        unfold Wt at z1
        by_cases z : t / 8 < t % 8 ∧ pp.testBit (t / 8) = true ∧ pp.testBit (t % 8) = true
        · exact z
        · rw [if_neg z] at z1; exact absurd rfl z1
      rw [sc1_f nok]
      exact ih (t + 1) m x x4 s (by omega) hs hg hx
    · rw [if_neg q0]
      have yes : (t / 8 < t % 8 ∧ pp.testBit (t / 8) = true ∧ pp.testBit (t % 8) = true) ∧ g (t / 8) ≠ g (t % 8) := by
        by_cases z : (t / 8 < t % 8 ∧ pp.testBit (t / 8) = true ∧ pp.testBit (t % 8) = true) ∧ g (t / 8) ≠ g (t % 8)
        · exact z
        · exact absurd (v2.mpr z) q0
      have hWt : Wt sg pp t = Dl sg (t / 8) (t % 8) := by unfold Wt; rw [if_pos yes.1]
      obtain ⟨s1, l1, l2, l3, l4⟩ := look_e hs (show t / 8 < 8 by omega) (show t % 8 < 8 by omega)
      have e8 : 8 * (t / 8) + t % 8 = t := by omega
      rw [e8] at l1 l3
      rw [← hWt] at l3
      rw [e2, e1, l1, Option.bind_some]
      have L1 : (iI (Wt sg pp t) = (-1 : Int32)) = (Wt sg pp t = -1) := iE1 (by omega)
      rw [if_pos (ib (show t < 64 by omega) (by omega))]
      simp only [nI_clamp (show t < 2 ^ 31 by omega), l3, L1]
      have hg1 : ∀ p, p < 8 → s1 30 p = g p := fun p hp => by rw [l4 30 (by omega)]; exact hg p hp
      have keep : ∀ x, (x = -1 ∨ (0 ≤ x ∧ x < 64 ∧ x4 = iI (Wt sg pp x.toNat))) → ∃ s' y4, f_Wiring_joinNext_8 (m + k + 1) s1 (nI pp) (iI x) x4 (nI (t + 1)) = f_Wiring_joinNext_8 (m + 1) s' (nI pp) (iI (scn (Wt sg pp) g k (t + 1) x)) y4 (nI 64) ∧ PF n sg s' ∧ (∀ c, 29 ≤ c → s' c = s c) ∧ (scn (Wt sg pp) g k (t + 1) x ≠ -1 → y4 = iI (Wt sg pp (scn (Wt sg pp) g k (t + 1) x).toNat)) := by
        intro x hx
        obtain ⟨s', y4, f1, f2, f3, f4⟩ := ih (t + 1) m x x4 s1 (by omega) l2 hg1 hx
        exact ⟨s', y4, f1, f2, fun c hc => by rw [f3 c hc, l4 c hc], f4⟩
      have take : ∃ s' y4, f_Wiring_joinNext_8 (m + k + 1) s1 (nI pp) (nI t) (iI (Wt sg pp t)) (nI (t + 1)) = f_Wiring_joinNext_8 (m + 1) s' (nI pp) (iI (scn (Wt sg pp) g k (t + 1) (t : Int))) y4 (nI 64) ∧ PF n sg s' ∧ (∀ c, 29 ≤ c → s' c = s c) ∧ (scn (Wt sg pp) g k (t + 1) (t : Int) ≠ -1 → y4 = iI (Wt sg pp (scn (Wt sg pp) g k (t + 1) (t : Int)).toNat)) := by
        obtain ⟨s', y4, f1, f2, f3, f4⟩ := ih (t + 1) m (t : Int) (iI (Wt sg pp t)) s1 (by omega) l2 hg1 (Or.inr ⟨by omega, by omega, by rw [Int.toNat_natCast]⟩)
        exact ⟨s', y4, f1, f2, fun c hc => by rw [f3 c hc, l4 c hc], f4⟩
      by_cases q1 : Wt sg pp t = -1
      · rw [if_pos q1, sc1_f (fun z => z.1.1 q1)]
        exact keep x hx
      · rw [if_neg q1]
        have ok : okW (Wt sg pp) g t := ⟨q1, yes.2⟩
        have L2 : (iI x = (-1 : Int32)) = (x = -1) := by
          rcases hx with hx | hx
          · exact iE1 (by omega)
          · exact iE1 (by omega)
        by_cases q2 : x = -1
        · rw [if_pos (by rw [L2]; exact q2), sc1_t ⟨ok, Or.inl q2⟩]
          exact take
        · rw [if_neg (by rw [L2]; exact q2)]
          have hx2 := hx.resolve_left q2
          have hWx := Wt_rng h (pp := pp) (t := x.toNat) (by omega)
          have L3 : (x4 ≤ iI (Wt sg pp t)) = (Wt sg pp x.toNat ≤ Wt sg pp t) := by rw [hx2.2.2]; exact iLe (by omega) (by omega)
          by_cases q3 : Wt sg pp x.toNat ≤ Wt sg pp t
          · rw [if_pos (by rw [L3]; exact q3), sc1_f (fun z => by rcases z.2 with z2 | z2; exact q2 z2; omega)]
            exact keep x hx
          · rw [if_neg (by rw [L3]; exact q3), sc1_t ⟨ok, Or.inr (by omega)⟩]
            exact take
theorem unite_l (x1 x2 : Int32) : ∀ (k j m : Nat) (s : Hp), j + k = 8 → ∃ s', f_Wiring_unite_2 (m + k + 1) s x1 x2 (nI j) = some s' ∧ (∀ c, c ≠ 30 → s' c = s c) ∧ ∀ p, p < 8 → s' 30 p = if j ≤ p ∧ s 30 p = x2 then x1 else s 30 p := by
  intro k
  induction k with
  | zero =>
    intro j m s hj
    rw [f_Wiring_unite_2, if_pos (le8 (by omega) (by omega))]
    exact ⟨s, rfl, fun _ _ => rfl, fun p hp => by rw [if_neg (by omega)]⟩
  | succ k ih =>
    intro j m s hj
    rw [show m + (k + 1) + 1 = (m + k + 1) + 1 by omega, f_Wiring_unite_2, if_neg (nle8 (by omega)), if_pos (ib (show j < 8 by omega) (by omega)), if_pos (ib (show j < 8 by omega) (by omega)), nI_clamp (by omega), Option.bind_some]
    unfold f_Wiring_unite_25
    rw [nI_1 j]
    by_cases q : s 30 j = x2
    · rw [if_pos q]
      obtain ⟨s', f1, f2, f3⟩ := ih (j + 1) m (w2 s 30 j x1) (by omega)
      refine ⟨s', f1, fun c hc => by rw [f2 c hc, w2_cell _ hc], fun p hp => ?_⟩
      rw [f3 p hp]
      by_cases e : p = j
      · subst e
        rw [if_neg (by omega), w2_at, if_pos ⟨by omega, q⟩]
      · rw [w2_ne (by omega)]
        by_cases z : j + 1 ≤ p ∧ s 30 p = x2
        · rw [if_pos z, if_pos ⟨by omega, z.2⟩]
        · rw [if_neg z, if_neg (fun y => z ⟨by omega, y.2⟩)]
    · rw [if_neg q]
      obtain ⟨s', f1, f2, f3⟩ := ih (j + 1) m s (by omega)
      refine ⟨s', f1, f2, fun p hp => ?_⟩
      rw [f3 p hp]
      by_cases e : p = j
      · subst e
        rw [if_neg (by omega), if_neg (fun y => q y.2)]
      · by_cases z : j + 1 ≤ p ∧ s 30 p = x2
        · rw [if_pos z, if_pos ⟨by omega, z.2⟩]
        · rw [if_neg z, if_neg (fun y => z ⟨by omega, y.2⟩)]
/-- the class's wires behind r of them -/
def CW (W : Nat → Int) (s : Hp) (r : Nat) : Prop := (∀ p, p < 8 → s 30 p = Gs W r p) ∧ s 29 2 = nI r ∧ s 29 3 = iI (mst W r) ∧ ∀ i, i < r → s 31 i = iI (Xs W i)
theorem join_c {n : Nat} {sg s : Hp} (h : Inv n sg) {pp r : Nat} (hp : pp < 256) (hr : r < 8) (hs : PF n sg s) (hc : CW (Wt sg pp) s r) : (Xs (Wt sg pp) r = -1 → ∃ s', f_Wiring_joinNext s (nI pp) = some (0, s') ∧ PF n sg s' ∧ CW (Wt sg pp) s' r) ∧ (Xs (Wt sg pp) r ≠ -1 → ∃ s', f_Wiring_joinNext s (nI pp) = some (1, s') ∧ PF n sg s' ∧ CW (Wt sg pp) s' (r + 1)) := by
  obtain ⟨m, hm⟩ := LFx 64 (by omega)
  obtain ⟨s1, y4, f1, f2, f3, f4⟩ := join_8 h hp (g := Gs (Wt sg pp) r) 64 0 m (-1) (-1) s (by omega) hs hc.1 (Or.inl rfl)
  rw [show scn (Wt sg pp) (Gs (Wt sg pp) r) 64 0 (-1) = Xs (Wt sg pp) r from rfl] at f1 f4
  rw [iM1, nI_0, ← hm] at f1
  obtain ⟨c1, c2, c3, c4⟩ := hc
  have top : f_Wiring_joinNext s (nI pp) = f_Wiring_joinNext_8 (m + 1) s1 (nI pp) (iI (Xs (Wt sg pp) r)) y4 (nI 64) := by
    unfold f_Wiring_joinNext
    exact f1
  rw [top, f_Wiring_joinNext_8, if_pos (by rw [show (64 : Int32) = nI 64 from rfl]; exact nI_le (by omega) (by omega))]
  refine ⟨fun q => ?_, fun q => ?_⟩
  · rw [q, if_pos iM1]
    exact ⟨s1, rfl, f2, ⟨by rw [f3 30 (by omega)]; exact c1, by rw [f3 29 (by omega)]; exact c2, by rw [f3 29 (by omega)]; exact c3, by rw [f3 31 (by omega)]; exact c4⟩⟩
  · obtain ⟨t, t1, t2, t3, -⟩ := Xs_ok q
    have hy := f4 q
    rw [t2, Int.toNat_natCast] at hy
    have et : iI (Xs (Wt sg pp) r) = nI t := by rw [t2]; rfl
    have e1 : nI t / (8 : Int32) = nI (t / 8) := by rw [show (8 : Int32) = nI 8 from rfl, tdivI (by omega) (by omega)]
    have e2 : nI t - nI t / (8 : Int32) * (8 : Int32) = nI (t % 8) := rem8 (by omega)
    have g2 : s1 29 2 = nI r := by rw [f3 29 (by omega)]; exact c2
    rw [et, if_neg (nI_m1 (by omega)), g2, if_pos (by rw [show (8 : Int32) = nI 8 from rfl]; exact nI_lt hr (by omega)), if_pos (ib hr (by omega)), Option.bind_some, Option.bind_some, Option.bind_some, e2, e1, if_pos (ib (show t / 8 < 8 by omega) (by omega)), if_pos (ib (show t % 8 < 8 by omega) (by omega)), nI_clamp (by omega), nI_clamp (by omega), nI_clamp (by omega)]
    rw [w2_cell _ (show (29 : Nat) ≠ 31 by omega), g2, nI_1 r]
    generalize hs4 : w2 (w2 (w2 s1 31 r (nI t)) 29 2 (nI (r + 1))) 29 3 y4 = s4
    have E4 : ∀ c, c ≠ 29 → c ≠ 31 → s4 c = s1 c := fun c h1 h2 => by rw [← hs4, w2_cell _ h1, w2_cell _ h1, w2_cell _ h2]
    obtain ⟨m8, hm8⟩ := LFx 8 (by omega)
    obtain ⟨s5, k1, k2, k3⟩ := unite_l (s4 30 (t / 8)) (s4 30 (t % 8)) 8 0 m8 s4 (by omega)
    have ku : f_Wiring_unite s4 (s4 30 (t / 8)) (s4 30 (t % 8)) = some s5 := by
      unfold f_Wiring_unite
      rw [nI_0, ← hm8] at k1
      exact k1
    rw [ku, Option.bind_some]
    have s30 : ∀ p, p < 8 → s4 30 p = Gs (Wt sg pp) r p := fun p hp => by rw [E4 30 (by omega) (by omega), f3 30 (by omega)]; exact c1 p hp
    refine ⟨s5, rfl, f2.cx (fun c hc => ?_), fun p hp => ?_, ?_, ?_, fun i hi => ?_⟩
    · rw [k2 c (fun z => by subst z; simp [CX] at hc), E4 c (fun z => by subst z; simp [CX] at hc) (fun z => by subst z; simp [CX] at hc)]
    · rw [k3 p hp, s30 p hp, s30 _ (show t / 8 < 8 by omega), s30 _ (show t % 8 < 8 by omega), Gs_s q, t2, Int.toNat_natCast]
      unfold jn
      by_cases z : Gs (Wt sg pp) r p = Gs (Wt sg pp) r (t % 8)
      · rw [if_pos ⟨by omega, z⟩, if_pos z]
      · rw [if_neg (fun y => z y.2), if_neg z]
    · rw [k2 29 (by omega), ← hs4, w2_ne (by omega), w2_at]
    · rw [k2 29 (by omega), ← hs4, w2_at, hy]
      unfold mst
      rw [if_neg (by omega), show r + 1 - 1 = r by omega, t2, Int.toNat_natCast]
    · rw [k2 31 (by omega), ← hs4, w2_cell _ (by omega), w2_cell _ (by omega)]
      by_cases z : i = r
      · rw [z, w2_at, et]
      · rw [w2_ne (by omega), f3 31 (by omega)]
        exact c4 i (by omega)
theorem wires_62 {W : Nat → Int} {s : Hp} {x2 : Int32} (h2 : -2 ≤ x2.toInt) {M : Nat} (hM : M ≤ 7) (hc : CW W s M) : f_Box_wires_62 s x2 = some (wrA W x2 M, s) := by
  obtain ⟨c1, c2, c3, c4⟩ := hc
  unfold f_Box_wires_62 wrA
  by_cases q1 : x2 = -1
  · rw [if_pos q1, if_pos q1, c2]
  · rw [if_neg q1, if_neg q1]
    by_cases q2 : x2 = -2
    · rw [if_pos q2, if_pos q2, c3]
    · rw [if_neg q2, if_neg q2]
      have r1 : (-1 : Int32).toInt = -1 := by decide
      have r2 : (-2 : Int32).toInt = -2 := by decide
      have q1' : x2.toInt ≠ -1 := fun z => q1 (i_inj (by rw [z, r1]))
      have q2' : x2.toInt ≠ -2 := fun z => q2 (i_inj (by rw [z, r2]))
      by_cases q3 : x2.toInt < M
      · rw [if_neg (by rw [c2, nLe, nI_toInt (by omega)]; omega), if_pos (by rw [inb_iff]; omega), if_pos q3]
        have e : x2.toNatClampNeg = x2.toInt.toNat := rfl
        rw [e, c4 _ (by omega)]
      · rw [if_pos (by rw [c2, nLe, nI_toInt (by omega)]; omega), if_neg q3]
theorem wires_c {n : Nat} {sg : Hp} (h : Inv n sg) {pp M : Nat} (hp : pp < 256) (hM : M ≤ 7) (hX : ∀ i, i < M → Xs (Wt sg pp) i ≠ -1) (hX2 : Xs (Wt sg pp) M = -1) {x2 : Int32} (h2 : -2 ≤ x2.toInt) : ∀ (q r m : Nat) (s : Hp), r + q = M → PF n sg s → CW (Wt sg pp) s r → ∃ s', f_Box_wires_32 (m + q + 2) s (nI pp) x2 1 (nI (r + 1)) = some (wrA (Wt sg pp) x2 M, s') ∧ PF n sg s' := by
  intro q
  induction q with
  | zero =>
    intro r m s hr hs hc
    have e : r = M := by omega
    subst e
    by_cases q7 : r = 7
    · rw [f_Box_wires_32, if_pos (le8 (by omega) (by omega)), wires_62 h2 hM hc]
      exact ⟨s, rfl, hs⟩
    · obtain ⟨s1, f1, f2, f3⟩ := (join_c h hp (by omega) hs hc).1 hX2
      rw [f_Box_wires_32, if_neg (nle8 (by omega)), if_neg (by decide), f1, Option.bind_some]
      dsimp only
      rw [nI_1, show m + 0 + 1 = m + 1 by omega, f_Box_wires_32, wires_62 h2 hM f3]
      by_cases z : (8 : Int32) ≤ nI (r + 1 + 1)
      · rw [if_pos z]
        exact ⟨s1, rfl, f2⟩
      · rw [if_neg z, if_pos rfl]
        exact ⟨s1, rfl, f2⟩
  | succ q ih =>
    intro r m s hr hs hc
    obtain ⟨s1, f1, f2, f3⟩ := (join_c h hp (by omega) hs hc).2 (hX r (by omega))
    rw [show m + (q + 1) + 2 = (m + q + 2) + 1 by omega, f_Box_wires_32, if_neg (nle8 (by omega)), if_neg (by decide), f1, Option.bind_some]
    dsimp only
    rw [nI_1]
    exact ih (r + 1) m s1 (by omega) f2 f3
theorem clear_l : ∀ (k j m : Nat) (s : Hp), j + k = 8 → ∃ s', f_Wiring_clear_12 (m + k + 1) s (nI j) = some s' ∧ (∀ c, c ≠ 30 → s' c = s c) ∧ ∀ p, s' 30 p = if j ≤ p ∧ p < 8 then nI p else s 30 p := by
  intro k
  induction k with
  | zero =>
    intro j m s hj
    rw [f_Wiring_clear_12, if_pos (le8 (by omega) (by omega))]
    exact ⟨s, rfl, fun _ _ => rfl, fun p => by rw [if_neg (by omega)]⟩
  | succ k ih =>
    intro j m s hj
    rw [show m + (k + 1) + 1 = (m + k + 1) + 1 by omega, f_Wiring_clear_12, if_neg (nle8 (by omega)), if_pos (ib (show j < 8 by omega) (by omega)), Option.bind_some, nI_clamp (by omega), nI_1 j]
    obtain ⟨s', f1, f2, f3⟩ := ih (j + 1) m (w2 s 30 j (nI j)) (by omega)
    refine ⟨s', f1, fun c hc => by rw [f2 c hc, w2_cell _ hc], fun p => ?_⟩
    rw [f3]
    by_cases e : p = j
    · subst e
      rw [if_neg (by omega), w2_at, if_pos (by omega)]
    · rw [w2_ne (by omega)]
      by_cases z : j + 1 ≤ p ∧ p < 8
      · rw [if_pos z, if_pos (by omega)]
      · rw [if_neg z, if_neg (by omega)]
theorem c_wires {n : Nat} {sg : Hp} (h : Inv n sg) {pp M : Nat} (hp : pp < 256) (hM : M ≤ 7) (hX : ∀ i, i < M → Xs (Wt sg pp) i ≠ -1) (hX2 : Xs (Wt sg pp) M = -1) {x2 : Int32} (h2 : -2 ≤ x2.toInt) : Q n sg (fun s => f_Box_wires s (nI pp) x2) (wrA (Wt sg pp) x2 M) := by
  intro s hs
  obtain ⟨m8, hm8⟩ := LFx 8 (by omega)
  obtain ⟨s1, f1, f2, f3⟩ := clear_l 8 0 m8 (w2 (w2 s 29 2 0) 29 3 0) (by omega)
  have hcl : f_Wiring_clear s = some s1 := by
    unfold f_Wiring_clear
    rw [Option.bind_some, Option.bind_some]
    rw [nI_0, ← hm8] at f1
    exact f1
  have P1 : PF n sg s1 := hs.cx (fun c hc => by rw [f2 c (fun z => by subst z; simp [CX] at hc), w2_cell _ (fun z => by subst z; simp [CX] at hc), w2_cell _ (fun z => by subst z; simp [CX] at hc)])
  have C1 : CW (Wt sg pp) s1 0 := by
    refine ⟨fun p hp => ?_, ?_, ?_, fun i hi => by omega⟩
    · rw [f3, if_pos ⟨by omega, hp⟩]
      rfl
    · rw [f2 29 (by omega), w2_ne (by omega), w2_at]
      rfl
    · rw [f2 29 (by omega), w2_at]
      rfl
  obtain ⟨m, hm⟩ := LFx (M + 1) (by omega)
  obtain ⟨s', g1, g2⟩ := wires_c h hp hM hX hX2 h2 M 0 m s1 (by omega) P1 C1
  refine ⟨s', ?_, g2⟩
  show f_Box_wires s (nI pp) x2 = _
  unfold f_Box_wires
  rw [if_neg (nI_pos (by omega)), if_neg (by rw [show (256 : Int32) = nI 256 from rfl]; exact nI_ge hp (by omega)), if_pos (by rw [nLe, show (-2 : Int32).toInt = -2 by decide]; exact h2), hcl, Option.bind_some]
  rw [show m + M + 2 = m + (M + 1) + 1 by omega, ← hm, show nI (0 + 1) = (1 : Int32) from rfl] at g1
  exact g1
