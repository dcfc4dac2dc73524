/-! WRITE -/
theorem IB_bars {sg : Hp} (h : IB sg) : ∀ w, w < 6 → ∃ x, x < 64 ∧ sg 6 w = nI x ∧ ∀ v, v < 6 → (x.testBit v = true ↔ sBar sg w v) := by
  intro w hw
  obtain ⟨-, h2, h3⟩ := h.2.2.2.2.1 w hw
  obtain ⟨x, hx, ex⟩ := nI_ex (x := sg 6 w) (n := 63) ⟨h2, by omega⟩ (by omega)
  refine ⟨x, by omega, ex, fun v hv => ?_⟩
  unfold sBar
  rw [ex, nI_toInt (by omega)]
  exact Iff.rfl
theorem look_w {n : Nat} {sg : Hp} (hI : IB sg) (hT : IT n sg) {a b : Nat} (ha : a < 8) (hb : b < 8) : ∃ sg', f_Table_look sg (nI a) (nI b) = some (nI (8 * a + b), sg') ∧ IB sg' ∧ IT n sg' ∧ sg' 25 (8 * a + b) = iI (Dl sg a b) ∧ Eo [11, 13, 15, 16, 18, 19, 20, 21, 22, 23, 25, 26, 27, 28] sg sg' := by
  obtain ⟨⟨t1, t2⟩, t3⟩ := id hT
  have i1 : inb (nI (8 * a + b)) 64 = true := by rw [inb_iff, nI_toInt (by omega)]; omega
  unfold f_Table_look
  rw [ix8 ha hb, if_pos i1, nI_clamp (by omega)]
  by_cases hm : sg 28 (8 * a + b) = sg 1 6
  · rw [if_pos hm]
    exact ⟨sg, rfl, hI, hT, ((t3 a b ha hb).2.2 hm).1, fun c _ => rfl⟩
  · rw [if_neg hm, spotOf_c (b := 13) rfl (by omega) ha, Option.bind_some]
    rw [spotOf_c (b := 15) rfl (by omega) hb, Option.bind_some]
    generalize hs1 : stS sg 13 2 (sg 3 a) (sg 4 a) (sg 5 a) = s1
    have E1 : ∀ c, c ≠ 13 → s1 c = sg c := fun c hc => by rw [← hs1]; exact stS_cell sg _ _ _ hc
    rw [E1 3 (by omega), E1 4 (by omega), E1 5 (by omega)]
    generalize hs2 : stS s1 15 2 (sg 3 b) (sg 4 b) (sg 5 b) = s2
    have E2 : ∀ c, c ≠ 13 → c ≠ 15 → s2 c = sg c := fun c hc hc2 => by rw [← hs2, stS_cell s1 _ _ _ hc2, E1 c hc]
    have hSB : SB (sS sg) := hI.2.1
    have hA : AW (sS sg) (sP sg a) := sA_aw hSB (hI.2.2.2.1 a ha)
    have hB : AW (sS sg) (sP sg b) := sA_aw hSB (hI.2.2.2.1 b hb)
    have vA : ∀ w, w < 6 → (s2 13 w).toInt = sP sg a w := fun w hw => by
      rw [← hs2, stS_cell s1 _ _ _ (by omega), ← hs1]
      exact spot_v hI.2.1 (hI.2.2.2.1 a ha) w hw
    have vB : ∀ w, w < 6 → (s2 15 w).toInt = sP sg b w := fun w hw => by
      have e2 : s1 2 = sg 2 := E1 2 (by omega)
      rw [← hs2]
      have := spot_v (sg := s1) (b := 15) (p := 2) (x := sg 3 b) (y := sg 4 b) (z := sg 5 b) (by rw [e2]; exact hI.2.1) (by rw [e2]; exact hI.2.2.2.1 b hb) w hw
      rw [e2] at this
      exact this
    obtain ⟨s3, f1, f2, f3⟩ := find_c (bar := sBar sg) (sg := s2) (a1 := 2) hSB hA hB (by omega) (fun k hk => by rw [E2 2 (by omega) (by omega)]; rfl) vA vB (by rw [E2 6 (by omega) (by omega)]; exact IB_bars hI)
    rw [f1, Option.bind_some, if_pos i1, Option.bind_some, if_pos i1, Option.bind_some, if_pos i1, Option.bind_some, if_pos i1, Option.bind_some]
    rw [w2_cell _ (show (11 : Nat) ≠ 25 by omega), w2_cell _ (show (11 : Nat) ≠ 26 by omega), w2_cell _ (show (11 : Nat) ≠ 25 by omega), w2_cell _ (show (1 : Nat) ≠ 27 by omega), w2_cell _ (show (1 : Nat) ≠ 26 by omega), w2_cell _ (show (1 : Nat) ≠ 25 by omega)]
    obtain ⟨y1, y2, y3, y4, y5, -⟩ := f2
    generalize hs4 : w2 (w2 (w2 (w2 s3 25 (8 * a + b) (s3 11 7)) 26 (8 * a + b) (s3 11 8)) 27 (8 * a + b) (s3 11 9)) 28 (8 * a + b) (s3 1 6) = s4
    have E4 : Eo [11, 13, 15, 16, 18, 19, 20, 21, 22, 23, 25, 26, 27, 28] sg s4 := by
      intro c hc
      simp only [List.mem_cons, List.not_mem_nil, or_false, not_or] at hc
      rw [← hs4, w2_cell _ (by omega), w2_cell _ (by omega), w2_cell _ (by omega), w2_cell _ (by omega), f3 c (by omega) (by omega) (by omega) (by omega), E2 c (by omega) (by omega)]
    have F3 : ∀ c, c = 25 ∨ c = 26 ∨ c = 27 ∨ c = 28 ∨ c = 1 → s3 c = sg c := fun c hc => by rw [f3 c (by omega) (by omega) (by omega) (by omega), E2 c (by omega) (by omega)]
    have g25 : ∀ i, s4 25 i = if i = 8 * a + b then s3 11 7 else sg 25 i := fun i => by
      rw [← hs4, w2_cell _ (by omega), w2_cell _ (by omega), w2_cell _ (by omega), w2_app, F3 25 (by omega)]
      simp
    have g26 : ∀ i, s4 26 i = if i = 8 * a + b then s3 11 8 else sg 26 i := fun i => by
      rw [← hs4, w2_cell _ (by omega), w2_cell _ (by omega), w2_app, w2_cell _ (by omega), F3 26 (by omega)]
      simp
    have g27 : ∀ i, s4 27 i = if i = 8 * a + b then s3 11 9 else sg 27 i := fun i => by
      rw [← hs4, w2_cell _ (by omega), w2_app, w2_cell _ (by omega), w2_cell _ (by omega), F3 27 (by omega)]
      simp
    have g28 : ∀ i, s4 28 i = if i = 8 * a + b then sg 1 6 else sg 28 i := fun i => by
      rw [← hs4, w2_app, w2_cell _ (by omega), w2_cell _ (by omega), w2_cell _ (by omega), F3 28 (by omega), F3 1 (by omega)]
      simp
    have r1 : s4 25 (8 * a + b) = iI (sBest sg a b).1 := by rw [g25, if_pos rfl, y1, (sBest_u sg a b).1]
    have r2 : s4 26 (8 * a + b) = iI (sBest sg a b).2.1 := by rw [g26, if_pos rfl, y4, (sBest_u sg a b).2.1]
    have r3 : s4 27 (8 * a + b) = iI (packR (sBest sg a b).2.2) := by rw [g27, if_pos rfl, y5, (sBest_u sg a b).2.2]
    have e := fun c hc => E4 c hc
    refine ⟨s4, rfl, hI.of (e 2 (by decide)) (e 3 (by decide)) (e 4 (by decide)) (e 5 (by decide)) (e 6 (by decide)) (e 51 (by decide)) (e 52 (by decide)) (e 53 (by decide)), ?_, r1, E4⟩
    have e1 : s4 1 6 = sg 1 6 := by rw [e 1 (by decide)]
    refine ⟨by rw [e1]; exact ⟨t1, t2⟩, fun p q hp hq => ?_⟩
    rw [sBest.of (e 2 (by decide)) (e 3 (by decide)) (e 4 (by decide)) (e 5 (by decide)) (e 6 (by decide)), e1]
    by_cases hpq : 8 * p + q = 8 * a + b
    · have ep : p = a := by omega
      have eq : q = b := by omega
      subst ep eq
      rw [g28, if_pos rfl]
      exact ⟨by omega, by omega, fun _ => ⟨r1, r2, r3⟩⟩
    · rw [g25, g26, g27, g28, if_neg hpq, if_neg hpq, if_neg hpq, if_neg hpq]
      exact t3 p q hp hq
theorem IB_me {sg : Hp} (h : IB sg) {a b : Nat} (ha : a < 8) (hb : b < 8) : ME (sS sg) (sP sg a) (sP sg b) (sBar sg) a b sg := by
  obtain ⟨⟨g1, g2, g3⟩, -, g4, -, g5, -⟩ := id h
  refine ⟨⟨by rw [g1]; rfl, by rw [g2]; rfl, by rw [g3]; rfl⟩, fun w hw => ?_, ⟨sA_aw h.2.1 (h.2.2.2.1 a ha), ?_⟩, ⟨sA_aw h.2.1 (h.2.2.2.1 b hb), ?_⟩⟩
  · rw [(g5 w hw).1]
    exact IB_bars h w hw
  · obtain ⟨q1, q2, q3⟩ := g4 a ha
    rw [q1, q2, q3]
    rfl
  · obtain ⟨q1, q2, q3⟩ := g4 b hb
    rw [q1, q2, q3]
    rfl
theorem write_c {n : Nat} {sg : Hp} {s w p : Nat} (hs : s < 4) (hw : w ≤ 8) (hp : p < 8) {fm : Int32} : ∀ (q j m : Nat) (t : Hp), j + q = w → IB t → IT n t → (∀ c, c = 2 ∨ c = 3 ∨ c = 4 ∨ c = 5 ∨ c = 6 → t c = sg c) → t (38 + 2 * s) 1 = fm → ∃ t', f_Box_write_51 (m + q + 1) t (nI p) (38 + 2 * s) (nI w) (nI j) = some (nI w, t') ∧ IB t' ∧ IT n t' ∧ (∀ c, c ≠ 39 + 2 * s → (c < 11 ∨ 29 ≤ c) → t' c = t c) ∧ ∀ i, t' (39 + 2 * s) i = if j ≤ i ∧ i < w then cutv fm (iI (Dl sg p i)) else t (39 + 2 * s) i := by
  intro q
  induction q with
  | zero =>
    intro j m t hj hB hT hE hf
    rw [f_Box_write_51, if_pos (nI_le (by omega) (by omega))]
    exact ⟨t, rfl, hB, hT, fun _ _ _ => rfl, fun i => by rw [if_neg (by omega)]⟩
  | succ q ih =>
    intro j m t hj hB hT hE hf
    obtain ⟨t1, e1, e2, e3, e4, e5⟩ := look_w hB hT hp (show j < 8 by omega)
    have eD : Dl t p j = Dl sg p j := by
      unfold Dl
      rw [sBest.of (hE 2 (by omega)) (hE 3 (by omega)) (hE 4 (by omega)) (hE 5 (by omega)) (hE 6 (by omega))]
    rw [eD] at e4
    have E5 : ∀ c, (c < 11 ∨ 29 ≤ c) → t1 c = t c := fun c hc => e5 c (by simp only [List.mem_cons, List.not_mem_nil, or_false]; omega)
    rw [show m + (q + 1) + 1 = (m + q + 1) + 1 by omega, f_Box_write_51, if_neg (nI_ge (by omega) (by omega)), e1, Option.bind_some]
    dsimp only
    rw [if_pos (ix64 hp (by omega)).1, (ix64 hp (by omega)).2, e4, put_c hs (ib (by omega) (by omega)), Option.bind_some, nI_1 j, nI_clamp (by omega), E5 (38 + 2 * s) (by omega), hf]
    generalize ht2 : w2 t1 (39 + 2 * s) j (cutv fm (iI (Dl sg p j))) = t2
    have E2 : ∀ c, c ≠ 39 + 2 * s → t2 c = t1 c := fun c hc => by rw [← ht2, w2_cell _ hc]
    obtain ⟨t', f1, f2, f3, f4, f5⟩ := ih (j + 1) m t2 (by omega) (e2.of (E2 2 (by omega)) (E2 3 (by omega)) (E2 4 (by omega)) (E2 5 (by omega)) (E2 6 (by omega)) (E2 51 (by omega)) (E2 52 (by omega)) (E2 53 (by omega))) (e3.of (Nat.le_refl _) (by rw [E2 1 (by omega)]) (E2 2 (by omega)) (E2 3 (by omega)) (E2 4 (by omega)) (E2 5 (by omega)) (E2 6 (by omega)) (E2 25 (by omega)) (E2 26 (by omega)) (E2 27 (by omega)) (E2 28 (by omega))) (fun c hc => by rw [E2 c (by omega), E5 c (by omega)]; exact hE c hc) (by rw [E2 _ (by omega), E5 _ (by omega)]; exact hf)
    refine ⟨t', f1, f2, f3, fun c c1 c2 => by rw [f4 c c1 c2, E2 c c1, E5 c c2], fun i => ?_⟩
    rw [f5]
    by_cases e : i = j
    · subst e
      rw [if_neg (by omega), ← ht2, w2_at, if_pos (by omega)]
    · rw [← ht2, w2_ne (by omega), E5 _ (by omega)]
      by_cases z : j + 1 ≤ i ∧ i < w
      · rw [if_pos z, if_pos (by omega)]
      · rw [if_neg z, if_neg (by omega)]
theorem write_m {sg : Hp} (hB : IB sg) {s w p : Nat} (hs : s < 4) (hw : w ≤ 8) (hp : p < 8) {fm : Int32} : ∀ (q j m : Nat) (t : Hp), j + q = w → t 51 = sg 51 → t 52 = sg 52 → t 53 = sg 53 → t 47 s = fm → ∃ t', f_Mod_write_47 (m + q + 1) t (nI p) (nI s) (nI w) (nI j) = some (nI w, t') ∧ (∀ c, c ≠ 46 → c ≠ 49 → (c < 55 ∨ 60 ≤ c) → t' c = t c) ∧ (∀ k, k ≠ 12 → k ≠ 13 → t' 46 k = t 46 k) ∧ ∀ i, t' 49 i = if 60 * s + j ≤ i ∧ i < 60 * s + w then cutv fm (iI (Dl sg p (i - 60 * s))) else t 49 i := by
  intro q
  induction q with
  | zero =>
    intro j m t hj e51 e52 e53 hf
    rw [f_Mod_write_47, if_pos (nI_le (by omega) (by omega))]
    exact ⟨t, rfl, fun _ _ _ _ => rfl, fun _ _ _ => rfl, fun i => by rw [if_neg (by omega)]⟩
  | succ q ih =>
    intro j m t hj e51 e52 e53 hf
    obtain ⟨T, t1, t2, t3⟩ := short_m (S := sS sg) hB.2.1 hp (show j < 8 by omega) ((IB_me hB hp (show j < 8 by omega)).of e51 e52 e53)
    have eD : (bestK (sS sg) (sBar sg) (sP sg p) (sP sg j)).1 = Dl sg p j := by
      unfold Dl
      rw [(sBest_u sg p j).1]
    rw [eD] at t1
    have e0 : (60 : Int32) * nI s + nI j = nI (60 * s + j) := by rw [show (60 : Int32) = nI 60 from rfl, nI_mul, nI_add]
    rw [show m + (q + 1) + 1 = (m + q + 1) + 1 by omega, f_Mod_write_47, if_neg (nI_ge (by omega) (by omega)), if_pos (ib hs (by omega)), t1, Option.bind_some]
    dsimp only
    rw [cut_m, Option.bind_some]
    dsimp only
    rw [e0, if_pos (ib (by omega) (by omega)), Option.bind_some, nI_1 j, nI_clamp (show 60 * s + j < 2 ^ 31 by omega), nI_clamp (show s < 2 ^ 31 by omega), hf]
    generalize ht2 : w2 T 49 (60 * s + j) (cutv fm (iI (Dl sg p j))) = u
    have E2 : ∀ c, c ≠ 49 → u c = T c := fun c hc => by rw [← ht2, w2_cell _ hc]
    obtain ⟨t', f1, f2, f3, f4⟩ := ih (j + 1) m u (by omega) (by rw [E2 51 (by omega), t3.1 51 (by omega) (by omega)]; exact e51) (by rw [E2 52 (by omega), t3.1 52 (by omega) (by omega)]; exact e52) (by rw [E2 53 (by omega), t3.1 53 (by omega) (by omega)]; exact e53) (by rw [E2 47 (by omega), t3.1 47 (by omega) (by omega)]; exact hf)
    refine ⟨t', f1, fun c c1 c2 c3 => by rw [f2 c c1 c2 c3, E2 c c2, t3.1 c c1 c3], fun k k1 k2 => by rw [f3 k k1 k2, E2 46 (by omega), t3.2 k k1 k2], fun i => ?_⟩
    rw [f4]
    by_cases e : i = 60 * s + j
    · subst e
      rw [if_neg (by omega), ← ht2, w2_at, if_pos (by omega), show 60 * s + j - 60 * s = j by omega]
    · rw [← ht2, w2_ne (by omega), t3.1 49 (by omega) (by omega)]
      by_cases z : 60 * s + (j + 1) ≤ i ∧ i < 60 * s + w
      · rw [if_pos z, if_pos (by omega)]
      · rw [if_neg z, if_neg (by omega)]
theorem k_write : K_write := by
  intro n sg h hn a1 a2
  have hIS := h.2.2.1
  show PairI (fun s => f_Box_write s a1 a2) (fun s => f_Mod_write s a1 a2) n sg
  by_cases hc1 : 0 ≤ a1.toInt ∧ a1.toInt ≤ 7
  · by_cases hc : 0 ≤ a2.toInt ∧ a2.toInt ≤ 3
    · obtain ⟨p, hp7, rfl⟩ := nI_ex (n := 7) hc1 (by omega)
      obtain ⟨s, hs3, rfl⟩ := nI_ex (n := 3) hc (by omega)
      have hp : p < 8 := by omega
      have hs : s < 4 := by omega
      have i4 : inb (nI s) 4 = true := ib hs (by omega)
      obtain ⟨q1, q2, q3, q4, q5, q6, q7⟩ := hIS s hs
      obtain ⟨z, hz, ez⟩ := nI_ex (x := sg (38 + 2 * s) 2) (n := 60) ⟨q5, q6⟩ (by omega)
      by_cases hl : sg (38 + 2 * s) 1 = -1
      · refine ⟨-10 - 1, w2 sg 0 10 1, w2 (w2 sg 0 10 1) 46 4 1, ?_, ?_, h.finding 1⟩
        · show f_Box_write sg (nI p) (nI s) = _
          unfold f_Box_write
          rw [isPlace_c, Option.bind_some]
          dsimp only
          rw [if_b, if_pos hc1, isSheet_c, Option.bind_some]
          dsimp only
          rw [if_b, if_pos hc, if_pos i4, nI_clamp (by omega), (rt32 hs).1, isLost_c, Option.bind_some]
          dsimp only
          rw [if_b, if_pos hl, found_c, Option.bind_some]
        · show f_Mod_write (w2 sg 0 10 1) (nI p) (nI s) = _
          unfold f_Mod_write
          rw [isPlace_m, Option.bind_some]
          dsimp only
          rw [if_b, if_pos hc1, isSheet_m, Option.bind_some]
          dsimp only
          rw [if_b, if_pos hc, if_pos i4, nI_clamp (by omega), if_neg (by rw [w2_ne (by omega), q1, hl]; decide), met_m, Option.bind_some]
      · have hl2 : ¬ (sg (38 + 2 * s) 1).toInt = -1 := fun e => hl (i_inj (by rw [e]; decide))
        generalize hw : min z 8 = w
        have hw8 : w ≤ 8 := by omega
        obtain ⟨m, hm⟩ := LFx w (by omega)
        obtain ⟨B, f1, f2, f3, f4, f5⟩ := write_c (sg := sg) (fm := sg (38 + 2 * s) 1) hs hw8 hp w 0 m sg (by omega) h.1 h.2.2.2.2 (fun _ _ => rfl) rfl
        obtain ⟨D, g1, g2, g3, g4⟩ := write_m h.1 (fm := sg (38 + 2 * s) 1) hs hw8 hp w 0 m B (by omega) (f4 51 (by omega) (by omega)) (f4 52 (by omega) (by omega)) (f4 53 (by omega) (by omega)) (by rw [f4 47 (by omega) (by omega)]; exact q1)
        have e46 : ∀ k, k ≠ 12 → k ≠ 13 → D 46 k = sg 46 k := fun k k1 k2 => by rw [g3 k k1 k2, f4 46 (by omega) (by omega)]
        refine ⟨nI w, B, D, ?_, ?_, ?_, ?_, ?_, ?_, ?_⟩
        · show f_Box_write sg (nI p) (nI s) = _
          have e8 : (if (8 : Int32) < sg (38 + 2 * s) 2 then (8 : Int32) else sg (38 + 2 * s) 2) = nI w := by
            rw [ez, ← hw]
            by_cases y : 8 < z
            · rw [if_pos (by rw [show (8 : Int32) = nI 8 from rfl]; exact nI_lt y (by omega)), show min z 8 = 8 by omega]
              rfl
            · rw [if_neg (by rw [show (8 : Int32) = nI 8 from rfl]; exact nI_nlt (by omega) (by omega)), show min z 8 = z by omega]
          unfold f_Box_write
          rw [isPlace_c, Option.bind_some]
          dsimp only
          rw [if_b, if_pos hc1, isSheet_c, Option.bind_some]
          dsimp only
          rw [if_b, if_pos hc, if_pos i4, nI_clamp (by omega), (rt32 hs).1, isLost_c, Option.bind_some]
          dsimp only
          rw [if_b, if_neg hl, e8]
          rw [nI_0, ← hm] at f1
          exact f1
        · show f_Mod_write B (nI p) (nI s) = _
          obtain ⟨v, v1, v2⟩ := lesser_m B (B 48 s) 8
          have ev : v = nI w := by
            apply i_inj
            rw [v2, f4 48 (by omega) (by omega), q2, ez, nI_toInt (by omega), nI_toInt (by omega), show (8 : Int32).toInt = 8 by decide]
            omega
          unfold f_Mod_write
          rw [isPlace_m, Option.bind_some]
          dsimp only
          rw [if_b, if_pos hc1, isSheet_m, Option.bind_some]
          dsimp only
          rw [if_b, if_pos hc, if_pos i4, if_pos i4, nI_clamp (by omega), if_pos (by rw [f4 47 (by omega) (by omega), q1, nLe]; simp; omega), v1, Option.bind_some]
          dsimp only
          rw [ev]
          rw [nI_0, ← hm] at g1
          exact g1
        · exact f2.of (g2 2 (by omega) (by omega) (by omega)) (g2 3 (by omega) (by omega) (by omega)) (g2 4 (by omega) (by omega) (by omega)) (g2 5 (by omega) (by omega) (by omega)) (g2 6 (by omega) (by omega) (by omega)) (g2 51 (by omega) (by omega) (by omega)) (g2 52 (by omega) (by omega) (by omega)) (g2 53 (by omega) (by omega) (by omega))
        · exact h.2.1.of (by rw [g2 9 (by omega) (by omega) (by omega), f4 9 (by omega) (by omega)]) (by rw [g2 10 (by omega) (by omega) (by omega), f4 10 (by omega) (by omega)]) (e46 9 (by omega) (by omega)) (by rw [g2 54 (by omega) (by omega) (by omega), f4 54 (by omega) (by omega)])
        · intro t ht
          obtain ⟨u1, u2, u3, u4, u5, u6, u7⟩ := hIS t ht
          have c38 : D (38 + 2 * t) = sg (38 + 2 * t) := by rw [g2 _ (by omega) (by omega) (by omega), f4 _ (by omega) (by omega)]
          have c47 : D 47 = sg 47 := by rw [g2 47 (by omega) (by omega) (by omega), f4 47 (by omega) (by omega)]
          have c48 : D 48 = sg 48 := by rw [g2 48 (by omega) (by omega) (by omega), f4 48 (by omega) (by omega)]
          rw [c38, c47, c48]
          refine ⟨u1, u2, u3, u4, u5, u6, fun i hi => ?_⟩
          have hi60 : i < 60 := by omega
          rw [g4, g2 (39 + 2 * t) (by omega) (by omega) (by omega), f4 49 (by omega) (by omega)]
          by_cases e : t = s
          · subst e
            rw [f5]
            by_cases y : i < w
            · rw [if_pos (by omega), if_pos (by omega), show 60 * t + i - 60 * t = i by omega]
            · rw [if_neg (by omega), if_neg (by omega)]
              exact u7 i hi
          · rw [if_neg (by omega), f4 (39 + 2 * t) (by omega) (by omega)]
            exact u7 i hi
        · exact h.2.2.2.1.of (by rw [g2 0 (by omega) (by omega) (by omega), f4 0 (by omega) (by omega)]) (e46 4 (by omega) (by omega))
        · exact f3.of (by omega) (by rw [g2 1 (by omega) (by omega) (by omega)]) (g2 2 (by omega) (by omega) (by omega)) (g2 3 (by omega) (by omega) (by omega)) (g2 4 (by omega) (by omega) (by omega)) (g2 5 (by omega) (by omega) (by omega)) (g2 6 (by omega) (by omega) (by omega)) (g2 25 (by omega) (by omega) (by omega)) (g2 26 (by omega) (by omega) (by omega)) (g2 27 (by omega) (by omega) (by omega)) (g2 28 (by omega) (by omega) (by omega))
    · refine ⟨-2, sg, sg, ?_, ?_, h.same⟩
      · show f_Box_write sg a1 a2 = _
        unfold f_Box_write
        rw [isPlace_c, Option.bind_some]
        dsimp only
        rw [if_b, if_pos hc1, isSheet_c, Option.bind_some]
        dsimp only
        rw [if_b, if_neg hc]
      · show f_Mod_write sg a1 a2 = _
        unfold f_Mod_write
        rw [isPlace_m, Option.bind_some]
        dsimp only
        rw [if_b, if_pos hc1, isSheet_m, Option.bind_some]
        dsimp only
        rw [if_b, if_neg hc]
  · refine ⟨-2, sg, sg, ?_, ?_, h.same⟩
    · show f_Box_write sg a1 a2 = _
      unfold f_Box_write
      rw [isPlace_c, Option.bind_some]
      dsimp only
      rw [if_b, if_neg hc1]
    · show f_Mod_write sg a1 a2 = _
      unfold f_Mod_write
      rw [isPlace_m, Option.bind_some]
      dsimp only
      rw [if_b, if_neg hc1]
