/-! READ -/
noncomputable def rdN (F : Nat → Prop) : Nat → Nat → Nat
  | 0, j => j
  | k + 1, j => haveI := Classical.propDecidable (F j); if F j then rdN F k (j + 1) else j
theorem rdN_t {F : Nat → Prop} {k j : Nat} (h : F j) : rdN F (k + 1) j = rdN F k (j + 1) := by rw [rdN, if_pos h]
theorem rdN_f {F : Nat → Prop} {k j : Nat} (h : ¬ F j) : rdN F (k + 1) j = j := by rw [rdN, if_neg h]
theorem rdN_p {F : Nat → Prop} : ∀ (k j : Nat), j ≤ rdN F k j ∧ rdN F k j ≤ j + k ∧ ∀ p, j ≤ p → p < rdN F k j → F p := by
  intro k
  induction k with
  | zero => intro j; exact ⟨Nat.le_refl _, Nat.le_refl _, fun p h1 h2 => by rw [rdN] at h2; omega⟩
  | succ k ih =>
    intro j
    by_cases q : F j
    · rw [rdN_t q]
      obtain ⟨a, b, c⟩ := ih (j + 1)
      refine ⟨by omega, by omega, fun p h1 h2 => ?_⟩
      by_cases e : p = j
      · rw [e]; exact q
      · exact c p (by omega) h2
    · rw [rdN_f q]
      exact ⟨Nat.le_refl _, by omega, fun p h1 h2 => by omega⟩
def onT (S : Nat → Int) (T : Nat → Int32) (p : Nat) : Prop := onB S (T (3 * p)).toInt (T (3 * p + 1)).toInt (T (3 * p + 2)).toInt
theorem read_c {S : Nat → Int} {T : Nat → Int32} {s w : Nat} (hs : s < 4) (hw : w ≤ 8) : ∀ (q j m : Nat) (t : Hp), j + q = w → (∀ a, a < 3 → 1 ≤ (t 2 a).toInt ∧ (t 2 a).toInt ≤ 30) → sS t = S → (∀ i, t (39 + 2 * s) i = T i) → 0 ≤ (t 1 6).toInt ∧ (t 1 6).toInt + q ≤ 10000 → ∃ t', f_Box_read_45 (m + q + 1) t (38 + 2 * s) (nI w) (nI j) = some (nI (rdN (onT S T) q j), t') ∧ (∀ c, c ≠ 1 → c ≠ 3 → c ≠ 4 → c ≠ 5 → c ≠ 8 → t' c = t c) ∧ (t' 1 6).toInt = (t 1 6).toInt + ((rdN (onT S T) q j - j : Nat) : Int) ∧ ∀ p, t' 3 p = (if j ≤ p ∧ p < rdN (onT S T) q j then T (3 * p) else t 3 p) ∧ t' 4 p = (if j ≤ p ∧ p < rdN (onT S T) q j then T (3 * p + 1) else t 4 p) ∧ t' 5 p = (if j ≤ p ∧ p < rdN (onT S T) q j then T (3 * p + 2) else t 5 p) := by
  intro q
  induction q with
  | zero =>
    intro j m t hj h2 hS hT h1
    rw [f_Box_read_45, if_pos (nI_le (by omega) (by omega))]
    have e : rdN (onT S T) 0 j = j := rfl
    rw [e]
    exact ⟨t, by rw [show j = w by omega], fun _ _ _ _ _ _ => rfl, by omega, fun p => ⟨by rw [if_neg (by omega)], by rw [if_neg (by omega)], by rw [if_neg (by omega)]⟩⟩
  | succ q ih =>
    intro j m t hj h2 hS hT h1
    have e0 : (3 : Int32) * nI j = nI (3 * j) := by rw [show (3 : Int32) = nI 3 from rfl, nI_mul]
    have e1 : (3 : Int32) * nI j + 1 = nI (3 * j + 1) := by rw [e0, nI_1]
    have e2 : (3 : Int32) * nI j + 2 = nI (3 * j + 2) := by rw [e0, show (2 : Int32) = nI 2 from rfl, nI_add]
    rw [show m + (q + 1) + 1 = (m + q + 1) + 1 by omega, f_Box_read_45, if_neg (nI_ge (by omega) (by omega)), e1, e2, e0, if_pos (ib (by omega) (by omega)), if_pos (ib (by omega) (by omega)), if_pos (ib (by omega) (by omega)), (rt32 hs).2, nI_clamp (by omega), nI_clamp (by omega), nI_clamp (by omega), hT, hT, hT]
    obtain ⟨r, g1, g2, g3⟩ := holds_c h2 (T (3 * j)) (T (3 * j + 1)) (T (3 * j + 2))
    rw [hS] at g3
    rw [g1, Option.bind_some]
    dsimp only
    generalize hA : stS t 8 2 (T (3 * j)) (T (3 * j + 1)) (T (3 * j + 2)) = A
    have cA : ∀ c, c ≠ 8 → A c = t c := fun c hc => by rw [← hA, stS_cell _ _ _ _ hc]
    by_cases q1 : onT S T j
    · have r1 : r = 1 := g3.mpr q1
      rw [if_neg (by rw [r1]; decide), move_c (by omega), Option.bind_some, nI_1 j]
      generalize hB : cmv A j (T (3 * j)) (T (3 * j + 1)) (T (3 * j + 2)) = B
      have cB : ∀ c, c ≠ 1 → c ≠ 3 → c ≠ 4 → c ≠ 5 → c ≠ 8 → B c = t c := fun c c1 c3 c4 c5 c8 => by rw [← hB, cmv_cell _ _ _ _ c1 c3 c4 c5, cA c c8]
      have b16 : (B 1 6).toInt = (t 1 6).toInt + 1 := by
        rw [← hB, (cmv_at A j 0 _ _ _).2.2.2, cA 1 (by omega), tAdd (by simp; omega) (by simp; omega)]
        simp
      obtain ⟨t', f1, f2, f3, f4⟩ := ih (j + 1) m B (by omega) (by rw [cB 2 (by omega) (by omega) (by omega) (by omega) (by omega)]; exact h2) (by rw [← hS]; funext a; unfold sS; rw [cB 2 (by omega) (by omega) (by omega) (by omega) (by omega)]) (by rw [cB (39 + 2 * s) (by omega) (by omega) (by omega) (by omega) (by omega)]; exact hT) (by rw [b16]; omega)
      obtain ⟨p1, p2, -⟩ := rdN_p (F := onT S T) q (j + 1)
      rw [rdN_t q1]
      refine ⟨t', f1, fun c c1 c3 c4 c5 c8 => by rw [f2 c c1 c3 c4 c5 c8, cB c c1 c3 c4 c5 c8], by rw [f3, b16]; omega, fun p => ?_⟩
      obtain ⟨k1, k2, k3⟩ := f4 p
      obtain ⟨m1, m2, m3, -⟩ := cmv_at A j p (T (3 * j)) (T (3 * j + 1)) (T (3 * j + 2))
      rw [hB, cA 3 (by omega)] at m1
      rw [hB, cA 4 (by omega)] at m2
      rw [hB, cA 5 (by omega)] at m3
      rw [k1, k2, k3, m1, m2, m3]
      by_cases e : p = j
      · subst e
        rw [if_neg (by omega), if_pos rfl, if_pos (by omega), if_neg (by omega), if_pos rfl, if_pos (by omega), if_neg (by omega), if_pos rfl, if_pos (by omega)]
        exact ⟨rfl, rfl, rfl⟩
      · rw [if_neg e, if_neg e, if_neg e]
        by_cases z : j + 1 ≤ p ∧ p < rdN (onT S T) q (j + 1)
        · rw [if_pos z, if_pos (by omega), if_pos z, if_pos (by omega), if_pos z, if_pos (by omega)]
          exact ⟨rfl, rfl, rfl⟩
        · rw [if_neg z, if_neg (by omega), if_neg z, if_neg (by omega), if_neg z, if_neg (by omega)]
          exact ⟨rfl, rfl, rfl⟩
    · have r0 : r = 0 := g2.resolve_right (fun z => q1 (g3.mp z))
      rw [if_pos r0, rdN_f q1]
      refine ⟨A, rfl, fun c _ _ _ _ c8 => cA c c8, by rw [cA 1 (by omega)]; omega, fun p => ?_⟩
      rw [cA 3 (by omega), cA 4 (by omega), cA 5 (by omega), if_neg (by omega), if_neg (by omega), if_neg (by omega)]
      exact ⟨rfl, rfl, rfl⟩
theorem read_m {S : Nat → Int} {T : Nat → Int32} {s w z : Nat} (hs : s < 4) (hz : z ≤ 60) (hw : w = min (z / 3) 8) : ∀ (q j m : Nat) (t : Hp), j + q = w → (∀ a, a < 3 → mSd t a = S a) → t 48 s = nI z → (∀ i, i < z → t 49 (60 * s + i) = T i) → ∃ t', f_Mod_read_29 (m + q + 2) t (nI s) (nI j) 1 = some (nI (rdN (onT S T) q j), t') ∧ (∀ c, c ≠ 52 → t' c = t c) ∧ ∀ p, t' 52 (3 * p) = (if j ≤ p ∧ p < rdN (onT S T) q j then T (3 * p) else t 52 (3 * p)) ∧ t' 52 (3 * p + 1) = (if j ≤ p ∧ p < rdN (onT S T) q j then T (3 * p + 1) else t 52 (3 * p + 1)) ∧ t' 52 (3 * p + 2) = (if j ≤ p ∧ p < rdN (onT S T) q j then T (3 * p + 2) else t 52 (3 * p + 2)) := by
  intro q
  induction q with
  | zero =>
    intro j m t hj hS h48 hT
    have e : rdN (onT S T) 0 j = j := rfl
    rw [e]
    refine ⟨t, ?_, fun _ _ => rfl, fun p => ⟨by rw [if_neg (by omega)], by rw [if_neg (by omega)], by rw [if_neg (by omega)]⟩⟩
    rw [f_Mod_read_29, if_neg (by decide)]
    by_cases q8 : 8 ≤ j
    · rw [if_pos (le8 q8 (by omega))]
    · rw [if_neg (nle8 (by omega)), if_pos (ib hs (by omega)), nI_clamp (by omega), h48, if_pos (by
        rw [show (3 : Int32) = nI 3 from rfl, nI_mul, nI_add]
        exact nI_lt (by omega) (by omega))]
  | succ q ih =>
    intro j m t hj hS h48 hT
    have hj8 : j < 8 := by omega
    have hj3 : 3 * j + 3 ≤ z := by omega
    have e0 : (60 : Int32) * nI s + (3 : Int32) * nI j = nI (60 * s + 3 * j) := by rw [show (60 : Int32) = nI 60 from rfl, show (3 : Int32) = nI 3 from rfl, nI_mul, nI_mul, nI_add]
    have e1 : (60 : Int32) * nI s + (3 : Int32) * nI j + 1 = nI (60 * s + 3 * j + 1) := by rw [e0, nI_1]
    have e2 : (60 : Int32) * nI s + (3 : Int32) * nI j + 2 = nI (60 * s + 3 * j + 2) := by rw [e0, show (2 : Int32) = nI 2 from rfl, nI_add]
    have t0 := hT (3 * j) (by omega)
    have t1 : t 49 (60 * s + 3 * j + 1) = T (3 * j + 1) := hT (3 * j + 1) (by omega)
    have t2 : t 49 (60 * s + 3 * j + 2) = T (3 * j + 2) := hT (3 * j + 2) (by omega)
    rw [show m + (q + 1) + 2 = (m + q + 2) + 1 by omega, f_Mod_read_29, if_neg (by decide), if_neg (nle8 hj8), if_pos (ib hs (by omega)), nI_clamp (show s < 2 ^ 31 by omega), h48, if_neg (by
      rw [show (3 : Int32) = nI 3 from rfl, nI_mul, nI_add]
      exact nI_nlt (by omega) (by omega)), e1, e2, e0, if_pos (ib (by omega) (by omega)), if_pos (ib (by omega) (by omega)), if_pos (ib (by omega) (by omega)), nI_clamp (by omega), nI_clamp (by omega), nI_clamp (by omega), t0, t1, t2]
    obtain ⟨r, g1, g2, g3⟩ := isOnBox_m t (T (3 * j)) (T (3 * j + 1)) (T (3 * j + 2))
    rw [onB_eq hS] at g3
    unfold f_Mod_read_102 f_Mod_read_113
    by_cases q1 : onT S T j
    · have r1 : r = 1 := g3.mpr q1
      have hpl : f_Mod_place t (nI j) (T (3 * j)) (T (3 * j + 1)) (T (3 * j + 2)) = some (1, mpt t j (T (3 * j)) (T (3 * j + 1)) (T (3 * j + 2))) := by
        unfold f_Mod_place
        rw [isPlace_m, Option.bind_some]
        dsimp only
        rw [if_b, if_pos (pl8 hj8), g1, Option.bind_some]
        dsimp only
        rw [if_neg (by rw [r1]; decide), puts_m hj8, Option.bind_some]
      rw [hpl, Option.bind_some]
      dsimp only
      rw [if_pos rfl, if_neg (by decide), nI_1 j]
      generalize hB : mpt t j (T (3 * j)) (T (3 * j + 1)) (T (3 * j + 2)) = B
      have cB : ∀ c, c ≠ 52 → B c = t c := fun c hc => by rw [← hB, mpt_cell _ _ _ _ hc]
      obtain ⟨t', f1, f2, f3⟩ := ih (j + 1) m B (by omega) (fun a ha => by rw [← hS a ha]; unfold mSd; rw [cB 51 (by omega)]) (by rw [cB 48 (by omega)]; exact h48) (by rw [cB 49 (by omega)]; exact hT)
      obtain ⟨p1, p2, -⟩ := rdN_p (F := onT S T) q (j + 1)
      rw [rdN_t q1]
      refine ⟨t', f1, fun c hc => by rw [f2 c hc, cB c hc], fun p => ?_⟩
      obtain ⟨k1, k2, k3⟩ := f3 p
      obtain ⟨m1, m2, m3⟩ := mpt_at t j p (T (3 * j)) (T (3 * j + 1)) (T (3 * j + 2))
      rw [hB] at m1 m2 m3
      rw [k1, k2, k3, m1, m2, m3]
      by_cases e : p = j
      · subst e
        rw [if_neg (by omega), if_pos rfl, if_pos (by omega), if_neg (by omega), if_pos rfl, if_pos (by omega), if_neg (by omega), if_pos rfl, if_pos (by omega)]
        exact ⟨rfl, rfl, rfl⟩
      · rw [if_neg e, if_neg e, if_neg e]
        by_cases z : j + 1 ≤ p ∧ p < rdN (onT S T) q (j + 1)
        · rw [if_pos z, if_pos (by omega), if_pos z, if_pos (by omega), if_pos z, if_pos (by omega)]
          exact ⟨rfl, rfl, rfl⟩
        · rw [if_neg z, if_neg (by omega), if_neg z, if_neg (by omega), if_neg z, if_neg (by omega)]
          exact ⟨rfl, rfl, rfl⟩
    · have r0 : r = 0 := g2.resolve_right (fun z => q1 (g3.mp z))
      have hpl : f_Mod_place t (nI j) (T (3 * j)) (T (3 * j + 1)) (T (3 * j + 2)) = some (-2, t) := by
        unfold f_Mod_place
        rw [isPlace_m, Option.bind_some]
        dsimp only
        rw [if_b, if_pos (pl8 hj8), g1, Option.bind_some]
        dsimp only
        rw [if_pos r0]
      rw [hpl, Option.bind_some]
      dsimp only
      rw [if_neg (by decide), if_pos rfl, Int32.add_zero, rdN_f q1, show m + q + 2 = (m + q + 1) + 1 by omega, f_Mod_read_29, if_pos rfl]
      exact ⟨t, rfl, fun _ _ => rfl, fun p => ⟨by rw [if_neg (by omega)], by rw [if_neg (by omega)], by rw [if_neg (by omega)]⟩⟩
theorem k_read : K_read := by
  intro n sg h hn a1
  have hIS := h.2.2.1
  have hB := h.1
  obtain ⟨b1, b2, b3, b4, b5, b6⟩ := id hB
  show PairI (fun s => f_Box_read s a1) (fun s => f_Mod_read s a1) n sg
  by_cases hc : 0 ≤ a1.toInt ∧ a1.toInt ≤ 3
  · obtain ⟨s, hs3, rfl⟩ := nI_ex (n := 3) hc (by omega)
    have hs : s < 4 := by omega
    have i4 : inb (nI s) 4 = true := ib hs (by omega)
    obtain ⟨q1, q2, q3, q4, q5, q6, q7⟩ := hIS s hs
    obtain ⟨z, hz, ez⟩ := nI_ex (x := sg (38 + 2 * s) 2) (n := 60) ⟨q5, q6⟩ (by omega)
    by_cases hl : sg (38 + 2 * s) 1 = -1
    · refine ⟨-10 - 1, w2 sg 0 10 1, w2 (w2 sg 0 10 1) 46 4 1, ?_, ?_, h.finding 1⟩
      · show f_Box_read sg (nI s) = _
        unfold f_Box_read
        rw [isSheet_c, Option.bind_some]
        dsimp only
        rw [if_b, if_pos hc, if_pos i4, nI_clamp (by omega), (rt32 hs).1, isLost_c, Option.bind_some]
        dsimp only
        rw [if_b, if_pos hl, found_c, Option.bind_some]
      · show f_Mod_read (w2 sg 0 10 1) (nI s) = _
        unfold f_Mod_read
        rw [isSheet_m, Option.bind_some]
        dsimp only
        rw [if_b, if_pos hc, if_pos i4, nI_clamp (by omega), if_neg (by rw [w2_ne (by omega), q1, hl]; decide), met_m, Option.bind_some]
    · have hl2 : ¬ (sg (38 + 2 * s) 1).toInt = -1 := fun e => hl (i_inj (by rw [e]; decide))
      generalize hw : min (z / 3) 8 = w
      have hw8 : w ≤ 8 := by omega
      have hch := h.2.2.2.2.1
      obtain ⟨m, hm⟩ := LFx w (by omega)
      obtain ⟨m', hm'⟩ := LFx (w + 1) (by omega)
      obtain ⟨B, f1, f2, f3, f4⟩ := read_c (S := sS sg) (T := sg (39 + 2 * s)) hs hw8 w 0 m sg (by omega) b2 rfl (fun _ => rfl) (by omega)
      generalize hr : rdN (onT (sS sg) (sg (39 + 2 * s))) w 0 = r at *
      have hrp := rdN_p (F := onT (sS sg) (sg (39 + 2 * s))) w 0
      rw [hr] at hrp
      obtain ⟨-, r2, r3⟩ := hrp
      obtain ⟨D, g1, g2, g3⟩ := read_m (S := sS sg) (T := sg (39 + 2 * s)) (w := w) (z := z) hs hz hw.symm w 0 m' B (by omega) (fun a ha => by
        rw [← mSd_eq hB a ha]
        unfold mSd
        rw [f2 51 (by omega) (by omega) (by omega) (by omega) (by omega)]) (by rw [f2 48 (by omega) (by omega) (by omega) (by omega) (by omega), q2, ez]) (fun i hi => by
        rw [f2 49 (by omega) (by omega) (by omega) (by omega) (by omega)]
        refine q7 i ?_
        rw [ez, nI_toInt (by omega)]
        omega)
      rw [hr] at g1 g3
      have cD : ∀ c, c ≠ 1 → c ≠ 3 → c ≠ 4 → c ≠ 5 → c ≠ 8 → c ≠ 52 → D c = sg c := fun c c1 c3 c4 c5 c8 c52 => by rw [g2 c c52, f2 c c1 c3 c4 c5 c8]
      refine ⟨nI r, B, D, ?_, ?_, ?_⟩
      · show f_Box_read sg (nI s) = _
        unfold f_Box_read
        rw [isSheet_c, Option.bind_some]
        dsimp only
        rw [if_b, if_pos hc, if_pos i4, nI_clamp (by omega), (rt32 hs).1, isLost_c, Option.bind_some]
        dsimp only
        have e3 : nI z / (3 : Int32) = nI (z / 3) := by rw [show (3 : Int32) = nI 3 from rfl, tdivI (by omega) (by omega)]
        have e8 : (if (8 : Int32) < sg (38 + 2 * s) 2 / (3 : Int32) then (8 : Int32) else sg (38 + 2 * s) 2 / (3 : Int32)) = nI w := by
          rw [ez, e3, ← hw]
          by_cases y : 8 < z / 3
          · rw [if_pos (by rw [show (8 : Int32) = nI 8 from rfl]; exact nI_lt y (by omega)), show min (z / 3) 8 = 8 by omega]
            rfl
          · rw [if_neg (by rw [show (8 : Int32) = nI 8 from rfl]; exact nI_nlt (by omega) (by omega)), show min (z / 3) 8 = z / 3 by omega]
        rw [if_b, if_neg hl]
        rw [e8, hm]
        exact f1
      · show f_Mod_read B (nI s) = _
        unfold f_Mod_read
        rw [isSheet_m, Option.bind_some]
        dsimp only
        rw [if_b, if_pos hc, if_pos i4, nI_clamp (by omega), if_pos (by rw [f2 47 (by omega) (by omega) (by omega) (by omega) (by omega), q1, nLe]; simp; omega)]
        rw [show m' + w + 2 = m' + (w + 1) + 1 by omega, ← hm', nI_0] at g1
        exact g1
      · have hS' : sS D = sS sg := by funext a; unfold sS; rw [cD 2 (by omega) (by omega) (by omega) (by omega) (by omega) (by omega)]
        have pD : ∀ p, D 3 p = (if p < r then sg (39 + 2 * s) (3 * p) else sg 3 p) ∧ D 4 p = (if p < r then sg (39 + 2 * s) (3 * p + 1) else sg 4 p) ∧ D 5 p = (if p < r then sg (39 + 2 * s) (3 * p + 2) else sg 5 p) := fun p => by
          obtain ⟨k1, k2, k3⟩ := f4 p
          rw [g2 3 (by omega), g2 4 (by omega), g2 5 (by omega), k1, k2, k3]
          simp only [Nat.zero_le, true_and, and_self]
        refine h.boxed (n' := n + 20) ?_ ?_ (fun c hc => ?_)
        · refine ⟨?_, ?_, ?_, ?_, ?_, ?_⟩
          · rw [cD 51 (by omega) (by omega) (by omega) (by omega) (by omega) (by omega), cD 2 (by omega) (by omega) (by omega) (by omega) (by omega) (by omega)]; exact b1
          · rw [cD 2 (by omega) (by omega) (by omega) (by omega) (by omega) (by omega)]; exact b2
          · intro p hp
            obtain ⟨k1, k2, k3⟩ := g3 p
            obtain ⟨d1, d2, d3⟩ := pD p
            obtain ⟨y1, y2, y3⟩ := b3 p hp
            rw [k1, k2, k3, d1, d2, d3, f2 52 (by omega) (by omega) (by omega) (by omega) (by omega), y1, y2, y3]
            simp only [Nat.zero_le, true_and, and_self]
          · intro p hp
            obtain ⟨d1, d2, d3⟩ := pD p
            rw [hS', d1, d2, d3]
            by_cases y : p < r
            · rw [if_pos y, if_pos y, if_pos y]
              exact r3 p (by omega) y
            · rw [if_neg y, if_neg y, if_neg y]
              exact b4 p hp
          · rw [cD 53 (by omega) (by omega) (by omega) (by omega) (by omega) (by omega), cD 6 (by omega) (by omega) (by omega) (by omega) (by omega) (by omega)]; exact b5
          · unfold sBar
            rw [cD 6 (by omega) (by omega) (by omega) (by omega) (by omega) (by omega)]; exact b6
        · by_cases r0 : r = 0
          · have c3 : D 3 = sg 3 := by funext p; rw [(pD p).1, if_neg (by omega)]
            have c4 : D 4 = sg 4 := by funext p; rw [(pD p).2.1, if_neg (by omega)]
            have c5 : D 5 = sg 5 := by funext p; rw [(pD p).2.2, if_neg (by omega)]
            refine h.2.2.2.2.of (by omega) (i_inj ?_) (cD 2 (by omega) (by omega) (by omega) (by omega) (by omega) (by omega)) c3 c4 c5 (cD 6 (by omega) (by omega) (by omega) (by omega) (by omega) (by omega)) (cD 25 (by omega) (by omega) (by omega) (by omega) (by omega) (by omega)) (cD 26 (by omega) (by omega) (by omega) (by omega) (by omega) (by omega)) (cD 27 (by omega) (by omega) (by omega) (by omega) (by omega) (by omega)) (cD 28 (by omega) (by omega) (by omega) (by omega) (by omega) (by omega))
            rw [g2 1 (by omega), f3]
            omega
          · refine h.2.2.2.2.grown ?_ ?_ (cD 28 (by omega) (by omega) (by omega) (by omega) (by omega) (by omega))
            · rw [g2 1 (by omega), f3]; omega
            · rw [g2 1 (by omega), f3]; omega
        · simp only [List.mem_cons, List.not_mem_nil, or_false, not_or] at hc
          exact cD c (by omega) (by omega) (by omega) (by omega) (by omega) (by omega)
  · refine ⟨-2, sg, sg, ?_, ?_, h.same⟩
    · show f_Box_read sg a1 = _
      unfold f_Box_read
      rw [isSheet_c, Option.bind_some]
      dsimp only
      rw [if_b, if_neg hc]
    · show f_Mod_read sg a1 = _
      unfold f_Mod_read
      rw [isSheet_m, Option.bind_some]
      dsimp only
      rw [if_b, if_neg hc]
