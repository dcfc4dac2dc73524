/-! COUNT -/
theorem count_v {n : Nat} {sg : Hp} (h : Inv n sg) (x : Int32) : ∃ v, Q n sg (fun s => f_Box_count s x) v ∧ Q n sg (fun s => f_Mod_count s x) v := by
  obtain ⟨hB, hR, hS, hF, hT⟩ := id h
  by_cases q0 : x = 0
  · subst q0
    refine ⟨nI (nv sg), fun s hs => ⟨s, ?_, hs⟩, fun s hs => ⟨s, ?_, hs⟩⟩
    · show f_Box_count s 0 = _
      unfold f_Box_count
      rw [if_pos rfl, bid, hs.eN.1]
    · show f_Mod_count s 0 = _
      unfold f_Mod_count
      rw [if_pos rfl, bid, hs.eN.2]
  by_cases q1 : x = 1
  · subst q1
    refine ⟨sg 9 1, fun s hs => ⟨s, ?_, hs⟩, fun s hs => ⟨s, ?_, hs⟩⟩
    · show f_Box_count s 1 = _
      unfold f_Box_count
      rw [if_neg (by decide), if_pos rfl, hs.2.1 9 (by decide)]
    · show f_Mod_count s 1 = _
      unfold f_Mod_count
      rw [if_neg (by decide), if_pos rfl, hs.2.2.2, hR.1]
  by_cases q2 : x = 2
  · subst q2
    refine ⟨sg 2 1, fun s hs => ⟨s, ?_, hs⟩, fun s hs => ⟨s, ?_, hs⟩⟩
    · show f_Box_count s 2 = _
      unfold f_Box_count
      rw [if_neg (by decide), if_neg (by decide), if_pos rfl, show (2 : Int32) - 2 = nI 0 by decide, axis_c (by omega), Option.bind_some]
      dsimp only
      rw [if_pos (by decide), hs.2.1 2 (by decide)]
      rfl
    · show f_Mod_count s 2 = _
      unfold f_Mod_count
      rw [if_neg (by decide), if_neg (by decide), if_pos rfl, if_pos (by decide), hs.2.1 51 (by decide), ← hB.1.1]
      rfl
  by_cases q3 : x = 3
  · subst q3
    refine ⟨sg 2 2, fun s hs => ⟨s, ?_, hs⟩, fun s hs => ⟨s, ?_, hs⟩⟩
    · show f_Box_count s 3 = _
      unfold f_Box_count
      rw [if_neg (by decide), if_neg (by decide), if_neg (by decide), if_pos rfl, show (3 : Int32) - 2 = nI 1 by decide, axis_c (by omega), Option.bind_some]
      dsimp only
      rw [if_pos (by decide), hs.2.1 2 (by decide)]
      rfl
    · show f_Mod_count s 3 = _
      unfold f_Mod_count
      rw [if_neg (by decide), if_neg (by decide), if_neg (by decide), if_pos rfl, if_pos (by decide), hs.2.1 51 (by decide), ← hB.1.2.1]
      rfl
  by_cases q4 : x = 4
  · subst q4
    refine ⟨sg 2 0, fun s hs => ⟨s, ?_, hs⟩, fun s hs => ⟨s, ?_, hs⟩⟩
    · show f_Box_count s 4 = _
      unfold f_Box_count
      rw [if_neg (by decide), if_neg (by decide), if_neg (by decide), if_neg (by decide), if_pos rfl, show (4 : Int32) - 2 = nI 2 by decide, axis_c (by omega), Option.bind_some]
      dsimp only
      rw [if_pos (by decide), hs.2.1 2 (by decide)]
      rfl
    · show f_Mod_count s 4 = _
      unfold f_Mod_count
      rw [if_neg (by decide), if_neg (by decide), if_neg (by decide), if_neg (by decide), if_pos rfl, if_pos (by decide), hs.2.1 51 (by decide), ← hB.1.2.2]
      rfl
  by_cases q5 : x = 5
  · subst q5
    obtain ⟨m, hm⟩ := LFx 6 (by omega)
    have hb := hB.2.2.2.2.1
    refine ⟨brL (sg 6) 6 0 0, fun s hs => ⟨s, ?_, hs⟩, fun s hs => ⟨s, ?_, hs⟩⟩
    · show f_Box_count s 5 = _
      unfold f_Box_count
      rw [if_neg (by decide), if_neg (by decide), if_neg (by decide), if_neg (by decide), if_neg (by decide), if_pos rfl, bid]
      unfold f_Room_barredEdges
      have g := bar_c (s := s) (fun w hw => by rw [hs.2.1 6 (by decide)]; exact (hb w hw).2) 6 0 m 0 (by omega)
      rw [nI_0, ← hm, hs.2.1 6 (by decide)] at g
      exact g
    · show f_Mod_count s 5 = _
      unfold f_Mod_count
      rw [if_neg (by decide), if_neg (by decide), if_neg (by decide), if_neg (by decide), if_neg (by decide), if_pos rfl, bid]
      unfold f_Mod_barred
      have g := bar_m (s := s) (fun w hw => by rw [hs.2.1 53 (by decide), (hb w hw).1]; exact (hb w hw).2) 6 0 m 0 (by omega)
      rw [nI_0, ← hm, hs.2.1 53 (by decide), brL_cg (B := sg 53) (B' := sg 6) 6 0 0 (fun i _ hi => (hb i (by omega)).1)] at g
      exact g
  by_cases q6 : x = 6
  · subst q6
    obtain ⟨m, hm⟩ := LFx 8 (by omega)
    refine ⟨unL (fun p => bI (∃ q, q < p ∧ lik sg q p)) 8 0 0, fun s hs => ⟨s, ?_, hs⟩, fun s hs => ⟨s, ?_, hs⟩⟩
    · show f_Box_count s 6 = _
      unfold f_Box_count
      rw [if_neg (by decide), if_neg (by decide), if_neg (by decide), if_neg (by decide), if_neg (by decide), if_neg (by decide), if_pos rfl, bid]
      unfold f_Room_unlikePlaces
      have g := unl_c (s := s) 8 0 m 0 (by omega)
      have e : (fun p => bI (∃ q, q < p ∧ lik s q p)) = fun p => bI (∃ q, q < p ∧ lik sg q p) := by
        funext p
        unfold lik
        rw [hs.2.1 3 (by decide), hs.2.1 4 (by decide), hs.2.1 5 (by decide)]
      rw [nI_0, ← hm, e] at g
      exact g
    · show f_Mod_count s 6 = _
      unfold f_Mod_count
      rw [if_neg (by decide), if_neg (by decide), if_neg (by decide), if_neg (by decide), if_neg (by decide), if_neg (by decide), if_pos rfl, bid]
      unfold f_Mod_unlike
      have g := unl_m (sg := sg) (s := s) (fun p hp => by rw [hs.2.1 52 (by decide)]; exact hB.2.2.1 p hp) 8 0 m 0 (by omega)
      rw [nI_0, ← hm] at g
      exact g
  by_cases q7 : x = 7
  · subst q7
    refine ⟨laidV sg (nv sg) 0, fun s hs => ?_, fun s hs => ?_⟩
    · obtain ⟨s', e1, e2, e3, e4⟩ := behind_c hs (Nat.le_refl (nv sg))
      refine ⟨s', ?_, e4⟩
      show f_Box_count s 7 = _
      unfold f_Box_count laidV
      rw [if_neg (by decide), if_neg (by decide), if_neg (by decide), if_neg (by decide), if_neg (by decide), if_neg (by decide), if_neg (by decide), if_pos rfl, hs.eN.1, Option.bind_some]
      dsimp only
      rw [e1, Option.bind_some, e2.1, if_pos rfl]
    · obtain ⟨s', e1, e2⟩ := m_laidOut (n := n) (sg := sg) (Nat.le_refl (nv sg)) (show 0 < 5 by omega) s hs
      dsimp only at e1
      refine ⟨s', ?_, e2⟩
      show f_Mod_count s 7 = _
      unfold f_Mod_count
      rw [if_neg (by decide), if_neg (by decide), if_neg (by decide), if_neg (by decide), if_neg (by decide), if_neg (by decide), if_neg (by decide), if_pos rfl, hs.eN.2, Option.bind_some, bid]
      dsimp only
      rw [nI_0] at e1
      exact e1
  by_cases q8 : x = 8
  · subst q8
    refine ⟨sg 0 10, fun s hs => ⟨s, ?_, hs⟩, fun s hs => ⟨s, ?_, hs⟩⟩
    · show f_Box_count s 8 = _
      unfold f_Box_count
      rw [if_neg (by decide), if_neg (by decide), if_neg (by decide), if_neg (by decide), if_neg (by decide), if_neg (by decide), if_neg (by decide), if_neg (by decide), if_pos rfl, hs.2.1 0 (by decide)]
    · show f_Mod_count s 8 = _
      unfold f_Mod_count
      rw [if_neg (by decide), if_neg (by decide), if_neg (by decide), if_neg (by decide), if_neg (by decide), if_neg (by decide), if_neg (by decide), if_neg (by decide), if_pos rfl, hs.2.2.1, hF]
  · refine ⟨-2, fun s hs => ⟨s, ?_, hs⟩, fun s hs => ⟨s, ?_, hs⟩⟩
    · show f_Box_count s x = _
      unfold f_Box_count
      rw [if_neg q0, if_neg q1, if_neg q2, if_neg q3, if_neg q4, if_neg q5, if_neg q6, if_neg q7, if_neg q8]
    · show f_Mod_count s x = _
      unfold f_Mod_count
      rw [if_neg q0, if_neg q1, if_neg q2, if_neg q3, if_neg q4, if_neg q5, if_neg q6, if_neg q7, if_neg q8]
theorem k_count : K_count := by
  intro n sg h hn a1
  obtain ⟨v, q1, q2⟩ := count_v h a1
  exact pair_q h q1 q2
