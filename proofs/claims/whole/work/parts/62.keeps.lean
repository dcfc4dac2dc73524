/-! THE REFERENCE KEEPS THE BEST ROW -/
def hrn (g : Nat → Nat) : Nat → Nat
  | 0 => 0
  | n + 1 => g n + 10 * hrn g n
theorem hrn_c {g g' : Nat → Nat} : ∀ n : Nat, (∀ i, i < n → g i = g' i) → hrn g n = hrn g' n := by
  intro n
  induction n with
  | zero => intro _; rfl
  | succ n ih =>
    intro h
    rw [hrn, hrn, ih (fun i hi => h i (by omega)), h n (by omega)]
theorem valN_h : ∀ r : List Nat, valN r = hrn (Wr r) r.length := by
  intro r
  induction r with
  | nil => rfl
  | cons w r ih =>
    rw [valN, List.length_cons, hrn, Wr_top, ih, hrn_c (g := Wr (w :: r)) (g' := Wr r) _ (fun i hi => Wr_cons hi)]
theorem hrn_lt {g g' : Nat → Nat} : ∀ n : Nat, (∀ i, i < n → g i < 10) → (∀ i, i < n → g' i < 10) → ∀ j, j < n → (∀ i, i < j → g i = g' i) → g j < g' j → hrn g n < hrn g' n := by
  intro n
  induction n with
  | zero => intro _ _ j hj; omega
  | succ n ih =>
    intro h1 h2 j hj he hlt
    rw [hrn, hrn]
    by_cases e : j = n
    · rw [hrn_c (g := g) (g' := g') n (fun i hi => he i (by omega))]
      rw [e] at hlt
      omega
    · have := ih (fun i hi => h1 i (by omega)) (fun i hi => h2 i (by omega)) j (by omega) he hlt
      have := h1 n (by omega)
      omega
theorem Wr_get {r : List Nat} {i : Nat} (h : i < r.length) : Wr r i = r[r.length - 1 - i]'(by omega) := by
  unfold Wr
  rw [List.drop_eq_getElem_cons (show r.length - 1 - i < r.length by omega)]
  rfl
theorem Wr_mem {r : List Nat} {i : Nat} (h : i < r.length) : Wr r i ∈ r := by
  rw [Wr_get h]
  exact List.getElem_mem _
theorem mem_W {w : Nat} {r : List Nat} : w ∈ r ↔ ∃ i, i < r.length ∧ Wr r i = w := by
  constructor
  · intro h
    obtain ⟨i, hi, e⟩ := List.mem_iff_getElem.mp h
    refine ⟨r.length - 1 - i, by omega, ?_⟩
    rw [Wr_get (by omega), ← e]
    congr 1
    omega
  · rintro ⟨i, hi, e⟩
    rw [← e]
    exact Wr_mem hi
def BRw (sg : Hp) (d : List Nat) : Prop := ∀ k, k < 5 → sg 57 k = if k < d.length then nI (Wr d k) else -1
/-- the reference's own numbers -/
def MXr (sg : Hp) (x : Int × Int × Nat) : Prop := sg 46 12 = iI x.1 ∧ -1 ≤ x.1 ∧ x.1 ≤ 100000000 ∧ sg 46 13 = iI x.2.1 ∧ ∃ d, keyN d = x.2.2 ∧ (∀ w ∈ d, w < 6) ∧ d.length ≤ 5 ∧ BRw sg d
def KF (sg sg' : Hp) : Prop := (∀ c, c ≠ 46 → c ≠ 57 → sg' c = sg c) ∧ ∀ k, k ≠ 12 → k ≠ 13 → sg' 46 k = sg 46 k
theorem KF.refl (sg : Hp) : KF sg sg := ⟨fun _ _ _ => rfl, fun _ _ _ => rfl⟩
theorem KF.trans {a b c : Hp} (h1 : KF a b) (h2 : KF b c) : KF a c := ⟨fun d d1 d2 => by rw [h2.1 d d1 d2, h1.1 d d1 d2], fun k k1 k2 => by rw [h2.2 k k1 k2, h1.2 k k1 k2]⟩
theorem nI_m1 {w : Nat} (h : w < 1000000) : ¬ nI w = (-1 : Int32) := by
  rw [nEq, nI_toInt (by omega), show (-1 : Int32).toInt = -1 by decide]
  omega
theorem ahead_2 {sg : Hp} {d : List Nat} (hd : d.length ≤ 5) (hw : ∀ w ∈ d, w < 6) (hb : BRw sg d) (x1 : Int32) : ∀ (k j m : Nat), j + k = d.length → f_Mod_isAhead_2 (m + k + 1) sg x1 (nI j) = f_Mod_isAhead_23 sg x1 (nI d.length) := by
  intro k
  induction k with
  | zero =>
    intro j m h
    rw [f_Mod_isAhead_2, show (5 : Int32) = nI 5 from rfl, show j = d.length by omega]
    by_cases h5 : d.length = 5
    · rw [if_pos (nI_le (by omega) (by omega))]
    · rw [if_neg (nI_ge (by omega) (by omega)), if_pos (ib (by omega) (by omega)), nI_clamp (by omega), hb _ (by omega), if_neg (show ¬ d.length < d.length by omega), if_pos rfl]
  | succ k ih =>
    intro j m h
    have := hw _ (Wr_mem (r := d) (i := j) (by omega))
    rw [show m + (k + 1) + 1 = (m + k + 1) + 1 by omega, f_Mod_isAhead_2, show (5 : Int32) = nI 5 from rfl, if_neg (nI_ge (by omega) (by omega)), if_pos (ib (by omega) (by omega)), nI_clamp (by omega), hb _ (by omega), if_pos (show j < d.length by omega), if_neg (nI_m1 (by omega)), nI_1]
    exact ih (j + 1) m (by omega)
theorem ahead_69 {sg : Hp} {d r : List Nat} (hd : d.length ≤ 5) (hn : r.length = d.length) (hw : ∀ w ∈ d, w < 6) (hr : ∀ w ∈ r, w < 6) (hb : BRw sg d) (h58 : ∀ i, i < r.length → sg 58 i = nI (Wr r i)) {j : Nat} (hj : j < r.length) (he : ∀ i, i < j → Wr r i = Wr d i) (hc : j + 1 = r.length ∨ Wr r j ≠ Wr d j) : f_Mod_isAhead_69 sg (nI j) = some (bI (valN r < valN d), sg) := by
  have a1 := hw _ (Wr_mem (r := d) (i := j) (by omega))
  have a2 := hr _ (Wr_mem (r := r) (i := j) (by omega))
  have g1 : ∀ i, i < r.length → Wr r i < 10 := fun i hi => by have := hr _ (Wr_mem (r := r) hi); omega
  have g2 : ∀ i, i < r.length → Wr d i < 10 := fun i hi => by have := hw _ (Wr_mem (r := d) (i := i) (by omega)); omega
  unfold f_Mod_isAhead_69
  rw [if_pos (ib (by omega) (by omega)), if_pos (ib (by omega) (by omega)), nI_clamp (by omega), hb _ (by omega), if_pos (show j < d.length by omega), h58 _ hj]
  rw [valN_h r, valN_h d, ← hn]
  by_cases q : Wr d j ≤ Wr r j
  · rw [if_pos (nI_le q (by omega)), bI_f]
    intro z
    by_cases q2 : Wr d j = Wr r j
    · rw [hrn_c (g := Wr r) (g' := Wr d) r.length (fun i hi => by
        by_cases e : i = j
        · rw [e, q2]
        · exact he i (by omega))] at z
      omega
    · have := hrn_lt r.length g2 g1 j hj (fun i hi => (he i hi).symm) (by omega)
      omega
  · rw [if_neg (nI_ge (by omega) (by omega)), bI_t]
    exact hrn_lt r.length g1 g2 j hj he (by omega)
theorem ahead_41 {sg : Hp} {d r : List Nat} (hd : d.length ≤ 5) (hn : r.length = d.length) (hw : ∀ w ∈ d, w < 6) (hr : ∀ w ∈ r, w < 6) (hb : BRw sg d) (h58 : ∀ i, i < r.length → sg 58 i = nI (Wr r i)) : ∀ (k j m : Nat), j + k + 1 = r.length → (∀ i, i < j → Wr r i = Wr d i) → f_Mod_isAhead_41 (m + k + 1) sg (nI r.length) (nI j) = some (bI (valN r < valN d), sg) := by
  intro k
  induction k with
  | zero =>
    intro j m h he
    rw [f_Mod_isAhead_41, show r.length = (r.length - 1) + 1 by omega, nI_pred, if_pos (nI_le (by omega) (by omega))]
    exact ahead_69 hd hn hw hr hb h58 (by omega) he (Or.inl (by omega))
  | succ k ih =>
    intro j m h he
    have a1 := hw _ (Wr_mem (r := d) (i := j) (by omega))
    have a2 := hr _ (Wr_mem (r := r) (i := j) (by omega))
    have hp : nI r.length - 1 = nI (r.length - 1) := by
      have := nI_pred (r.length - 1)
      rw [show r.length - 1 + 1 = r.length by omega] at this
      exact this
    rw [show m + (k + 1) + 1 = (m + k + 1) + 1 by omega, f_Mod_isAhead_41, hp, if_neg (nI_ge (by omega) (by omega)), if_pos (ib (by omega) (by omega)), if_pos (ib (by omega) (by omega)), nI_clamp (by omega), hb _ (by omega), if_pos (show j < d.length by omega), h58 _ (by omega)]
    by_cases q : Wr r j = Wr d j
    · rw [if_pos (by rw [q]), nI_1]
      refine ih (j + 1) m (by omega) (fun i hi => ?_)
      by_cases e : i = j
      · rw [e, q]
      · exact he i (by omega)
    · rw [if_neg (by rw [nI_eq (by omega) (by omega)]; exact q)]
      exact ahead_69 hd hn hw hr hb h58 (by omega) he (Or.inr q)
theorem ahead_m {sg : Hp} {d r : List Nat} (hd : d.length ≤ 5) (hl : r.length ≤ 5) (hp : 0 < r.length) (hw : ∀ w ∈ d, w < 6) (hr : ∀ w ∈ r, w < 6) (hb : BRw sg d) (h58 : ∀ i, i < r.length → sg 58 i = nI (Wr r i)) : f_Mod_isAhead sg (nI r.length) = some (bI (keyN r < keyN d), sg) := by
  have v1 := (decN_key (r := r) (fun w h => by have := hr w h; omega) hl).2.2
  have v2 := (decN_key (r := d) (fun w h => by have := hw w h; omega) hd).2.2
  unfold f_Mod_isAhead
  obtain ⟨m, hm⟩ := LFx d.length (by omega)
  rw [hm, ← nI_0, ahead_2 hd hw hb _ d.length 0 m (by omega)]
  unfold f_Mod_isAhead_23 keyN
  by_cases q : r.length = d.length
  · rw [if_pos (by rw [q]), nI_0.symm]
    obtain ⟨m, hm⟩ := LFx (r.length - 1) (by omega)
    rw [hm, ahead_41 hd q hw hr hb h58 (r.length - 1) 0 m (by omega) (fun i hi => by omega)]
    rw [bI_c (show valN r < valN d ↔ 100000 * r.length + valN r < 100000 * d.length + valN d by omega)]
  · rw [if_neg (by rw [nI_eq (by omega) (by omega)]; exact q)]
    by_cases q2 : d.length ≤ r.length
    · rw [if_pos (nI_le q2 (by omega)), bI_f (by omega)]
    · rw [if_neg (nI_ge (by omega) (by omega)), bI_t (by omega)]
theorem keeps_77 {v : Int32} {r : List Nat} (hl : r.length ≤ 5) : ∀ (k j m : Nat) (sg : Hp), j + k = 5 → (∀ i, i < r.length → sg 58 i = nI (Wr r i)) → ∃ T, f_Mod_keeps_77 (m + k + 1) sg v (nI r.length) (nI j) = some T ∧ T 46 12 = v ∧ (∀ c, c ≠ 46 → c ≠ 57 → T c = sg c) ∧ (∀ i, i ≠ 12 → T 46 i = sg 46 i) ∧ ∀ i, T 57 i = if j ≤ i ∧ i < 5 then (if i < r.length then nI (Wr r i) else -1) else sg 57 i := by
  intro k
  induction k with
  | zero =>
    intro j m sg h h58
    rw [f_Mod_keeps_77, show (5 : Int32) = nI 5 from rfl, if_pos (nI_le (by omega) (by omega))]
    refine ⟨w2 sg 46 12 v, rfl, w2_at .., fun c c1 c2 => w2_cell _ c1, fun i hi => w2_slot _ hi, fun i => ?_⟩
    rw [w2_cell _ (by omega), if_neg (by omega)]
  | succ k ih =>
    intro j m sg h h58
    rw [show m + (k + 1) + 1 = (m + k + 1) + 1 by omega, f_Mod_keeps_77, show (5 : Int32) = nI 5 from rfl, if_neg (nI_ge (by omega) (by omega))]
    have st : ∀ u : Int32, u = (if j < r.length then nI (Wr r j) else -1) → ∃ T, f_Mod_keeps_106 (f_Mod_keeps_77 (m + k + 1)) sg v (nI r.length) (nI j) (nI j) u = some T ∧ T 46 12 = v ∧ (∀ c, c ≠ 46 → c ≠ 57 → T c = sg c) ∧ (∀ i, i ≠ 12 → T 46 i = sg 46 i) ∧ ∀ i, T 57 i = if j ≤ i ∧ i < 5 then (if i < r.length then nI (Wr r i) else -1) else sg 57 i := by
      intro u hu
      unfold f_Mod_keeps_106
      rw [if_pos (ib (by omega) (by omega)), Option.bind_some, nI_clamp (by omega), nI_1]
      obtain ⟨T, g1, g2, g3, g4, g5⟩ := ih (j + 1) m (w2 sg 57 j u) (by omega) (fun i hi => by rw [w2_cell _ (by omega)]; exact h58 i hi)
      refine ⟨T, g1, g2, fun c c1 c2 => by rw [g3 c c1 c2, w2_cell _ c2], fun i hi => by rw [g4 i hi, w2_cell _ (by omega)], fun i => ?_⟩
      rw [g5 i]
      by_cases e : i = j
      · rw [if_neg (by omega), if_pos (by omega), e, w2_at, hu]
      · rw [w2_ne (by omega)]
        by_cases h2 : j ≤ i ∧ i < 5
        · rw [if_pos h2, if_pos (by omega)]
        · rw [if_neg h2, if_neg (by omega)]
    by_cases q : r.length ≤ j
    · rw [if_pos (nI_le q (by omega))]
      exact st _ (by rw [if_neg (by omega)])
    · rw [if_neg (nI_ge (by omega) (by omega)), if_pos (ib (by omega) (by omega)), nI_clamp (by omega), h58 _ (by omega)]
      exact st _ (by rw [if_pos (by omega)])
theorem keeps_74 {v : Int32} {r : List Nat} (hl : r.length ≤ 5) (sg : Hp) (h58 : ∀ i, i < r.length → sg 58 i = nI (Wr r i)) : ∃ T, f_Mod_keeps_74 sg v (nI r.length) = some T ∧ T 46 12 = v ∧ T 46 13 = sg 46 13 ∧ BRw T r ∧ KF sg T := by
  unfold f_Mod_keeps_74
  obtain ⟨m, hm⟩ := LFx 5 (by omega)
  obtain ⟨T, g1, g2, g3, g4, g5⟩ := keeps_77 (v := v) hl 5 0 m sg (by omega) h58
  rw [nI_0] at g1
  rw [hm]
  exact ⟨T, g1, g2, g4 13 (by omega), fun k hk => by rw [g5 k, if_pos (by omega)], g3, fun k k1 _ => g4 k k1⟩
theorem keeps_n (sg : Hp) (x : Int32) : f_Mod_keeps sg (-1) x = some sg := by
  unfold f_Mod_keeps
  rw [if_pos rfl]
theorem keeps_m {sg : Hp} {x : Int × Int × Nat} {r : List Nat} {v : Int32} (hx : MXr sg x) (hr : ∀ w ∈ r, w < 6) (hp : 0 < r.length) (hl : r.length ≤ 5) (h58 : ∀ i, i < r.length → sg 58 i = nI (Wr r i)) (h0 : 0 ≤ v.toInt) (h1 : v.toInt ≤ 100000000) : ∃ sg', f_Mod_keeps sg v (nI r.length) = some sg' ∧ MXr sg' (if x.1 = -1 ∨ v.toInt < x.1 then (v.toInt, 1, keyN r) else if v.toInt = x.1 then (x.1, x.2.1 + 1, min x.2.2 (keyN r)) else x) ∧ KF sg sg' := by
  obtain ⟨x1, x2, x3, x4, d, d1, d2, d3, d4⟩ := id hx
  have t1 : (sg 46 12).toInt = x.1 := by rw [x1, iT (by omega) (by omega)]
  have m1 : (-1 : Int32).toInt = -1 := by decide
  have n10 : ¬ ((1 : Int32) = 0) := by decide
  have first : (x.1 = -1 ∨ v.toInt < x.1) → ∃ sg', f_Mod_keeps_38 sg v (nI r.length) = some sg' ∧ MXr sg' (if x.1 = -1 ∨ v.toInt < x.1 then (v.toInt, 1, keyN r) else if v.toInt = x.1 then (x.1, x.2.1 + 1, min x.2.2 (keyN r)) else x) ∧ KF sg sg' := by
    intro q
    rw [if_pos q]
    unfold f_Mod_keeps_38 f_Mod_keeps_43 f_Mod_keeps_59
    rw [if_neg n10, Option.bind_some, if_neg n10]
    obtain ⟨T, g1, g2, g3, g4, g5⟩ := keeps_74 (v := v) hl (w2 sg 46 13 1) (fun i hi => by rw [w2_cell _ (by omega)]; exact h58 i hi)
    have kf : KF sg (w2 sg 46 13 1) := ⟨fun c c1 c2 => w2_cell _ c1, fun k k1 k2 => w2_slot _ k2⟩
    refine ⟨T, g1, ⟨by rw [g2, iA], by simp only; omega, by simp only; omega, by rw [g3, w2_at]; rfl, r, rfl, hr, hl, g4⟩, kf.trans g5⟩
  unfold f_Mod_keeps
  rw [if_neg (by rw [nEq, m1]; omega)]
  by_cases q1 : x.1 = -1
  · have e1 : sg 46 12 = -1 := i_inj (by rw [t1, m1, q1])
    rw [if_pos e1]
    unfold f_Mod_keeps_22
    rw [if_pos e1]
    exact first (Or.inl q1)
  · have e1 : ¬ sg 46 12 = -1 := fun z => q1 (by rw [← t1, z, m1])
    rw [if_neg e1]
    by_cases q2 : v.toInt ≤ x.1
    · rw [if_pos (by rw [nLe, t1]; exact q2)]
      unfold f_Mod_keeps_22
      rw [if_neg e1]
      by_cases q3 : v.toInt = x.1
      · rw [if_pos (by rw [nLe, t1]; omega), if_neg (show ¬ (x.1 = -1 ∨ v.toInt < x.1) by omega), if_pos q3]
        unfold f_Mod_keeps_43 f_Mod_keeps_59
        rw [if_pos rfl, Option.bind_some, if_pos rfl]
        have kf : KF sg (w2 sg 46 13 (sg 46 13 + 1)) := ⟨fun c c1 c2 => w2_cell _ c1, fun k k1 k2 => w2_slot _ k2⟩
        have h58' : ∀ i, i < r.length → w2 sg 46 13 (sg 46 13 + 1) 58 i = nI (Wr r i) := fun i hi => by rw [w2_cell _ (by omega)]; exact h58 i hi
        rw [ahead_m d3 hl hp d2 hr (fun k hk => by rw [w2_cell _ (by omega)]; exact d4 k hk) h58', Option.bind_some]
        simp only []
        have tl : iI x.2.1 + 1 = iI (x.2.1 + 1) := iI_1 _
        by_cases q4 : keyN r < keyN d
        · rw [bI_t q4, if_neg n10]
          obtain ⟨T, g1, g2, g3, g4, g5⟩ := keeps_74 (v := v) hl (w2 sg 46 13 (sg 46 13 + 1)) h58'
          refine ⟨T, g1, ⟨by rw [g2, ← q3, iA], x2, x3, by rw [g3, w2_at, x4]; exact tl, r, by simp only; omega, hr, hl, g4⟩, kf.trans g5⟩
        · rw [bI_f q4, if_pos rfl]
          refine ⟨w2 (w2 sg 46 13 (sg 46 13 + 1)) 46 12 v, rfl, ⟨by rw [w2_at, ← q3, iA], x2, x3, by rw [w2_slot _ (by omega), w2_at, x4]; exact tl, d, by simp only; omega, d2, d3, fun k hk => by rw [w2_cell _ (by omega), w2_cell _ (by omega)]; exact d4 k hk⟩, fun c c1 c2 => by rw [w2_cell _ c1, w2_cell _ c1], fun k k1 k2 => by rw [w2_slot _ k1, w2_slot _ k2]⟩
      · rw [if_neg (show ¬ sg 46 12 ≤ v by rw [nLe, t1]; omega)]
        exact first (Or.inr (by omega))
    · rw [if_neg (by rw [nLe, t1]; exact q2), if_neg (show ¬ (x.1 = -1 ∨ v.toInt < x.1) by omega), if_neg (show ¬ v.toInt = x.1 by omega)]
      exact ⟨sg, rfl, hx, KF.refl sg⟩
