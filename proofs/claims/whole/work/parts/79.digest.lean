/-! DIGEST -/
def QL (n : Nat) (sg : Hp) (F F' : Hp → Option (Int64 × Hp)) : Prop := ∃ v, (∀ s, PF n sg s → ∃ s', F s = some (v, s') ∧ PF n sg s') ∧ ∀ s, PF n sg s → ∃ s', F' s = some (v, s') ∧ PF n sg s'
theorem QL.bind {n : Nat} {sg : Hp} {f f' : Hp → Option (Int32 × Hp)} {v : Int32} {K K' : Int32 × Hp → Option (Int64 × Hp)} (a : Q n sg f v) (b : Q n sg f' v) (k : QL n sg (fun s => K (v, s)) (fun s => K' (v, s))) : QL n sg (fun s => (f s).bind K) (fun s => (f' s).bind K') := by
  obtain ⟨w, c, d⟩ := k
  refine ⟨w, fun s p => ?_, fun s p => ?_⟩
  · obtain ⟨s1, e1, p1⟩ := a s p
    obtain ⟨s2, e2, p2⟩ := c s1 p1
    refine ⟨s2, ?_, p2⟩
    show (f s).bind K = _
    rw [e1, Option.bind_some]
    exact e2
  · obtain ⟨s1, e1, p1⟩ := b s p
    obtain ⟨s2, e2, p2⟩ := d s1 p1
    refine ⟨s2, ?_, p2⟩
    show (f' s).bind K' = _
    rw [e1, Option.bind_some]
    exact e2
theorem QL.ret {n : Nat} {sg : Hp} (v : Int64) : QL n sg (fun s => some (v, s)) (fun s => some (v, s)) := ⟨v, fun s p => ⟨s, rfl, p⟩, fun s p => ⟨s, rfl, p⟩⟩
theorem QL.eq {n : Nat} {sg : Hp} {F F' G G' : Hp → Option (Int64 × Hp)} (h1 : ∀ s, F s = G s) (h2 : ∀ s, F' s = G' s) (q : QL n sg G G') : QL n sg F F' := by
  obtain ⟨v, a, b⟩ := q
  exact ⟨v, fun s p => by rw [h1]; exact a s p, fun s p => by rw [h2]; exact b s p⟩
theorem d_212 {n : Nat} {sg : Hp} (h : Inv n sg) : ∀ (q j m m' : Nat) (l : Int64), j + q = 5 → QL n sg (fun s => f_Box_digest_212 (m + q + 1) s l (nI (nv sg)) (nI j)) (fun s => f_Mod_digest_209 (m' + q + 1) s l (nI (nv sg)) (nI j)) := by
  intro q
  induction q with
  | zero =>
    intro j m m' l hj
    obtain ⟨M, m1, m2, m3⟩ := Xs_M (Wt sg 255)
    refine QL.eq (fun s => by rw [f_Box_digest_212, if_pos (by rw [show (4 : Int32) = nI 4 from rfl]; exact nI_lt (by omega) (by omega))]) (fun s => by rw [f_Mod_digest_209, if_pos (by rw [show (5 : Int32) = nI 5 from rfl]; exact nI_le (by omega) (by omega))]) ?_
    refine QL.bind (c_sit h) (m_sit h) ?_
    dsimp only
    refine QL.bind (f := fun s => f_Box_nearer s 0 1) (f' := fun s => f_Mod_nearerOf s 0 1) (c_nearer h (a := 0) (b := 1) (by omega) (by omega) (by omega)) (m_nearer h (a := 0) (b := 1) (by omega) (by omega)) ?_
    dsimp only
    refine QL.bind (f := fun s => f_Box_wires s 255 (-1)) (f' := fun s => f_Mod_wiresOf s 255 (-1)) (c_wires h (pp := 255) (x2 := -1) (by omega) m1 m2 m3 (by decide)) (m_wires h (pp := 255) (x2 := -1) (by omega) m1 m2 m3 (by decide)) ?_
    dsimp only
    refine QL.bind (f := fun s => f_Box_wires s 255 (-2)) (f' := fun s => f_Mod_wiresOf s 255 (-2)) (c_wires h (pp := 255) (x2 := -2) (by omega) m1 m2 m3 (by decide)) (m_wires h (pp := 255) (x2 := -2) (by omega) m1 m2 m3 (by decide)) ?_
    dsimp only
    refine QL.bind (f := fun s => f_Box_wires s 255 (0)) (f' := fun s => f_Mod_wiresOf s 255 (0)) (c_wires h (pp := 255) (x2 := 0) (by omega) m1 m2 m3 (by decide)) (m_wires h (pp := 255) (x2 := 0) (by omega) m1 m2 m3 (by decide)) ?_
    dsimp only
    refine QL.bind (f := fun s => f_Box_told s 0 0 1 (nI (nv sg))) (f' := fun s => f_Mod_toldOf s 0 0 1 (nI (nv sg))) (c_told (n := n) (sg := sg) (a := 0) (i := 0) (b := 1) (k := nv sg) (by omega) (by omega) (by omega) (Nat.le_refl _)) (m_told (a := 0) (i := 0) (b := 1) (k := nv sg) (by omega) (by omega) (by omega) (Nat.le_refl _)) ?_
    dsimp only
    refine QL.bind (f := fun s => f_Box_snail s 2 1 5 0) (f' := fun s => f_Mod_snailOf s 2 1 5 0) (c_snail (n := n) (sg := sg) (x1 := 2) (x2 := 1) (by decide) (by decide) (by decide) (K := 5) (wh := 0) (by omega) (by omega)) (m_snail (x1 := 2) (x2 := 1) (by decide) (by decide) (by decide) (K := 5) (wh := 0) (by omega) (by omega)) ?_
    dsimp only
    refine QL.bind (f := fun s => f_Box_snail s 3 (-2) 8 1) (f' := fun s => f_Mod_snailOf s 3 (-2) 8 1) (c_snail (n := n) (sg := sg) (x1 := 3) (x2 := -2) (by decide) (by decide) (by decide) (K := 8) (wh := 1) (by omega) (by omega)) (m_snail (x1 := 3) (x2 := -2) (by decide) (by decide) (by decide) (K := 8) (wh := 1) (by omega) (by omega)) ?_
    dsimp only
    refine QL.bind (f := fun s => f_Box_thread s 0 1 100 0) (f' := fun s => f_Mod_threadOf s 0 1 100 0) (c_thread (n := n) (sg := sg) (a := 0) (b := 1) (w := 0) (x := 100) (by omega) (by omega) (by omega) (by decide)) (m_thread (a := 0) (b := 1) (w := 0) (x := 100) (by omega) (by omega) (by omega) (by decide)) ?_
    dsimp only
    refine QL.bind (f := fun s => f_Box_flies s 0 7 20 300) (f' := fun s => f_Mod_fliesOf s 0 7 20 300) (c_flies h (a := 0) (N := 20) (by omega) (by omega) 7 (y := 300) (by decide)) (m_flies h (a := 0) (N := 20) (by omega) (by omega) 7 300) ?_
    dsimp only
    exact QL.ret _
  | succ q ih =>
    intro j m m' l hj
    refine QL.eq (fun s => by rw [show m + (q + 1) + 1 = (m + q + 1) + 1 by omega, f_Box_digest_212, if_neg (by rw [show (4 : Int32) = nI 4 from rfl]; exact nI_nlt (by omega) (by omega)), nI_1 j]) (fun s => by rw [show m' + (q + 1) + 1 = (m' + q + 1) + 1 by omega, f_Mod_digest_209, if_neg (by rw [show (5 : Int32) = nI 5 from rfl]; exact nI_ge (by omega) (by omega)), nI_1 j]) ?_
    refine QL.bind (c_laidOut (n := n) (sg := sg) (k := nv sg) (w := j) (Nat.le_refl _) (by omega)) (m_laidOut (Nat.le_refl _) (by omega)) ?_
    dsimp only
    exact ih (j + 1) m m' _ (by omega)
theorem d_122 {n : Nat} {sg : Hp} (h : Inv n sg) {p : Nat} (hp : p < 8) {kB kM : Hp → Int64 → Int32 → Option (Int64 × Hp)} (hk : ∀ l, QL n sg (fun s => kB s l (nI (p + 1))) (fun s => kM s l (nI (p + 1)))) : ∀ (q j m m' : Nat) (l : Int64), j + q = 3 → QL n sg (fun s => f_Box_digest_122 kB (m + q + 1) s l (nI p) (nI ((p + 1) % 8)) (nI j)) (fun s => f_Mod_digest_122 kM (m' + q + 1) s l (nI p) (nI ((p + 1) % 8)) (nI j)) := by
  intro q
  induction q with
  | zero =>
    intro j m m' l hj
    refine QL.eq (fun s => by rw [f_Box_digest_122, if_pos (by rw [show (2 : Int32) = nI 2 from rfl]; exact nI_lt (by omega) (by omega)), nI_1 p]) (fun s => by rw [f_Mod_digest_122, if_pos (by rw [show (3 : Int32) = nI 3 from rfl]; exact nI_le (by omega) (by omega)), nI_1 p]) ?_
    refine QL.bind (c_farthest h hp) (m_farthest h hp) ?_
    dsimp only
    refine QL.bind (c_within h hp (y := 200) (by decide)) (m_within h hp 200) ?_
    dsimp only
    refine QL.bind (f := fun s => f_Box_lies s (nI p) 0 0) (f' := fun s => f_Mod_liesOf s (nI p) 0 0) (c_lies (n := n) (sg := sg) (p := p) (k := 0) (w := 0) hp (Nat.zero_le _) (by omega)) (m_lies (p := p) (k := 0) (w := 0) hp (Nat.zero_le _) (by omega)) ?_
    dsimp only
    exact hk _
  | succ q ih =>
    intro j m m' l hj
    obtain ⟨v, q1, q2⟩ := face_v h hp (show (p + 1) % 8 < 8 by omega) (show j < 5 by omega)
    refine QL.eq (fun s => by rw [show m + (q + 1) + 1 = (m + q + 1) + 1 by omega, f_Box_digest_122, if_neg (by rw [show (2 : Int32) = nI 2 from rfl]; exact nI_nlt (by omega) (by omega)), nI_1 j]) (fun s => by rw [show m' + (q + 1) + 1 = (m' + q + 1) + 1 by omega, f_Mod_digest_122, if_neg (by rw [show (3 : Int32) = nI 3 from rfl]; exact nI_ge (by omega) (by omega)), nI_1 j]) ?_
    refine QL.bind q1 q2 ?_
    dsimp only
    exact ih (j + 1) m m' _ (by omega)
theorem d_62 {n : Nat} {sg : Hp} (h : Inv n sg) {p : Nat} (hp : p < 8) {kB kM : Hp → Int64 → Int32 → Option (Int64 × Hp)} (hk : ∀ l, QL n sg (fun s => kB s l (nI (p + 1))) (fun s => kM s l (nI (p + 1)))) : ∀ (q j m m' : Nat) (l : Int64), j + q = 4 → QL n sg (fun s => f_Box_digest_62 kB (m + q + 1) s l (nI p) (nI ((p + 1) % 8)) (nI j)) (fun s => f_Mod_digest_62 kM (m' + q + 1) s l (nI p) (nI ((p + 1) % 8)) (nI j)) := by
  intro q
  induction q with
  | zero =>
    intro j m m' l hj
    refine QL.eq (fun s => by rw [f_Box_digest_62, if_pos (by rw [show (3 : Int32) = nI 3 from rfl]; exact nI_lt (by omega) (by omega))]) (fun s => by rw [f_Mod_digest_62, if_pos (by rw [show (4 : Int32) = nI 4 from rfl]; exact nI_le (by omega) (by omega))]) ?_
    refine QL.bind (c_shortest (n := n) (sg := sg) hp (show (p + 1) % 8 < 8 by omega)) (m_shortest hp (show (p + 1) % 8 < 8 by omega)) ?_
    dsimp only
    refine QL.bind (c_ways (n := n) (sg := sg) hp (show (p + 1) % 8 < 8 by omega)) (m_ways hp (show (p + 1) % 8 < 8 by omega)) ?_
    dsimp only
    obtain ⟨m3, hm3⟩ := LFx 3 (by omega)
    have key := fun l => d_122 h hp hk 3 0 m3 m3 l (by omega)
    rw [← hm3, nI_0] at key
    exact key _
  | succ q ih =>
    intro j m m' l hj
    refine QL.eq (fun s => by rw [show m + (q + 1) + 1 = (m + q + 1) + 1 by omega, f_Box_digest_62, if_neg (by rw [show (3 : Int32) = nI 3 from rfl]; exact nI_nlt (by omega) (by omega)), nI_1 j]) (fun s => by rw [show m' + (q + 1) + 1 = (m' + q + 1) + 1 by omega, f_Mod_digest_62, if_neg (by rw [show (4 : Int32) = nI 4 from rfl]; exact nI_ge (by omega) (by omega)), nI_1 j]) ?_
    refine QL.bind (c_at (n := n) (sg := sg) hp (show j < 4 by omega)) (m_at hp (show j < 4 by omega)) ?_
    dsimp only
    exact ih (j + 1) m m' _ (by omega)
theorem q_rolls {n : Nat} {sg : Hp} : Q n sg (fun s => f_Rolls_valid s) (nI (nv sg)) ∧ Q n sg (fun s => f_Mod_rolls s) (nI (nv sg)) := ⟨fun s p => ⟨s, p.eN.1, p⟩, fun s p => ⟨s, p.eN.2, p⟩⟩
theorem q_fault {n : Nat} {sg : Hp} : Q n sg (fun s => f_Box_fault s) (iI (fv sg)) ∧ Q n sg (fun s => f_Mod_fault s) (iI (fv sg)) := by
  have e : ∀ s, PF n sg s → fv s = fv sg := fun s p => by unfold fv; rw [p.2.1 9 (by decide), p.2.1 10 (by decide)]
  refine ⟨fun s p => ⟨s, ?_, p⟩, fun s p => ⟨s, ?_, p⟩⟩
  · show f_Box_fault s = _
    unfold f_Box_fault
    rw [first_c p.1.2.1, e s p]
    rfl
  · show f_Mod_fault s = _
    rw [first_m p.1.2.1 rfl rfl, e s p]
theorem d_45 {n : Nat} {sg : Hp} (h : Inv n sg) : ∀ (q p m m' : Nat) (l : Int64), p + q = 8 → QL n sg (fun s => f_Box_digest_45 (m + q + 1) s l (nI p)) (fun s => f_Mod_digest_45 (m' + q + 1) s l (nI p)) := by
  intro q
  induction q with
  | zero =>
    intro p m m' l hp
    refine QL.eq (fun s => by rw [f_Box_digest_45, if_pos (le8 (by omega) (by omega))]) (fun s => by rw [f_Mod_digest_45, if_pos (le8 (by omega) (by omega))]) ?_
    refine QL.bind q_rolls.1 q_rolls.2 ?_
    dsimp only
    obtain ⟨m5, hm5⟩ := LFx 5 (by omega)
    have key := d_212 h 5 0 m5 m5 l (by omega)
    rw [← hm5, nI_0] at key
    exact key
  | succ q ih =>
    intro p m m' l hp
    obtain ⟨m4, hm4⟩ := LFx 4 (by omega)
    have key := d_62 h (show p < 8 by omega) (kB := f_Box_digest_45 (m + q + 1)) (kM := f_Mod_digest_45 (m' + q + 1)) (fun l => ih (p + 1) m m' l (by omega)) 4 0 m4 m4 l (by omega)
    rw [← hm4, nI_0] at key
    refine QL.eq (fun s => ?_) (fun s => ?_) key
    · rw [show m + (q + 1) + 1 = (m + q + 1) + 1 by omega, f_Box_digest_45, if_neg (nle8 (by omega)), nI_1 p, rem8 (by omega)]
    · rw [show m' + (q + 1) + 1 = (m' + q + 1) + 1 by omega, f_Mod_digest_45, if_neg (nle8 (by omega)), nI_1 p, rem8 (by omega)]
theorem d_6 {n : Nat} {sg : Hp} (h : Inv n sg) : ∀ (q j m m' : Nat) (l : Int64), j + q = 8 → QL n sg (fun s => f_Box_digest_6 (m + q + 1) s l (nI j)) (fun s => f_Mod_digest_6 (m' + q + 1) s l (nI j)) := by
  intro q
  induction q with
  | zero =>
    intro j m m' l hj
    refine QL.eq (fun s => by rw [f_Box_digest_6, if_pos (by rw [show (7 : Int32) = nI 7 from rfl]; exact nI_lt (by omega) (by omega))]) (fun s => by rw [f_Mod_digest_6, if_pos (le8 (by omega) (by omega))]) ?_
    refine QL.bind q_fault.1 q_fault.2 ?_
    dsimp only
    obtain ⟨m8, hm8⟩ := LFx 8 (by omega)
    have key := fun l => d_45 h 8 0 m8 m8 l (by omega)
    rw [← hm8, nI_0] at key
    exact key _
  | succ q ih =>
    intro j m m' l hj
    obtain ⟨v, q1, q2⟩ := count_v h (nI j)
    refine QL.eq (fun s => by rw [show m + (q + 1) + 1 = (m + q + 1) + 1 by omega, f_Box_digest_6, if_neg (by rw [show (7 : Int32) = nI 7 from rfl]; exact nI_nlt (by omega) (by omega)), nI_1 j]) (fun s => by rw [show m' + (q + 1) + 1 = (m' + q + 1) + 1 by omega, f_Mod_digest_6, if_neg (nle8 (by omega)), nI_1 j]) ?_
    refine QL.bind q1 q2 ?_
    dsimp only
    exact ih (j + 1) m m' _ (by omega)
theorem k_digest : K_digest := by
  intro n sg h hn
  obtain ⟨m8, hm8⟩ := LFx 8 (by omega)
  have key := d_6 h 8 0 m8 m8 17 (by omega)
  rw [← hm8, nI_0] at key
  obtain ⟨v, a, b⟩ := key
  obtain ⟨s1, e1, p1⟩ := a sg (PF.refl h)
  obtain ⟨s2, e2, p2⟩ := b s1 p1
  exact ⟨v, s1, s2, e1, e2, p2.1.same⟩
