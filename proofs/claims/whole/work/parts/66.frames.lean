/-! WHAT QUESTIONS LEAVE AS IT WAS -/
def PC : List Nat := [0, 1, 2, 3, 4, 5, 6, 9, 10, 38, 39, 40, 41, 42, 43, 44, 45, 47, 48, 49, 51, 52, 53, 54]
def PF (n : Nat) (sg s : Hp) : Prop := Inv n s ∧ (∀ c, c ∈ PC → s c = sg c) ∧ s 46 4 = sg 46 4 ∧ s 46 9 = sg 46 9
theorem PF.refl {n : Nat} {sg : Hp} (h : Inv n sg) : PF n sg sg := ⟨h, fun _ _ => rfl, rfl, rfl⟩
theorem Inv.sc {n : Nat} {s s' : Hp} (h : Inv n s) (e : ∀ c, c ∈ PC → s' c = s c) (t : ∀ c, 25 ≤ c → c ≤ 28 → s' c = s c) (e4 : s' 46 4 = s 46 4) (e9 : s' 46 9 = s 46 9) : Inv n s' := by
  obtain ⟨h1, h2, h3, h5, h6⟩ := h
  exact ⟨h1.of (e 2 (by decide)) (e 3 (by decide)) (e 4 (by decide)) (e 5 (by decide)) (e 6 (by decide)) (e 51 (by decide)) (e 52 (by decide)) (e 53 (by decide)), h2.of (e 9 (by decide)) (e 10 (by decide)) e9 (e 54 (by decide)),
    h3.of (fun s hs => e (38 + s) (by have k : ∀ s, s < 8 → 38 + s ∈ PC := by decide
                                      exact k s hs)) (e 47 (by decide)) (e 48 (by decide)) (e 49 (by decide)), h5.of (by rw [e 0 (by decide)]) e4,
    h6.of (Nat.le_refl _) (by rw [e 1 (by decide)]) (e 2 (by decide)) (e 3 (by decide)) (e 4 (by decide)) (e 5 (by decide)) (e 6 (by decide)) (t 25 (by omega) (by omega)) (t 26 (by omega) (by omega)) (t 27 (by omega) (by omega)) (t 28 (by omega) (by omega))⟩
theorem PF.sc {n : Nat} {sg s s' : Hp} (h : PF n sg s) (e : ∀ c, c ∈ PC → s' c = s c) (t : ∀ c, 25 ≤ c → c ≤ 28 → s' c = s c) (e4 : s' 46 4 = s 46 4) (e9 : s' 46 9 = s 46 9) : PF n sg s' := ⟨h.1.sc e t e4 e9, fun c hc => by rw [e c hc, h.2.1 c hc], by rw [e4, h.2.2.1], by rw [e9, h.2.2.2]⟩
/-- cells that belong to no one but the call that runs: the class's -/
def CX (c : Nat) : Bool := c == 8 || (decide (11 ≤ c) && decide (c < 25)) || (decide (29 ≤ c) && decide (c < 38))
theorem PF.cx {n : Nat} {sg s s' : Hp} (h : PF n sg s) (e : ∀ c, CX c = false → s' c = s c) : PF n sg s' := h.sc (fun c hc => e c (by
    have k : ∀ c, c ∈ PC → CX c = false := by decide
    exact k c hc)) (fun c h1 h2 => e c (by
    rcases (by omega : c = 25 ∨ c = 26 ∨ c = 27 ∨ c = 28) with rfl | rfl | rfl | rfl <;> rfl)) (by rw [e 46 rfl]) (by rw [e 46 rfl])
/-- the reference's -/
theorem PF.mx {n : Nat} {sg s s' : Hp} (h : PF n sg s) (e : ∀ c, c ≠ 46 → c ≠ 50 → c < 55 → s' c = s c) (e4 : s' 46 4 = s 46 4) (e9 : s' 46 9 = s 46 9) : PF n sg s' := h.sc (fun c hc => by
    have k : ∀ c, c ∈ PC → c ≠ 46 ∧ c ≠ 50 ∧ c < 55 := by decide
    obtain ⟨k1, k2, k3⟩ := k c hc
    exact e c k1 k2 k3) (fun c h1 h2 => e c (by omega) (by omega) (by omega)) e4 e9
theorem PF.fs {n : Nat} {sg s T : Hp} (h : PF n sg s) (f : FS s T) : PF n sg T := h.mx (fun c c1 _ c2 => f.1 c c1 (Or.inl c2)) (f.2 4 (by omega) (by omega)) (f.2 9 (by omega) (by omega))
theorem PF.best {n : Nat} {sg s : Hp} (h : PF n sg s) (a b : Nat) : sBest s a b = sBest sg a b := sBest.of (h.2.1 2 (by decide)) (h.2.1 3 (by decide)) (h.2.1 4 (by decide)) (h.2.1 5 (by decide)) (h.2.1 6 (by decide)) a b
noncomputable def Dl (sg : Hp) (a b : Nat) : Int := (sBest sg a b).1
theorem look_d {n : Nat} {sg s : Hp} (h : PF n sg s) {a b : Nat} (ha : a < 8) (hb : b < 8) : ∃ s', f_Table_look s (nI a) (nI b) = some (nI (8 * a + b), s') ∧ PF n sg s' ∧ s' 25 (8 * a + b) = iI (Dl sg a b) ∧ s' 26 (8 * a + b) = iI (sBest sg a b).2.1 ∧ s' 27 (8 * a + b) = iI (packR (sBest sg a b).2.2) := by
  obtain ⟨s', e1, e2, ⟨e3, e4, e5⟩, e6⟩ := look_c h.1 ha hb
  rw [h.best] at e3 e4 e5
  refine ⟨s', e1, ⟨e2, fun c hc => ?_, ?_, ?_⟩, e3, e4, e5⟩
  · have k : ∀ c, c ∈ PC → c ∉ [11, 13, 15, 16, 18, 19, 20, 21, 22, 23, 25, 26, 27, 28] := by decide
    rw [e6 c (k c hc), h.2.1 c hc]
  · rw [e6 46 (by decide), h.2.2.1]
  · rw [e6 46 (by decide), h.2.2.2]
theorem Inv.me {n : Nat} {sg : Hp} (h : Inv n sg) {a b : Nat} (ha : a < 8) (hb : b < 8) : ME (sS sg) (sP sg a) (sP sg b) (sBar sg) a b sg := by
  obtain ⟨⟨g1, g2, g3⟩, -, g4, -, g5, -⟩ := h.1
  refine ⟨⟨by rw [g1]; rfl, by rw [g2]; rfl, by rw [g3]; rfl⟩, fun w hw => ?_, ⟨h.aw ha, ?_⟩, ⟨h.aw hb, ?_⟩⟩
  · rw [(g5 w hw).1]
    exact h.bars w hw
  · obtain ⟨q1, q2, q3⟩ := g4 a ha
    rw [q1, q2, q3]
    rfl
  · obtain ⟨q1, q2, q3⟩ := g4 b hb
    rw [q1, q2, q3]
    rfl
theorem short_d {n : Nat} {sg s : Hp} (h : PF n sg s) {a b : Nat} (ha : a < 8) (hb : b < 8) : ∃ T d, f_Mod_shortestOf s (nI a) (nI b) = some (iI (Dl sg a b), T) ∧ PF n sg T ∧ FS s T ∧ T 46 13 = iI (sBest sg a b).2.1 ∧ BRw T d ∧ (∀ w ∈ d, w < 6) ∧ d.length ≤ 5 ∧ (sBest sg a b).2.2 = d.reverse := by
  obtain ⟨T, t1, t2, t3⟩ := short_m h.1.sb ha hb (h.1.me ha hb)
  obtain ⟨u1, u2, u3⟩ := sBest_u s a b
  obtain ⟨-, -, -, x4, d, x5, x6, x7, x8⟩ := t2
  rw [h.best] at u1 u2 u3
  rw [← u1] at t1
  rw [← u2] at x4
  rw [← x5, (decN_key (fun w hw => Nat.lt_trans (x6 w hw) (by omega)) x7).1] at u3
  exact ⟨T, d, t1, h.fs t3, t3, x4, x8, x6, x7, u3⟩
theorem D_rng {n : Nat} {sg : Hp} (h : Inv n sg) {a b : Nat} (ha : a < 8) (hb : b < 8) : -1 ≤ Dl sg a b ∧ Dl sg a b ≤ 100000000 := by
  obtain ⟨T, -, t2, -⟩ := short_m h.sb ha hb (h.me ha hb)
  unfold Dl
  rw [(sBest_u sg a b).1]
  exact ⟨t2.2.1, t2.2.2.1⟩
/-- from a place to itself there is a way -/
theorem cand_pos {S : Nat → Int} {bar : Nat → Nat → Prop} {A B : Nat → Int} {st : Nat → Pose} : ∀ (L : List (List Nat)) (x : Int × Int × Nat), (x.1 = -1 ∨ 0 ≤ x.1) → (0 ≤ x.1 ∨ ∃ r ∈ L, wayR S bar A B st r) → 0 ≤ (L.foldl (cand S bar A B st) x).1 := by
  intro L
  induction L with
  | nil =>
    intro x _ h
    rcases h with h | ⟨r, hr, -⟩
    · exact h
    · simp at hr
  | cons r L ih =>
    intro x h0 h
    rw [List.foldl_cons]
    by_cases hw : wayR S bar A B st r
    · have hl := lenR_pos S A B st r
      have : 0 ≤ (cand S bar A B st x r).1 := by
        rw [cand_t hw]
        unfold cF
        split
        · exact hl
        · split
          · dsimp only; omega
          · omega
      exact ih _ (Or.inr this) (Or.inl this)
    · rw [cand_f hw]
      refine ih x h0 ?_
      rcases h with h | ⟨t, ht, h⟩
      · exact Or.inl h
      · rw [List.mem_cons] at ht
        rcases ht with ht | ht
        · subst ht; exact absurd h hw
        · exact Or.inr ⟨t, ht, h⟩
theorem one_in : ∀ w, w < 6 → [w] ∈ allRows := by decide +kernel
theorem D_self {n : Nat} {sg : Hp} (h : Inv n sg) {p : Nat} (hp : p < 8) : 0 ≤ Dl sg p p := by
  unfold Dl
  rw [(sBest_u sg p p).1]
  unfold bestK
  refine cand_pos _ _ (Or.inl rfl) (Or.inr ?_)
  have hb := h.1.2.2.2.1 p hp
  obtain ⟨-, -, -, -, -, -, hb⟩ := hb
  have hw : ∃ w, w < 6 ∧ sP sg p w = 0 := by
    unfold sP
    rcases hb with q | q | q | q | q | q
    · exact ⟨2, by omega, by simp [sA, q]⟩
    · exact ⟨3, by omega, by simp [sA, q]⟩
    · exact ⟨4, by omega, by simp [sA, q]⟩
    · exact ⟨5, by omega, by simp [sA, q]⟩
    · exact ⟨0, by omega, by simp [sA, q]⟩
    · exact ⟨1, by omega, by simp [sA, q]⟩
  obtain ⟨w, hw, e⟩ := hw
  exact ⟨[w], one_in w hw, e, e, fun i hi => by simp at hi⟩
/-- a question: it answers v, and leaves all as it was -/
def Q (n : Nat) (sg : Hp) (f : Hp → Option (Int32 × Hp)) (v : Int32) : Prop := ∀ s, PF n sg s → ∃ s', f s = some (v, s') ∧ PF n sg s'
theorem pair_q {n : Nat} {sg : Hp} {fB fM : Hp → Option (Int32 × Hp)} {v : Int32} (h : Inv n sg) (q1 : Q n sg fB v) (q2 : Q n sg fM v) : PairI fB fM n sg := by
  obtain ⟨s1, e1, p1⟩ := q1 sg (PF.refl h)
  obtain ⟨s2, e2, p2⟩ := q2 s1 p1
  exact ⟨v, s1, s2, e1, e2, p2.1.same⟩
theorem Q.eq {n : Nat} {sg : Hp} {f g : Hp → Option (Int32 × Hp)} {v : Int32} (h : ∀ s, f s = g s) (q : Q n sg g v) : Q n sg f v := fun s p => by rw [h]; exact q s p
theorem q_bad {n : Nat} {sg : Hp} {f : Hp → Option (Int32 × Hp)} {v : Int32} (h : ∀ s, f s = some (v, s)) : Q n sg f v := fun s p => ⟨s, h s, p⟩
theorem bid (o : Option (Int32 × Hp)) : (o.bind fun y => some (y.1, y.2)) = o := by cases o <;> rfl
theorem ix64 {a b : Nat} (ha : a < 8) (hb : b < 8) : inb (nI (8 * a + b)) 64 = true ∧ (nI (8 * a + b)).toNatClampNeg = 8 * a + b := ⟨ib (by omega) (by omega), nI_clamp (by omega)⟩
theorem pl8 {a : Nat} (ha : a < 8) : 0 ≤ (nI a).toInt ∧ (nI a).toInt ≤ 7 := by rw [nI_toInt (by omega)]; omega
theorem c_shortest {n : Nat} {sg : Hp} {a b : Nat} (ha : a < 8) (hb : b < 8) : Q n sg (fun s => f_Box_shortest s (nI a) (nI b)) (iI (Dl sg a b)) := by
  intro s p
  obtain ⟨s', e1, e2, e3, -, -⟩ := look_d p ha hb
  refine ⟨s', ?_, e2⟩
  unfold f_Box_shortest
  simp only [isPlace_c, Option.bind_some, if_b]; rw [if_pos (pl8 ha), if_pos (pl8 hb)]
  rw [e1, Option.bind_some]
  dsimp only
  rw [if_pos (ix64 ha hb).1, (ix64 ha hb).2, e3]
theorem c_ways {n : Nat} {sg : Hp} {a b : Nat} (ha : a < 8) (hb : b < 8) : Q n sg (fun s => f_Box_ways s (nI a) (nI b)) (iI (sBest sg a b).2.1) := by
  intro s p
  obtain ⟨s', e1, e2, -, e3, -⟩ := look_d p ha hb
  refine ⟨s', ?_, e2⟩
  unfold f_Box_ways
  simp only [isPlace_c, Option.bind_some, if_b]; rw [if_pos (pl8 ha), if_pos (pl8 hb)]
  rw [e1, Option.bind_some]
  dsimp only
  rw [if_pos (ix64 ha hb).1, (ix64 ha hb).2, e3]
theorem m_shortest {n : Nat} {sg : Hp} {a b : Nat} (ha : a < 8) (hb : b < 8) : Q n sg (fun s => f_Mod_shortestOf s (nI a) (nI b)) (iI (Dl sg a b)) := by
  intro s p
  obtain ⟨T, d, t1, t2, -⟩ := short_d p ha hb
  exact ⟨T, t1, t2⟩
theorem m_ways {n : Nat} {sg : Hp} {a b : Nat} (ha : a < 8) (hb : b < 8) : Q n sg (fun s => f_Mod_waysOf s (nI a) (nI b)) (iI (sBest sg a b).2.1) := by
  intro s p
  obtain ⟨T, d, t1, t2, -, t3, -⟩ := short_d p ha hb
  refine ⟨T, ?_, t2⟩
  show f_Mod_waysOf s (nI a) (nI b) = _
  unfold f_Mod_waysOf
  rw [t1, Option.bind_some]
  simp only [t3]
/-- the walls of a row that is told as one number -/
theorem pk_dig : ∀ (d : List Nat) (i : Nat), (∀ w ∈ d, w < 6) → pkN d / 8 ^ i % 8 = if i < d.length then Wr d i + 1 else 0 := by
  intro d
  induction d with
  | nil =>
    intro i _
    simp [pkN]
  | cons w r ih =>
    intro i h
    have hw := h w (List.mem_cons_self ..)
    have hr := fun v hv => h v (List.mem_cons_of_mem w hv)
    have hlt := pkN_lt r hr
    rw [pkN]
    have hp : 0 < 8 ^ i := Nat.pow_pos (by omega)
    rcases Nat.lt_trichotomy i r.length with q | q | q
    · have e : 8 ^ r.length = 8 ^ i * (8 * 8 ^ (r.length - i - 1)) := by
        rw [← Nat.pow_succ', ← Nat.pow_add]
        congr 1
        omega
      rw [if_pos (by simp only [List.length_cons]; omega), Wr_cons q, e, ← Nat.mul_assoc, Nat.mul_comm (w + 1), Nat.mul_assoc, Nat.add_mul_div_left _ _ hp, Nat.mul_comm (w + 1), Nat.mul_assoc, Nat.add_mul_mod_self_left, ih i hr, if_pos q]
    · subst q
      rw [if_pos (by simp only [List.length_cons]; omega), Wr_top, Nat.mul_comm (w + 1), Nat.add_mul_div_left _ _ hp, Nat.div_eq_of_lt hlt]
      omega
    · rw [if_neg (by simp only [List.length_cons]; omega)]
      have h2 := pkN_lt (w :: r) h
      rw [pkN, List.length_cons] at h2
      have h3 : 8 ^ (r.length + 1) ≤ 8 ^ i := Nat.pow_le_pow_right (by omega) (by omega)
      rw [Nat.div_eq_of_lt (by omega)]
theorem sh3 : ∀ i, i < 5 → ((((3 : Int32) * nI i) &&& 31).toBitVec.smod 32).toNat = 3 * i := by decide +kernel
theorem shr_pk {p i : Nat} (hi : i < 5) (hp : p < 32768) : ((nI p >>> (((3 : Int32) * nI i) &&& 31)) &&& (7 : Int32)) = nI (p / 8 ^ i % 8) := by
  apply Int32.toBitVec_inj.mp
  rw [Int32.toBitVec_and, Int32.toBitVec_shiftRight, BitVec.sshiftRight_eq', sh3 i hi]
  unfold nI
  rw [Int32.toBitVec_ofNat', Int32.toBitVec_ofNat']
  have hm : (BitVec.ofNat 32 p).msb = false := by
    rw [BitVec.msb_eq_false_iff_two_mul_lt, BitVec.toNat_ofNat]
    omega
  rw [BitVec.sshiftRight_eq_of_msb_false hm]
  apply BitVec.eq_of_toNat_eq
  rw [BitVec.toNat_and, BitVec.toNat_ushiftRight, BitVec.toNat_ofNat, BitVec.toNat_ofNat, Nat.mod_eq_of_lt (show p < 2 ^ 32 by omega), show (7 : Int32).toBitVec.toNat = 2 ^ 3 - 1 from rfl, Nat.and_two_pow_sub_one_eq_mod, Nat.shiftRight_eq_div_pow, Nat.pow_mul, show (2 : Nat) ^ 3 = 8 from rfl, Nat.mod_eq_of_lt (show p / 8 ^ i % 8 < 2 ^ 32 by omega)]
theorem wall_pk {d : List Nat} (hw : ∀ w ∈ d, w < 6) (hl : d.length ≤ 5) {i : Nat} (hi : i < 5) : ((nI (pkN d) >>> (((3 : Int32) * nI i) &&& 31)) &&& (7 : Int32)) - 1 = if i < d.length then nI (Wr d i) else -1 := by
  have hp : pkN d < 32768 := Nat.lt_of_lt_of_le (pkN_lt d hw) (Nat.pow_le_pow_right (n := 8) (j := 5) (by omega) hl)
  rw [shr_pk hi hp, pk_dig d i hw]
  by_cases q : i < d.length
  · rw [if_pos q, if_pos q]
    have := hw _ (Wr_mem q)
    generalize Wr d i = v at *
    have k : ∀ v, v < 6 → nI (v + 1) - 1 = nI v := by decide +kernel
    exact k v this
  · rw [if_neg q, if_neg q]
    rfl
theorem face_v {n : Nat} {sg : Hp} (h : Inv n sg) {a b i : Nat} (ha : a < 8) (hb : b < 8) (hi : i < 5) : ∃ v, Q n sg (fun s => f_Box_face s (nI a) (nI b) (nI i)) v ∧ Q n sg (fun s => f_Mod_faceOf s (nI a) (nI b) (nI i)) v := by
  obtain ⟨-, d0, -, -, -, -, -, w0, l0, e0⟩ := short_d (PF.refl h) ha hb
  refine ⟨if i < d0.length then nI (Wr d0 i) else -1, fun s p => ?_, fun s p => ?_⟩
  · obtain ⟨s', e1, e2, -, -, e3⟩ := look_d p ha hb
    refine ⟨s', ?_, e2⟩
    show f_Box_face s (nI a) (nI b) (nI i) = _
    unfold f_Box_face f_Search_wallInRow
    simp only [isPlace_c, Option.bind_some, if_b]; rw [if_pos (pl8 ha), if_pos (pl8 hb)]
    rw [if_neg (nI_pos (by omega)), if_pos (by rw [show (5 : Int32) = nI 5 from rfl]; exact nI_lt (by omega) (by omega)), e1, Option.bind_some]
    dsimp only
    rw [if_pos (ix64 ha hb).1, (ix64 ha hb).2, e3, e0, packR_pk, iI_n, wall_pk w0 l0 hi]
  · obtain ⟨T, d, t1, t2, -, -, t4, t5, t6, t7⟩ := short_d p ha hb
    have : d = d0 := by rw [← List.reverse_inj, ← t7, e0]
    subst this
    refine ⟨T, ?_, t2⟩
    show f_Mod_faceOf s (nI a) (nI b) (nI i) = _
    unfold f_Mod_faceOf
    rw [t1, Option.bind_some, if_pos (ib hi (by omega)), nI_clamp (by omega)]
    dsimp only
    rw [t4 i hi]
theorem k_shortest : K_shortest := by
  intro n sg h hn a1 a2
  by_cases c1 : 0 ≤ a1.toInt ∧ a1.toInt ≤ 7
  · by_cases c2 : 0 ≤ a2.toInt ∧ a2.toInt ≤ 7
    · obtain ⟨a, ha, rfl⟩ := nI_ex (n := 7) c1 (by omega)
      obtain ⟨b, hb, rfl⟩ := nI_ex (n := 7) c2 (by omega)
      refine pair_q h (c_shortest (by omega) (by omega)) (Q.eq (fun s => ?_) (m_shortest (by omega) (by omega)))
      unfold f_Mod_shortest
      simp only [isPlace_m, Option.bind_some, if_b, bid]; rw [if_pos c1, if_pos c2]
    · exact pair_q h (q_bad (v := -2) (fun s => by unfold f_Box_shortest; simp only [isPlace_c, Option.bind_some, if_b]; rw [if_pos c1, if_neg c2])) (q_bad (fun s => by unfold f_Mod_shortest; simp only [isPlace_m, Option.bind_some, if_b]; rw [if_pos c1, if_neg c2]))
  · exact pair_q h (q_bad (v := -2) (fun s => by unfold f_Box_shortest; simp only [isPlace_c, Option.bind_some, if_b]; rw [if_neg c1])) (q_bad (fun s => by unfold f_Mod_shortest; simp only [isPlace_m, Option.bind_some, if_b]; rw [if_neg c1]))
theorem k_ways : K_ways := by
  intro n sg h hn a1 a2
  by_cases c1 : 0 ≤ a1.toInt ∧ a1.toInt ≤ 7
  · by_cases c2 : 0 ≤ a2.toInt ∧ a2.toInt ≤ 7
    · obtain ⟨a, ha, rfl⟩ := nI_ex (n := 7) c1 (by omega)
      obtain ⟨b, hb, rfl⟩ := nI_ex (n := 7) c2 (by omega)
      refine pair_q h (c_ways (by omega) (by omega)) (Q.eq (fun s => ?_) (m_ways (by omega) (by omega)))
      unfold f_Mod_ways
      simp only [isPlace_m, Option.bind_some, if_b, bid]; rw [if_pos c1, if_pos c2]
    · exact pair_q h (q_bad (v := -2) (fun s => by unfold f_Box_ways; simp only [isPlace_c, Option.bind_some, if_b]; rw [if_pos c1, if_neg c2])) (q_bad (fun s => by unfold f_Mod_ways; simp only [isPlace_m, Option.bind_some, if_b]; rw [if_pos c1, if_neg c2]))
  · exact pair_q h (q_bad (v := -2) (fun s => by unfold f_Box_ways; simp only [isPlace_c, Option.bind_some, if_b]; rw [if_neg c1])) (q_bad (fun s => by unfold f_Mod_ways; simp only [isPlace_m, Option.bind_some, if_b]; rw [if_neg c1]))
theorem k_face : K_face := by
  intro n sg h hn a1 a2 a3
  by_cases c1 : 0 ≤ a1.toInt ∧ a1.toInt ≤ 7
  · by_cases c2 : 0 ≤ a2.toInt ∧ a2.toInt ≤ 7
    · by_cases c3 : 0 ≤ a3.toInt ∧ a3.toInt ≤ 4
      · obtain ⟨a, ha, rfl⟩ := nI_ex (n := 7) c1 (by omega)
        obtain ⟨b, hb, rfl⟩ := nI_ex (n := 7) c2 (by omega)
        obtain ⟨i, hi, rfl⟩ := nI_ex (n := 4) c3 (by omega)
        obtain ⟨v, q1, q2⟩ := face_v h (show a < 8 by omega) (show b < 8 by omega) (show i < 5 by omega)
        refine pair_q h q1 (Q.eq (fun s => ?_) q2)
        unfold f_Mod_face
        simp only [isPlace_m, Option.bind_some, if_b, bid, in_i _ (0 : Int64) (4 : Int64) (a := 0) (b := 4) rfl rfl]; rw [if_pos c1, if_pos c2, if_pos c3]
      · refine pair_q h (q_bad (v := -2) (fun s => ?_)) (q_bad (fun s => ?_))
        · unfold f_Box_face
          simp only [isPlace_c, Option.bind_some, if_b, nLt, Int32.reduceToInt]; rw [if_pos c1, if_pos c2]
          by_cases c4 : a3.toInt < 0
          · rw [if_pos c4]
          · rw [if_neg c4, if_neg (by omega)]
        · unfold f_Mod_face
          simp only [isPlace_m, Option.bind_some, if_b, in_i _ (0 : Int64) (4 : Int64) (a := 0) (b := 4) rfl rfl]; rw [if_pos c1, if_pos c2, if_neg c3]
    · exact pair_q h (q_bad (v := -2) (fun s => by unfold f_Box_face; simp only [isPlace_c, Option.bind_some, if_b]; rw [if_pos c1, if_neg c2])) (q_bad (fun s => by unfold f_Mod_face; simp only [isPlace_m, Option.bind_some, if_b]; rw [if_pos c1, if_neg c2]))
  · exact pair_q h (q_bad (v := -2) (fun s => by unfold f_Box_face; simp only [isPlace_c, Option.bind_some, if_b]; rw [if_neg c1])) (q_bad (fun s => by unfold f_Mod_face; simp only [isPlace_m, Option.bind_some, if_b]; rw [if_neg c1]))
