/-! THE CLASS'S SEARCH: weighing a row -/
theorem rt17 : ∀ i, i < 5 → rt 17 i = 19 + i := by decide
def pkN : List Nat → Nat
  | [] => 0
  | w :: r => pkN r + (w + 1) * 8 ^ r.length
theorem packR_app : ∀ (l : List Nat) (w : Nat), packR (l ++ [w]) = packR l + (w + 1) * 8 ^ l.length := by
  intro l
  induction l with
  | nil => intro w; simp [packR]
  | cons v l ih =>
    intro w
    simp only [List.cons_append, packR, ih, List.length_cons, Int.pow_succ]
    have : 8 * ((w + 1 : Int) * 8 ^ l.length) = (w + 1 : Int) * (8 ^ l.length * 8) := by
      rw [Int.mul_comm 8, Int.mul_assoc]
    rw [Int.mul_add]
    omega
theorem packR_pk : ∀ r : List Nat, packR r.reverse = (pkN r : Int) := by
  intro r
  induction r with
  | nil => rfl
  | cons w r ih =>
    rw [List.reverse_cons, packR_app, ih, pkN, List.length_reverse]
    simp
theorem pkN_lt : ∀ r : List Nat, (∀ w ∈ r, w < 6) → pkN r < 8 ^ r.length := by
  intro r
  induction r with
  | nil => intro _; decide
  | cons w r ih =>
    intro h
    have a := ih (fun v hv => h v (List.mem_cons_of_mem _ hv))
    have hw := h w (List.mem_cons_self ..)
    have b : (w + 1) * 8 ^ r.length ≤ 6 * 8 ^ r.length := Nat.mul_le_mul_right _ (by omega)
    rw [pkN, List.length_cons, Nat.pow_succ]
    omega
theorem nI_or (a b : Nat) : nI a ||| nI b = nI (a ||| b) := Int32.toBitVec_inj.mp (by unfold nI; rw [Int32.toBitVec_or, Int32.toBitVec_ofNat', Int32.toBitVec_ofNat', Int32.toBitVec_ofNat', BitVec.ofNat_or])
theorem sh_pk : ∀ i, i < 5 → ∀ w, w < 6 → (nI w + (1 : Int32)) <<< (((3 : Int32) * nI i) &&& 31) = nI ((w + 1) * 8 ^ i) := by decide +kernel
theorem or_pk {p i w : Nat} (h : p < 8 ^ i) : p ||| ((w + 1) * 8 ^ i) = p + (w + 1) * 8 ^ i := by
  have e : (8 : Nat) ^ i = 2 ^ (3 * i) := by rw [Nat.pow_mul]
  rw [e] at h ⊢
  have := Nat.shiftLeft_add_eq_or_of_lt h (w + 1)
  rw [Nat.shiftLeft_eq] at this
  rw [Nat.or_comm, ← this]
  omega
theorem packedRow_l {sg : Hp} {r : List Nat} (hv : VR r) (hl : r.length ≤ 5) (hs : ∀ i, i < r.length → sg (19 + i) 0 = nI (Wr r i)) : ∀ (k j m : Nat), j + k = r.length → f_Search_packedRow_4 (m + k + 1) sg (nI (r.length - 1)) (nI (pkN (r.drop (r.length - j)))) (nI j) = some (nI (pkN r), sg) := by
  intro k
  induction k with
  | zero =>
    intro j m h
    have h0 := hv.1
    rw [f_Search_packedRow_4, if_pos (nI_lt (by omega) (by omega)), show r.length - j = 0 by omega]
    rfl
  | succ k ih =>
    intro j m h
    have hj := hs j (by omega)
    have hw := (hv.2 j (by omega)).1
    have hd : r.drop (r.length - (j + 1)) = Wr r j :: r.drop (r.length - j) := by
      unfold Wr
      rw [show r.length - 1 - j = r.length - (j + 1) by omega, List.drop_eq_getElem_cons (show r.length - (j + 1) < r.length by omega), show r.length - (j + 1) + 1 = r.length - j by omega]
      rfl
    have hp : pkN (r.drop (r.length - j)) < 8 ^ j := by
      have := pkN_lt (r.drop (r.length - j)) (fun w hw => hv.mem w (List.mem_of_mem_drop hw))
      rw [List.length_drop, show r.length - (r.length - j) = j by omega] at this
      exact this
    have := ih (j + 1) m (by omega)
    rw [hd, pkN, List.length_drop, show r.length - (r.length - j) = j by omega] at this
    rw [show m + (k + 1) + 1 = (m + k + 1) + 1 by omega, f_Search_packedRow_4, if_neg (nI_nlt (by omega) (by omega)), if_pos (by rw [inb_iff, nI_toInt (by omega)]; omega), nI_clamp (by omega), rt17 j (by omega), hj, sh_pk j (by omega) _ hw, nI_or, or_pk hp, nI_1]
    exact this
theorem packedRow_c {sg : Hp} {r : List Nat} (hv : VR r) (hl : r.length ≤ 5) (hs : ∀ i, i < r.length → sg (19 + i) 0 = nI (Wr r i)) : f_Search_packedRow sg (nI (r.length - 1)) = some (nI (pkN r), sg) := by
  unfold f_Search_packedRow
  obtain ⟨m, hm⟩ := LFx r.length (by omega)
  have := packedRow_l hv hl hs r.length 0 m (by omega)
  rw [Nat.sub_zero, List.drop_length, show pkN [] = 0 from rfl, nI_0] at this
  rw [hm]
  exact this
/-- the search's own numbers -/
def XS (sg : Hp) (x : Int × Int × Nat) : Prop := sg 11 7 = iI x.1 ∧ -1 ≤ x.1 ∧ x.1 ≤ 100000000 ∧ sg 11 8 = iI x.2.1 ∧ sg 11 9 = iI (packR (decN x.2.2).reverse) ∧ sg 11 10 = nI (x.2.2 / 100000) ∧ x.2.2 / 100000 ≤ 5
/-- the stands of a row -/
def DS (S : Nat → Int) (sg : Hp) (r : List Nat) : Prop := ∀ i, i < r.length → CS S sg (19 + i) (Qr S pst r i) ∧ (i + 1 < r.length → sg 18 i = nI (rolN (Qr S pst r i) (Wr r (i + 1))))
theorem iI_n (n : Nat) : iI (n : Int) = nI n := rfl
theorem iI_1 (a : Int) : iI a + 1 = iI (a + 1) := (Int32.ofInt_add a 1).symm
theorem weigh_fin {S : Nat → Int} {sg : Hp} {r : List Nat} {x : Int × Int × Nat} {sq : Int32} (hv : VR r) (hl : r.length ≤ 5) (hs : ∀ i, i < r.length → sg (19 + i) 0 = nI (Wr r i)) (hx : XS sg x) (h0 : 0 ≤ sq.toInt) (h1 : sq.toInt ≤ 100000000) (h2 : x.1 = -1 ∨ sq.toInt ≤ x.1) : ∃ sg', (if (sg 11 7) = (-1 : Int32) then f_Search_weigh_143 sg (nI (r.length - 1)) sq else if (sg 11 7) ≤ sq then f_Search_weigh_148 sg (nI (r.length - 1)) sq (0 : Int32) else f_Search_weigh_143 sg (nI (r.length - 1)) sq) = some sg' ∧ XS sg' (if x.1 = -1 ∨ sq.toInt < x.1 then (sq.toInt, 1, keyN r) else if sq.toInt = x.1 then (x.1, x.2.1 + 1, if r.length < x.2.2 / 100000 then keyN r else x.2.2) else x) ∧ (∀ c, c ≠ 11 → sg' c = sg c) ∧ sg' 11 6 = sg 11 6 := by
  obtain ⟨x1, x2, x3, x4, x5, x6, x7⟩ := hx
  obtain ⟨k1, k2, k3⟩ := hv.key hl
  have hp := hv.1
  have g181 : ∀ (s : Hp) (n : Int), (∀ c, c ≠ 11 → s c = sg c) → s 11 8 = iI n → s 11 6 = sg 11 6 → ∃ sg', f_Search_weigh_181 s (nI (r.length - 1)) sq = some sg' ∧ XS sg' (sq.toInt, n, keyN r) ∧ (∀ c, c ≠ 11 → sg' c = sg c) ∧ sg' 11 6 = sg 11 6 := by
    intro s n e e8 e6
    unfold f_Search_weigh_181
    rw [Option.bind_some, Option.bind_some, packedRow_c hv hl (fun i hi => by rw [w2_cell _ (by omega), w2_cell _ (by omega), e _ (by omega)]; exact hs i hi), Option.bind_some, Option.bind_some]
    refine ⟨_, rfl, ⟨?_, by omega, by omega, ?_, ?_, ?_, by simp only [k2]; omega⟩, fun c hc => by (rw [w2_cell _ hc]; show w2 (w2 s 11 7 sq) 11 10 _ c = sg c; rw [w2_cell _ hc, w2_cell _ hc, e c hc]), ?_⟩
    · simp only [w2_app]; simp [iA]
    · simp only [w2_app]; simp [e8]
    · simp only [w2_app, k1, packR_pk, iI_n]; simp
    · simp only [w2_app, k2]; simp
      rw [nI_1, show r.length - 1 + 1 = r.length by omega]
    · simp only [w2_app]; simp [e6]
  have g143 : x.1 = -1 ∨ sq.toInt < x.1 → ∃ sg', f_Search_weigh_143 sg (nI (r.length - 1)) sq = some sg' ∧ XS sg' (if x.1 = -1 ∨ sq.toInt < x.1 then (sq.toInt, 1, keyN r) else if sq.toInt = x.1 then (x.1, x.2.1 + 1, if r.length < x.2.2 / 100000 then keyN r else x.2.2) else x) ∧ (∀ c, c ≠ 11 → sg' c = sg c) ∧ sg' 11 6 = sg 11 6 := by
    intro q
    rw [if_pos q]
    unfold f_Search_weigh_143 f_Search_weigh_148 f_Search_weigh_164
    rw [if_neg (show ¬ ((1 : Int32) = 0) by decide), Option.bind_some, if_neg (show ¬ ((1 : Int32) = 0) by decide)]
    exact g181 _ 1 (fun c hc => by rw [w2_cell _ hc]) (w2_at _ _ _ _) (by rw [w2_ne (by omega)])
  have t1 : (sg 11 7).toInt = x.1 := by rw [x1, iT (by omega) (by omega)]
  have r1 : (-1 : Int32).toInt = -1 := by decide
  by_cases q1 : sg 11 7 = -1
  · rw [if_pos q1]
    exact g143 (Or.inl (by rw [← t1, q1, r1]))
  · rw [if_neg q1]
    have q1' : x.1 ≠ -1 := fun q => q1 (i_inj (by rw [t1, q, r1]))
    by_cases q2 : sg 11 7 ≤ sq
    · rw [if_pos q2]
      rw [nLe, t1] at q2
      have q3 : sq.toInt = x.1 := by omega
      rw [if_neg (by omega), if_pos q3]
      unfold f_Search_weigh_148 f_Search_weigh_164
      rw [if_pos (show (0 : Int32) = 0 from rfl), Option.bind_some, if_pos (show (0 : Int32) = 0 from rfl), w2_ne (by omega), x6, nI_1, show r.length - 1 + 1 = r.length by omega]
      by_cases q4 : r.length < x.2.2 / 100000
      · rw [if_neg (nI_ge q4 (by omega)), if_pos q4, ← q3]
        exact g181 _ _ (fun c hc => by rw [w2_cell _ hc]) (by rw [w2_at, x4, iI_1]) (by rw [w2_ne (by omega)])
      · rw [if_pos (nI_le (by omega) (by omega)), if_neg q4]
        refine ⟨_, rfl, ⟨?_, x2, x3, ?_, ?_, ?_, x7⟩, fun c hc => by rw [w2_cell _ hc], by rw [w2_ne (by omega)]⟩
        · rw [w2_ne (by omega)]; exact x1
        · rw [w2_at, x4, iI_1]
        · rw [w2_ne (by omega)]; exact x5
        · rw [w2_ne (by omega)]; exact x6
    · rw [if_neg q2]
      rw [nLe, t1] at q2
      exact g143 (Or.inr (by omega))
/-- the steps of the line -/
theorem weigh_l {S : Nat → Int} (hS : SB S) {sg : Hp} {r : List Nat} {sq : Int32} (hv : VR r) (hl : r.length ≤ 5) (hD : DS S sg r) {px py qx qy : Int} (e0 : (sg 16 0).toInt = px) (e1 : (sg 16 1).toInt = py) (e2 : (sg 16 2).toInt = qx) (e3 : (sg 16 3).toInt = qy) (b0 : -3100 ≤ px ∧ px ≤ 3100) (b1 : -3100 ≤ py ∧ py ≤ 3100) (b2 : -3100 ≤ qx ∧ qx ≤ 3100) (b3 : -3100 ≤ qy ∧ qy ≤ 3100) : ∀ (k j m : Nat), j + k + 1 = r.length → ((∀ i, j ≤ i → i + 1 < r.length → mtw S (Qr S pst r i) (Wr r (i + 1)) px py qx qy) → f_Search_weigh_93 (m + k + 1) sg (nI (r.length - 1)) sq (nI j) = (if (sg 11 7) = (-1 : Int32) then f_Search_weigh_143 sg (nI (r.length - 1)) sq else if (sg 11 7) ≤ sq then f_Search_weigh_148 sg (nI (r.length - 1)) sq (0 : Int32) else f_Search_weigh_143 sg (nI (r.length - 1)) sq)) ∧ (¬ (∀ i, j ≤ i → i + 1 < r.length → mtw S (Qr S pst r i) (Wr r (i + 1)) px py qx qy) → f_Search_weigh_93 (m + k + 1) sg (nI (r.length - 1)) sq (nI j) = some sg) := by
  intro k
  induction k with
  | zero =>
    intro j m h
    refine ⟨fun _ => ?_, fun q => absurd (fun i hi hi2 => by omega) q⟩
    rw [f_Search_weigh_93, if_pos (nI_le (by omega) (by omega))]
  | succ k ih =>
    intro j m h
    obtain ⟨d1, d2⟩ := hD j (by omega)
    obtain ⟨v1, v2, v3⟩ := hv.q hS gs_pst j (by omega)
    have hw := (hv.2 (j + 1) (by omega)).1
    have hm := meets_c hS (l := 16) (k := 3 + j) (by omega) v1 v2 d1 hw (by rw [v3]; exact (hv.2 j (by omega)).2 (by omega)) e0 e1 e2 e3 b0 b1 b2 b3
    rw [show m + (k + 1) + 1 = (m + k + 1) + 1 by omega, f_Search_weigh_93, if_neg (nI_ge (by omega) (by omega)), if_pos (by rw [inb_iff, nI_toInt (by omega)]; omega), if_pos (by rw [inb_iff, nI_toInt (by omega)]; omega), nI_clamp (by omega), rt17 j (by omega), d2 (by omega), hm, Option.bind_some, nI_1]
    obtain ⟨i1, i2⟩ := ih (j + 1) m (by omega)
    by_cases q : mtw S (Qr S pst r j) (Wr r (j + 1)) px py qx qy
    · rw [bI_t q, if_neg (show ¬ ((1 : Int32) = 0) by decide)]
      refine ⟨fun z => i1 (fun i hi => z i (by omega)), fun z => i2 (fun y => z (fun i hi hi2 => ?_))⟩
      by_cases hij : i = j
      · rw [hij]; exact q
      · exact y i (by omega) hi2
    · rw [bI_f q, if_pos (show (0 : Int32) = 0 from rfl)]
      exact ⟨fun z => absurd (z j (by omega) (by omega)) q, fun _ => rfl⟩
theorem weigh_c {S A B : Nat → Int} {bar : Nat → Nat → Prop} (hS : SB S) (hA : AW S A) (hB : AW S B) {sg : Hp} {r : List Nat} {x : Int × Int × Nat} (hv : VR r) (hl : r.length ≤ 5) (hD : DS S sg r) (hx : XS sg x) (ha : ∀ w, w < 6 → (sg 13 w).toInt = A w) (hb : ∀ w, w < 6 → (sg 15 w).toInt = B w) (h0 : A (Wr r 0) = 0) (h1 : B (r.headD 0) = 0) (h2 : ∀ i, i + 1 < r.length → ¬ bar (Wr r i) (Wr r (i + 1))) : ∃ sg', f_Search_weigh sg (nI (r.length - 1)) = some sg' ∧ XS sg' (candC S bar A B pst x r) ∧ (∀ c, c ≠ 11 → c ≠ 16 → sg' c = sg c) ∧ sg' 11 6 = sg 11 6 := by
  have hp := hv.1
  obtain ⟨u1, u2, u3⟩ := hv.q hS gs_pst 0 hp
  obtain ⟨v1, v2, v3⟩ := hv.q hS gs_pst (r.length - 1) (by omega)
  obtain ⟨d1, -⟩ := hD 0 hp
  obtain ⟨d2, -⟩ := hD (r.length - 1) (by omega)
  rw [Qr_top] at v1 v2 d2
  have hi : inb (nI (r.length - 1)) 5 = true := by rw [inb_iff, nI_toInt (by omega)]; omega
  obtain ⟨vx, f1, f2⟩ := planeX_c (d := 12) (by omega) u1 u2 d1 hA ha
  obtain ⟨vy, f3, f4⟩ := planeY_c (d := 12) (by omega) u1 u2 d1 hA ha
  have B1 := im_bp u1 u2 hA
  have B2 := im_bp v1 v2 hB
  unfold f_Search_weigh
  rw [show (19 : Nat) = 19 + 0 from rfl, f1, Option.bind_some]
  simp only []
  rw [f3, Option.bind_some]
  simp only [f_Line_begin, Option.bind_some]
  rw [if_pos hi]
  simp only [nI_clamp (show r.length - 1 < 2 ^ 31 by omega), rt17 (r.length - 1) (by omega)]
  have c1 : CS S (w2 (w2 sg 16 0 vx) 16 1 vy) (19 + (r.length - 1)) (poseR S pst r) := d2.of (by rw [w2_cell _ (by omega), w2_cell _ (by omega)])
  have c2 : ∀ w, w < 6 → ((w2 (w2 sg 16 0 vx) 16 1 vy) (rt 14 0) w).toInt = B w := fun w hw => by
    rw [show rt 14 0 = 15 from rfl, w2_cell _ (by omega), w2_cell _ (by omega)]; exact hb w hw
  obtain ⟨wx, g1, g2⟩ := planeX_c (d := 14) (by omega) v1 v2 c1 hB c2
  obtain ⟨wy, g3, g4⟩ := planeY_c (d := 14) (by omega) v1 v2 c1 hB c2
  rw [g1, Option.bind_some]
  simp only [if_pos hi]
  rw [g3, Option.bind_some]
  simp only [f_Line_end, f_Line_square, Option.bind_some]
  have E : ∀ c, c ≠ 16 → w2 (w2 (w2 (w2 sg 16 0 vx) 16 1 vy) 16 2 wx) 16 3 wy c = sg c := fun c hc => by
    rw [w2_cell _ hc, w2_cell _ hc, w2_cell _ hc, w2_cell _ hc]
  have L0 : w2 (w2 (w2 (w2 sg 16 0 vx) 16 1 vy) 16 2 wx) 16 3 wy 16 0 = vx := by simp only [w2_app]; simp
  have L1 : w2 (w2 (w2 (w2 sg 16 0 vx) 16 1 vy) 16 2 wx) 16 3 wy 16 1 = vy := by simp only [w2_app]; simp
  have L2 : w2 (w2 (w2 (w2 sg 16 0 vx) 16 1 vy) 16 2 wx) 16 3 wy 16 2 = wx := by simp only [w2_app]; simp
  have L3 : w2 (w2 (w2 (w2 sg 16 0 vx) 16 1 vy) 16 2 wx) 16 3 wy 16 3 = wy := by simp only [w2_app]; simp
  rw [L0, L1, L2, L3]
  generalize hs : w2 (w2 (w2 (w2 sg 16 0 vx) 16 1 vy) 16 2 wx) 16 3 wy = s at *
  have dx : (wx - vx).toInt = imX (poseR S pst r) B - imX (Qr S pst r 0) A := by rw [tSub (by omega) (by omega), g2, f2]
  have dy : (wy - vy).toInt = imY (poseR S pst r) B - imY (Qr S pst r 0) A := by rw [tSub (by omega) (by omega), g4, f4]
  have sx := tMulB (x := wx - vx) (y := wx - vx) (by omega) (by omega)
  have sy := tMulB (x := wy - vy) (y := wy - vy) (by omega) (by omega)
  have bx := mulB (M := 600) (x := (wx - vx).toInt) (y := (wx - vx).toInt) (by omega) (by omega)
  have by' := mulB (M := 600) (x := (wy - vy).toInt) (y := (wy - vy).toInt) (by omega) (by omega)
  have hq : ((wx - vx) * (wx - vx) + (wy - vy) * (wy - vy)).toInt = lenR S A B pst r := by
    rw [tAdd (by omega) (by omega), sx.1, sy.1, dx, dy]; rfl
  have hq2 : ((wx - vx) * (wx - vx) + (wy - vy) * (wy - vy)).toInt ≤ 100000000 := by
    rw [tAdd (by omega) (by omega), sx.1, sy.1]; omega
  generalize (wx - vx) * (wx - vx) + (wy - vy) * (wy - vy) = sq at *
  have hq0 : 0 ≤ sq.toInt := by rw [hq]; exact lenR_pos ..
  have hxs : XS s x := by
    unfold XS at *
    rw [E 11 (by omega)]
    exact hx
  have hDs : DS S s r := fun i hi => by
    obtain ⟨a, b⟩ := hD i hi
    exact ⟨a.of (E _ (by omega)), fun q => by rw [E 18 (by omega)]; exact b q⟩
  have t1 : (s 11 7).toInt = x.1 := by rw [hxs.1, iT (by have := hxs.2.1; omega) (by have := hxs.2.2.1; omega)]
  have r1 : (-1 : Int32).toInt = -1 := by decide
  obtain ⟨m, hm⟩ := LFx (r.length - 1) (by omega)
  obtain ⟨w1, w2'⟩ := weigh_l (px := imX (Qr S pst r 0) A) (py := imY (Qr S pst r 0) A) (qx := imX (poseR S pst r) B) (qy := imY (poseR S pst r) B) (sq := sq) hS hv hl hDs (by rw [L0]; exact f2) (by rw [L1]; exact f4) (by rw [L2]; exact g2) (by rw [L3]; exact g4) (by omega) (by omega) (by omega) (by omega) (r.length - 1) 0 m (by omega)
  rw [nI_0, ← hm] at w1 w2'
  have hway : wayR S bar A B pst r ↔ (∀ i, 0 ≤ i → i + 1 < r.length → mtw S (Qr S pst r i) (Wr r (i + 1)) (imX (Qr S pst r 0) A) (imY (Qr S pst r 0) A) (imX (poseR S pst r) B) (imY (poseR S pst r) B)) := by
    unfold wayR
    exact ⟨fun q i _ hi => (q.2.2 i hi).2, fun q => ⟨h0, h1, fun i hi => ⟨h2 i hi, q i (by omega) hi⟩⟩⟩
  have go : (x.1 = -1 ∨ sq.toInt ≤ x.1) → ∃ sg', f_Search_weigh_91 s (nI (r.length - 1)) sq = some sg' ∧ XS sg' (candC S bar A B pst x r) ∧ (∀ c, c ≠ 11 → c ≠ 16 → sg' c = sg c) ∧ sg' 11 6 = sg 11 6 := by
    intro q
    unfold f_Search_weigh_91 candC
    by_cases hw : wayR S bar A B pst r
    · simp only [if_pos hw]
      rw [w1 (hway.mp hw), ← hq]
      obtain ⟨sg', y1, y2, y3, y4⟩ := weigh_fin (S := S) (x := x) (sg := s) (sq := sq) hv hl (fun i hi => by rw [(hDs i hi).1.1, (hv.q hS gs_pst i hi).2.2]) hxs hq0 hq2 q
      exact ⟨sg', y1, y2, fun c c1 c2 => by rw [y3 c c1, E c c2], by rw [y4, E 11 (by omega)]⟩
    · simp only [if_neg hw]
      rw [w2' (fun z => hw (hway.mpr z))]
      exact ⟨s, rfl, hxs, fun c c1 c2 => E c c2, by rw [E 11 (by omega)]⟩
  by_cases q1 : s 11 7 = -1
  · rw [if_pos q1]
    exact go (Or.inl (by rw [← t1, q1, r1]))
  · rw [if_neg q1]
    have q1' : x.1 ≠ -1 := fun q => q1 (i_inj (by rw [t1, q, r1]))
    by_cases q2 : sq ≤ s 11 7
    · rw [if_pos q2]
      rw [nLe, t1] at q2
      exact go (Or.inr q2)
    · rw [if_neg q2]
      rw [nLe, t1, hq] at q2
      refine ⟨s, rfl, ?_, fun c c1 c2 => E c c2, by rw [E 11 (by omega)]⟩
      unfold candC
      by_cases hw : wayR S bar A B pst r
      · simp only [if_pos hw]
        rw [if_neg (by omega), if_neg (by omega)]
        exact hxs
      · simp only [if_neg hw]
        exact hxs
