/-! THE CLASS'S SEARCH: all rows -/
/-- what the search reads -/
def EV (bar : Nat → Nat → Prop) (A B : Nat → Int) (sg : Hp) : Prop := (∀ w, w < 6 → (sg 13 w).toInt = A w) ∧ (∀ w, w < 6 → (sg 15 w).toInt = B w) ∧ (∀ w, w < 6 → ∃ x, x < 64 ∧ sg 6 w = nI x ∧ ∀ v, v < 6 → (x.testBit v = true ↔ bar w v)) ∧ ∃ g, g < 64 ∧ sg 11 6 = nI g ∧ ∀ w, w < 6 → (g.testBit w = true ↔ B w = 0)
theorem EV.of {bar : Nat → Nat → Prop} {A B : Nat → Int} {sg sg' : Hp} (h : EV bar A B sg) (h1 : sg' 13 = sg 13) (h2 : sg' 15 = sg 15) (h3 : sg' 6 = sg 6) (h4 : sg' 11 6 = sg 11 6) : EV bar A B sg' := by
  unfold EV at *
  rw [h1, h2, h3, h4]
  exact h
theorem bit_w : ∀ w, w < 6 → (1 : Int32) <<< (nI w &&& 31) = nI (2 ^ w) := by decide +kernel
theorem bit_t : ∀ n, n < 64 → ∀ w, w < 6 → (((nI n >>> (nI w &&& 31)) &&& (1 : Int32) = 0) ↔ n.testBit w = false) ∧ (((nI n >>> (nI w &&& 31)) &&& (1 : Int32) = 1) ↔ n.testBit w = true) := by decide +kernel
theorem bit_g : ∀ n, n < 64 → ∀ g, g < 64 → ∀ w, w < 6 → (((nI n ||| (nI g ^^^ (-1 : Int32))) >>> (nI w &&& 31)) &&& (1 : Int32) = 0 ↔ (n.testBit w = false ∧ g.testBit w = true)) := by decide +kernel
theorem or_lt {a b : Nat} (ha : a < 64) (hb : b < 64) : a ||| b < 64 := Nat.or_lt_two_pow (n := 6) ha hb
theorem pw_lt {w : Nat} (h : w < 6) : 2 ^ w < 64 := by
  have : 2 ^ w < 2 ^ 6 := Nat.pow_lt_pow_right (by omega) h
  omega
/-- what a part of the search leaves as it was, with the row r told -/
def FX (r : List Nat) (sg sg' : Hp) : Prop := (∀ c, c ≠ 11 → c ≠ 16 → c ≠ 18 → (c < 19 + r.length ∨ 24 ≤ c) → sg' c = sg c) ∧ sg' 11 6 = sg 11 6 ∧ ∀ i, i + 1 < r.length → sg' 18 i = sg 18 i
theorem FX.refl (r : List Nat) (sg : Hp) : FX r sg sg := ⟨fun _ _ _ _ _ => rfl, rfl, fun _ _ => rfl⟩
theorem FX.trans {r : List Nat} {a b c : Hp} (h1 : FX r a b) (h2 : FX r b c) : FX r a c := ⟨fun d d1 d2 d3 d4 => by rw [h2.1 d d1 d2 d3 d4, h1.1 d d1 d2 d3 d4], by rw [h2.2.1, h1.2.1], fun i hi => by rw [h2.2.2 i hi, h1.2.2 i hi]⟩
theorem FX.ev {r : List Nat} {sg sg' : Hp} (h : FX r sg sg') {bar : Nat → Nat → Prop} {A B : Nat → Int} (e : EV bar A B sg) : EV bar A B sg' := e.of (h.1 13 (by omega) (by omega) (by omega) (by omega)) (h.1 15 (by omega) (by omega) (by omega) (by omega)) (h.1 6 (by omega) (by omega) (by omega) (by omega)) h.2.1
theorem FX.ds {S : Nat → Int} {r : List Nat} (hl : r.length ≤ 5) {sg sg' : Hp} (h : FX r sg sg') (d : DS S sg r) : DS S sg' r := fun i hi => ⟨(d i hi).1.of (h.1 _ (by omega) (by omega) (by omega) (by omega)), fun q => by rw [h.2.2 i q]; exact (d i hi).2 q⟩
theorem range6 : List.range 6 = List.range' 0 6 := by decide
theorem ow_of {u v : Nat} (hu : u < 6) (hv : v < 6) (h : u / 2 = v / 2) (hn : u ≠ v) : u = ow v := by unfold ow; split <;> omega
/-- one wall after another -/
theorem extend_l {S A B : Nat → Int} {bar : Nat → Nat → Prop} (hS : SB S) (hA : AW S A) (hB : AW S B) {r : List Nat} (hv : VR r) {k s : Nat} (hk : r.length + (k + 1) = 5) (hs : s < 64) (hs2 : ∀ v, v < 6 → (s.testBit v = true ↔ v ∈ r)) (rc : Hp → Int32 → Int32 → Option Hp) (shut : Int32)
    (hsh : ∀ v, v < 6 → ((((shut >>> (nI v &&& 31)) &&& (1 : Int32)) = 0 → v ∉ r ∧ v ≠ ow (r.headD 0) ∧ ¬ bar (r.headD 0) v) ∧ (((shut >>> (nI v &&& 31)) &&& (1 : Int32)) ≠ 0 → v ∈ r ∨ v = ow (r.headD 0) ∨ bar (r.headD 0) v ∨ (k = 0 ∧ B v ≠ 0))))
    (hrc : ∀ (w : Nat) (sg : Hp) (x : Int × Int × Nat), VR (w :: r) → w ∉ r → ¬ bar (r.headD 0) w → DS S sg (w :: r) → XS sg x → EV bar A B sg → ∃ sg', rc sg (nI r.length) (nI (s ||| 2 ^ w)) = some sg' ∧ XS sg' ((rowsF k (w :: r)).foldl (candC S bar A B pst) x) ∧ FX (w :: r) sg sg') :
    ∀ (q j m : Nat) (sg : Hp) (x : Int × Int × Nat), j + q = 6 → DS S sg r → XS sg x → EV bar A B sg → ∃ sg', f_Search_extend_86 rc (m + q + 1) sg (nI (r.length - 1)) (nI s) (19 + (r.length - 1)) (nI r.length) shut (nI j) = some sg' ∧ XS sg' ((((List.range' j q).filter (fun w => decide (w ∉ r) && decide (w ≠ ow (r.headD 9)))).flatMap (fun w => rowsF k (w :: r))).foldl (candC S bar A B pst) x) ∧ FX r sg sg' := by
  have hp := hv.1
  have h99 : r.headD 9 = r.headD 0 := by
    cases r with
    | nil => simp at hp
    | cons a b => rfl
  rw [h99]
  have hh := headD_W r hp
  obtain ⟨v1, v2, v3⟩ := hv.q hS gs_pst (r.length - 1) (by omega)
  have hW := (hv.2 (r.length - 1) (by omega)).1
  rw [← hh] at v3 hW
  intro q
  induction q with
  | zero =>
    intro j m sg x h hD hx he
    rw [f_Search_extend_86, if_pos (by rw [show (6 : Int32) = nI 6 from rfl]; exact nI_le (by omega) (by omega))]
    exact ⟨sg, rfl, hx, FX.refl r sg⟩
  | succ q ih =>
    intro j m sg x h hD hx he
    obtain ⟨z1, z2⟩ := hsh j (by omega)
    rw [show m + (q + 1) + 1 = (m + q + 1) + 1 by omega, f_Search_extend_86, if_neg (by rw [show (6 : Int32) = nI 6 from rfl]; exact nI_ge (by omega) (by omega)), List.range'_succ]
    unfold f_Search_extend_144
    by_cases hz : ((shut >>> (nI j &&& 31)) &&& (1 : Int32)) = 0
    · obtain ⟨y1, y2, y3⟩ := z1 hz
      rw [if_pos hz, List.filter_cons_of_pos (by simp only [Bool.and_eq_true, decide_eq_true_eq]; exact ⟨y1, y2⟩), List.flatMap_cons, List.foldl_append]
      have hne : j ≠ r.headD 0 := fun e => y1 (by
        rw [e]
        cases r with
        | nil => simp at hp
        | cons a b => exact List.mem_cons_self ..)
      have hd : j / 2 ≠ r.headD 0 / 2 := fun e => y2 (ow_of (by omega) hW e hne)
      have hd2 : j / 2 ≠ (Qr S pst r (r.length - 1)).1 / 2 := by rw [v3]; exact hd
      have hD1 := (hD (r.length - 1) (by omega)).1
      rw [rollTo_c v1 hD1 (by omega) hd2, Option.bind_some, if_pos (by rw [inb_iff, nI_toInt (by omega)]; omega), Option.bind_some, if_pos (by rw [inb_iff, nI_toInt (by omega)]; omega), if_pos (by rw [inb_iff, nI_toInt (by omega)]; omega), nI_clamp (by omega), nI_clamp (by omega), rt17 _ (by omega), w2_at]
      have hD2 : CS S (w2 sg 18 (r.length - 1) (nI (rolN (Qr S pst r (r.length - 1)) j))) (19 + (r.length - 1)) (Qr S pst r (r.length - 1)) := hD1.of (by rw [w2_cell _ (by omega)])
      obtain ⟨s8, g1, g2, g3⟩ := follow_c hS (c := 19 + r.length) (a := 19 + (r.length - 1)) (by omega) (by omega) v1 v2 hD2 (w := j) (by omega) hd2
      rw [g1, Option.bind_some, bit_w j (by omega), nI_or]
      have hvc : VR (j :: r) := hv.cons (by omega) hd
      have fx1 : FX r sg s8 := by
        refine ⟨fun c c1 c2 c3 c4 => by rw [g3 c (by omega), w2_cell _ c3], by rw [g3 11 (by omega), w2_cell _ (by omega)], fun i hi => by rw [g3 18 (by omega), w2_ne (by omega)]⟩
      have hDc : DS S s8 (j :: r) := by
        intro i hi
        simp only [List.length_cons] at hi ⊢
        by_cases hi2 : i < r.length
        · obtain ⟨a, b⟩ := fx1.ds (by omega) hD i hi2
          rw [Qr_cons hi2]
          refine ⟨a, fun _ => ?_⟩
          by_cases hi3 : i + 1 < r.length
          · rw [Wr_cons hi3]
            exact b hi3
          · rw [show i + 1 = r.length by omega, Wr_top, g3 18 (by omega), show i = r.length - 1 by omega, w2_at]
        · have hi4 : i = r.length := by omega
          rw [hi4]
          have := Qr_step (S := S) (st := pst) (j :: r) (r.length - 1) (by simp only [List.length_cons]; omega)
          rw [show r.length - 1 + 1 = r.length by omega, Wr_top, Qr_cons (i := r.length - 1) (by omega)] at this
          rw [this]
          exact ⟨g2, fun z => by omega⟩
      have hx8 : XS s8 x := by
        unfold XS at *
        rw [g3 11 (by omega), w2_cell _ (by omega)]
        exact hx
      obtain ⟨s9, k1, k2, k3⟩ := hrc j s8 x hvc y1 y3 hDc hx8 (fx1.ev he)
      rw [k1, Option.bind_some, nI_1]
      have fx2 : FX r s8 s9 := by
        refine ⟨fun c c1 c2 c3 c4 => k3.1 c c1 c2 c3 (by simp only [List.length_cons]; omega), k3.2.1, fun i hi => k3.2.2 i (by simp only [List.length_cons]; omega)⟩
      have fx := fx1.trans fx2
      obtain ⟨s', l1, l2, l3⟩ := ih (j + 1) m s9 _ (by omega) (fx.ds (by omega) hD) k2 (fx.ev he)
      exact ⟨s', l1, l2, fx.trans l3⟩
    · rw [if_neg hz, nI_1]
      obtain ⟨s', l1, l2, l3⟩ := ih (j + 1) m sg x (by omega) hD hx he
      refine ⟨s', l1, ?_, l3⟩
      by_cases hf : j ∉ r ∧ j ≠ ow (r.headD 0)
      · rw [List.filter_cons_of_pos (by simp only [Bool.and_eq_true, decide_eq_true_eq]; exact hf), List.flatMap_cons, List.foldl_append]
        have hnot : ∀ t ∈ rowsF k (j :: r), ¬ wayR S bar A B pst t := by
          intro t ht hw
          rcases z2 hz with z | z | z | ⟨z, z'⟩
          · exact hf.1 z
          · exact hf.2 z
          · obtain ⟨p, e⟩ := rowsF_app k _ _ ht
            have := (hw.2.2 (r.length - 1) (by rw [e]; simp only [List.length_append, List.length_cons]; omega)).1
            rw [e, Wr_app _ _ _ (by simp only [List.length_cons]; omega), Wr_app _ _ _ (by simp only [List.length_cons]; omega), Wr_cons (by omega), show r.length - 1 + 1 = r.length by omega, Wr_top, ← hh] at this
            exact this z
          · subst z
            simp only [rowsF, List.mem_singleton] at ht
            rw [ht] at hw
            exact z' hw.2.1
        rw [candC_not _ _ hnot]
        exact l2
      · rw [List.filter_cons_of_neg (by
          simp only [Bool.and_eq_true, decide_eq_true_eq]
          exact hf)]
        exact l2
theorem extend_c {S A B : Nat → Int} {bar : Nat → Nat → Prop} (hS : SB S) (hA : AW S A) (hB : AW S B) : ∀ (k : Nat) (r : List Nat) (s : Nat) (sg : Hp) (x : Int × Int × Nat), r.length + k = 5 → VR r → (∀ i, i + 1 < r.length → ¬ bar (Wr r i) (Wr r (i + 1))) → A (Wr r 0) = 0 → s < 64 → (∀ v, v < 6 → (s.testBit v = true ↔ v ∈ r)) → DS S sg r → XS sg x → EV bar A B sg → ∃ sg', f_Search_extend (k + 2) sg (nI (r.length - 1)) (nI s) = some sg' ∧ XS sg' ((rowsF k r).foldl (candC S bar A B pst) x) ∧ FX r sg sg' := by
  intro k
  induction k with
  | zero =>
    intro r s sg x hk hv hb hA0 hs hs2 hD hx he
    have hp := hv.1
    have hh := headD_W r hp
    have hW := (hv.2 (r.length - 1) (by omega)).1
    obtain ⟨v1, v2, v3⟩ := hv.q hS gs_pst (r.length - 1) (by omega)
    rw [← hh] at v3 hW
    obtain ⟨e1, e2, e3, g, e4, e5, e6⟩ := id he
    have h0 : sg (19 + (r.length - 1)) 0 = nI (r.headD 0) := by rw [(hD (r.length - 1) (by omega)).1.1, v3]
    rw [f_Search_extend]
    rw [if_pos (by rw [inb_iff, nI_toInt (by omega)]; omega), nI_clamp (by omega), rt17 _ (by omega), h0, e5]
    have h27 : ∀ (y : Hp), f_Search_extend_27 (f_Search_extend 1) y (nI (r.length - 1)) (nI s) (19 + (r.length - 1)) = some y := by
      intro y
      unfold f_Search_extend_27
      rw [nI_1, if_neg (by rw [show (5 : Int32) = nI 5 from rfl]; exact nI_nlt (by omega) (by omega))]
    by_cases hg : g.testBit (r.headD 0) = true
    · rw [if_pos ((bit_t g e4 _ hW).2.mpr hg)]
      obtain ⟨s1, k1, k2, k3, k4⟩ := weigh_c hS hA hB hv (by omega) hD hx e1 e2 hA0 ((e6 _ hW).mp hg) hb
      rw [k1, Option.bind_some, h27]
      exact ⟨s1, rfl, k2, fun c c1 c2 c3 c4 => k3 c c1 c2, k4, fun i hi => by rw [k3 18 (by omega) (by omega)]⟩
    · rw [if_neg (fun q => hg ((bit_t g e4 _ hW).2.mp q)), h27]
      refine ⟨sg, rfl, ?_, FX.refl r sg⟩
      rw [candC_not _ _ (fun t ht hw => ?_)]
      · exact hx
      · simp only [rowsF, List.mem_singleton] at ht
        rw [ht] at hw
        exact hg ((e6 _ hW).mpr hw.2.1)
  | succ k ih =>
    intro r s sg x hk hv hb hA0 hs hs2 hD hx he
    have hp := hv.1
    have hh := headD_W r hp
    have hW := (hv.2 (r.length - 1) (by omega)).1
    obtain ⟨v1, v2, v3⟩ := hv.q hS gs_pst (r.length - 1) (by omega)
    rw [← hh] at v3 hW
    -- the walls behind this row
    have rest : ∀ (y : Hp) (x' : Int × Int × Nat), DS S y r → XS y x' → EV bar A B y → ∃ sg', f_Search_extend_27 (f_Search_extend (k + 2)) y (nI (r.length - 1)) (nI s) (19 + (r.length - 1)) = some sg' ∧ XS sg' ((((List.range 6).filter (fun w => decide (w ∉ r) && decide (w ≠ ow (r.headD 9)))).flatMap (fun w => rowsF k (w :: r))).foldl (candC S bar A B pst) x') ∧ FX r y sg' := by
      intro y x' hDy hxy hey
      obtain ⟨e1, e2, e3, g, e4, e5, e6⟩ := id hey
      have h0 : y (19 + (r.length - 1)) 0 = nI (r.headD 0) := by rw [(hDy (r.length - 1) (by omega)).1.1, v3]
      obtain ⟨bb, b1, b2, b3⟩ := e3 _ hW
      unfold f_Search_extend_27
      rw [h0, if_pos (by rw [nI_1, show (5 : Int32) = nI 5 from rfl]; exact nI_lt (by omega) (by omega)), if_pos (by rw [inb_iff, nI_toInt (by omega)]; omega), nI_clamp (by omega), b2, ow_x _ hW, bit_w _ (ow_lt hW), nI_or, nI_or, nI_1, nI_1, e5]
      have hn : s ||| bb ||| 2 ^ ow (r.headD 0) < 64 := or_lt (or_lt hs b1) (pw_lt (ow_lt hW))
      have hrc : ∀ (w : Nat) (sg : Hp) (x : Int × Int × Nat), VR (w :: r) → w ∉ r → ¬ bar (r.headD 0) w → DS S sg (w :: r) → XS sg x → EV bar A B sg → ∃ sg', f_Search_extend (k + 2) sg (nI r.length) (nI (s ||| 2 ^ w)) = some sg' ∧ XS sg' ((rowsF k (w :: r)).foldl (candC S bar A B pst) x) ∧ FX (w :: r) sg sg' := by
        intro w sg x c1 c2 c3 c4 c5 c6
        have hw6 : w < 6 := c1.mem w (List.mem_cons_self ..)
        have := ih (w :: r) (s ||| 2 ^ w) sg x (by simp only [List.length_cons]; omega) c1 (fun i hi => by
          simp only [List.length_cons] at hi
          by_cases hi2 : i + 1 < r.length
          · rw [Wr_cons hi2, Wr_cons (by omega)]
            exact hb i hi2
          · rw [show i + 1 = r.length by omega, Wr_top, Wr_cons (by omega), show i = r.length - 1 by omega, ← hh]
            exact c3) (by rw [Wr_cons hp]; exact hA0) (or_lt hs (pw_lt hw6)) (fun v hv6 => by
          rw [Nat.testBit_or, Nat.testBit_two_pow, List.mem_cons, Bool.or_eq_true, hs2 v hv6, decide_eq_true_eq]
          exact ⟨fun a => a.elim Or.inr (fun b => Or.inl b.symm), fun a => a.elim (fun b => Or.inr b.symm) Or.inl⟩) c4 c5 c6
        simp only [List.length_cons, Nat.add_sub_cancel] at this
        exact this
      have tb : ∀ v, v < 6 → ((s ||| bb ||| 2 ^ ow (r.headD 0)).testBit v = true ↔ v ∈ r ∨ bar (r.headD 0) v ∨ v = ow (r.headD 0)) := fun v hv6 => by
        rw [Nat.testBit_or, Nat.testBit_or, Nat.testBit_two_pow, Bool.or_eq_true, Bool.or_eq_true, hs2 v hv6, b3 v hv6, decide_eq_true_eq, or_assoc]
        constructor
        · rintro (a | a | a)
          · exact Or.inl a
          · exact Or.inr (Or.inl a)
          · exact Or.inr (Or.inr a.symm)
        · rintro (a | a | a)
          · exact Or.inl a
          · exact Or.inr (Or.inl a)
          · exact Or.inr (Or.inr a.symm)
      obtain ⟨m, hm⟩ := LFx 6 (by omega)
      by_cases hl : r.length + 1 = 5
      · rw [if_pos (by rw [show r.length - 1 + 1 + 1 = 5 by omega]; rfl)]
        unfold f_Search_extend_83
        rw [hm, ← nI_0, show r.length - 1 + 1 = r.length by omega, range6]
        refine extend_l hS hA hB hv hk hs hs2 _ _ (fun v hv6 => ?_) hrc 6 0 m y x' (by omega) hDy hxy hey
        have hbg := bit_g _ hn g e4 v hv6
        have htb := tb v hv6
        refine ⟨fun z => ?_, fun z => ?_⟩
        · obtain ⟨z1, z2⟩ := hbg.mp z
          have z3 : ¬ (v ∈ r ∨ bar (r.headD 0) v ∨ v = ow (r.headD 0)) := fun q => by rw [htb.mpr q] at z1; exact absurd z1 (by decide)
          exact ⟨fun q => z3 (Or.inl q), fun q => z3 (Or.inr (Or.inr q)), fun q => z3 (Or.inr (Or.inl q))⟩
        · by_cases q1 : (s ||| bb ||| 2 ^ ow (r.headD 0)).testBit v = true
          · rcases htb.mp q1 with q | q | q
            · exact Or.inl q
            · exact Or.inr (Or.inr (Or.inl q))
            · exact Or.inr (Or.inl q)
          · refine Or.inr (Or.inr (Or.inr ⟨by omega, fun q => z (hbg.mpr ⟨by simpa using q1, (e6 v hv6).mpr q⟩)⟩))
      · rw [if_neg (by rw [show (5 : Int32) = nI 5 from rfl, nI_eq (by omega) (by omega)]; omega)]
        unfold f_Search_extend_83
        rw [hm, ← nI_0, show r.length - 1 + 1 = r.length by omega, range6]
        refine extend_l hS hA hB hv hk hs hs2 _ _ (fun v hv6 => ?_) hrc 6 0 m y x' (by omega) hDy hxy hey
        have hbg := (bit_t _ hn v hv6).1
        have htb := tb v hv6
        refine ⟨fun z => ?_, fun z => ?_⟩
        · have z1 := hbg.mp z
          have z3 : ¬ (v ∈ r ∨ bar (r.headD 0) v ∨ v = ow (r.headD 0)) := fun q => by rw [htb.mpr q] at z1; exact absurd z1 (by decide)
          exact ⟨fun q => z3 (Or.inl q), fun q => z3 (Or.inr (Or.inr q)), fun q => z3 (Or.inr (Or.inl q))⟩
        · have q1 : (s ||| bb ||| 2 ^ ow (r.headD 0)).testBit v = true := by
            by_cases q1 : (s ||| bb ||| 2 ^ ow (r.headD 0)).testBit v = true
            · exact q1
            · exact absurd (hbg.mpr (by simpa using q1)) z
          rcases htb.mp q1 with q | q | q
          · exact Or.inl q
          · exact Or.inr (Or.inr (Or.inl q))
          · exact Or.inr (Or.inl q)
    obtain ⟨e1, e2, e3, g, e4, e5, e6⟩ := id he
    have h0 : sg (19 + (r.length - 1)) 0 = nI (r.headD 0) := by rw [(hD (r.length - 1) (by omega)).1.1, v3]
    rw [f_Search_extend]
    rw [if_pos (by rw [inb_iff, nI_toInt (by omega)]; omega), nI_clamp (by omega), rt17 _ (by omega), h0, e5, rowsF, List.foldl_cons]
    by_cases hg : g.testBit (r.headD 0) = true
    · rw [if_pos ((bit_t g e4 _ hW).2.mpr hg)]
      obtain ⟨s1, k1, k2, k3, k4⟩ := weigh_c hS hA hB hv (by omega) hD hx e1 e2 hA0 ((e6 _ hW).mp hg) hb
      rw [k1, Option.bind_some]
      have fx : FX r sg s1 := ⟨fun c c1 c2 c3 c4 => k3 c c1 c2, k4, fun i hi => by rw [k3 18 (by omega) (by omega)]⟩
      obtain ⟨s2, l1, l2, l3⟩ := rest s1 _ (fx.ds (by omega) hD) k2 (fx.ev he)
      exact ⟨s2, l1, l2, fx.trans l3⟩
    · rw [if_neg (fun q => hg ((bit_t g e4 _ hW).2.mp q))]
      have : candC S bar A B pst x r = x := by
        unfold candC
        rw [if_neg (fun hw => hg ((e6 _ hW).mpr hw.2.1))]
      rw [this]
      exact rest sg x hD hx he
