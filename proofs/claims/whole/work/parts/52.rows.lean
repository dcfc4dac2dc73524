/-! ROWS OF WALLS -/
theorem Wr_cons {w : Nat} {r : List Nat} {i : Nat} (h : i < r.length) : Wr (w :: r) i = Wr r i := by
  unfold Wr
  rw [show (w :: r).length - 1 - i = (r.length - 1 - i) + 1 by simp only [List.length_cons]; omega, List.drop_succ_cons]
theorem Wr_top (w : Nat) (r : List Nat) : Wr (w :: r) r.length = w := by
  unfold Wr
  rw [show (w :: r).length - 1 - r.length = 0 by simp only [List.length_cons]; omega]
  rfl
theorem Qr_cons {S : Nat → Int} {st : Nat → Pose} {w : Nat} {r : List Nat} {i : Nat} (h : i < r.length) : Qr S st (w :: r) i = Qr S st r i := by
  unfold Qr
  rw [show (w :: r).length - 1 - i = (r.length - 1 - i) + 1 by simp only [List.length_cons]; omega, List.drop_succ_cons]
theorem Qr_top {S : Nat → Int} {st : Nat → Pose} (r : List Nat) : Qr S st r (r.length - 1) = poseR S st r := by
  unfold Qr
  rw [show r.length - 1 - (r.length - 1) = 0 by omega]
  rfl
theorem poseR_cons {S : Nat → Int} {st : Nat → Pose} {w : Nat} {r : List Nat} (h : 0 < r.length) : poseR S st (w :: r) = prl S (poseR S st r) w := by
  cases r with
  | nil => simp at h
  | cons v r => rfl
theorem Qr_step {S : Nat → Int} {st : Nat → Pose} : ∀ (r : List Nat) (i : Nat), i + 1 < r.length → Qr S st r (i + 1) = prl S (Qr S st r i) (Wr r (i + 1)) := by
  intro r
  induction r with
  | nil => intro i h; simp at h
  | cons w r ih =>
    intro i h
    simp only [List.length_cons] at h
    by_cases h1 : i + 1 < r.length
    · rw [Qr_cons h1, Qr_cons (by omega), Wr_cons h1]
      exact ih i h1
    · have h2 : i + 1 = r.length := by omega
      have h3 := Qr_top (S := S) (st := st) (w :: r)
      simp only [List.length_cons, Nat.add_sub_cancel] at h3
      rw [h2, h3, Wr_top, Qr_cons (by omega), poseR_cons (by omega)]
      have h4 := Qr_top (S := S) (st := st) r
      rw [show i = r.length - 1 by omega, h4]
/-- walls, each one beside the one before -/
def VR (r : List Nat) : Prop := 0 < r.length ∧ ∀ i, i < r.length → Wr r i < 6 ∧ (i + 1 < r.length → Wr r (i + 1) / 2 ≠ Wr r i / 2)
def GS (st : Nat → Pose) : Prop := ∀ u, u < 6 → WP (st u) ∧ BP 3 (st u) ∧ (st u).1 = u
theorem Qr_0 {S : Nat → Int} {st : Nat → Pose} : ∀ (r : List Nat), 0 < r.length → Qr S st r 0 = st (Wr r 0) := by
  intro r
  induction r with
  | nil => intro h; simp at h
  | cons w r ih =>
    intro h
    by_cases h1 : 0 < r.length
    · rw [Qr_cons h1, Wr_cons h1]
      exact ih h1
    · have h2 : r = [] := List.eq_nil_of_length_eq_zero (by omega)
      subst h2
      rfl
theorem VR.q {S : Nat → Int} (hS : SB S) {st : Nat → Pose} (hst : GS st) {r : List Nat} (h : VR r) : ∀ i, i < r.length → WP (Qr S st r i) ∧ BP (3 + i) (Qr S st r i) ∧ (Qr S st r i).1 = Wr r i := by
  intro i
  induction i with
  | zero =>
    intro hi
    rw [Qr_0 r hi]
    exact hst _ (h.2 0 hi).1
  | succ i ih =>
    intro hi
    obtain ⟨a, b, c⟩ := ih (by omega)
    rw [Qr_step r i hi]
    exact ⟨prl_wp a (h.2 (i + 1) hi).1 (by rw [c]; exact (h.2 i (by omega)).2 hi), prl_bp hS a b, prl_1 _ _ _⟩
theorem gs_pst : GS pst := fun u hu => ⟨pst_wp u hu, pst_bp u 3, rfl⟩
theorem headD_W (r : List Nat) (h : 0 < r.length) : r.headD 0 = Wr r (r.length - 1) := by
  unfold Wr
  rw [show r.length - 1 - (r.length - 1) = 0 by omega]
  rfl
theorem VR.one {w : Nat} (h : w < 6) : VR [w] := by
  refine ⟨by simp, fun i hi => ?_⟩
  simp only [List.length_cons, List.length_nil] at hi
  have : i = 0 := by omega
  subst this
  exact ⟨h, fun q => by simp at q⟩
theorem VR.cons {w : Nat} {r : List Nat} (h : VR r) (hw : w < 6) (h2 : w / 2 ≠ r.headD 0 / 2) : VR (w :: r) := by
  have h0 := h.1
  refine ⟨by simp, fun i hi => ?_⟩
  simp only [List.length_cons] at hi ⊢
  by_cases h1 : i < r.length
  · rw [Wr_cons h1]
    refine ⟨(h.2 i h1).1, fun q => ?_⟩
    by_cases h3 : i + 1 < r.length
    · rw [Wr_cons h3]
      exact (h.2 i h1).2 h3
    · rw [show i + 1 = r.length by omega, Wr_top]
      rw [headD_W r h.1] at h2
      rw [show i = r.length - 1 by omega]
      exact h2
  · rw [show i = r.length by omega, Wr_top]
    exact ⟨hw, fun q => by omega⟩
theorem Wr_app : ∀ (p r : List Nat) (i : Nat), i < r.length → Wr (p ++ r) i = Wr r i := by
  intro p
  induction p with
  | nil => intro r i _; rfl
  | cons w p ih =>
    intro r i h
    rw [List.cons_append, Wr_cons (by rw [List.length_append]; omega)]
    exact ih r i h
theorem rowsF_app : ∀ (k : Nat) (r s : List Nat), s ∈ rowsF k r → ∃ p, s = p ++ r := by
  intro k
  induction k with
  | zero =>
    intro r s h
    simp only [rowsF, List.mem_singleton] at h
    exact ⟨[], h⟩
  | succ k ih =>
    intro r s h
    simp only [rowsF, List.mem_cons, List.mem_flatMap] at h
    rcases h with h | ⟨w, -, h⟩
    · exact ⟨[], h⟩
    · obtain ⟨p, e⟩ := ih _ _ h
      exact ⟨p ++ [w], by rw [e]; simp⟩
theorem decN_key {r : List Nat} (h : ∀ w ∈ r, w < 10) (hl : r.length ≤ 5) : decN (keyN r) = r ∧ keyN r / 100000 = r.length ∧ valN r < 100000 := by
  have g : ∀ r : List Nat, (∀ w ∈ r, w < 10) → valN r < 10 ^ r.length ∧ digN r.length (valN r) = r := by
    intro r
    induction r with
    | nil => intro _; exact ⟨by decide, rfl⟩
    | cons w r ih =>
      intro h
      obtain ⟨a, b⟩ := ih (fun v hv => h v (List.mem_cons_of_mem _ hv))
      have hw := h w (List.mem_cons_self ..)
      refine ⟨?_, ?_⟩
      · simp only [valN, List.length_cons, Nat.pow_succ]
        omega
      · simp only [List.length_cons, digN, valN]
        rw [show (w + 10 * valN r) % 10 = w by omega, show (w + 10 * valN r) / 10 = valN r by omega, b]
  obtain ⟨a, b⟩ := g r h
  have c : valN r < 100000 := Nat.lt_of_lt_of_le a (by
    have : 10 ^ r.length ≤ 10 ^ 5 := Nat.pow_le_pow_right (by omega) hl
    omega)
  have d : keyN r / 100000 = r.length := by unfold keyN; omega
  refine ⟨?_, d, c⟩
  unfold decN
  rw [d, show keyN r % 100000 = valN r by unfold keyN; omega, b]
theorem VR.mem {r : List Nat} (h : VR r) : ∀ w ∈ r, w < 6 := by
  intro w hw
  obtain ⟨i, hi, e⟩ := List.mem_iff_getElem.mp hw
  have h1 := (h.2 (r.length - 1 - i) (by omega)).1
  unfold Wr at h1
  rw [show r.length - 1 - (r.length - 1 - i) = i by omega, List.drop_eq_getElem_cons hi] at h1
  simp only [List.headD_cons] at h1
  omega
theorem VR.key {r : List Nat} (h : VR r) (hl : r.length ≤ 5) : decN (keyN r) = r ∧ keyN r / 100000 = r.length ∧ valN r < 100000 := decN_key (fun w hw => Nat.lt_trans (h.mem w hw) (by omega)) hl
/-- the class's way of choosing: the first of the shortest rows -/
noncomputable def candC (S : Nat → Int) (bar : Nat → Nat → Prop) (A B : Nat → Int) (st : Nat → Pose) (x : Int × Int × Nat) (r : List Nat) : Int × Int × Nat :=
  haveI := Classical.propDecidable (wayR S bar A B st r)
  if wayR S bar A B st r then
    if x.1 = -1 ∨ lenR S A B st r < x.1 then (lenR S A B st r, 1, keyN r)
    else if lenR S A B st r = x.1 then (x.1, x.2.1 + 1, if r.length < x.2.2 / 100000 then keyN r else x.2.2)
    else x
  else x
theorem candC_not {S : Nat → Int} {bar : Nat → Nat → Prop} {A B : Nat → Int} {st : Nat → Pose} : ∀ (L : List (List Nat)) (x : Int × Int × Nat), (∀ r ∈ L, ¬ wayR S bar A B st r) → L.foldl (candC S bar A B st) x = x := by
  intro L
  induction L with
  | nil => intro x _; rfl
  | cons r L ih =>
    intro x h
    rw [List.foldl_cons, show candC S bar A B st x r = x by unfold candC; rw [if_neg (h r (List.mem_cons_self ..))]]
    exact ih x (fun s hs => h s (List.mem_cons_of_mem _ hs))
theorem lenR_pos (S A B : Nat → Int) (st : Nat → Pose) (r : List Nat) : 0 ≤ lenR S A B st r := by
  unfold lenR
  have sq : ∀ a : Int, 0 ≤ a * a := fun a => by
    rcases Int.le_total 0 a with h | h
    · exact Int.mul_nonneg h h
    · exact Int.mul_nonneg_of_nonpos_of_nonpos h h
  have := sq (imX (poseR S st r) B - imX (Qr S st r 0) A)
  have := sq (imY (poseR S st r) B - imY (Qr S st r 0) A)
  omega
theorem cand_C {S : Nat → Int} {bar : Nat → Nat → Prop} {A B : Nat → Int} {st : Nat → Pose} : ∀ (L : List (List Nat)) (x : Int × Int × Nat), (∀ r ∈ L, keyN r / 100000 = r.length) → L.Pairwise (fun s r => keyN r / 100000 = keyN s / 100000 → keyN s < keyN r) → (x.1 = -1 ∨ ∀ r ∈ L, keyN r / 100000 = x.2.2 / 100000 → x.2.2 < keyN r) → L.foldl (candC S bar A B st) x = L.foldl (cand S bar A B st) x := by
  intro L
  induction L with
  | nil => intro x _ _ _; rfl
  | cons r L ih =>
    intro x hl hp hx
    rw [List.foldl_cons, List.foldl_cons]
    have hr := hl r (List.mem_cons_self ..)
    have hp' := List.pairwise_cons.mp hp
    have hl' := fun s hs => hl s (List.mem_cons_of_mem r hs)
    unfold candC cand
    by_cases hw : wayR S bar A B st r
    · simp only [if_pos hw]
      by_cases h1 : x.1 = -1 ∨ lenR S A B st r < x.1
      · simp only [if_pos h1]
        exact ih _ hl' hp'.2 (Or.inr (fun s hs q => hp'.1 s hs q))
      · simp only [if_neg h1]
        have hxx := hx.resolve_left (fun q => h1 (Or.inl q))
        by_cases h2 : lenR S A B st r = x.1
        · simp only [if_pos h2]
          have e : (if r.length < x.2.2 / 100000 then keyN r else x.2.2) = min x.2.2 (keyN r) := by
            have := hxx r (List.mem_cons_self ..)
            split <;> omega
          rw [e]
          refine ih _ hl' hp'.2 (Or.inr (fun s hs q => ?_))
          have m1 := hxx s (List.mem_cons_of_mem r hs)
          have m2 := hp'.1 s hs
          simp only at q ⊢
          omega
        · simp only [if_neg h2]
          exact ih _ hl' hp'.2 (Or.inr (fun s hs => hxx s (List.mem_cons_of_mem r hs)))
    · simp only [if_neg hw]
      refine ih _ hl' hp'.2 ?_
      rcases hx with hx | hx
      · exact Or.inl hx
      · exact Or.inr (fun s hs => hx s (List.mem_cons_of_mem r hs))
theorem allRows_len : ∀ r ∈ allRows, keyN r / 100000 = r.length := by decide +kernel
theorem allRows_srt : allRows.Pairwise (fun s r => keyN r / 100000 = keyN s / 100000 → keyN s < keyN r) := by decide +kernel
theorem bestK_C (S : Nat → Int) (bar : Nat → Nat → Prop) (A B : Nat → Int) : allRows.foldl (candC S bar A B pst) (-1, 0, 0) = bestK S bar A B := cand_C _ _ allRows_len allRows_srt (Or.inl rfl)
