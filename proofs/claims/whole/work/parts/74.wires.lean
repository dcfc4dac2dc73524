/-! WIRES: the numbers -/
def okW (W : Nat → Int) (g : Nat → Int32) (t : Nat) : Prop := W t ≠ -1 ∧ g (t / 8) ≠ g (t % 8)
noncomputable def sc1 (W : Nat → Int) (g : Nat → Int32) (t : Nat) (x : Int) : Int :=
  haveI := Classical.propDecidable (okW W g t ∧ (x = -1 ∨ W t < W x.toNat))
  if okW W g t ∧ (x = -1 ∨ W t < W x.toNat) then (t : Int) else x
theorem sc1_t {W : Nat → Int} {g : Nat → Int32} {t : Nat} {x : Int} (h : okW W g t ∧ (x = -1 ∨ W t < W x.toNat)) : sc1 W g t x = t := by unfold sc1; rw [if_pos h]
theorem sc1_f {W : Nat → Int} {g : Nat → Int32} {t : Nat} {x : Int} (h : ¬ (okW W g t ∧ (x = -1 ∨ W t < W x.toNat))) : sc1 W g t x = x := by unfold sc1; rw [if_neg h]
noncomputable def scn (W : Nat → Int) (g : Nat → Int32) : Nat → Nat → Int → Int
  | 0, _, x => x
  | k + 1, t, x => scn W g k (t + 1) (sc1 W g t x)
theorem scn_s (W : Nat → Int) (g : Nat → Int32) (k t : Nat) (x : Int) : scn W g (k + 1) t x = scn W g k (t + 1) (sc1 W g t x) := rfl
theorem scn_add (W : Nat → Int) (g : Nat → Int32) : ∀ (k l t : Nat) (x : Int), scn W g (k + l) t x = scn W g l (t + k) (scn W g k t x) := by
  intro k
  induction k with
  | zero => intro l t x; rw [Nat.zero_add, Nat.add_zero]; rfl
  | succ k ih =>
    intro l t x
    rw [show k + 1 + l = (k + l) + 1 by omega, scn_s, ih, scn_s, show t + 1 + k = t + (k + 1) by omega]
theorem scn_id {W : Nat → Int} {g : Nat → Int32} : ∀ (k t : Nat) (x : Int), (∀ i, t ≤ i → i < t + k → W i = -1) → scn W g k t x = x := by
  intro k
  induction k with
  | zero => intro t x _; rfl
  | succ k ih =>
    intro t x h
    rw [scn_s, sc1_f (fun q => q.1.1 (h t (by omega) (by omega)))]
    exact ih (t + 1) x (fun i h1 h2 => h i (by omega) (by omega))
theorem scn_cg {W : Nat → Int} {g g' : Nat → Int32} (h : ∀ p, p < 8 → g p = g' p) : ∀ (k t : Nat) (x : Int), t + k ≤ 64 → scn W g k t x = scn W g' k t x := by
  intro k
  induction k with
  | zero => intro t x _; rfl
  | succ k ih =>
    intro t x ht
    have e : sc1 W g t x = sc1 W g' t x := by
      have : okW W g t ↔ okW W g' t := by
        unfold okW
        rw [h (t / 8) (by omega), h (t % 8) (by omega)]
      by_cases q : okW W g t ∧ (x = -1 ∨ W t < W x.toNat)
      · rw [sc1_t q, sc1_t ⟨this.mp q.1, q.2⟩]
      · rw [sc1_f q, sc1_f (fun z => q ⟨this.mpr z.1, z.2⟩)]
    rw [scn_s, scn_s, e, ih (t + 1) _ (by omega)]
theorem scn_p {W : Nat → Int} {g : Nat → Int32} : ∀ (k t : Nat) (x : Int), -1 ≤ x → (scn W g k t x = -1 → x = -1 ∧ ∀ i, t ≤ i → i < t + k → ¬ okW W g i) ∧ (scn W g k t x ≠ -1 → (scn W g k t x = x ∨ ∃ i, t ≤ i ∧ i < t + k ∧ okW W g i ∧ scn W g k t x = (i : Int)) ∧ (x ≠ -1 → W (scn W g k t x).toNat ≤ W x.toNat) ∧ ∀ i, t ≤ i → i < t + k → okW W g i → W (scn W g k t x).toNat ≤ W i) := by
  intro k
  induction k with
  | zero =>
    intro t x hx
    exact ⟨fun h => ⟨h, fun i h1 h2 => by omega⟩, fun h => ⟨Or.inl rfl, fun _ => Int.le_refl _, fun i h1 h2 => by omega⟩⟩
  | succ k ih =>
    intro t x hx
    rw [scn_s]
    by_cases q : okW W g t ∧ (x = -1 ∨ W t < W x.toNat)
    · rw [sc1_t q]
      obtain ⟨i1, i2⟩ := ih (t + 1) (t : Int) (by omega)
      refine ⟨fun h => absurd (i1 h).1 (by omega), fun h => ?_⟩
      obtain ⟨a1, a2, a3⟩ := i2 h
      have a2' := a2 (by omega)
      rw [Int.toNat_natCast] at a2'
      refine ⟨Or.inr ?_, fun hx1 => ?_, fun i h1 h2 h3 => ?_⟩
      · rcases a1 with a1 | ⟨i, b1, b2, b3, b4⟩
        · exact ⟨t, by omega, by omega, q.1, a1⟩
        · exact ⟨i, by omega, by omega, b3, b4⟩
      · have := q.2.resolve_left hx1
        omega
      · by_cases hi : i = t
        · rw [hi]; exact a2'
        · exact a3 i (by omega) (by omega) h3
    · rw [sc1_f q]
      obtain ⟨i1, i2⟩ := ih (t + 1) x hx
      refine ⟨fun h => ?_, fun h => ?_⟩
      · obtain ⟨a1, a2⟩ := i1 h
        refine ⟨a1, fun i h1 h2 h3 => ?_⟩
        by_cases hi : i = t
        · rw [hi] at h3; exact q ⟨h3, Or.inl a1⟩
        · exact a2 i (by omega) (by omega) h3
      · obtain ⟨a1, a2, a3⟩ := i2 h
        refine ⟨?_, a2, fun i h1 h2 h3 => ?_⟩
        · rcases a1 with a1 | ⟨i, b1, b2, b3, b4⟩
          · exact Or.inl a1
          · exact Or.inr ⟨i, by omega, by omega, b3, b4⟩
        · by_cases hi : i = t
          · rw [hi] at h3 ⊢
            by_cases hx1 : x = -1
            · exact absurd ⟨h3, Or.inl hx1⟩ q
            · have := a2 hx1
              have : ¬ W t < W x.toNat := fun z => q ⟨h3, Or.inr z⟩
              omega
          · exact a3 i (by omega) (by omega) h3
def jn (g : Nat → Int32) (t : Nat) : Nat → Int32 := fun p => if g p = g (t % 8) then g (t / 8) else g p
noncomputable def Xg (W : Nat → Int) (g : Nat → Int32) : Int := scn W g 64 0 (-1)
noncomputable def stp1 (W : Nat → Int) (g : Nat → Int32) : Nat → Int32 :=
  if Xg W g = -1 then g else jn g (Xg W g).toNat
noncomputable def Gs (W : Nat → Int) : Nat → Nat → Int32
  | 0 => nI
  | i + 1 => stp1 W (Gs W i)
noncomputable def Xs (W : Nat → Int) (i : Nat) : Int := Xg W (Gs W i)
theorem Gs_s {W : Nat → Int} {i : Nat} (h : Xs W i ≠ -1) : Gs W (i + 1) = jn (Gs W i) (Xs W i).toNat := by
  show stp1 W (Gs W i) = _
  unfold stp1
  rw [if_neg (show ¬ Xg W (Gs W i) = -1 from h)]
  rfl
theorem Xs_ok {W : Nat → Int} {i : Nat} (h : Xs W i ≠ -1) : ∃ t : Nat, t < 64 ∧ Xs W i = (t : Int) ∧ okW W (Gs W i) t ∧ ∀ j, j < 64 → okW W (Gs W i) j → W t ≤ W j := by
  obtain ⟨-, a⟩ := scn_p (W := W) (g := Gs W i) 64 0 (-1) (by omega)
  obtain ⟨a1, -, a3⟩ := a h
  rcases a1 with a1 | ⟨t, b1, b2, b3, b4⟩
  · exact absurd a1 h
  · refine ⟨t, by omega, b4, b3, fun j hj hk => ?_⟩
    have := a3 j (by omega) (by omega) hk
    rw [b4, Int.toNat_natCast] at this
    exact this
theorem Xs_mono {W : Nat → Int} {i : Nat} (h : Xs W i ≠ -1) (h2 : Xs W (i + 1) ≠ -1) : W (Xs W i).toNat ≤ W (Xs W (i + 1)).toNat := by
  obtain ⟨t, t1, t2, t3, t4⟩ := Xs_ok h
  obtain ⟨u, u1, u2, u3, u4⟩ := Xs_ok h2
  rw [t2, u2, Int.toNat_natCast, Int.toNat_natCast]
  refine t4 u u1 ⟨u3.1, fun q => u3.2 ?_⟩
  rw [Gs_s h, t2, Int.toNat_natCast]
  unfold jn
  rw [q]
/-- those that stand for their group -/
def rpn (g : Nat → Int32) (p : Nat) : Nat := if g p = nI p then 1 else 0
def rps (g : Nat → Int32) : Nat := rpn g 0 + rpn g 1 + rpn g 2 + rpn g 3 + rpn g 4 + rpn g 5 + rpn g 6 + rpn g 7
def wfG (g : Nat → Int32) : Prop := ∀ p, p < 8 → ∃ q, q < 8 ∧ g p = nI q ∧ g q = nI q
theorem jn_wf {g : Nat → Int32} (h : wfG g) {t : Nat} (ht : t < 64) (ho : g (t / 8) ≠ g (t % 8)) : wfG (jn g t) ∧ rps (jn g t) < rps g ∧ 1 ≤ rps (jn g t) := by
  obtain ⟨qa, a1, a2, a3⟩ := h (t / 8) (by omega)
  obtain ⟨qb, b1, b2, b3⟩ := h (t % 8) (by omega)
  have hne : qa ≠ qb := fun e => ho (by rw [a2, b2, e])
  have hab : nI qa ≠ nI qb := fun e => hne ((nI_eq (by omega) (by omega)).mp e)
  have ja : jn g t qa = nI qa := by
    unfold jn
    rw [a3, b2, if_neg hab]
  have jb : jn g t qb = nI qa := by
    unfold jn
    rw [b3, b2, if_pos rfl, a2]
  have le : ∀ p, p < 8 → rpn (jn g t) p ≤ rpn g p := by
    intro p hp
    unfold rpn
    by_cases q : jn g t p = nI p
    · rw [if_pos q]
      unfold jn at q
      by_cases q2 : g p = g (t % 8)
      · rw [if_pos q2, a2] at q
        have e : qa = p := (nI_eq (by omega) (by omega)).mp q
        rw [if_pos (by rw [← e]; exact a3)]
        exact Nat.le_refl _
      · rw [if_neg q2] at q
        rw [if_pos q]
        exact Nat.le_refl _
    · rw [if_neg q]
      exact Nat.zero_le _
  have r1 : rpn (jn g t) qb = 0 := by unfold rpn; rw [jb, if_neg hab]
  have r2 : rpn g qb = 1 := by unfold rpn; rw [b3, if_pos rfl]
  have r3 : rpn (jn g t) qa = 1 := by unfold rpn; rw [ja, if_pos rfl]
  have l0 := le 0 (by omega)
  have l1 := le 1 (by omega)
  have l2 := le 2 (by omega)
  have l3 := le 3 (by omega)
  have l4 := le 4 (by omega)
  have l5 := le 5 (by omega)
  have l6 := le 6 (by omega)
  have l7 := le 7 (by omega)
  refine ⟨fun p hp => ?_, ?_, ?_⟩
  · obtain ⟨q, q1, q2, q3⟩ := h p hp
    by_cases e : g p = g (t % 8)
    · exact ⟨qa, a1, by unfold jn; rw [if_pos e, a2], ja⟩
    · refine ⟨q, q1, by unfold jn; rw [if_neg e, q2], ?_⟩
      unfold jn
      rw [if_neg (by rw [q3, ← q2]; exact e), q3]
  · unfold rps
    rcases (by omega : qb = 0 ∨ qb = 1 ∨ qb = 2 ∨ qb = 3 ∨ qb = 4 ∨ qb = 5 ∨ qb = 6 ∨ qb = 7) with e | e | e | e | e | e | e | e <;> rw [e] at r1 r2 <;> omega
  · unfold rps
    rcases (by omega : qa = 0 ∨ qa = 1 ∨ qa = 2 ∨ qa = 3 ∨ qa = 4 ∨ qa = 5 ∨ qa = 6 ∨ qa = 7) with e | e | e | e | e | e | e | e <;> rw [e] at r3 <;> omega
theorem Gs_wf {W : Nat → Int} : ∀ i, (∀ j, j < i → Xs W j ≠ -1) → wfG (Gs W i) ∧ rps (Gs W i) + i ≤ 8 ∧ 1 ≤ rps (Gs W i) := by
  intro i
  induction i with
  | zero =>
    intro _
    have e : rps (Gs W 0) = 8 := by
      show rps nI = 8
      decide
    exact ⟨fun p hp => ⟨p, hp, rfl, rfl⟩, by omega, by omega⟩
  | succ i ih =>
    intro h
    obtain ⟨a1, a2, a3⟩ := ih (fun j hj => h j (by omega))
    obtain ⟨t, t1, t2, t3, -⟩ := Xs_ok (h i (by omega))
    rw [Gs_s (h i (by omega)), t2, Int.toNat_natCast]
    obtain ⟨b1, b2, b3⟩ := jn_wf a1 t1 t3.2
    exact ⟨b1, by omega, b3⟩
theorem Xs_M (W : Nat → Int) : ∃ M, M ≤ 7 ∧ (∀ i, i < M → Xs W i ≠ -1) ∧ Xs W M = -1 := by
  have go : ∀ k j, j + k = 8 → (∀ i, i < j → Xs W i ≠ -1) → ∃ M, M ≤ 7 ∧ (∀ i, i < M → Xs W i ≠ -1) ∧ Xs W M = -1 := by
    intro k
    induction k with
    | zero =>
      intro j hj h
      obtain ⟨-, a2, a3⟩ := Gs_wf j h
      omega
    | succ k ih =>
      intro j hj h
      by_cases q : Xs W j = -1
      · exact ⟨j, by omega, h, q⟩
      · refine ih (j + 1) (by omega) (fun i hi => ?_)
        by_cases e : i = j
        · rw [e]; exact q
        · exact h i (by omega)
  exact go 8 0 rfl (fun i hi => by omega)
noncomputable def mst (W : Nat → Int) (r : Nat) : Int := if r = 0 then 0 else W (Xs W (r - 1)).toNat
noncomputable def wrA (W : Nat → Int) (x2 : Int32) (M : Nat) : Int32 := if x2 = -1 then nI M else if x2 = -2 then iI (mst W M) else if x2.toInt < M then iI (Xs W x2.toInt.toNat) else -1
