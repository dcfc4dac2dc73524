theorem ix3 {p k : Nat} (hp : p < 8) (hk : k < 3) {v : Int32} (hv : v = nI k) : inb ((3 : Int32) * nI p + v) 24 = true ∧ ((3 : Int32) * nI p + v).toNatClampNeg = 3 * p + k := by
  subst hv
  have e : (3 : Int32) * nI p + nI k = nI (3 * p + k) := by
    rw [show (3 : Int32) = nI 3 from rfl, pk_mul, nI_add]
  rw [e]
  exact ⟨by rw [inb_iff, nI_toInt (by omega)]; omega, nI_clamp (by omega)⟩
theorem ix30 {p : Nat} (hp : p < 8) : inb ((3 : Int32) * nI p) 24 = true ∧ ((3 : Int32) * nI p).toNatClampNeg = 3 * p := by
  have e : (3 : Int32) * nI p = nI (3 * p) := by rw [show (3 : Int32) = nI 3 from rfl, pk_mul]
  rw [e]
  exact ⟨by rw [inb_iff, nI_toInt (by omega)]; omega, nI_clamp (by omega)⟩
def mpt (sg : Hp) (p : Nat) (x y z : Int32) : Hp := w2 (w2 (w2 sg 52 (3 * p) x) 52 (3 * p + 1) y) 52 (3 * p + 2) z
theorem puts_m {sg : Hp} {p : Nat} (hp : p < 8) (x y z : Int32) : f_Mod_puts sg (nI p) x y z = some (mpt sg p x y z) := by
  unfold f_Mod_puts mpt
  rw [if_pos (ix30 hp).1, Option.bind_some, if_pos (ix3 hp (k := 1) (v := 1) (by omega) rfl).1, Option.bind_some, if_pos (ix3 hp (k := 2) (v := 2) (by omega) rfl).1, Option.bind_some, (ix30 hp).2, (ix3 hp (k := 1) (v := 1) (by omega) rfl).2, (ix3 hp (k := 2) (v := 2) (by omega) rfl).2]
def cmv (sg : Hp) (p : Nat) (x y z : Int32) : Hp := w2 (w2 (w2 (w2 sg 3 p x) 4 p y) 5 p z) 1 6 (sg 1 6 + 1)
theorem move_c {sg : Hp} {p : Nat} (hp : p < 8) (x y z : Int32) : f_Room_move sg (nI p) x y z = some (cmv sg p x y z) := by
  have hb : inb (nI p) 8 = true := by rw [inb_iff, nI_toInt (by omega)]; omega
  unfold f_Room_move cmv
  simp only [if_pos hb, Option.bind_some, nI_clamp (show p < 2 ^ 31 by omega)]
  simp [w2_app]
theorem cmv_cell (sg : Hp) {p c : Nat} (x y z : Int32) (h1 : c ≠ 1) (h3 : c ≠ 3) (h4 : c ≠ 4) (h5 : c ≠ 5) : cmv sg p x y z c = sg c := by
  unfold cmv
  rw [w2_cell _ h1, w2_cell _ h5, w2_cell _ h4, w2_cell _ h3]
theorem cmv_at (sg : Hp) (p q : Nat) (x y z : Int32) : cmv sg p x y z 3 q = (if q = p then x else sg 3 q) ∧ cmv sg p x y z 4 q = (if q = p then y else sg 4 q) ∧ cmv sg p x y z 5 q = (if q = p then z else sg 5 q) ∧ cmv sg p x y z 1 6 = sg 1 6 + 1 := by
  unfold cmv
  simp [w2_app]
theorem mpt_cell (sg : Hp) {p c : Nat} (x y z : Int32) (h : c ≠ 52) : mpt sg p x y z c = sg c := by
  unfold mpt
  rw [w2_cell _ h, w2_cell _ h, w2_cell _ h]
theorem mpt_at (sg : Hp) (p q : Nat) (x y z : Int32) : mpt sg p x y z 52 (3 * q) = (if q = p then x else sg 52 (3 * q)) ∧ mpt sg p x y z 52 (3 * q + 1) = (if q = p then y else sg 52 (3 * q + 1)) ∧ mpt sg p x y z 52 (3 * q + 2) = (if q = p then z else sg 52 (3 * q + 2)) := by
  unfold mpt
  by_cases h : q = p
  · subst h
    rw [w2_ne (by omega), w2_ne (by omega), w2_at, w2_ne (by omega), w2_at, w2_at]
    simp
  · rw [w2_ne (by omega), w2_ne (by omega), w2_ne (by omega), w2_ne (by omega), w2_ne (by omega), w2_ne (by omega), w2_ne (by omega), w2_ne (by omega), w2_ne (by omega)]
    simp [h]
/-- when the changes have grown, nothing kept is new -/
theorem IT.grown {n n' : Nat} {sg sg' : Hp} (h : IT n sg) (h1 : (sg 1 6).toInt < (sg' 1 6).toInt) (h2 : (sg' 1 6).toInt ≤ n') (h28 : sg' 28 = sg 28) : IT n' sg' := by
  obtain ⟨⟨a1, a2⟩, a3⟩ := h
  refine ⟨⟨by omega, h2⟩, fun a b ha hb => ?_⟩
  obtain ⟨b1, b2, b3⟩ := a3 a b ha hb
  rw [h28]
  refine ⟨b1, by omega, fun e => ?_⟩
  rw [nEq] at e
  omega
/-- what a change of the box leaves as it was -/
theorem Inv.boxed {n n' : Nat} {sg sg' : Hp} (h : Inv n sg) (hb : IB sg') (ht : IT n' sg') (he : Eo [1, 2, 3, 4, 5, 6, 8, 13, 15, 36, 51, 52, 53] sg sg') : Inv n' sg' := by
  obtain ⟨h1, h2, h3, h5, h6⟩ := h
  exact ⟨hb, h2.of (he 9 (by decide)) (he 10 (by decide)) (by rw [he 46 (by decide)]) (he 54 (by decide)), h3.of (fun s hs => he (38 + s) (by simp only [List.mem_cons, List.not_mem_nil, or_false]; omega)) (he 47 (by decide)) (he 48 (by decide)) (he 49 (by decide)), h5.of (by rw [he 0 (by decide)]) (by rw [he 46 (by decide)]), ht⟩
theorem k_place : K_place := by
  intro n sg h hn a1 a2 a3 a4
  have hB := h.1
  obtain ⟨b1, b2, b3, b4, b5, b6⟩ := id hB
  unfold PairI f_Box_place f_Mod_place
  simp only [isPlace_c, isPlace_m, Option.bind_some, if_b]
  by_cases hc : 0 ≤ a1.toInt ∧ a1.toInt ≤ 7
  · obtain ⟨p, hp, rfl⟩ := nI_ex (n := 7) hc (by omega)
    obtain ⟨r, e1, e2, e3⟩ := holds_c b2 a2 a3 a4
    simp only [if_pos hc, e1, Option.bind_some]
    generalize hA : stS sg 8 2 a2 a3 a4 = A
    have cA : ∀ c, c ≠ 8 → A c = sg c := fun c hc => by rw [← hA, stS_cell _ _ _ _ hc]
    have hIA : Inv n A := by
      refine h.boxed (hB.of (cA _ (by omega)) (cA _ (by omega)) (cA _ (by omega)) (cA _ (by omega)) (cA _ (by omega)) (cA _ (by omega)) (cA _ (by omega)) (cA _ (by omega))) (h.2.2.2.2.of (Nat.le_refl _) (by rw [cA 1 (by omega)]) (cA _ (by omega)) (cA _ (by omega)) (cA _ (by omega)) (cA _ (by omega)) (cA _ (by omega)) (cA _ (by omega)) (cA _ (by omega)) (cA _ (by omega)) (cA _ (by omega))) (fun c hc => ?_)
      simp only [List.mem_cons, List.not_mem_nil, or_false, not_or] at hc
      exact cA c (by omega)
    rcases e2 with rfl | rfl
    · rw [if_pos rfl]
      refine ⟨-2, A, A, rfl, ?_, hIA.same⟩
      obtain ⟨r, g1, g2, g3⟩ := isOnBox_m A a2 a3 a4
      rw [g1, Option.bind_some]
      dsimp only
      rw [if_pos]
      rcases g2 with rfl | rfl
      · rfl
      · exfalso
        have q := g3.mp rfl
        rw [onB_eq (mSd_eq hIA.1)] at q
        have q2 := e3.mpr (by rw [onB_eq (S' := sS A) (fun a _ => by unfold sS; rw [cA 2 (by omega)])]; exact q)
        exact absurd q2 (by decide)
    · rw [if_neg (by decide), move_c (by omega), Option.bind_some]
      have hon := e3.mp rfl
      have honA : onB (sS A) a2.toInt a3.toInt a4.toInt := by rw [onB_eq (S' := sS sg) (fun a _ => by unfold sS; rw [cA 2 (by omega)])]; exact hon
      refine ⟨1, cmv A p a2 a3 a4, mpt (cmv A p a2 a3 a4) p a2 a3 a4, rfl, ?_, ?_⟩
      · obtain ⟨r, g1, g2, g3⟩ := isOnBox_m (cmv A p a2 a3 a4) a2 a3 a4
        rw [g1, Option.bind_some]
        dsimp only
        have hr : r = 1 := g3.mpr (by
          rw [onB_eq (S' := mSd A) (fun a _ => by unfold mSd; rw [cmv_cell _ _ _ _ (by omega) (by omega) (by omega) (by omega)]), onB_eq (mSd_eq hIA.1)]
          exact honA)
        rw [hr, if_neg (by decide), puts_m (by omega), Option.bind_some]
      · obtain ⟨c1, c2, c3, c4, c5, c6⟩ := id hIA.1
        have ct : ∀ c, c ≠ 1 → c ≠ 3 → c ≠ 4 → c ≠ 5 → c ≠ 52 → mpt (cmv A p a2 a3 a4) p a2 a3 a4 c = A c := fun c h1 h3 h4 h5 h52 => by rw [mpt_cell _ _ _ _ h52, cmv_cell _ _ _ _ h1 h3 h4 h5]
        have hS : sS (mpt (cmv A p a2 a3 a4) p a2 a3 a4) = sS A := by funext a; unfold sS; rw [ct 2 (by omega) (by omega) (by omega) (by omega) (by omega)]
        have hch := hIA.2.2.2.2.1
        have ht : (A 1 6 + 1).toInt = (A 1 6).toInt + 1 := by rw [tAdd (by simp; omega) (by simp; omega)]; simp
        refine hIA.boxed ?_ ?_ (fun c hc => ?_)
        · refine ⟨?_, ?_, ?_, ?_, ?_, ?_⟩
          · rw [ct 51 (by omega) (by omega) (by omega) (by omega) (by omega), ct 2 (by omega) (by omega) (by omega) (by omega) (by omega)]; exact c1
          · rw [ct 2 (by omega) (by omega) (by omega) (by omega) (by omega)]; exact c2
          · intro q hq
            obtain ⟨m1, m2, m3⟩ := mpt_at (cmv A p a2 a3 a4) p q a2 a3 a4
            obtain ⟨k1, k2, k3, -⟩ := cmv_at A p q a2 a3 a4
            rw [m1, m2, m3, mpt_cell _ _ _ _ (by omega : (3 : Nat) ≠ 52), mpt_cell _ _ _ _ (by omega : (4 : Nat) ≠ 52), mpt_cell _ _ _ _ (by omega : (5 : Nat) ≠ 52), k1, k2, k3, cmv_cell _ _ _ _ (by omega) (by omega) (by omega) (by omega)]
            by_cases hqp : q = p
            · simp [hqp]
            · simp only [if_neg hqp]; exact c3 q hq
          · intro q hq
            obtain ⟨k1, k2, k3, -⟩ := cmv_at A p q a2 a3 a4
            rw [hS, mpt_cell _ _ _ _ (by omega : (3 : Nat) ≠ 52), mpt_cell _ _ _ _ (by omega : (4 : Nat) ≠ 52), mpt_cell _ _ _ _ (by omega : (5 : Nat) ≠ 52), k1, k2, k3]
            by_cases hqp : q = p
            · simp only [if_pos hqp]; exact honA
            · simp only [if_neg hqp]; exact c4 q hq
          · rw [ct 53 (by omega) (by omega) (by omega) (by omega) (by omega), ct 6 (by omega) (by omega) (by omega) (by omega) (by omega)]; exact c5
          · unfold sBar
            rw [ct 6 (by omega) (by omega) (by omega) (by omega) (by omega)]; exact c6
        · refine hIA.2.2.2.2.grown ?_ ?_ (ct 28 (by omega) (by omega) (by omega) (by omega) (by omega))
          · rw [mpt_cell _ _ _ _ (by omega : (1 : Nat) ≠ 52), (cmv_at A p 0 a2 a3 a4).2.2.2, ht]; omega
          · rw [mpt_cell _ _ _ _ (by omega : (1 : Nat) ≠ 52), (cmv_at A p 0 a2 a3 a4).2.2.2, ht]; omega
        · simp only [List.mem_cons, List.not_mem_nil, or_false, not_or] at hc
          exact ct c (by omega) (by omega) (by omega) (by omega) (by omega)
  · refine ⟨-2, sg, sg, ?_, ?_, h.same⟩
    · rw [if_neg hc]
    · rw [if_neg hc]
