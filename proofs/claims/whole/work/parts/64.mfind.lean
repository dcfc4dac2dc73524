/-! THE REFERENCE'S SEARCH from one wall -/
abbrev TT : Type := Nat × Nat × Nat
def wl (P : Pose) : TT := (P.1, P.2.1, P.2.2.1)
def wT (t : TT) (p : Nat) : Nat := if p = 0 then t.2.1 else if p = 1 then ow t.2.1 else if p = 2 then t.2.2 else ow t.2.2
def rT (t : TT) (p : Nat) : TT := if p = 0 then (t.2.1, ow t.1, t.2.2) else if p = 1 then (ow t.2.1, t.1, t.2.2) else if p = 2 then (t.2.2, t.2.1, ow t.1) else (ow t.2.2, t.2.1, t.1)
theorem wT_s {S : Nat → Int} {P : Pose} (hP : WP P) {p : Nat} (hp : p < 4) : wT (wl P) p < 6 ∧ wT (wl P) p / 2 ≠ P.1 / 2 ∧ rolN P (wT (wl P) p) = p + 1 ∧ wl (prl S P (wT (wl P) p)) = rT (wl P) p := by
  obtain ⟨b, e, n, x, y⟩ := P
  obtain ⟨p1, p2, p3, p4, p5, p6⟩ := id hP
  simp only at p1 p2 p3 p4 p5 p6
  obtain ⟨q1, q2, q3, q4⟩ := h2n (Ne.symm p6)
  obtain ⟨a1, a2, a3, a4⟩ := prl4 S hP
  have o1 := ow_half e
  have o2 := ow_half n
  have o3 := ow_lt p2
  have o4 := ow_lt p3
  rcases (by omega : p = 0 ∨ p = 1 ∨ p = 2 ∨ p = 3) with rfl | rfl | rfl | rfl
  · show e < 6 ∧ e / 2 ≠ b / 2 ∧ rolN (b, e, n, x, y) e = 1 ∧ wl (prl S (b, e, n, x, y) e) = (e, ow b, n)
    refine ⟨p2, by omega, ?_, by rw [a1]; rfl⟩
    unfold rolN
    rw [if_pos rfl]
  · show ow e < 6 ∧ ow e / 2 ≠ b / 2 ∧ rolN (b, e, n, x, y) (ow e) = 2 ∧ wl (prl S (b, e, n, x, y) (ow e)) = (ow e, b, n)
    refine ⟨o3, by omega, ?_, by rw [a2]; rfl⟩
    unfold rolN
    rw [if_neg (ow_ne e), if_pos rfl]
  · show n < 6 ∧ n / 2 ≠ b / 2 ∧ rolN (b, e, n, x, y) n = 3 ∧ wl (prl S (b, e, n, x, y) n) = (n, e, ow b)
    refine ⟨p3, by omega, ?_, by rw [a3]; rfl⟩
    unfold rolN
    rw [if_neg q1, if_neg q2, if_pos rfl]
  · show ow n < 6 ∧ ow n / 2 ≠ b / 2 ∧ rolN (b, e, n, x, y) (ow n) = 4 ∧ wl (prl S (b, e, n, x, y) (ow n)) = (ow n, e, b)
    refine ⟨o4, by omega, ?_, by rw [a4]; rfl⟩
    unfold rolN
    rw [if_neg q3, if_neg q4, if_neg (ow_ne n)]
def mrest : Nat → TT → List Nat → List (List Nat)
  | 0, _, _ => []
  | k + 1, t, r => (List.range' 0 4).flatMap (fun p => if wT t p ∈ r then [] else (wT t p :: r) :: mrest k (rT t p) (wT t p :: r))
/-- what the reference's search reads -/
def ME (S A B : Nat → Int) (bar : Nat → Nat → Prop) (a b : Nat) (sg : Hp) : Prop := SM S sg ∧ MBr bar sg ∧ PM S sg a A ∧ PM S sg b B
theorem MBr.of {bar : Nat → Nat → Prop} {sg sg' : Hp} (h : MBr bar sg) (e : sg' 53 = sg 53) : MBr bar sg' := by
  unfold MBr at *
  rw [e]
  exact h
theorem PM.of {S : Nat → Int} {sg sg' : Hp} {p : Nat} {A : Nat → Int} (h : PM S sg p A) (e : sg' 52 = sg 52) : PM S sg' p A := by
  unfold PM at *
  rw [e]
  exact h
theorem ME.of {S A B : Nat → Int} {bar : Nat → Nat → Prop} {a b : Nat} {sg sg' : Hp} (h : ME S A B bar a b sg) (e1 : sg' 51 = sg 51) (e2 : sg' 52 = sg 52) (e3 : sg' 53 = sg 53) : ME S A B bar a b sg' := ⟨h.1.of e1, h.2.1.of e3, h.2.2.1.of e2, h.2.2.2.of e2⟩
/-- the row as the reference has it -/
def MRw (S : Nat → Int) (sg : Hp) (r : List Nat) : Prop := ∀ i, i < r.length → MS S sg i (Qr S (rst S) r i) ∧ (i + 1 < r.length → EG S sg i (Qr S (rst S) r i) (Wr r (i + 1))) ∧ sg 58 i = nI (Wr r i)
def FM (r : List Nat) (sg sg' : Hp) : Prop := (∀ c, c ≠ 46 → (c < 55 ∨ 60 ≤ c) → sg' c = sg c) ∧ (∀ k, k ≠ 12 → k ≠ 13 → sg' 46 k = sg 46 k) ∧ (∀ i, i < 14 * r.length → sg' 55 i = sg 55 i) ∧ (∀ i, i + 4 < 4 * r.length → sg' 56 i = sg 56 i) ∧ (∀ i, i < r.length → sg' 58 i = sg 58 i) ∧ ∀ i, i + 1 < r.length → sg' 59 i = sg 59 i
theorem FM.refl (r : List Nat) (sg : Hp) : FM r sg sg := ⟨fun _ _ _ => rfl, fun _ _ _ => rfl, fun _ _ => rfl, fun _ _ => rfl, fun _ _ => rfl, fun _ _ => rfl⟩
theorem FM.trans {r : List Nat} {a b c : Hp} (h1 : FM r a b) (h2 : FM r b c) : FM r a c := by
  obtain ⟨a1, a2, a3, a4, a5, a6⟩ := h1
  obtain ⟨b1, b2, b3, b4, b5, b6⟩ := h2
  exact ⟨fun d d1 d2 => by rw [b1 d d1 d2, a1 d d1 d2], fun k k1 k2 => by rw [b2 k k1 k2, a2 k k1 k2], fun i hi => by rw [b3 i hi, a3 i hi], fun i hi => by rw [b4 i hi, a4 i hi], fun i hi => by rw [b5 i hi, a5 i hi], fun i hi => by rw [b6 i hi, a6 i hi]⟩
theorem FM.cut {w : Nat} {r : List Nat} {a b : Hp} (h : FM (w :: r) a b) : FM r a b := by
  obtain ⟨a1, a2, a3, a4, a5, a6⟩ := h
  simp only [List.length_cons] at a3 a4 a5 a6
  exact ⟨a1, a2, fun i hi => a3 i (by omega), fun i hi => a4 i (by omega), fun i hi => a5 i (by omega), fun i hi => a6 i (by omega)⟩
theorem EG.of {S : Nat → Int} {sg sg' : Hp} {l : Nat} {P : Pose} {w : Nat} (h : EG S sg l P w) (e : ∀ i, 4 * l ≤ i → i < 4 * l + 4 → sg' 56 i = sg 56 i) : EG S sg' l P w := by
  unfold EG at *
  rw [e _ (by omega) (by omega), e _ (by omega) (by omega), e _ (by omega) (by omega), e _ (by omega) (by omega)]
  exact h
theorem FM.mr {S : Nat → Int} {r : List Nat} {sg sg' : Hp} (h : FM r sg sg') (hR : MRw S sg r) : MRw S sg' r := by
  intro i hi
  obtain ⟨a, b, c⟩ := hR i hi
  exact ⟨a.of (fun j h1 h2 => h.2.2.1 j (by omega)), fun q => (b q).of (fun j h1 h2 => h.2.2.2.1 j (by omega)), by rw [h.2.2.2.2.1 i hi]; exact c⟩
theorem FM.me {S A B : Nat → Int} {bar : Nat → Nat → Prop} {a b : Nat} {r : List Nat} {sg sg' : Hp} (h : FM r sg sg') (he : ME S A B bar a b sg) : ME S A B bar a b sg' := he.of (h.1 51 (by omega) (by omega)) (h.1 52 (by omega) (by omega)) (h.1 53 (by omega) (by omega))
theorem KF.fm {sg sg' : Hp} (h : KF sg sg') (r : List Nat) : FM r sg sg' := ⟨fun c c1 c2 => h.1 c c1 (by omega), h.2, fun i _ => by rw [h.1 55 (by omega) (by omega)], fun i _ => by rw [h.1 56 (by omega) (by omega)], fun i _ => by rw [h.1 58 (by omega) (by omega)], fun i _ => by rw [h.1 59 (by omega) (by omega)]⟩
theorem mweigh {S A B : Nat → Int} {bar : Nat → Nat → Prop} (hS : SB S) {a b : Nat} (ha : a < 8) (hb : b < 8) {sg : Hp} {r : List Nat} {x : Int × Int × Nat} (hv : VR r) (hl : r.length ≤ 5) (hR : MRw S sg r) (he : ME S A B bar a b sg) (hx : MXr sg x) (hA0 : A (Wr r 0) = 0) (hB0 : B (r.headD 0) = 0) : ∃ v sg', f_Mod_lineOf sg (nI a) (nI 0) (nI b) (nI (r.length - 1)) = some (v, sg) ∧ f_Mod_keeps sg v (nI r.length) = some sg' ∧ MXr sg' (cand S bar A B (rst S) x r) ∧ KF sg sg' := by
  have hp := hv.1
  have hg := rst_gs hS
  obtain ⟨h1, h2, h3, h4⟩ := he
  have hq := hv.q hS hg
  have hlv : LV S sg (fun i => Qr S (rst S) r i) 8 0 (r.length - 1) := by
    refine ⟨fun l _ hl2 => ?_, fun l _ hl2 => ?_⟩
    · obtain ⟨u1, u2, u3⟩ := hq l (by omega)
      obtain ⟨y1, y2, y3, y4⟩ := u2
      exact ⟨u1, show BP 8 (Qr S (rst S) r l) from ⟨by omega, by omega, by omega, by omega⟩, (hR l (by omega)).1⟩
    · show EG S sg l (Qr S (rst S) r l) (Qr S (rst S) r (l + 1)).1
      rw [(hq (l + 1) (by omega)).2.2]
      exact (hR l (by omega)).2.1 (by omega)
  obtain ⟨v, g1, g2, g3⟩ := line_m (bar := bar) hS ha hb (Nat.zero_le _) (by omega) (by omega) hlv h2 h3 h4
  have ht := Qr_top (S := S) (st := rst S) r
  have hok : okL S bar (fun i => Qr S (rst S) r i) (r.length - 1) (imX (Qr S (rst S) r 0) A) (imY (Qr S (rst S) r 0) A) (imX (Qr S (rst S) r (r.length - 1)) B) (imY (Qr S (rst S) r (r.length - 1)) B) 0 ↔ wayR S bar A B (rst S) r := by
    unfold okL wayR
    rw [ht]
    constructor
    · intro q
      refine ⟨hA0, hB0, fun i hi => ?_⟩
      have := q i (by omega) (by omega)
      simp only [(hq i (by omega)).2.2, (hq (i + 1) hi).2.2] at this
      exact this
    · rintro ⟨-, -, q⟩ l _ hl2
      have := q l (by omega)
      simp only [(hq l (by omega)).2.2, (hq (l + 1) (by omega)).2.2]
      exact this
  unfold cand
  by_cases hw : wayR S bar A B (rst S) r
  · simp only [if_pos hw]
    obtain ⟨k1, k2, k3⟩ := g2 (hok.mpr hw)
    obtain ⟨sg', m1, m2, m3⟩ := keeps_m (v := v) hx hv.mem hp hl (fun i hi => (hR i hi).2.2) k2 k3
    have e : v.toInt = lenR S A B (rst S) r := by
      rw [k1]
      unfold lenR
      rw [ht]
    rw [e] at m2
    exact ⟨v, sg', g1, m1, m2, m3⟩
  · simp only [if_neg hw]
    have := g3 (fun q => hw (hok.mp q))
    subst this
    exact ⟨-1, sg, g1, keeps_n .., hx, KF.refl sg⟩
theorem nI_m {n : Nat} (h : n < 6) (h0 : 0 < n) : nI n + (-1) = nI (n - 1) := by
  have key : ∀ n, n < 6 → 0 < n → nI n + (-1) = nI (n - 1) := by decide +kernel
  exact key n h h0
def cst : Nat → Nat
  | 0 => 1
  | k + 1 => 4 * (1 + cst k) + 1
/-- what one visit of a row's followers does -/
def VS (S A B : Nat → Int) (bar : Nat → Nat → Prop) (a b k : Nat) : Prop := ∀ (r : List Nat) (sg : Hp) (x : Int × Int × Nat), r.length + k = 5 → VR r → A (Wr r 0) = 0 → sg 59 (r.length - 1) = -1 → MRw S sg r → ME S A B bar a b sg → MXr sg x → ∃ c sg', c ≤ cst k ∧ (∀ m, f_Mod_findFrom_44 (m + c) sg (nI a) (nI b) (nI (r.length - 1)) = f_Mod_findFrom_44 m sg' (nI a) (nI b) (nI (r.length - 1) + (-1))) ∧ MXr sg' ((mrest k (wl (poseR S (rst S) r)) r).foldl (cand S bar A B (rst S)) x) ∧ FM r sg sg'
theorem MXr.of {sg sg' : Hp} {x : Int × Int × Nat} (h : MXr sg x) (e1 : sg' 46 12 = sg 46 12) (e2 : sg' 46 13 = sg 46 13) (e3 : sg' 57 = sg 57) : MXr sg' x := by
  unfold MXr BRw at *
  rw [e1, e2, e3]
  exact h
theorem vs_0 (S A B : Nat → Int) (bar : Nat → Nat → Prop) (a b : Nat) : VS S A B bar a b 0 := by
  intro r sg x hk hv hA0 h59 hR he hx
  have hp := hv.1
  refine ⟨1, w2 sg 59 (r.length - 1) (sg 59 (r.length - 1) + 1), Nat.le_refl _, fun m => ?_, hx.of (by rw [w2_cell _ (by omega)]) (by rw [w2_cell _ (by omega)]) (by rw [w2_cell _ (by omega)]), ?_⟩
  · have i6 : inb (nI (r.length - 1)) 6 = true := ib (by omega) (by omega)
    rw [f_Mod_findFrom_44, if_neg (nI_pos (by omega)), if_pos i6, if_pos i6, Option.bind_some, if_pos i6, nI_clamp (by omega)]
    unfold f_Mod_findFrom_77
    by_cases q : w2 sg 59 (r.length - 1) (sg 59 (r.length - 1) + 1) 59 (r.length - 1) = 4
    · rw [if_pos q]
    · rw [if_neg q, if_pos (by rw [show r.length - 1 = 4 by omega]; rfl)]
  · exact ⟨fun c c1 c2 => w2_cell _ (by omega), fun k _ _ => by rw [w2_cell _ (by omega)], fun i _ => by rw [w2_cell _ (by omega)], fun i _ => by rw [w2_cell _ (by omega)], fun i _ => by rw [w2_cell _ (by omega)], fun i hi => w2_ne (by omega)⟩
theorem vs_q {S A B : Nat → Int} {bar : Nat → Nat → Prop} (hS : SB S) {a b k : Nat} (ha : a < 8) (hb : b < 8) (IH : VS S A B bar a b k) {r : List Nat} (hk : r.length + (k + 1) = 5) (hv : VR r) (hA0 : A (Wr r 0) = 0) : ∀ (q p : Nat) (sg : Hp) (x : Int × Int × Nat), p + q = 4 → sg 59 (r.length - 1) + 1 = nI p → MRw S sg r → ME S A B bar a b sg → MXr sg x → ∃ c sg', c ≤ q * (1 + cst k) + 1 ∧ (∀ m, f_Mod_findFrom_44 (m + c) sg (nI a) (nI b) (nI (r.length - 1)) = f_Mod_findFrom_44 m sg' (nI a) (nI b) (nI (r.length - 1) + (-1))) ∧ MXr sg' (((List.range' p q).flatMap (fun p => if wT (wl (poseR S (rst S) r)) p ∈ r then [] else (wT (wl (poseR S (rst S) r)) p :: r) :: mrest k (rT (wl (poseR S (rst S) r)) p) (wT (wl (poseR S (rst S) r)) p :: r))).foldl (cand S bar A B (rst S)) x) ∧ FM r sg sg' := by
  have hp := hv.1
  have hg := rst_gs hS
  obtain ⟨P1, P2, P3⟩ := hv.q hS hg (r.length - 1) (by omega)
  have hh := headD_W r hp
  rw [← hh] at P3
  have i6 : inb (nI (r.length - 1)) 6 = true := ib (by omega) (by omega)
  intro q
  induction q with
  | zero =>
    intro p sg x hpq h59 hR he hx
    refine ⟨1, w2 sg 59 (r.length - 1) (sg 59 (r.length - 1) + 1), by omega, fun m => ?_, hx.of (by rw [w2_cell _ (by omega)]) (by rw [w2_cell _ (by omega)]) (by rw [w2_cell _ (by omega)]), ?_⟩
    · rw [f_Mod_findFrom_44, if_neg (nI_pos (by omega)), if_pos i6, if_pos i6, Option.bind_some, if_pos i6, nI_clamp (by omega), w2_at, h59, if_pos (by rw [show p = 4 by omega]; rfl)]
      rfl
    · exact ⟨fun c c1 c2 => w2_cell _ (by omega), fun k _ _ => by rw [w2_cell _ (by omega)], fun i _ => by rw [w2_cell _ (by omega)], fun i _ => by rw [w2_cell _ (by omega)], fun i _ => by rw [w2_cell _ (by omega)], fun i hi => w2_ne (by omega)⟩
  | succ q ih =>
    intro p sg x hpq h59 hR he hx
    have hp4 : p < 4 := by omega
    -- the roll
    have hQt := Qr_top (S := S) (st := rst S) r
    rw [hQt] at P1 P2 P3
    generalize hP : poseR S (rst S) r = P at *
    obtain ⟨w1, w2', w3, w4⟩ := wT_s (S := S) P1 hp4
    generalize hw : wT (wl P) p = w at *
    have f7 : FM r sg (w2 sg 59 (r.length - 1) (nI p)) := ⟨fun c c1 c2 => w2_cell _ (by omega), fun k _ _ => by rw [w2_cell _ (by omega)], fun i _ => by rw [w2_cell _ (by omega)], fun i _ => by rw [w2_cell _ (by omega)], fun i _ => by rw [w2_cell _ (by omega)], fun i hi => w2_ne (by omega)⟩
    have m7 : MS S (w2 sg 59 (r.length - 1) (nI p)) (r.length - 1) P := by
      have := (f7.mr hR (r.length - 1) (by omega)).1
      rw [hQt] at this
      exact this
    obtain ⟨T, t1, t2, t3, t4, t5, t6⟩ := turns_m hS (f7.me he).1 (l := r.length - 1) (by omega) (by omega) P1 P2 m7 w1 w2'
    rw [w3, show p + 1 - 1 = p by omega] at t1
    rw [show r.length - 1 + 1 = r.length by omega] at t2
    have fT : FM r sg T := f7.trans ⟨fun c c1 c2 => t4 c (by omega) (by omega), fun k _ _ => by rw [t4 46 (by omega) (by omega)], fun i hi => t5 i (by omega), fun i hi => t6 i (by omega), fun i _ => by rw [t4 58 (by omega) (by omega)], fun i _ => by rw [t4 59 (by omega) (by omega)]⟩
    have hRT := fT.mr hR
    have hw1 := prl_1 S P w
    have hPw : WP (prl S P w) := prl_wp P1 w1 w2'
    have hnew := isNew_m (by omega) hv.mem hPw t2 (fun i hi => (hRT i hi).2.2)
    rw [hw1] at hnew
    have head : ∀ m, f_Mod_findFrom_44 (m + 1) sg (nI a) (nI b) (nI (r.length - 1)) = if bI (w ∉ r) = 0 then f_Mod_findFrom_44 m T (nI a) (nI b) (nI (r.length - 1)) else (f_Mod_isOn (w2 (w2 T 58 r.length (nI w)) 59 r.length (-1)) (nI w) (nI b)).bind fun y18 => if y18.1 = (0 : Int32) then f_Mod_findFrom_44 m y18.2 (nI a) (nI b) (nI r.length) else (f_Mod_lineOf y18.2 (nI a) (0 : Int32) (nI b) (nI r.length)).bind fun y19 => (f_Mod_keeps y19.2 y19.1 (nI (r.length + 1))).bind fun y20 => f_Mod_findFrom_44 m y20 (nI a) (nI b) (nI r.length) := by
      intro m
      have e1 : nI (r.length - 1) + 1 = nI r.length := by rw [nI_1, show r.length - 1 + 1 = r.length by omega]
      rw [f_Mod_findFrom_44, if_neg (nI_pos (by omega)), if_pos i6, if_pos i6, Option.bind_some, if_pos i6, nI_clamp (by omega), h59, w2_at, if_neg (by rw [show (4 : Int32) = nI 4 from rfl, nI_eq (by omega) (by omega)]; omega), if_neg (by rw [show (4 : Int32) = nI 4 from rfl, nI_eq (by omega) (by omega)]; omega), if_pos i6, t1, Option.bind_some, e1, hnew, Option.bind_some]
      simp only []
      rw [faceAt_m (by omega) hPw t2, Option.bind_some, hw1]
      simp only []
      rw [if_pos (ib (by omega) (by omega)), Option.bind_some, nI_clamp (by omega), if_pos (ib (by omega) (by omega)), Option.bind_some, if_pos (ib (by omega) (by omega)), nI_1, w2_cell _ (by omega), w2_at]
    rw [List.range'_succ, List.flatMap_cons, List.foldl_append, hw, Nat.succ_mul]
    by_cases hin : w ∈ r
    · rw [if_pos hin, List.foldl_nil]
      obtain ⟨c, sg', c1, c2, c3, c4⟩ := ih (p + 1) T x (by omega) (by rw [t4 59 (by omega) (by omega), w2_at, nI_1]) hRT (fT.me he) (hx.of (by rw [t4 46 (by omega) (by omega), w2_cell _ (by omega)]) (by rw [t4 46 (by omega) (by omega), w2_cell _ (by omega)]) (by rw [t4 57 (by omega) (by omega), w2_cell _ (by omega)]))
      refine ⟨c + 1, sg', by omega, fun m => ?_, c3, fT.trans c4⟩
      rw [show m + (c + 1) = (m + c) + 1 by omega, head, bI_f (fun z => z hin), if_pos rfl, c2]
    · rw [if_neg hin]
      have hvw : VR (w :: r) := hv.cons w1 (by rw [← P3]; exact w2')
      generalize hs : w2 (w2 T 58 r.length (nI w)) 59 r.length (-1) = s at *
      have hsE : ∀ c, c ≠ 58 → c ≠ 59 → s c = T c := fun c c1 c2 => by rw [← hs, w2_cell _ c2, w2_cell _ c1]
      have hs58 : ∀ i, s 58 i = if i = r.length then nI w else T 58 i := fun i => by
        rw [← hs, w2_cell _ (by omega)]
        by_cases z : i = r.length
        · rw [if_pos z, z, w2_at]
        · rw [if_neg z, w2_ne (by omega)]
      have hs59 : ∀ i, s 59 i = if i = r.length then -1 else T 59 i := fun i => by
        rw [← hs]
        by_cases z : i = r.length
        · rw [if_pos z, z, w2_at]
        · rw [if_neg z, w2_ne (by omega), w2_cell _ (by omega)]
      have fs : FM r sg s := fT.trans ⟨fun c c1 c2 => hsE c (by omega) (by omega), fun k _ _ => by rw [hsE 46 (by omega) (by omega)], fun i _ => by rw [hsE 55 (by omega) (by omega)], fun i _ => by rw [hsE 56 (by omega) (by omega)], fun i hi => by rw [hs58, if_neg (by omega)], fun i hi => by rw [hs59, if_neg (by omega)]⟩
      have hes := fs.me he
      have hxs : MXr s x := hx.of (by rw [hsE 46 (by omega) (by omega), t4 46 (by omega) (by omega), w2_cell _ (by omega)]) (by rw [hsE 46 (by omega) (by omega), t4 46 (by omega) (by omega), w2_cell _ (by omega)]) (by rw [hsE 57 (by omega) (by omega), t4 57 (by omega) (by omega), w2_cell _ (by omega)])
      have hQw : Qr S (rst S) (w :: r) r.length = prl S P w := by
        have := Qr_top (S := S) (st := rst S) (w :: r)
        simp only [List.length_cons, Nat.add_sub_cancel] at this
        rw [this, poseR_cons hp, hP]
      have hRs : MRw S s (w :: r) := by
        intro i hi
        simp only [List.length_cons] at hi ⊢
        by_cases hi2 : i < r.length
        · obtain ⟨d1, d2, d3⟩ := fs.mr hR i hi2
          rw [Qr_cons hi2, Wr_cons hi2]
          refine ⟨d1, fun z => ?_, d3⟩
          by_cases hi3 : i + 1 < r.length
          · rw [Wr_cons hi3]
            exact d2 hi3
          · rw [show i + 1 = r.length by omega, Wr_top, show i = r.length - 1 by omega, hQt]
            exact t3.of (fun j _ _ => by rw [hsE 56 (by omega) (by omega)])
        · rw [show i = r.length by omega, hQw, Wr_top]
          exact ⟨t2.of (fun j _ _ => by rw [hsE 55 (by omega) (by omega)]), fun z => by omega, by rw [hs58, if_pos rfl]⟩
      have hAw : A (Wr (w :: r) 0) = 0 := by rw [Wr_cons hp]; exact hA0
      -- the row itself is weighed
      have weighed : ∃ s2, (∀ m, f_Mod_findFrom_44 (m + 1) sg (nI a) (nI b) (nI (r.length - 1)) = f_Mod_findFrom_44 m s2 (nI a) (nI b) (nI r.length)) ∧ MXr s2 (cand S bar A B (rst S) x (w :: r)) ∧ KF s s2 := by
        have hon := isOn_m hes.1 hb w1 hes.2.2.2
        by_cases hB0 : B w = 0
        · obtain ⟨v, s2, l1, l2, l3, l4⟩ := mweigh hS ha hb hvw (by simp only [List.length_cons]; omega) hRs hes hxs hAw hB0
          refine ⟨s2, fun m => ?_, l3, l4⟩
          simp only [List.length_cons, Nat.add_sub_cancel] at l1 l2
          rw [nI_0] at l1
          rw [head, bI_t hin, if_neg (by decide), hon, Option.bind_some, if_pos hB0]
          simp only []
          rw [if_neg (by decide), l1, Option.bind_some]
          simp only []
          rw [l2, Option.bind_some]
        · refine ⟨s, fun m => ?_, ?_, KF.refl s⟩
          · rw [head, bI_t hin, if_neg (by decide), hon, Option.bind_some, if_neg hB0]
            simp only [if_true]
          · unfold cand
            rw [if_neg (fun z => hB0 z.2.1)]
            exact hxs
      obtain ⟨s2, k1, k2, k3⟩ := weighed
      have f2 := k3.fm (w :: r)
      obtain ⟨c, s3, c1, c2, c3, c4⟩ := IH (w :: r) s2 _ (by simp only [List.length_cons]; omega) hvw hAw (by
        simp only [List.length_cons, Nat.add_sub_cancel]
        rw [k3.1 59 (by omega) (by omega), hs59, if_pos rfl]) (f2.mr hRs) (f2.me hes) k2
      simp only [List.length_cons, Nat.add_sub_cancel] at c2
      have f3 : FM r sg s3 := fs.trans (f2.trans c4).cut
      have f33 := (f2.trans c4).2.2.2.2.2 (r.length - 1) (by simp only [List.length_cons]; omega)
      obtain ⟨c', s4, d1, d2, d3, d4⟩ := ih (p + 1) s3 _ (by omega) (by
        rw [f33, hs59, if_neg (by omega), t4 59 (by omega) (by omega), w2_at, nI_1]) (f3.mr hR) (f3.me he) c3
      rw [poseR_cons hp, hP, w4] at d3
      refine ⟨c' + c + 1, s4, by omega, fun m => ?_, ?_, f3.trans d4⟩
      · rw [show m + (c' + c + 1) = (m + c' + c) + 1 by omega, k1, c2, nI_m (by omega) hp, d2]
      · rw [List.foldl_cons]
        exact d3
theorem vs_all {S A B : Nat → Int} {bar : Nat → Nat → Prop} (hS : SB S) {a b : Nat} (ha : a < 8) (hb : b < 8) : ∀ k : Nat, VS S A B bar a b k := by
  intro k
  induction k with
  | zero => exact vs_0 S A B bar a b
  | succ k ih =>
    intro r sg x hk hv hA0 h59 hR he hx
    obtain ⟨c, sg', c1, c2, c3, c4⟩ := vs_q hS ha hb ih hk hv hA0 4 0 sg x (by omega) (by rw [h59]; rfl) hR he hx
    exact ⟨c, sg', by rw [cst]; omega, c2, c3, c4⟩
