/-! THE BOX, IN NUMBERS. Walls 0..5, axis of wall w is w/2 (0 z, 1 x, 2 y); S a: how long the side along axis a; a point is told by how far it is from each wall. -/
def ow (w : Nat) : Nat := if w % 2 = 0 then w + 1 else w - 1
/-- a pose: wall below, wall in the east, wall in the north, south west corner -/
abbrev Pose : Type := Nat × Nat × Nat × Int × Int
def pst (w : Nat) : Pose := (w, if w / 2 = 1 then 5 else 3, if w / 2 = 0 then 5 else 1, 0, 0)
def prl (S : Nat → Int) (P : Pose) (w : Nat) : Pose :=
  if w = P.2.1 then (w, ow P.1, P.2.2.1, P.2.2.2.1 + S (P.2.1 / 2), P.2.2.2.2)
  else if w = ow P.2.1 then (w, P.1, P.2.2.1, P.2.2.2.1 - S (P.1 / 2), P.2.2.2.2)
  else if w = P.2.2.1 then (w, P.2.1, ow P.1, P.2.2.2.1, P.2.2.2.2 + S (P.2.2.1 / 2))
  else (w, P.2.1, P.1, P.2.2.2.1, P.2.2.2.2 - S (P.1 / 2))
def imX (P : Pose) (A : Nat → Int) : Int := P.2.2.2.1 + A (ow P.2.1)
def imY (P : Pose) (A : Nat → Int) : Int := P.2.2.2.2 + A (ow P.2.2.1)
/-- the line from (pa, pc) to (qa, qc) meets the edge a = t, lo ≤ c ≤ hi -/
def mts (pa pc qa qc t lo hi : Int) : Prop :=
  if pa = qa then pa = t ∧ min pc qc ≤ hi ∧ lo ≤ max pc qc
  else if pa < qa then pa ≤ t ∧ t ≤ qa ∧ (lo - pc) * (qa - pa) ≤ (qc - pc) * (t - pa) ∧ (qc - pc) * (t - pa) ≤ (hi - pc) * (qa - pa)
  else qa ≤ t ∧ t ≤ pa ∧ (lo - pc) * (pa - qa) ≤ (qc - pc) * (pa - t) ∧ (qc - pc) * (pa - t) ≤ (hi - pc) * (pa - qa)
/-- the line meets the edge of the pose towards wall w -/
def mtw (S : Nat → Int) (P : Pose) (w : Nat) (px py qx qy : Int) : Prop :=
  if w = P.2.1 then mts px py qx qy (P.2.2.2.1 + S (P.2.1 / 2)) P.2.2.2.2 (P.2.2.2.2 + S (P.2.2.1 / 2))
  else if w = ow P.2.1 then mts px py qx qy P.2.2.2.1 P.2.2.2.2 (P.2.2.2.2 + S (P.2.2.1 / 2))
  else if w = P.2.2.1 then mts py px qy qx (P.2.2.2.2 + S (P.2.2.1 / 2)) P.2.2.2.1 (P.2.2.2.1 + S (P.2.1 / 2))
  else mts py px qy qx P.2.2.2.2 P.2.2.2.1 (P.2.2.2.1 + S (P.2.1 / 2))
/-- rows are told backwards: the last wall first. The pose at the end of a row, from the poses st at its beginning -/
def poseR (S : Nat → Int) (st : Nat → Pose) : List Nat → Pose
  | [] => st 0
  | w :: r => match r with
    | [] => st w
    | _ :: _ => prl S (poseR S st r) w
/-- wall and pose number i of a row -/
def Wr (r : List Nat) (i : Nat) : Nat := (r.drop (r.length - 1 - i)).headD 0
def Qr (S : Nat → Int) (st : Nat → Pose) (r : List Nat) (i : Nat) : Pose := poseR S st (r.drop (r.length - 1 - i))
/-- the row is a way from A to B -/
def wayR (S : Nat → Int) (bar : Nat → Nat → Prop) (A B : Nat → Int) (st : Nat → Pose) (r : List Nat) : Prop :=
  A (Wr r 0) = 0 ∧ B (r.headD 0) = 0 ∧ ∀ i, i + 1 < r.length → ¬ bar (Wr r i) (Wr r (i + 1)) ∧ mtw S (Qr S st r i) (Wr r (i + 1)) (imX (Qr S st r 0) A) (imY (Qr S st r 0) A) (imX (poseR S st r) B) (imY (poseR S st r) B)
def lenR (S : Nat → Int) (A B : Nat → Int) (st : Nat → Pose) (r : List Nat) : Int :=
  (imX (poseR S st r) B - imX (Qr S st r 0) A) * (imX (poseR S st r) B - imX (Qr S st r 0) A) + (imY (poseR S st r) B - imY (Qr S st r 0) A) * (imY (poseR S st r) B - imY (Qr S st r 0) A)
/-- the rows that go on from a row, walls by their numbers; k walls more at most -/
def rowsF : Nat → List Nat → List (List Nat)
  | 0, r => [r]
  | k + 1, r => r :: ((List.range 6).filter (fun w => decide (w ∉ r) && decide (w ≠ ow (r.headD 9)))).flatMap (fun w => rowsF k (w :: r))
def allRows : List (List Nat) := (List.range 6).flatMap (fun w => rowsF 4 [w])
/-- a row as a number: fewer walls first, then by the walls -/
def valN : List Nat → Nat
  | [] => 0
  | w :: r => w + 10 * valN r
def keyN (r : List Nat) : Nat := 100000 * r.length + valN r
def digN : Nat → Nat → List Nat
  | 0, _ => []
  | n + 1, v => v % 10 :: digN n (v / 10)
def decN (k : Nat) : List Nat := digN (k / 100000) (k % 100000)
/-- one candidate more: least length, how many, the row's number -/
noncomputable def cand (S : Nat → Int) (bar : Nat → Nat → Prop) (A B : Nat → Int) (st : Nat → Pose) (x : Int × Int × Nat) (r : List Nat) : Int × Int × Nat :=
  haveI := Classical.propDecidable (wayR S bar A B st r)
  if wayR S bar A B st r then
    if x.1 = -1 ∨ lenR S A B st r < x.1 then (lenR S A B st r, 1, keyN r)
    else if lenR S A B st r = x.1 then (x.1, x.2.1 + 1, min x.2.2 (keyN r))
    else x
  else x
noncomputable def bestK (S : Nat → Int) (bar : Nat → Nat → Prop) (A B : Nat → Int) : Int × Int × Nat := allRows.foldl (cand S bar A B pst) (-1, 0, 0)
noncomputable def best (S : Nat → Int) (bar : Nat → Nat → Prop) (A B : Nat → Int) : Int × Int × List Nat := ((bestK S bar A B).1, (bestK S bar A B).2.1, (decN (bestK S bar A B).2.2).reverse)
/-! out of the heap: the class's cells -/
def sS (sg : Hp) (a : Nat) : Int := (sg 2 a).toInt
def sA (S : Nat → Int) (x y z : Int) : Nat → Int := fun w => if w = 0 then z else if w = 1 then S 0 - z else if w = 2 then x else if w = 3 then S 1 - x else if w = 4 then y else S 2 - y
def sP (sg : Hp) (p : Nat) : Nat → Int := sA (sS sg) (sg 3 p).toInt (sg 4 p).toInt (sg 5 p).toInt
def sBar (sg : Hp) (a b : Nat) : Prop := (sg 6 a).toInt.toNat.testBit b = true
noncomputable def sBest (sg : Hp) (a b : Nat) : Int × Int × List Nat := best (sS sg) (sBar sg) (sP sg a) (sP sg b)
def packR : List Nat → Int
  | [] => 0
  | w :: r => (w + 1 : Int) + 8 * packR r
def onB (S : Nat → Int) (x y z : Int) : Prop := 0 ≤ x ∧ x ≤ S 1 ∧ 0 ≤ y ∧ y ≤ S 2 ∧ 0 ≤ z ∧ z ≤ S 0 ∧ (x = 0 ∨ x = S 1 ∨ y = 0 ∨ y = S 2 ∨ z = 0 ∨ z = S 0)
/-! WHAT HOLDS BETWEEN THE CALLS -/
/-- box: sides, places, bars: the class's and the reference's are the same -/
def IB (sg : Hp) : Prop := (sg 51 0 = sg 2 1 ∧ sg 51 1 = sg 2 2 ∧ sg 51 2 = sg 2 0) ∧ (∀ a, a < 3 → 1 ≤ (sg 2 a).toInt ∧ (sg 2 a).toInt ≤ 30) ∧ (∀ p, p < 8 → sg 52 (3 * p) = sg 3 p ∧ sg 52 (3 * p + 1) = sg 4 p ∧ sg 52 (3 * p + 2) = sg 5 p) ∧ (∀ p, p < 8 → onB (sS sg) (sg 3 p).toInt (sg 4 p).toInt (sg 5 p).toInt) ∧ (∀ w, w < 6 → sg 53 w = sg 6 w ∧ 0 ≤ (sg 6 w).toInt ∧ (sg 6 w).toInt < 64) ∧ (∀ a b, a < 6 → b < 6 → (sBar sg a b ↔ sBar sg b a))
/-- rolls -/
def IR (sg : Hp) : Prop := sg 46 9 = sg 9 1 ∧ 0 ≤ (sg 9 1).toInt ∧ (sg 9 1).toInt ≤ 40 ∧ ∀ i, i < 40 → sg 54 i = sg 10 i
/-- sheets -/
def IS (sg : Hp) : Prop := ∀ s, s < 4 → sg 47 s = sg (38 + 2 * s) 1 ∧ sg 48 s = sg (38 + 2 * s) 2 ∧ -1 ≤ (sg (38 + 2 * s) 1).toInt ∧ (sg (38 + 2 * s) 1).toInt ≤ 2 ∧ 0 ≤ (sg (38 + 2 * s) 2).toInt ∧ (sg (38 + 2 * s) 2).toInt ≤ 60 ∧ ∀ i, i < (sg (38 + 2 * s) 2).toInt.toNat → sg 49 (60 * s + i) = sg (39 + 2 * s) i
/-- the finding -/
def IF (sg : Hp) : Prop := sg 46 4 = sg 0 10
/-- what the table keeps; n bounds the changes -/
def IT (n : Nat) (sg : Hp) : Prop := (1 ≤ (sg 1 6).toInt ∧ (sg 1 6).toInt ≤ n) ∧ ∀ a b, a < 8 → b < 8 → 0 ≤ (sg 28 (8 * a + b)).toInt ∧ (sg 28 (8 * a + b)).toInt ≤ (sg 1 6).toInt ∧ (sg 28 (8 * a + b) = sg 1 6 → sg 25 (8 * a + b) = iI (sBest sg a b).1 ∧ sg 26 (8 * a + b) = iI (sBest sg a b).2.1 ∧ sg 27 (8 * a + b) = iI (packR (sBest sg a b).2.2))
def Inv (n : Nat) (sg : Hp) : Prop := IB sg ∧ IR sg ∧ IS sg ∧ IF sg ∧ IT n sg
/-- only these cells differ -/
def Eo (cs : List Nat) (sg sg' : Hp) : Prop := ∀ c, c ∉ cs → sg' c = sg c
theorem IB.of {sg sg' : Hp} (h : IB sg) (h2 : sg' 2 = sg 2) (h3 : sg' 3 = sg 3) (h4 : sg' 4 = sg 4) (h5 : sg' 5 = sg 5) (h6 : sg' 6 = sg 6) (h51 : sg' 51 = sg 51) (h52 : sg' 52 = sg 52) (h53 : sg' 53 = sg 53) : IB sg' := by
  unfold IB sS sBar at *
  simp only [h2, h3, h4, h5, h6, h51, h52, h53]
  exact h
theorem IR.of {sg sg' : Hp} (h : IR sg) (h9 : sg' 9 = sg 9) (h10 : sg' 10 = sg 10) (h46 : sg' 46 9 = sg 46 9) (h54 : sg' 54 = sg 54) : IR sg' := by
  unfold IR at *
  simp only [h9, h10, h46, h54]
  exact h
theorem IS.of {sg sg' : Hp} (h : IS sg) (h1 : ∀ s, s < 8 → sg' (38 + s) = sg (38 + s)) (h47 : sg' 47 = sg 47) (h48 : sg' 48 = sg 48) (h49 : sg' 49 = sg 49) : IS sg' := by
  intro s hs
  have e1 := h1 (2 * s) (by omega)
  have e2 := h1 (2 * s + 1) (by omega)
  rw [show 38 + (2 * s + 1) = 39 + 2 * s by omega] at e2
  simp only [e1, e2, h47, h48, h49]
  exact h s hs
theorem IF.of {sg sg' : Hp} (h : IF sg) (h0 : sg' 0 10 = sg 0 10) (h46 : sg' 46 4 = sg 46 4) : IF sg' := by
  unfold IF at *
  rw [h0, h46]
  exact h
theorem sBest.of {sg sg' : Hp} (h2 : sg' 2 = sg 2) (h3 : sg' 3 = sg 3) (h4 : sg' 4 = sg 4) (h5 : sg' 5 = sg 5) (h6 : sg' 6 = sg 6) (a b : Nat) : sBest sg' a b = sBest sg a b := by
  unfold sBest sP sS sBar
  simp only [h2, h3, h4, h5, h6]
theorem IT.of {n n' : Nat} {sg sg' : Hp} (h : IT n sg) (hn : n ≤ n') (h1 : sg' 1 6 = sg 1 6) (h2 : sg' 2 = sg 2) (h3 : sg' 3 = sg 3) (h4 : sg' 4 = sg 4) (h5 : sg' 5 = sg 5) (h6 : sg' 6 = sg 6) (h25 : sg' 25 = sg 25) (h26 : sg' 26 = sg 26) (h27 : sg' 27 = sg 27) (h28 : sg' 28 = sg 28) : IT n' sg' := by
  obtain ⟨⟨a1, a2⟩, a3⟩ := h
  refine ⟨by rw [h1]; exact ⟨a1, by omega⟩, fun a b ha hb => ?_⟩
  rw [h1, h25, h26, h27, h28, sBest.of h2 h3 h4 h5 h6]
  exact a3 a b ha hb
