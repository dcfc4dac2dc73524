/-! THE BEGINNING -/
theorem inv0 : Inv 1 sg0 := by
  have z3 : sg0 3 = fun _ => 0 := rfl
  have z4 : sg0 4 = fun _ => 0 := rfl
  have z5 : sg0 5 = fun _ => 0 := rfl
  have z6 : sg0 6 = fun _ => 0 := rfl
  have z9 : sg0 9 = fun _ => 0 := rfl
  have z10 : sg0 10 = fun _ => 0 := rfl
  have z28 : sg0 28 = fun _ => 0 := rfl
  have z46 : sg0 46 = fun _ => 0 := rfl
  have z49 : sg0 49 = fun _ => 0 := rfl
  have z48 : sg0 48 = fun _ => 0 := rfl
  have z52 : sg0 52 = fun _ => 0 := rfl
  have z53 : sg0 53 = fun _ => 0 := rfl
  have z54 : sg0 54 = fun _ => 0 := rfl
  have s0 : sg0 2 0 = 30 := rfl
  have s1 : sg0 2 1 = 12 := rfl
  have s2 : sg0 2 2 = 12 := rfl
  have t30 : (30 : Int32).toInt = 30 := by decide
  have t12 : (12 : Int32).toInt = 12 := by decide
  have hsz : ∀ a, a < 3 → 1 ≤ (sg0 2 a).toInt ∧ (sg0 2 a).toInt ≤ 30 := by
    intro a ha
    rcases (by omega : a = 0 ∨ a = 1 ∨ a = 2) with rfl | rfl | rfl
    · rw [s0, t30]; omega
    · rw [s1, t12]; omega
    · rw [s2, t12]; omega
  refine ⟨⟨⟨rfl, rfl, rfl⟩, hsz, fun p hp => ?_, fun p hp => ?_, fun w hw => ?_, fun a b ha hb => ?_⟩, ⟨?_, ?_, ?_, fun i hi => ?_⟩, fun s hs => ?_, ?_, ⟨?_, ?_⟩, fun a b ha hb => ?_⟩
  · rw [z52, z3, z4, z5]
    exact ⟨rfl, rfl, rfl⟩
  · rw [z3, z4, z5]
    have a0 := hsz 0 (by omega)
    have a1 := hsz 1 (by omega)
    have a2 := hsz 2 (by omega)
    show onB (sS sg0) (0 : Int32).toInt (0 : Int32).toInt (0 : Int32).toInt
    rw [z32]
    unfold onB sS
    omega
  · rw [z53, z6]
    show (0 : Int32) = 0 ∧ 0 ≤ (0 : Int32).toInt ∧ (0 : Int32).toInt < 64
    exact ⟨rfl, by decide, by decide⟩
  · unfold sBar
    rw [z6]
    show ((0 : Int32).toInt.toNat.testBit b = true) ↔ ((0 : Int32).toInt.toNat.testBit a = true)
    rw [z32]
    show ((0 : Nat).testBit b = true) ↔ ((0 : Nat).testBit a = true)
    rw [Nat.zero_testBit, Nat.zero_testBit]
  · rw [z46, z9]
  · rw [z9]; decide
  · rw [z9]; decide
  · rw [z54, z10]
  · rcases (by omega : s = 0 ∨ s = 1 ∨ s = 2 ∨ s = 3) with rfl | rfl | rfl | rfl
    · exact ⟨rfl, rfl, by decide, by decide, by decide, by decide, fun i hi => by rw [z49]; rfl⟩
    · exact ⟨rfl, rfl, by decide, by decide, by decide, by decide, fun i hi => by rw [z49]; rfl⟩
    · exact ⟨rfl, rfl, by decide, by decide, by decide, by decide, fun i hi => by rw [z49]; rfl⟩
    · exact ⟨rfl, rfl, by decide, by decide, by decide, by decide, fun i hi => by rw [z49]; rfl⟩
  · show sg0 46 4 = sg0 0 10
    rfl
  · decide
  · decide
  · have e28 : sg0 28 (8 * a + b) = 0 := rfl
    have e16 : sg0 1 6 = 1 := rfl
    rw [e28, e16]
    exact ⟨by decide, by decide, fun e => absurd e (by decide)⟩
