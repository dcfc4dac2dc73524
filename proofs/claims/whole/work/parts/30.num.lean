theorem nLt (a b : Int32) : (a < b) = (a.toInt < b.toInt) := propext Int32.lt_iff_toInt_lt
theorem nLe (a b : Int32) : (a ≤ b) = (a.toInt ≤ b.toInt) := propext Int32.le_iff_toInt_le
theorem nEq (a b : Int32) : (a = b) = (a.toInt = b.toInt) := propext Int32.toInt_inj.symm
theorem nRng (x : Int32) : -2147483648 ≤ x.toInt ∧ x.toInt < 2147483648 := ⟨Int32.le_toInt x, Int32.toInt_lt x⟩
theorem inb_iff {j : Int32} {n : Nat} : (inb j n = true) = (0 ≤ j.toInt ∧ j.toInt < n) := by
  unfold inb
  simp only [Bool.and_eq_true, decide_eq_true_eq]
theorem bm32 {z : Int} (h1 : -2147483648 ≤ z) (h2 : z < 2147483648) : z.bmod (2 ^ 32) = z := Int.bmod_eq_of_le (by omega) (by omega)
theorem tAdd {x y : Int32} (h1 : -2147483648 ≤ x.toInt + y.toInt) (h2 : x.toInt + y.toInt < 2147483648) : (x + y).toInt = x.toInt + y.toInt := by
  rw [Int32.toInt_add]; exact bm32 h1 h2
theorem tSub {x y : Int32} (h1 : -2147483648 ≤ x.toInt - y.toInt) (h2 : x.toInt - y.toInt < 2147483648) : (x - y).toInt = x.toInt - y.toInt := by
  rw [Int32.toInt_sub]; exact bm32 h1 h2
theorem tMul {x y : Int32} (h1 : -2147483648 ≤ x.toInt * y.toInt) (h2 : x.toInt * y.toInt < 2147483648) : (x * y).toInt = x.toInt * y.toInt := by
  rw [Int32.toInt_mul]; exact bm32 h1 h2
theorem tNeg {x : Int32} (h : -2147483648 < x.toInt) : (-x).toInt = -x.toInt := by
  rw [Int32.toInt_neg]; have := nRng x; exact bm32 (by omega) (by omega)
theorem tcn {x : Int32} (h : 0 ≤ x.toInt) : ((x.toNatClampNeg : Nat) : Int) = x.toInt := by
  have h2 : x.toNatClampNeg = x.toInt.toNat := rfl
  omega
def iI (z : Int) : Int32 := Int32.ofInt z
theorem iT {z : Int} (h1 : -2147483648 ≤ z) (h2 : z < 2147483648) : (iI z).toInt = z := by
  unfold iI; rw [Int32.toInt_ofInt]; exact bm32 h1 h2
theorem iA (x : Int32) : iI x.toInt = x := by unfold iI; exact Int32.ofInt_toInt x
theorem i_inj {x y : Int32} (h : x.toInt = y.toInt) : x = y := Int32.toInt_inj.mp h
theorem w2_at (sg : Hp) (c k : Nat) (x : Int32) : w2 sg c k x c k = x := by simp [w2, va_up, upd]
theorem w2_cell (sg : Hp) {c k c' : Nat} {x : Int32} (h : c' ≠ c) : w2 sg c k x c' = sg c' := by simp [w2, va_up, h]
theorem w2_slot (sg : Hp) {c k k' : Nat} {x : Int32} (h : k' ≠ k) : w2 sg c k x c k' = sg c k' := by simp [w2, va_up, upd, h]
theorem w2_app (sg : Hp) (c k c' k' : Nat) (x : Int32) : w2 sg c k x c' k' = if c' = c ∧ k' = k then x else sg c' k' := by
  by_cases hc : c' = c
  · subst hc
    by_cases hk : k' = k
    · subst hk; simp [w2_at]
    · simp [w2_slot sg hk, hk]
  · simp [w2_cell sg hc, hc]
theorem lc_lt (x y : Int64) : (lg_cmp x y < 0) = (x < y) := by
  unfold lg_cmp
  simp only [gt_iff_lt, Int64.lt_iff_toInt_lt, ← Int64.toInt_inj, Int32.lt_iff_toInt_lt, eq_iff_iff]
  repeat' split
  all_goals (constructor <;> intro hh <;> first | omega | (exact absurd hh (by decide)) | decide)
theorem lc_gt (x y : Int64) : (0 < lg_cmp x y) = (y < x) := by
  unfold lg_cmp
  simp only [gt_iff_lt, Int64.lt_iff_toInt_lt, ← Int64.toInt_inj, Int32.lt_iff_toInt_lt, eq_iff_iff]
  repeat' split
  all_goals (constructor <;> intro hh <;> first | omega | (exact absurd hh (by decide)) | decide)
theorem in_spec (sg : Hp) (a b c : Int64) : f_Mod_in sg a b c = some (if b ≤ a ∧ a ≤ c then 1 else 0, sg) := by
  unfold f_Mod_in
  simp only [lc_lt, lc_gt, Int64.lt_iff_toInt_lt, Int64.le_iff_toInt_le]
  repeat' split
  all_goals first | rfl | omega
