def LF : Nat := 100000
theorem if_some {α : Type} {c : Prop} [Decidable c] {A : Option α} {y : α} (h : (if c then A else none) = some y) : c ∧ A = some y := by
  by_cases hc : c
  · rw [if_pos hc] at h; exact ⟨hc, h⟩
  · rw [if_neg hc] at h; cases h
theorem Go.weak' {d m pc : Nat} {scr : Option (Nat × (Nat → Int32))} {lv lv' : LSt} {st : List Value} {sg sg' : Hp} {r : Option Value} (k : Go d scr m pc lv' st sg r sg') (h : lvs lv' lv) : Go d scr m pc lv st sg r sg' := Go.weak h k
theorem retZ_b {m : Nat} {v : Int32} (hm : MR m = some .boolean) (h : v = 0 ∨ v = 1) : retZ m v = true := by
  unfold retZ
  rw [hm]
  rcases h with rfl | rfl <;> rfl
theorem swl_ne {a t d x : Int} {l : List (Int × Int)} (h : ¬ a = x) : swl ((a, t) :: l) d x = swl l d x := if_neg h
theorem rt_el21 {a j : Nat} (h : clsOf a = 21) (hj : j < lenOf a) : clsOf (rt a j) = 6 := rt_el h (Or.inl rfl) hj
theorem rt_el22 {a j : Nat} (h : clsOf a = 22) (hj : j < lenOf a) : clsOf (rt a j) = 4 := rt_el h (Or.inr rfl) hj
section GL
variable {d m pc np : Nat} {scr : Option (Nat × (Nat → Int32))} {lv : LSt} {st : List Value} {sg sg' : Hp} {r : Option Value}
theorem G_ialdL {a n : Nat} {j : Int32} (k' : Nat) (hi : ins m pc = some (.iaload, np)) (hc : clsOf a = 20) (hn : lenOf a = n) (hj : inb j n = true) (hk : j.toNatClampNeg = k') (k : Go d scr m np lv (.int (sg a k') :: st) sg r sg') : Go d scr m pc lv (.int j :: .ref a :: st) sg r sg' := by
  subst hk
  exact G_iald hi hc hn hj k
theorem G_iastL {a n : Nat} {j x : Int32} (k' : Nat) (hi : ins m pc = some (.iastore, np)) (hc : clsOf a = 20) (hn : lenOf a = n) (hj : inb j n = true) (hk : j.toNatClampNeg = k') {sg1 : Hp} (hw : w2 sg a k' x = sg1) (k : Go d scr m np lv st sg1 r sg') : Go d scr m pc lv (.int x :: .int j :: .ref a :: st) sg r sg' := by
  subst hk
  exact G_iast hi hc hn hj hw k
theorem G_aaldL {a n t : Nat} {j : Int32} (b : Nat) (hi : ins m pc = some (.aaload, np)) (hc : clsOf a = t) (ht : t = 21 ∨ t = 22) (hn : lenOf a = n) (hj : inb j n = true) (hb : rt a j.toNatClampNeg = b) (k : Go d scr m np lv (.ref b :: st) sg r sg') : Go d scr m pc lv (.int j :: .ref a :: st) sg r sg' := by
  subst hb
  exact G_aald hi hc ht hn hj k
theorem G_callvI {e a q : Nat} {st As rest : List Value} {v : Int32} {sg1 : Hp} (na : Nat) (S : Sm d q (.ref a :: As) sg (some (.int v)) sg1) (hi : ins m pc = some (.invokevirtual e, np)) (hq : e % 1000 = q) (hna : MP q + 1 = na) (hlt : Nat.blt q nMeth = true) (hlen : Nat.ble na st.length = true) (hst : (st.take na).reverse = .ref a :: As) (hrest : st.drop na = rest) (hs1 : Nat.ble (rest.map fun v => v.category).sum 8 = true) (hs2 : Nat.ble ((Value.ref a :: As).map fun v => v.category).sum (ML q) = true) (hc : clsOf a = mC.getD q 99) (h11 : Nat.blt (mC.getD q 99) 11 = true) (k : Go (d + 1) scr m np lv (.int v :: rest) sg1 r sg') : Go (d + 1) scr m pc lv st sg r sg' :=
  G_callv na hi hq hna hlt hlen hst hrest hs1 hs2 hc h11 S k
theorem G_callsI {e q : Nat} {st As rest : List Value} {v : Int32} {sg1 : Hp} (na : Nat) (S : Sm d q As sg (some (.int v)) sg1) (hi : ins m pc = some (.invokestatic e, np)) (hq : e % 1000 = q) (hna : MP q = na) (hlt : Nat.blt q nMeth = true) (hlen : Nat.ble na st.length = true) (hst : (st.take na).reverse = As) (hrest : st.drop na = rest) (hs1 : Nat.ble (rest.map fun v => v.category).sum 8 = true) (hs2 : Nat.ble (As.map fun v => v.category).sum (ML q) = true) (k : Go (d + 1) scr m np lv (.int v :: rest) sg1 r sg') : Go (d + 1) scr m pc lv st sg r sg' :=
  G_calls na hi hq hna hlt hlen hst hrest hs1 hs2 S k
theorem G_callvJ {e a q : Nat} {st As rest : List Value} {v : Int64} {sg1 : Hp} (na : Nat) (S : Sm d q (.ref a :: As) sg (some (.long v)) sg1) (hi : ins m pc = some (.invokevirtual e, np)) (hq : e % 1000 = q) (hna : MP q + 1 = na) (hlt : Nat.blt q nMeth = true) (hlen : Nat.ble na st.length = true) (hst : (st.take na).reverse = .ref a :: As) (hrest : st.drop na = rest) (hs1 : Nat.ble (rest.map fun v => v.category).sum 8 = true) (hs2 : Nat.ble ((Value.ref a :: As).map fun v => v.category).sum (ML q) = true) (hc : clsOf a = mC.getD q 99) (h11 : Nat.blt (mC.getD q 99) 11 = true) (k : Go (d + 1) scr m np lv (.long v :: rest) sg1 r sg') : Go (d + 1) scr m pc lv st sg r sg' :=
  G_callv na hi hq hna hlt hlen hst hrest hs1 hs2 hc h11 S k
theorem G_callsJ {e q : Nat} {st As rest : List Value} {v : Int64} {sg1 : Hp} (na : Nat) (S : Sm d q As sg (some (.long v)) sg1) (hi : ins m pc = some (.invokestatic e, np)) (hq : e % 1000 = q) (hna : MP q = na) (hlt : Nat.blt q nMeth = true) (hlen : Nat.ble na st.length = true) (hst : (st.take na).reverse = As) (hrest : st.drop na = rest) (hs1 : Nat.ble (rest.map fun v => v.category).sum 8 = true) (hs2 : Nat.ble (As.map fun v => v.category).sum (ML q) = true) (k : Go (d + 1) scr m np lv (.long v :: rest) sg1 r sg') : Go (d + 1) scr m pc lv st sg r sg' :=
  G_calls na hi hq hna hlt hlen hst hrest hs1 hs2 S k
theorem G_callvV {e a q : Nat} {st As rest : List Value} {sg1 : Hp} (na : Nat) (S : Sm d q (.ref a :: As) sg none sg1) (hi : ins m pc = some (.invokevirtual e, np)) (hq : e % 1000 = q) (hna : MP q + 1 = na) (hlt : Nat.blt q nMeth = true) (hlen : Nat.ble na st.length = true) (hst : (st.take na).reverse = .ref a :: As) (hrest : st.drop na = rest) (hs1 : Nat.ble (rest.map fun v => v.category).sum 8 = true) (hs2 : Nat.ble ((Value.ref a :: As).map fun v => v.category).sum (ML q) = true) (hc : clsOf a = mC.getD q 99) (h11 : Nat.blt (mC.getD q 99) 11 = true) (k : Go (d + 1) scr m np lv (rest) sg1 r sg') : Go (d + 1) scr m pc lv st sg r sg' :=
  G_callv na hi hq hna hlt hlen hst hrest hs1 hs2 hc h11 S k
theorem G_callsV {e q : Nat} {st As rest : List Value} {sg1 : Hp} (na : Nat) (S : Sm d q As sg none sg1) (hi : ins m pc = some (.invokestatic e, np)) (hq : e % 1000 = q) (hna : MP q = na) (hlt : Nat.blt q nMeth = true) (hlen : Nat.ble na st.length = true) (hst : (st.take na).reverse = As) (hrest : st.drop na = rest) (hs1 : Nat.ble (rest.map fun v => v.category).sum 8 = true) (hs2 : Nat.ble (As.map fun v => v.category).sum (ML q) = true) (k : Go (d + 1) scr m np lv (rest) sg1 r sg') : Go (d + 1) scr m pc lv st sg r sg' :=
  G_calls na hi hq hna hlt hlen hst hrest hs1 hs2 S k
end GL
