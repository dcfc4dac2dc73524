/-! THREAD -/
def Sh (S : Nat → Int) (h : Int) : Nat → Int := fun i => if i = 0 then h else S i
theorem Sh_b {S : Nat → Int} (hS : SB S) {h : Int} (hh : 1 ≤ h ∧ h ≤ 30) : SB (Sh S h) := by
  intro a ha
  unfold Sh
  split
  · exact hh
  · exact hS a ha
noncomputable def thL (sg : Hp) (a b : Nat) (h : Int) : Int :=
  haveI := Classical.propDecidable (onB (Sh (sS sg) h) (sg 3 a).toInt (sg 4 a).toInt (sg 5 a).toInt ∧ onB (Sh (sS sg) h) (sg 3 b).toInt (sg 4 b).toInt (sg 5 b).toInt)
  if onB (Sh (sS sg) h) (sg 3 a).toInt (sg 4 a).toInt (sg 5 a).toInt ∧ onB (Sh (sS sg) h) (sg 3 b).toInt (sg 4 b).toInt (sg 5 b).toInt then (bestK (Sh (sS sg) h) (sBar sg) (sA (Sh (sS sg) h) (sg 3 a).toInt (sg 4 a).toInt (sg 5 a).toInt) (sA (Sh (sS sg) h) (sg 3 b).toInt (sg 4 b).toInt (sg 5 b).toInt)).1 else -3
theorem thL_t {sg : Hp} {a b : Nat} {h : Int} (q : onB (Sh (sS sg) h) (sg 3 a).toInt (sg 4 a).toInt (sg 5 a).toInt ∧ onB (Sh (sS sg) h) (sg 3 b).toInt (sg 4 b).toInt (sg 5 b).toInt) : thL sg a b h = (bestK (Sh (sS sg) h) (sBar sg) (sA (Sh (sS sg) h) (sg 3 a).toInt (sg 4 a).toInt (sg 5 a).toInt) (sA (Sh (sS sg) h) (sg 3 b).toInt (sg 4 b).toInt (sg 5 b).toInt)).1 := by
  unfold thL
  rw [if_pos q]
theorem thL_f {sg : Hp} {a b : Nat} {h : Int} (q : ¬ (onB (Sh (sS sg) h) (sg 3 a).toInt (sg 4 a).toInt (sg 5 a).toInt ∧ onB (Sh (sS sg) h) (sg 3 b).toInt (sg 4 b).toInt (sg 5 b).toInt)) : thL sg a b h = -3 := by
  unfold thL
  rw [if_neg q]
theorem high_c {n : Nat} {sg s : Hp} (hs : PF n sg s) {a b : Nat} (ha : a < 8) (hb : b < 8) {x : Int32} (hx : 1 ≤ x.toInt ∧ x.toInt ≤ 30) : ∃ s', f_Box_lengthIfHigh s (nI a) (nI b) x = some (iI (thL sg a b x.toInt), s') ∧ PF n sg s' ∧ -3 ≤ thL sg a b x.toInt ∧ thL sg a b x.toInt ≤ 100000000 := by
  obtain ⟨hS, hR, hB⟩ := hs.b
  have ia : inb (nI a) 8 = true := ib ha (by omega)
  have ib' : inb (nI b) 8 = true := ib hb (by omega)
  unfold f_Box_lengthIfHigh
  rw [if_pos (by decide), Option.bind_some, Option.bind_some, if_pos ia, if_pos ia, if_pos ia, nI_clamp (by omega)]
  generalize hs3 : w2 (cp2 s 2 37 0 0 3) 37 0 x = s3
  have E3 : ∀ c, c ≠ 37 → s3 c = s c := fun c hc => by
    rw [← hs3, w2_cell _ hc]
    unfold cp2
    simp [va_up, hc]
  have V3 : ∀ k, k < 3 → (s3 37 k).toInt = Sh (sS sg) x.toInt k := by
    intro k hk
    rw [← hs3]
    unfold Sh sS
    by_cases k0 : k = 0
    · rw [k0, w2_at, if_pos rfl]
    · rw [w2_ne (by omega), if_neg k0, ← hs.2.1 2 (by decide)]
      unfold cp2
      have : k < 3 := hk
      simp [va_up, va_cpy, this]
  have B3 : ∀ k, k < 3 → 1 ≤ (s3 37 k).toInt ∧ (s3 37 k).toInt ≤ 30 := fun k hk => by rw [V3 k hk]; exact Sh_b hS hx k hk
  rw [set_c (b := 13) rfl (by omega), Option.bind_some, if_pos ib', if_pos ib', if_pos ib', nI_clamp (by omega)]
  generalize hs4 : stS s3 13 37 (s3 3 a) (s3 4 a) (s3 5 a) = s4
  have E4 : ∀ c, c ≠ 13 → s4 c = s3 c := fun c hc => by rw [← hs4]; exact stS_cell s3 _ _ _ hc
  rw [set_c (b := 15) rfl (by omega), Option.bind_some]
  generalize hs5 : stS s4 15 37 (s4 3 b) (s4 4 b) (s4 5 b) = s5
  have E5 : ∀ c, c ≠ 15 → s5 c = s4 c := fun c hc => by rw [← hs5]; exact stS_cell s4 _ _ _ hc
  have P5 : PF n sg s5 := hs.cx (fun c hc => by
    rw [E5 c (fun q => by subst q; simp [CX] at hc), E4 c (fun q => by subst q; simp [CX] at hc), E3 c (fun q => by subst q; simp [CX] at hc)])
  have pl : ∀ c, c = 3 ∨ c = 4 ∨ c = 5 → s3 c = sg c := fun c hc => by
    rcases hc with rfl | rfl | rfl
    · rw [E3 3 (by omega), hs.2.1 3 (by decide)]
    · rw [E3 4 (by omega), hs.2.1 4 (by decide)]
    · rw [E3 5 (by omega), hs.2.1 5 (by decide)]
  have e37 : s4 37 = s3 37 := E4 37 (by omega)
  have oeq : ∀ u v w : Int, onB (fun k => (s3 37 k).toInt) u v w ↔ onB (Sh (sS sg) x.toInt) u v w := fun u v w => onB_eq V3 u v w
  obtain ⟨r1, f1, f2, f3⟩ := isOnBox_c s5 (a := 12) (b := 13) rfl
  have g1 : (iob (s5 13) 0 ∧ io0 (s5 13) 0) ↔ onB (Sh (sS sg) x.toInt) (sg 3 a).toInt (sg 4 a).toInt (sg 5 a).toInt := by
    rw [E5 13 (by omega), ← hs4, on_set B3, pl 3 (by omega), pl 4 (by omega), pl 5 (by omega)]
    exact oeq _ _ _
  rw [g1] at f3
  obtain ⟨r2, f4, f5, f6⟩ := isOnBox_c s5 (a := 14) (b := 15) rfl
  have g2 : (iob (s5 15) 0 ∧ io0 (s5 15) 0) ↔ onB (Sh (sS sg) x.toInt) (sg 3 b).toInt (sg 4 b).toInt (sg 5 b).toInt := by
    rw [← hs5, on_set (by rw [e37]; exact B3), E4 3 (by omega), E4 4 (by omega), E4 5 (by omega), pl 3 (by omega), pl 4 (by omega), pl 5 (by omega), e37]
    exact oeq _ _ _
  rw [g2] at f6
  rw [f1, Option.bind_some]
  dsimp only
  by_cases q1 : onB (Sh (sS sg) x.toInt) (sg 3 a).toInt (sg 4 a).toInt (sg 5 a).toInt
  · have r11 := f3.mpr q1
    rw [if_neg (by rw [r11]; decide), f4, Option.bind_some]
    dsimp only
    by_cases q2 : onB (Sh (sS sg) x.toInt) (sg 3 b).toInt (sg 4 b).toInt (sg 5 b).toInt
    · have r21 := f6.mpr q2
      rw [if_neg (by rw [r21]; decide)]
      have hS' := Sh_b hS hx
      have vA : ∀ w, w < 6 → (s5 13 w).toInt = sA (Sh (sS sg) x.toInt) (sg 3 a).toInt (sg 4 a).toInt (sg 5 a).toInt w := fun w hw => by
        have := spot_v (sg := s3) (b := 13) (p := 37) (x := s3 3 a) (y := s3 4 a) (z := s3 5 a) B3 (by rw [oeq, pl 3 (by omega), pl 4 (by omega), pl 5 (by omega)]; exact q1) w hw
        rw [E5 13 (by omega), ← hs4, this, pl 3 (by omega), pl 4 (by omega), pl 5 (by omega)]
        unfold sA
        dsimp only
        rw [V3 0 (by omega), V3 1 (by omega), V3 2 (by omega)]
      have vB : ∀ w, w < 6 → (s5 15 w).toInt = sA (Sh (sS sg) x.toInt) (sg 3 b).toInt (sg 4 b).toInt (sg 5 b).toInt w := fun w hw => by
        have := spot_v (sg := s4) (b := 15) (p := 37) (x := s4 3 b) (y := s4 4 b) (z := s4 5 b) (by rw [e37]; exact B3) (by rw [e37, oeq, E4 3 (by omega), E4 4 (by omega), E4 5 (by omega), pl 3 (by omega), pl 4 (by omega), pl 5 (by omega)]; exact q2) w hw
        rw [← hs5, this, E4 3 (by omega), E4 4 (by omega), E4 5 (by omega), pl 3 (by omega), pl 4 (by omega), pl 5 (by omega), e37]
        unfold sA
        dsimp only
        rw [V3 0 (by omega), V3 1 (by omega), V3 2 (by omega)]
      obtain ⟨s6, k1, k2, k3⟩ := find_c (bar := sBar sg) (sg := s5) (a1 := 37) hS' (sA_aw hS' q1) (sA_aw hS' q2) (by omega) (fun k hk => by rw [E5 37 (by omega), e37]; exact V3 k hk) vA vB P5.br
      rw [k1, Option.bind_some, k2.1, thL_t ⟨q1, q2⟩]
      refine ⟨s6, rfl, P5.cx (fun c hc => k3 c (fun q => by subst q; simp [CX] at hc) (fun q => by subst q; simp [CX] at hc) (fun q => by subst q; simp [CX] at hc) ?_), by have := k2.2.1; omega, k2.2.2.1⟩
      by_cases z : 19 ≤ c ∧ c < 24
      · rcases (by omega : c = 19 ∨ c = 20 ∨ c = 21 ∨ c = 22 ∨ c = 23) with rfl | rfl | rfl | rfl | rfl <;> simp [CX] at hc
      · omega
    · have r20 : r2 = 0 := f5.resolve_right (fun z => q2 (f6.mp z))
      rw [if_pos r20, thL_f (fun z => q2 z.2)]
      exact ⟨s5, rfl, P5, by omega, by omega⟩
  · have r10 : r1 = 0 := f2.resolve_right (fun z => q1 (f3.mp z))
    rw [if_pos r10, thL_f (fun z => q1 z.1)]
    exact ⟨s5, rfl, P5, by omega, by omega⟩
/-- the highs downwards, and upwards -/
def tdn (F : Nat → Bool) : Nat → Int32 → Int32 → Int32 × Int32
  | 0, c, l => (c, l)
  | h + 1, c, l => if F (h + 1) then tdn F h (c + 1) (nI (h + 1)) else tdn F h c l
def tup (F : Nat → Bool) : Nat → Nat → Int32 → Int32 → Int32 × Int32
  | 0, _, c, l => (c, l)
  | k + 1, j, c, l => if F j then tup F k (j + 1) (c + 1) (if l = -1 then nI j else l) else tup F k (j + 1) c l
def cnN (F : Nat → Bool) : Nat → Nat → Nat
  | 0, _ => 0
  | k + 1, j => (if F j then 1 else 0) + cnN F k (j + 1)
def fsN (F : Nat → Bool) : Nat → Nat → Int32 → Int32
  | 0, _, d => d
  | k + 1, j, d => if F j then nI j else fsN F k (j + 1) d
theorem cnN_e (F : Nat → Bool) : ∀ k j, cnN F (k + 1) j = cnN F k j + (if F (j + k) then 1 else 0) := by
  intro k
  induction k with
  | zero =>
    intro j
    show (if F j then 1 else 0) + 0 = 0 + (if F (j + 0) then 1 else 0)
    rw [Nat.add_zero, Nat.add_zero, Nat.zero_add]
  | succ k ih =>
    intro j
    rw [cnN, ih (j + 1), cnN, show j + 1 + k = j + (k + 1) by omega]
    omega
theorem fsN_e (F : Nat → Bool) : ∀ k j d, fsN F (k + 1) j d = fsN F k j (if F (j + k) then nI (j + k) else d) := by
  intro k
  induction k with
  | zero => intro j d; rw [fsN, fsN, fsN, Nat.add_zero]
  | succ k ih =>
    intro j d
    rw [fsN, ih (j + 1) d, fsN, show j + 1 + k = j + (k + 1) by omega]
theorem tdn_s (F : Nat → Bool) : ∀ (h : Nat) (c l : Int32), tdn F h c l = (c + nI (cnN F h 1), fsN F h 1 l) := by
  intro h
  induction h with
  | zero => intro c l; show (c, l) = (c + nI 0, l); rw [nI_0, Int32.add_zero]
  | succ h ih =>
    intro c l
    rw [cnN_e, fsN_e, show 1 + h = h + 1 by omega]
    by_cases q : F (h + 1) = true
    · have e : tdn F (h + 1) c l = tdn F h (c + 1) (nI (h + 1)) := by rw [tdn, if_pos q]
      rw [e, ih, if_pos q, if_pos q, ← nI_1 (cnN F h 1), Int32.add_assoc, Int32.add_comm 1]
    · have e : tdn F (h + 1) c l = tdn F h c l := by rw [tdn, if_neg q]
      rw [e, ih, if_neg q, if_neg q, Nat.add_zero]
theorem tup_s (F : Nat → Bool) : ∀ (k j : Nat) (c l : Int32), j + k < 1000 → tup F k j c l = (c + nI (cnN F k j), if l = -1 then fsN F k j l else l) := by
  intro k
  induction k with
  | zero =>
    intro j c l _
    show (c, l) = (c + nI 0, if l = -1 then l else l)
    rw [nI_0, Int32.add_zero, ite_self]
  | succ k ih =>
    intro j c l hj
    by_cases q : F j = true
    · have e : tup F (k + 1) j c l = tup F k (j + 1) (c + 1) (if l = -1 then nI j else l) := by rw [tup, if_pos q]
      have e2 : cnN F (k + 1) j = cnN F k (j + 1) + 1 := by rw [cnN, if_pos q]; omega
      have e3 : fsN F (k + 1) j l = nI j := by rw [fsN, if_pos q]
      rw [e, ih _ _ _ (by omega), e2, e3, ← nI_1 (cnN F k (j + 1)), Int32.add_assoc, Int32.add_comm 1]
      by_cases q2 : l = -1
      · rw [if_pos q2, if_neg (nI_m1 (by omega))]
      · rw [if_neg q2, if_neg q2]
    · have e : tup F (k + 1) j c l = tup F k (j + 1) c l := by rw [tup, if_neg q]
      have e2 : cnN F (k + 1) j = cnN F k (j + 1) := by rw [cnN, if_neg q]; omega
      have e3 : fsN F (k + 1) j l = fsN F k (j + 1) l := by rw [fsN, if_neg q]
      rw [e, ih _ _ _ (by omega), e2, e3]
theorem td_u (F : Nat → Bool) : tdn F 30 0 (-1) = tup F 30 1 0 (-1) := by
  rw [tdn_s, tup_s F 30 1 _ _ (by omega), if_pos rfl]
noncomputable def thF (sg : Hp) (a b : Nat) (len : Int) (h : Nat) : Bool := decide (thL sg a b (h : Int) = len)
noncomputable def thV (sg : Hp) (a b : Nat) (len : Int) (w : Nat) : Int32 := if w = 0 then (tdn (thF sg a b len) 30 0 (-1)).1 else (tdn (thF sg a b len) 30 0 (-1)).2
theorem nI_d1 {h : Nat} (hh : h < 31) : nI (h + 1) + (-1 : Int32) = nI h := by
  have k : ∀ h, h < 31 → nI (h + 1) + (-1 : Int32) = nI h := by decide +kernel
  exact k h hh
theorem thread_c {n : Nat} {sg : Hp} {a b w : Nat} (ha : a < 8) (hb : b < 8) (hw : w < 2) {x : Int32} (hx : 0 ≤ x.toInt ∧ x.toInt ≤ 9999) : ∀ (h m : Nat) (c l : Int32) (s : Hp), h ≤ 30 → PF n sg s → ∃ s', f_Box_thread_45 (m + h + 1) s (nI a) (nI b) x (nI w) c l (nI h) = some (if w = 0 then (tdn (thF sg a b x.toInt) h c l).1 else (tdn (thF sg a b x.toInt) h c l).2, s') ∧ PF n sg s' := by
  intro h
  induction h with
  | zero =>
    intro m c l s hh hs
    rw [f_Box_thread_45, if_pos (by decide)]
    refine ⟨s, ?_, hs⟩
    rcases (by omega : w = 0 ∨ w = 1) with rfl | rfl
    · rw [if_pos (by decide), if_pos rfl]
      rfl
    · rw [if_neg (by decide), if_neg (by omega)]
      rfl
  | succ h ih =>
    intro m c l s hh hs
    have h1 : (nI (h + 1)).toInt = ((h + 1 : Nat) : Int) := nI_toInt (by omega)
    obtain ⟨s1, e1, e2, e3, e4⟩ := high_c hs ha hb (x := nI (h + 1)) (by rw [h1]; omega)
    rw [show m + (h + 1) + 1 = (m + h + 1) + 1 by omega, f_Box_thread_45, if_neg (by rw [show (1 : Int32) = nI 1 from rfl]; exact nI_nlt (by omega) (by omega)), e1, Option.bind_some]
    unfold f_Box_thread_70
    have L : (iI (thL sg a b (nI (h + 1)).toInt) = x) = (thF sg a b x.toInt (h + 1) = true) := by
      rw [nEq, iT (by omega) (by omega), h1]
      unfold thF
      rw [decide_eq_true_eq]
    simp only [L]
    rw [nI_d1 (by omega)]
    by_cases q : thF sg a b x.toInt (h + 1) = true
    · have e : tdn (thF sg a b x.toInt) (h + 1) c l = tdn (thF sg a b x.toInt) h (c + 1) (nI (h + 1)) := by rw [tdn, if_pos q]
      rw [if_pos q, e]
      exact ih m _ _ s1 (by omega) e2
    · have e : tdn (thF sg a b x.toInt) (h + 1) c l = tdn (thF sg a b x.toInt) h c l := by rw [tdn, if_neg q]
      rw [if_neg q, e]
      exact ih m _ _ s1 (by omega) e2
/-- all but the height is as it was -/
def HF (s0 s : Hp) : Prop := (∀ c, c ≠ 46 → c ≠ 51 → (c < 55 ∨ 60 ≤ c) → s c = s0 c) ∧ (∀ k, k ≠ 2 → s 51 k = s0 51 k) ∧ ∀ k, k ≠ 12 → k ≠ 13 → s 46 k = s0 46 k
theorem thread_m {n : Nat} {sg s0 : Hp} (h0 : PF n sg s0) {a b w : Nat} (ha : a < 8) (hb : b < 8) (hw : w < 2) {x : Int32} (hx : 0 ≤ x.toInt ∧ x.toInt ≤ 9999) : ∀ (k j m : Nat) (c l : Int32) (s : Hp), j + k = 31 → 1 ≤ j → HF s0 s → ∃ s', f_Mod_threadOf_17 (m + k + 1) s (nI a) (nI b) x (nI w) (s0 51 2) c l (nI j) = some (if w = 0 then (tup (thF sg a b x.toInt) k j c l).1 else (tup (thF sg a b x.toInt) k j c l).2, s') ∧ PF n sg s' := by
  intro k
  induction k with
  | zero =>
    intro j m c l s hj hj1 hs
    rw [f_Mod_threadOf_17, if_pos (by rw [show (30 : Int32) = nI 30 from rfl]; exact nI_lt (by omega) (by omega)), Option.bind_some]
    have e51 : w2 s 51 2 (s0 51 2) 51 = s0 51 := by
      funext i
      by_cases q : i = 2
      · rw [q, w2_at]
      · rw [w2_ne (by omega), hs.2.1 i q]
    refine ⟨w2 s 51 2 (s0 51 2), ?_, h0.mx (fun c c1 c2 c3 => ?_) (by rw [w2_cell _ (by omega), hs.2.2 4 (by omega) (by omega)]) (by rw [w2_cell _ (by omega), hs.2.2 9 (by omega) (by omega)])⟩
    · rcases (by omega : w = 0 ∨ w = 1) with rfl | rfl
      · rw [if_pos (by decide), if_pos rfl]
        rfl
      · rw [if_neg (by decide), if_neg (by omega)]
        rfl
    · by_cases q : c = 51
      · subst q; exact e51
      · rw [w2_cell _ q, hs.1 c c1 q (by omega)]
  | succ k ih =>
    intro j m c l s hj hj1 hs
    obtain ⟨hS, hR, hB⟩ := h0.b
    have hjt : (nI j).toInt = (j : Int) := nI_toInt (by omega)
    have hjr : 1 ≤ (j : Int) ∧ (j : Int) ≤ 30 := by omega
    have hS' := Sh_b hS hjr
    rw [show m + (k + 1) + 1 = (m + k + 1) + 1 by omega, f_Mod_threadOf_17, if_neg (by rw [show (30 : Int32) = nI 30 from rfl]; exact nI_nlt (by omega) (by omega)), Option.bind_some]
    generalize hs2 : w2 s 51 2 (nI j) = s2
    have H2 : HF s0 s2 := ⟨fun c c1 c2 c3 => by rw [← hs2, w2_cell _ c2, hs.1 c c1 c2 c3], fun k hk => by rw [← hs2, w2_ne (by omega), hs.2.1 k hk], fun k k1 k2 => by rw [← hs2, w2_cell _ (by omega), hs.2.2 k k1 k2]⟩
    obtain ⟨hM0, hbr0, -, -⟩ := h0.me ha hb
    have t512 : s2 51 2 = nI j := by rw [← hs2, w2_at]
    have hM2 : SM (Sh (sS sg) (j : Int)) s2 := by
      refine ⟨?_, ?_, ?_⟩
      · rw [H2.2.1 0 (by omega), hM0.1]; rfl
      · rw [H2.2.1 1 (by omega), hM0.2.1]; rfl
      · rw [t512, hjt]; rfl
    have hbr2 : MBr (sBar sg) s2 := hbr0.of (H2.1 53 (by omega) (by omega) (by omega))
    have e52 : s2 52 = s0 52 := H2.1 52 (by omega) (by omega) (by omega)
    have pls : ∀ p, p < 8 → s2 52 (3 * p) = sg 3 p ∧ s2 52 (3 * p + 1) = sg 4 p ∧ s2 52 (3 * p + 2) = sg 5 p := fun p hp => by
      rw [e52, h0.2.1 52 (by decide)]
      exact hB.2.2.1 p hp
    have mS : ∀ i, i < 3 → mSd s2 i = Sh (sS sg) (j : Int) i := by
      intro i hi
      rcases (by omega : i = 0 ∨ i = 1 ∨ i = 2) with rfl | rfl | rfl
      · show (s2 51 2).toInt = _
        rw [hM2.2.2]
      · show (s2 51 0).toInt = _
        rw [hM2.1]
      · show (s2 51 1).toInt = _
        rw [hM2.2.1]
    have there : ∀ p, p < 8 → ∃ r : Int32, f_Mod_isThere s2 (nI p) = some (r, s2) ∧ (r = 0 ∨ r = 1) ∧ (r = 1 ↔ onB (Sh (sS sg) (j : Int)) (sg 3 p).toInt (sg 4 p).toInt (sg 5 p).toInt) := by
      intro p hp
      obtain ⟨r, g1, g2, g3⟩ := isThere_m s2 hp
      obtain ⟨y1, y2, y3⟩ := pls p hp
      rw [y1, y2, y3, onB_eq mS] at g3
      exact ⟨r, g1, g2, g3⟩
    unfold f_Mod_threadOf_74 f_Mod_threadOf_76
    have nofit : thF sg a b x.toInt j = false → ∀ t : Hp, HF s0 t → ∃ s', f_Mod_threadOf_17 (m + k + 1) t (nI a) (nI b) x (nI w) (s0 51 2) c l (nI j + 1) = some (if w = 0 then (tup (thF sg a b x.toInt) (k + 1) j c l).1 else (tup (thF sg a b x.toInt) (k + 1) j c l).2, s') ∧ PF n sg s' := by
      intro q t ht
      have e : tup (thF sg a b x.toInt) (k + 1) j c l = tup (thF sg a b x.toInt) k (j + 1) c l := by rw [tup, if_neg (by rw [q]; decide)]
      rw [e, nI_1 j]
      exact ih (j + 1) m c l t (by omega) (by omega) ht
    have no3 : ¬ (onB (Sh (sS sg) (j : Int)) (sg 3 a).toInt (sg 4 a).toInt (sg 5 a).toInt ∧ onB (Sh (sS sg) (j : Int)) (sg 3 b).toInt (sg 4 b).toInt (sg 5 b).toInt) → thF sg a b x.toInt j = false := by
      intro q
      unfold thF
      rw [thL_f q, decide_eq_false_iff_not]
      omega
    obtain ⟨r1, f1, f2, f3⟩ := there a ha
    rw [f1, Option.bind_some]
    dsimp only
    by_cases q1 : onB (Sh (sS sg) (j : Int)) (sg 3 a).toInt (sg 4 a).toInt (sg 5 a).toInt
    · have r11 := f3.mpr q1
      rw [if_neg (by rw [r11]; decide)]
      obtain ⟨r2, f4, f5, f6⟩ := there b hb
      rw [f4, Option.bind_some]
      dsimp only
      by_cases q2 : onB (Sh (sS sg) (j : Int)) (sg 3 b).toInt (sg 4 b).toInt (sg 5 b).toInt
      · have r21 := f6.mpr q2
        rw [if_neg (by rw [r21]; decide)]
        have he : ME (Sh (sS sg) (j : Int)) (sA (Sh (sS sg) (j : Int)) (sg 3 a).toInt (sg 4 a).toInt (sg 5 a).toInt) (sA (Sh (sS sg) (j : Int)) (sg 3 b).toInt (sg 4 b).toInt (sg 5 b).toInt) (sBar sg) a b s2 := by
          refine ⟨hM2, hbr2, ⟨sA_aw hS' q1, ?_⟩, ⟨sA_aw hS' q2, ?_⟩⟩
          · obtain ⟨y1, y2, y3⟩ := pls a ha
            rw [y1, y2, y3]
          · obtain ⟨y1, y2, y3⟩ := pls b hb
            rw [y1, y2, y3]
        obtain ⟨T, t1, t2, t3⟩ := short_m hS' ha hb he
        have u1 := t2.2.1
        have u2 := t2.2.2.1
        have e7 := thL_t (sg := sg) (a := a) (b := b) (h := (j : Int)) ⟨q1, q2⟩
        rw [← e7] at t1 u1 u2
        rw [t1, Option.bind_some]
        have HT : HF s0 T := ⟨fun c c1 c2 c3 => by rw [t3.1 c c1 c3, H2.1 c c1 c2 c3], fun k hk => by rw [t3.1 51 (by omega) (by omega), H2.2.1 k hk], fun k k1 k2 => by rw [t3.2 k k1 k2, H2.2.2 k k1 k2]⟩
        have L : (iI (thL sg a b (j : Int)) = x) = (thF sg a b x.toInt j = true) := by
          rw [nEq, iT (by omega) (by omega)]
          unfold thF
          rw [decide_eq_true_eq]
        simp only [L]
        by_cases q : thF sg a b x.toInt j = true
        · rw [if_pos q]
          have e : tup (thF sg a b x.toInt) (k + 1) j c l = tup (thF sg a b x.toInt) k (j + 1) (c + 1) (if l = -1 then nI j else l) := by rw [tup, if_pos q]
          rw [e, nI_1 j]
          by_cases q3 : l = -1
          · rw [if_pos q3, if_pos q3]
            exact ih (j + 1) m _ _ T (by omega) (by omega) HT
          · rw [if_neg q3, if_neg q3]
            exact ih (j + 1) m _ _ T (by omega) (by omega) HT
        · rw [if_neg q]
          exact nofit (by simpa using q) T HT
      · have r20 : r2 = 0 := f5.resolve_right (fun z => q2 (f6.mp z))
        rw [if_pos r20]
        exact nofit (no3 (fun z => q2 z.2)) s2 H2
    · have r10 : r1 = 0 := f2.resolve_right (fun z => q1 (f3.mp z))
      rw [if_pos r10]
      exact nofit (no3 (fun z => q1 z.1)) s2 H2
theorem c_thread {n : Nat} {sg : Hp} {a b w : Nat} (ha : a < 8) (hb : b < 8) (hw : w < 2) {x : Int32} (hx : 0 ≤ x.toInt ∧ x.toInt ≤ 9999) : Q n sg (fun s => f_Box_thread s (nI a) (nI b) x (nI w)) (thV sg a b x.toInt w) := by
  intro s hs
  obtain ⟨m, hm⟩ := LFx 30 (by omega)
  obtain ⟨s', e1, e2⟩ := thread_c ha hb hw hx 30 m 0 (-1) s (by omega) hs
  refine ⟨s', ?_, e2⟩
  show f_Box_thread s (nI a) (nI b) x (nI w) = _
  unfold f_Box_thread
  rw [isPlace_c, Option.bind_some]
  dsimp only
  rw [if_b, if_pos (pl8 ha), isPlace_c, Option.bind_some]
  dsimp only
  rw [if_b, if_pos (pl8 hb), isLength_c, Option.bind_some]
  dsimp only
  rw [if_b, if_pos hx, if_neg (nI_pos (by omega)), if_pos (by rw [show (1 : Int32) = nI 1 from rfl]; exact nI_le (by omega) (by omega))]
  rw [show nI 30 = (30 : Int32) from rfl, ← hm] at e1
  exact e1
theorem m_thread {n : Nat} {sg : Hp} {a b w : Nat} (ha : a < 8) (hb : b < 8) (hw : w < 2) {x : Int32} (hx : 0 ≤ x.toInt ∧ x.toInt ≤ 9999) : Q n sg (fun s => f_Mod_threadOf s (nI a) (nI b) x (nI w)) (thV sg a b x.toInt w) := by
  intro s hs
  obtain ⟨m, hm⟩ := LFx 30 (by omega)
  obtain ⟨s', e1, e2⟩ := thread_m hs ha hb hw hx 30 1 m 0 (-1) s (by omega) (by omega) ⟨fun _ _ _ _ => rfl, fun _ _ => rfl, fun _ _ _ => rfl⟩
  refine ⟨s', ?_, e2⟩
  show f_Mod_threadOf s (nI a) (nI b) x (nI w) = _
  unfold f_Mod_threadOf thV
  rw [td_u]
  rw [show nI 1 = (1 : Int32) from rfl, ← hm] at e1
  exact e1
theorem thread_bc {s : Hp} {a1 a2 a3 a4 : Int32} (h : ¬ ((0 ≤ a1.toInt ∧ a1.toInt ≤ 7) ∧ (0 ≤ a2.toInt ∧ a2.toInt ≤ 7) ∧ (0 ≤ a3.toInt ∧ a3.toInt ≤ 9999) ∧ 0 ≤ a4.toInt ∧ a4.toInt ≤ 1)) : f_Box_thread s a1 a2 a3 a4 = some (-2, s) := by
  have z : (0 : Int32).toInt = 0 := by decide
  have o : (1 : Int32).toInt = 1 := by decide
  unfold f_Box_thread
  rw [isPlace_c, Option.bind_some]
  dsimp only
  rw [if_b]
  by_cases c1 : 0 ≤ a1.toInt ∧ a1.toInt ≤ 7
  · rw [if_pos c1, isPlace_c, Option.bind_some]
    dsimp only
    rw [if_b]
    by_cases c2 : 0 ≤ a2.toInt ∧ a2.toInt ≤ 7
    · rw [if_pos c2, isLength_c, Option.bind_some]
      dsimp only
      rw [if_b]
      by_cases c3 : 0 ≤ a3.toInt ∧ a3.toInt ≤ 9999
      · rw [if_pos c3]
        by_cases c4 : a4 < 0
        · rw [if_pos c4]
        · rw [if_neg c4, if_neg (by rw [nLt, z] at c4; rw [nLe, o]; omega)]
      · rw [if_neg c3]
    · rw [if_neg c2]
  · rw [if_neg c1]
theorem thread_tm {s : Hp} {a1 a2 a3 a4 : Int32} : f_Mod_thread s a1 a2 a3 a4 = if (0 ≤ a1.toInt ∧ a1.toInt ≤ 7) ∧ (0 ≤ a2.toInt ∧ a2.toInt ≤ 7) ∧ (0 ≤ a3.toInt ∧ a3.toInt ≤ 9999) ∧ 0 ≤ a4.toInt ∧ a4.toInt ≤ 1 then f_Mod_threadOf s a1 a2 a3 a4 else some (-2, s) := by
  unfold f_Mod_thread
  rw [isPlace_m, Option.bind_some]
  dsimp only
  rw [if_b, isPlace_m, Option.bind_some]
  dsimp only
  rw [if_b, in_i a3 0 9999 (a := 0) (b := 9999) rfl rfl, Option.bind_some]
  dsimp only
  rw [if_b, isTwo_m, Option.bind_some]
  dsimp only
  rw [if_b, bid]
  by_cases c1 : 0 ≤ a1.toInt ∧ a1.toInt ≤ 7
  · rw [if_pos c1]
    by_cases c2 : 0 ≤ a2.toInt ∧ a2.toInt ≤ 7
    · rw [if_pos c2]
      by_cases c3 : 0 ≤ a3.toInt ∧ a3.toInt ≤ 9999
      · rw [if_pos c3]
        by_cases c4 : 0 ≤ a4.toInt ∧ a4.toInt ≤ 1
        · rw [if_pos c4, if_pos ⟨c1, c2, c3, c4⟩]
        · rw [if_neg c4, if_neg (fun w => c4 w.2.2.2)]
      · rw [if_neg c3, if_neg (fun w => c3 w.2.2.1)]
    · rw [if_neg c2, if_neg (fun w => c2 w.2.1)]
  · rw [if_neg c1, if_neg (fun w => c1 w.1)]
theorem k_thread : K_thread := by
  intro n sg h hn a1 a2 a3 a4
  by_cases c : (0 ≤ a1.toInt ∧ a1.toInt ≤ 7) ∧ (0 ≤ a2.toInt ∧ a2.toInt ≤ 7) ∧ (0 ≤ a3.toInt ∧ a3.toInt ≤ 9999) ∧ 0 ≤ a4.toInt ∧ a4.toInt ≤ 1
  · obtain ⟨c1, c2, c3, c4⟩ := id c
    obtain ⟨a, ha, rfl⟩ := nI_ex (n := 7) c1 (by omega)
    obtain ⟨b, hb, rfl⟩ := nI_ex (n := 7) c2 (by omega)
    obtain ⟨w, hw, rfl⟩ := nI_ex (n := 1) c4 (by omega)
    refine pair_q h (c_thread (by omega) (by omega) (by omega) c3) (Q.eq (fun s => ?_) (m_thread (by omega) (by omega) (by omega) c3))
    show f_Mod_thread s _ _ _ _ = _
    rw [thread_tm, if_pos c]
  · refine pair_q h (q_bad (v := -2) (fun s => thread_bc c)) (q_bad (fun s => ?_))
    show f_Mod_thread s _ _ _ _ = _
    rw [thread_tm, if_neg c]
