def clsL : List Nat := [9, 2, 20, 20, 20, 20, 20, 5, 20, 1, 20, 3, 5, 20, 5, 20, 0, 21, 20, 6, 6, 6, 6, 6, 7, 20, 20, 20, 20, 8, 20, 20, 22, 6, 0, 5, 20, 20, 4, 20, 4, 20, 4, 20, 4, 20, 10, 20, 20, 20, 20, 20, 20, 20, 20, 20, 20, 20, 20, 20, 20, 20, 20]
def lenL : List Nat := [11, 7, 3, 8, 8, 8, 6, 1, 6, 2, 40, 11, 1, 6, 1, 6, 4, 5, 5, 8, 8, 8, 8, 8, 6, 64, 64, 64, 64, 4, 8, 8, 4, 8, 4, 1, 6, 3, 3, 60, 3, 60, 3, 60, 3, 60, 20, 4, 4, 240, 60, 3, 24, 6, 40, 560, 160, 5, 5, 6, 64, 8, 8]
def rtL : List (List Nat) := [[1, 9, 11, 24, 29, 32, 33, 34, 35, 37, 0], [2, 3, 4, 5, 6, 7, 0], [], [], [], [], [], [8], [], [10, 0], [], [1, 12, 14, 16, 17, 18, 0, 0, 0, 0, 0], [13], [], [15], [], [0, 0, 0, 0], [19, 20, 21, 22, 23], [], [0, 0, 0, 0, 0, 0, 0, 0], [0, 0, 0, 0, 0, 0, 0, 0], [0, 0, 0, 0, 0, 0, 0, 0], [0, 0, 0, 0, 0, 0, 0, 0], [0, 0, 0, 0, 0, 0, 0, 0], [1, 11, 25, 26, 27, 28], [], [], [], [], [30, 31, 0, 0], [], [], [38, 40, 42, 44], [0, 0, 0, 0, 0, 0, 0, 0], [0, 0, 0, 0], [36], [], [], [39, 0, 0], [], [41, 0, 0], [], [43, 0, 0], [], [45, 0, 0], [], [47, 48, 49, 50, 0, 51, 52, 53, 54, 0, 55, 56, 0, 0, 57, 58, 59, 60, 61, 62], [], [], [], [], [], [], [], [], [], [], [], [], [], [], [], []]
def nC : Nat := 63
def nS : Nat := 1956
/-! THE HEAP OF INTS: behind the constructors refs never change; sg c k is the int in slot k of cell c -/
abbrev Hp : Type := Nat → Nat → Int32
def clsOf (i : Nat) : Nat := clsL.getD i 99
def lenOf (i : Nat) : Nat := lenL.getD i 0
def rt (i k : Nat) : Nat := (rtL.getD i []).getD k 0
def flds (sg : Hp) (i ci : Nat) : List Value := (List.range (fN ci)).map (fun k => if fI ci k then .int (sg i k) else .ref (rt i k))
def HP (sg : Hp) (i : Nat) : va_E :=
  if clsOf i = 20 then .inl (0, lenOf i, .inl (sg i))
  else if clsOf i = 21 then .inl (1, lenOf i, .inr (.inr (.inr (.inr (fun j => if j < lenOf i then some (rt i j) else none)))))
  else if clsOf i = 22 then .inl (2, lenOf i, .inr (.inr (.inr (.inr (fun j => if j < lenOf i then some (rt i j) else none)))))
  else if clsOf i < 11 then .inr (clsOf i, flds sg i (clsOf i)) else .inr (0, [])
def HSx (sg : Hp) : HS := (HP sg, nC, nS)
theorem cls_lt {i : Nat} (h : clsOf i ≠ 99) : i < nC := by
  by_cases hi : i < nC
  · exact hi
  · exfalso
    apply h
    unfold clsOf
    have e : clsL.length = nC := by decide
    rw [List.getD_eq_getElem?_getD, List.getElem?_eq_none_iff.mpr (by omega)]
    rfl
theorem HP_arr {sg : Hp} {a : Nat} (h : clsOf a = 20) : HP sg a = .inl (0, lenOf a, .inl (sg a)) := by unfold HP; rw [if_pos h]
theorem HP_obj {sg : Hp} {a ci : Nat} (h : clsOf a = ci) (hc : ci < 11) : HP sg a = .inr (ci, flds sg a ci) := by
  unfold HP
  rw [if_neg (by omega), if_neg (by omega), if_neg (by omega), if_pos (by omega), h]
theorem HP_upA {sg : Hp} {a : Nat} (f : Nat → Int32) (h : clsOf a = 20) : va_up (HP sg) a (.inl (0, lenOf a, .inl f)) = HP (va_up sg a f) := by
  funext i
  unfold va_up
  by_cases hi : i = a
  · subst hi
    rw [if_pos rfl, HP_arr h, if_pos rfl]
  · rw [if_neg hi]
    unfold HP flds
    simp only [if_neg hi]
theorem flds_get {sg : Hp} {a ci j : Nat} (hj : j < fN ci) : (flds sg a ci)[j]? = some (if fI ci j then .int (sg a j) else .ref (rt a j)) := by
  unfold flds
  rw [List.getElem?_map, List.getElem?_range hj]
  rfl
theorem flds_len {sg : Hp} {a ci : Nat} : (flds sg a ci).length = fN ci := by simp [flds]
theorem flds_set {sg : Hp} {a ci k : Nat} {x : Int32} (hI : fI ci k = true) : (flds sg a ci).set k (.int x) = flds (va_up sg a (upd (sg a) k x)) a ci := by
  apply List.ext_getElem?
  intro j
  rw [List.getElem?_set, flds_len]
  by_cases hj : j < fN ci
  · rw [flds_get hj, flds_get hj]
    by_cases hk : k = j
    · subst hk
      rw [if_pos rfl, if_pos hj, if_pos hI]
      simp [va_up, upd]
    · rw [if_neg hk]
      simp [va_up, upd, Ne.symm hk]
  · have e1 : ∀ s2 : Hp, (flds s2 a ci)[j]? = none := fun s2 => List.getElem?_eq_none_iff.mpr (by rw [flds_len]; omega)
    rw [e1, e1]
    by_cases hk : k = j
    · subst hk
      rw [if_pos rfl, if_neg hj]
    · rw [if_neg hk]
theorem HP_upO {sg : Hp} {a ci k : Nat} {x : Int32} (h : clsOf a = ci) (hc : ci < 11) (hI : fI ci k = true) : va_up (HP sg) a (.inr (ci, (flds sg a ci).set k (.int x))) = HP (va_up sg a (upd (sg a) k x)) := by
  funext i
  by_cases hi : i = a
  · subst hi
    rw [HP_obj h hc, ← flds_set hI]
    simp [va_up]
  · simp only [va_up, if_neg hi]
    unfold HP flds
    simp only [va_up, if_neg hi]
def FRC : List (List Nat) := [[99, 99, 99, 99], [20, 99], [20, 20, 20, 20, 20, 5, 99], [2, 5, 5, 0, 21, 20, 99, 99, 99, 99, 99], [20, 99, 99], [20], [99, 99, 99, 99, 99, 99, 99, 99], [2, 3, 20, 20, 20, 20], [20, 20, 99, 99], [2, 1, 3, 7, 8, 22, 6, 0, 5, 20, 99], [20, 20, 20, 20, 99, 20, 20, 20, 20, 99, 20, 20, 99, 99, 20, 20, 20, 20, 20, 20]]
def FRL : List (List Nat) := [[0, 0, 0, 0], [40, 0], [3, 8, 8, 8, 6, 1, 0], [7, 1, 1, 4, 5, 5, 0, 0, 0, 0, 0], [60, 0, 0], [6], [0, 0, 0, 0, 0, 0, 0, 0], [7, 11, 64, 64, 64, 64], [8, 8, 0, 0], [7, 2, 11, 6, 4, 4, 8, 4, 1, 3, 0], [4, 4, 240, 60, 0, 3, 24, 6, 40, 0, 560, 160, 0, 0, 5, 5, 6, 64, 8, 8]]
def frc (ci k : Nat) : Nat := (FRC.getD ci []).getD k 99
def frl (ci k : Nat) : Nat := (FRL.getD ci []).getD k 0
theorem rt_cls {a ci : Nat} (h : clsOf a = ci) (k : Nat) (hc : (decide (ci < 11) && decide (k < fN ci) && !fI ci k) = true) : clsOf (rt a k) = frc ci k ∧ lenOf (rt a k) = frl ci k := by
  have key : ∀ a, a < nC → clsOf a < 11 → ∀ k, k < fN (clsOf a) → fI (clsOf a) k = false → clsOf (rt a k) = frc (clsOf a) k ∧ lenOf (rt a k) = frl (clsOf a) k := by decide +kernel
  simp only [Bool.and_eq_true, decide_eq_true_eq, Bool.not_eq_true'] at hc
  obtain ⟨⟨h1, h2⟩, h3⟩ := hc
  subst h
  exact key a (cls_lt (by omega)) h1 k h2 h3
theorem rt_el {a t : Nat} (h : clsOf a = t) (ht : t = 21 ∨ t = 22) {j : Nat} (hj : j < lenOf a) : clsOf (rt a j) = (if t = 21 then 6 else 4) := by
  have key : ∀ a, a < nC → (clsOf a = 21 ∨ clsOf a = 22) → ∀ j, j < lenOf a → clsOf (rt a j) = (if clsOf a = 21 then 6 else 4) := by decide +kernel
  subst h
  exact key a (cls_lt (by omega)) ht j hj
/-! GO: from here, with these locals at least, the small machine comes to the end r, sg' -/
def lsub (lv ls : LSt) : Prop := ∀ q ∈ lv, lget ls q.1 = some q.2
def Go (d : Nat) (scr : Option (Nat × (Nat → Int32))) (m pc : Nat) (lv : LSt) (st : List Value) (sg : Hp) (r : Option Value) (sg' : Hp) : Prop := ∃ N : Nat, ∀ f : Nat, N ≤ f → ∀ ls : LSt, lsub lv ls → run f d scr m pc ls st (HSx sg) = some (r, HSx sg')
def Sm (d m : Nat) (as : List Value) (sg : Hp) (r : Option Value) (sg' : Hp) : Prop := ∃ N : Nat, ∀ f : Nat, N ≤ f → run f d none m 0 (lv_args 0 as) [] (HSx sg) = some (r, HSx sg')
theorem lv_args_low : ∀ (as : List Value) (i : Nat), ∀ q ∈ lv_args i as, i ≤ q.1 := by
  intro as
  induction as with
  | nil => intro i q h; cases h
  | cons v r ih =>
    intro i q h
    rcases List.mem_cons.mp h with rfl | h
    · exact Nat.le_refl _
    · have := ih _ q h
      split at this <;> omega
theorem lv_args_sub : ∀ (as : List Value) (i : Nat), lsub (lv_args i as) (lv_args i as) := by
  intro as
  induction as with
  | nil => intro i q h; cases h
  | cons v r ih =>
    intro i q h
    show (if i = q.1 then some v else lget (lv_args (if v.category = 2 then i + 2 else i + 1) r) q.1) = some q.2
    rcases List.mem_cons.mp h with rfl | h
    · rw [if_pos rfl]
    · have h1 := lv_args_low _ _ q h
      rw [if_neg (by split at h1 <;> omega)]
      exact ih _ q h
theorem Sm.of {d m : Nat} {as : List Value} {sg sg' : Hp} {r : Option Value} {lv : LSt} (hlv : lv_args 0 as = lv) (h : Go d none m 0 lv [] sg r sg') : Sm d m as sg r sg' := by
  subst hlv
  obtain ⟨N, hN⟩ := h
  exact ⟨N, fun f hf => hN f hf _ (lv_args_sub as 0)⟩
def lvs : LSt → LSt → Prop
  | [], _ => True
  | q :: r, lv => lget lv q.1 = some q.2 ∧ lvs r lv
theorem lvs_mem : ∀ (l lv : LSt), lvs l lv → ∀ q ∈ l, q ∈ lv := by
  intro l
  induction l with
  | nil => intro lv _ q h; cases h
  | cons w r ih =>
    intro lv h q hq
    rcases List.mem_cons.mp hq with rfl | hq
    · exact lget_mem h.1
    · exact ih lv h.2 q hq
theorem Go.weak {d m pc : Nat} {scr : Option (Nat × (Nat → Int32))} {lv lv' : LSt} {st : List Value} {sg sg' : Hp} {r : Option Value} (h : lvs lv' lv) (k : Go d scr m pc lv' st sg r sg') : Go d scr m pc lv st sg r sg' := by
  obtain ⟨N, hN⟩ := k
  exact ⟨N, fun f hf ls hl => hN f hf ls (fun q hq => hl q (lvs_mem _ _ h q hq))⟩
theorem lget_filter {p : Nat × Value → Bool} : ∀ (ls : LSt) (j : Nat) (w : Value), lget ls j = some w → p (j, w) = true → lget (ls.filter p) j = some w := by
  intro ls
  induction ls with
  | nil => intro j w h _; cases h
  | cons q r ih =>
    intro j w h hp
    obtain ⟨i, v⟩ := q
    unfold lget at h
    by_cases hi : i = j
    · rw [if_pos hi] at h
      cases h
      subst hi
      rw [List.filter_cons_of_pos hp]
      unfold lget
      rw [if_pos rfl]
    · rw [if_neg hi] at h
      by_cases hq : p (i, v) = true
      · rw [List.filter_cons_of_pos hq]
        unfold lget
        rw [if_neg hi]
        exact ih j w h hp
      · rw [List.filter_cons_of_neg hq]
        exact ih j w h hp
theorem lsub_put1 {lv ls : LSt} {k : Nat} {v : Value} (h : lsub lv ls) : lsub (lput1 lv k v) (lput1 ls k v) := by
  intro q hq
  unfold lput1 at hq ⊢
  show (if k = q.1 then some v else lget (ls.filter (fun q => !(q.1 == k) && !(q.1 + 1 == k && q.2.category == 2))) q.1) = some q.2
  rcases List.mem_cons.mp hq with rfl | hq
  · rw [if_pos rfl]
  · obtain ⟨h1, h2⟩ := List.mem_filter.mp hq
    have h3 : ¬ k = q.1 := by
      intro e
      simp [e] at h2
    rw [if_neg h3]
    exact lget_filter ls q.1 q.2 (h q h1) h2
theorem lsub_put2 {lv ls : LSt} {k : Nat} {v : Value} (h : lsub lv ls) : lsub (lput2 lv k v) (lput2 ls k v) := by
  intro q hq
  unfold lput2 at hq ⊢
  show (if k = q.1 then some v else lget (ls.filter (fun q => !(q.1 == k) && (!(q.1 == k + 1) && !(q.1 + 1 == k && q.2.category == 2)))) q.1) = some q.2
  rcases List.mem_cons.mp hq with rfl | hq
  · rw [if_pos rfl]
  · obtain ⟨h1, h2⟩ := List.mem_filter.mp hq
    have h3 : ¬ k = q.1 := by
      intro e
      simp [e] at h2
    rw [if_neg h3]
    exact lget_filter ls q.1 q.2 (h q h1) h2
def ctl : Instr → Bool
  | .ireturn => true
  | .lreturn => true
  | .return_ => true
  | .goto _ => true
  | .ifCond _ _ => true
  | .if_icmp _ _ => true
  | .tableswitch _ _ _ _ => true
  | .lookupswitch _ _ => true
  | .invokevirtual _ => true
  | .invokespecial _ => true
  | .invokestatic _ => true
  | _ => false
def w2 (sg : Hp) (c k : Nat) (x : Int32) : Hp := va_up sg c (upd (sg c) k x)
def cp2 (sg : Hp) (a b : Nat) (sp dp n : Int32) : Hp := va_up sg b (va_cpy (sg a) (sg b) sp.toNatClampNeg dp.toNatClampNeg n.toNatClampNeg)
section GS
variable {d m pc np : Nat} {scr : Option (Nat × (Nat → Int32))} {lv : LSt} {st : List Value} {sg sg' : Hp} {r : Option Value}
theorem run_ctl {f : Nat} {i : Instr} {ls : LSt} {h : HS} (hi : ins m pc = some (i, np)) : run (f + 1) d scr m pc ls st h = (match (some (i, np) : Option (Instr × Nat)) with
    | none => none
    | some (i, np) =>
      let call : Nat → Nat → Bool → Option (Option Value × HS) := fun k na rc => match (generalizing := false) d with
        | 0 => none
        | d + 1 => if na ≤ st.length ∧ k < nMeth ∧ ((st.drop na).map fun v => v.category).sum ≤ 8 ∧ (((st.take na).reverse).map fun v => v.category).sum ≤ ML k ∧ (rc = true → rcv k (st.take na).reverse h = true) then
            match run f d none k 0 (lv_args 0 (st.take na).reverse) [] h with
            | some (r, h') => run f (d + 1) scr m np ls (r.toList ++ st.drop na) h'
            | none => none
          else none
      match i with
      | .ireturn => match st with
        | [.int v] => if retZ m v = true then some (some (.int v), h) else none
        | _ => none
      | .lreturn => match st with
        | [.long v] => if MR m = some .long then some (some (.long v), h) else none
        | _ => none
      | .return_ => match st with
        | [] => if MR m = none then some (none, h) else none
        | _ => none
      | .goto t => run f d scr m t.toNat ls st h
      | .ifCond c t => match st with
        | .int x :: st => if cnd c x 0 = true then run f d scr m t.toNat ls st h else run f d scr m np ls st h
        | _ => none
      | .if_icmp c t => match st with
        | .int y :: .int x :: st => if cnd c x y = true then run f d scr m t.toNat ls st h else run f d scr m np ls st h
        | _ => none
      | .tableswitch df lo hi os => match st with
        | .int x :: st => if x.toInt < lo ∨ hi < x.toInt then run f d scr m df.toNat ls st h else match os.toList[(x.toInt - lo).toNat]? with
          | some t => run f d scr m t.toNat ls st h
          | none => none
        | _ => none
      | .lookupswitch df ps => match st with
        | .int x :: st => run f d scr m (swl ps.toList df x.toInt).toNat ls st h
        | _ => none
      | .invokevirtual e => call (e % 1000) (MP (e % 1000) + 1) true
      | .invokespecial e => if e % 1000 < 500 then call (e % 1000) (MP (e % 1000) + 1) true else if d = 0 then none else match own5 (e % 1000) st h with
        | some (st', h') => run f d scr m np ls st' h'
        | none => none
      | .invokestatic e => if e % 1000 < 500 then call (e % 1000) (MP (e % 1000)) false else if d = 0 then none else match own5 (e % 1000) st h with
        | some (st', h') => run f d scr m np ls st' h'
        | none => none
      | i => match stp scr i (ML m) ls st h with
        | some (ls', st', h') => run f d scr m np ls' st' h'
        | none => none) := by
  rw [← hi]
  rfl
theorem run_stp {f : Nat} {i : Instr} {ls ls' : LSt} {st' : List Value} {h h' : HS} (hi : ins m pc = some (i, np)) (hc : ctl i = false) (hs : stp scr i (ML m) ls st h = some (ls', st', h')) : run (f + 1) d scr m pc ls st h = run f d scr m np ls' st' h' := by
  rw [run_ctl hi]
  cases i <;> first | (cases hc; done) | (dsimp only; rw [hs])
theorem G_stp {i : Instr} {lv' : LSt} {st' : List Value} {sg1 : Hp} (hi : ins m pc = some (i, np)) (hc : ctl i = false) (hs : ∀ ls, lsub lv ls → ∃ ls', lsub lv' ls' ∧ stp scr i (ML m) ls st (HSx sg) = some (ls', st', HSx sg1)) (k : Go d scr m np lv' st' sg1 r sg') : Go d scr m pc lv st sg r sg' := by
  obtain ⟨N, hN⟩ := k
  refine ⟨N + 1, fun f hf ls hl => ?_⟩
  obtain ⟨ls', h1, h2⟩ := hs ls hl
  obtain ⟨g, rfl⟩ : ∃ g, f = g + 1 := ⟨f - 1, by omega⟩
  rw [run_stp hi hc h2]
  exact hN g (by omega) ls' h1
theorem G_iconst {n : Int} (v : Int32) (hi : ins m pc = some (.iconst n, np)) (hv : Int32.ofInt n = v) (k : Go d scr m np lv (.int v :: st) sg r sg') : Go d scr m pc lv st sg r sg' := by
  subst hv
  exact G_stp hi rfl (fun ls hl => ⟨ls, hl, rfl⟩) k
theorem G_lconst {n : Fin 2} (v : Int64) (hi : ins m pc = some (.lconst n, np)) (hv : Int64.ofNat (n : Nat) = v) (k : Go d scr m np lv (.long v :: st) sg r sg') : Go d scr m pc lv st sg r sg' := by
  subst hv
  exact G_stp hi rfl (fun ls hl => ⟨ls, hl, rfl⟩) k
theorem G_ldc {j : Nat} (v : Int32) (hi : ins m pc = some (.ldc j, np)) (hv : kIv j = v) (k : Go d scr m np lv (.int v :: st) sg r sg') : Go d scr m pc lv st sg r sg' := by
  subst hv
  exact G_stp hi rfl (fun ls hl => ⟨ls, hl, rfl⟩) k
theorem G_ldc2 {j : Nat} (v : Int64) (hi : ins m pc = some (.ldc2_w j, np)) (hv : kLv j = v) (k : Go d scr m np lv (.long v :: st) sg r sg') : Go d scr m pc lv st sg r sg' := by
  subst hv
  exact G_stp hi rfl (fun ls hl => ⟨ls, hl, rfl⟩) k
theorem G_iload {j : Nat} {v : Int32} (hi : ins m pc = some (.iload j, np)) (hj : lget lv j = some (.int v)) (k : Go d scr m np lv (.int v :: st) sg r sg') : Go d scr m pc lv st sg r sg' :=
  G_stp hi rfl (fun ls hl => ⟨ls, hl, by simp only [stp, hl _ (lget_mem hj)]⟩) k
theorem G_lload {j : Nat} {v : Int64} (hi : ins m pc = some (.lload j, np)) (hj : lget lv j = some (.long v)) (k : Go d scr m np lv (.long v :: st) sg r sg') : Go d scr m pc lv st sg r sg' :=
  G_stp hi rfl (fun ls hl => ⟨ls, hl, by simp only [stp, hl _ (lget_mem hj)]⟩) k
theorem G_aload {j : Nat} {v : Nat} (hi : ins m pc = some (.aload j, np)) (hj : lget lv j = some (.ref v)) (k : Go d scr m np lv (.ref v :: st) sg r sg') : Go d scr m pc lv st sg r sg' :=
  G_stp hi rfl (fun ls hl => ⟨ls, hl, by simp only [stp, hl _ (lget_mem hj)]⟩) k
theorem G_istore {j : Nat} {v : Int32} (hi : ins m pc = some (.istore j, np)) (hj : Nat.blt j (ML m) = true) (k : Go d scr m np (lput1 lv j (.int v)) st sg r sg') : Go d scr m pc lv (.int v :: st) sg r sg' :=
  G_stp hi rfl (fun ls hl => ⟨lput1 ls j (.int v), lsub_put1 hl, by simp only [stp]; exact if_pos (Nat.le_of_ble_eq_true hj)⟩) k
theorem G_astore {j : Nat} {v : Nat} (hi : ins m pc = some (.astore j, np)) (hj : Nat.blt j (ML m) = true) (k : Go d scr m np (lput1 lv j (.ref v)) st sg r sg') : Go d scr m pc lv (.ref v :: st) sg r sg' :=
  G_stp hi rfl (fun ls hl => ⟨lput1 ls j (.ref v), lsub_put1 hl, by simp only [stp]; exact if_pos (Nat.le_of_ble_eq_true hj)⟩) k
theorem G_lstore {j : Nat} {v : Int64} (hi : ins m pc = some (.lstore j, np)) (hj : Nat.blt (j + 1) (ML m) = true) (k : Go d scr m np (lput2 lv j (.long v)) st sg r sg') : Go d scr m pc lv (.long v :: st) sg r sg' :=
  G_stp hi rfl (fun ls hl => ⟨lput2 ls j (.long v), lsub_put2 hl, by simp only [stp]; exact if_pos (Nat.le_of_ble_eq_true hj)⟩) k
theorem G_iinc {j : Nat} {n : Int} {v : Int32} (w : Int32) (hi : ins m pc = some (.iinc j n, np)) (hw : Int32.ofInt n = w) (hj : Nat.blt j (ML m) = true) (hg : lget lv j = some (.int v)) (k : Go d scr m np (lput1 lv j (.int (v + w))) st sg r sg') : Go d scr m pc lv st sg r sg' := by
  subst hw
  exact G_stp hi rfl (fun ls hl => ⟨lput1 ls j (.int (v + Int32.ofInt n)), lsub_put1 hl, by simp only [stp, hl _ (lget_mem hg)]; exact if_pos (Nat.le_of_ble_eq_true hj)⟩) k
theorem G_iadd {x y : Int32} (hi : ins m pc = some (.iadd, np)) (k : Go d scr m np lv (.int (x + y) :: st) sg r sg') : Go d scr m pc lv (.int y :: .int x :: st) sg r sg' :=
  G_stp hi rfl (fun ls hl => ⟨ls, hl, rfl⟩) k
theorem G_isub {x y : Int32} (hi : ins m pc = some (.isub, np)) (k : Go d scr m np lv (.int (x - y) :: st) sg r sg') : Go d scr m pc lv (.int y :: .int x :: st) sg r sg' :=
  G_stp hi rfl (fun ls hl => ⟨ls, hl, rfl⟩) k
theorem G_imul {x y : Int32} (hi : ins m pc = some (.imul, np)) (k : Go d scr m np lv (.int (x * y) :: st) sg r sg') : Go d scr m pc lv (.int y :: .int x :: st) sg r sg' :=
  G_stp hi rfl (fun ls hl => ⟨ls, hl, rfl⟩) k
theorem G_iand {x y : Int32} (hi : ins m pc = some (.iand, np)) (k : Go d scr m np lv (.int (x &&& y) :: st) sg r sg') : Go d scr m pc lv (.int y :: .int x :: st) sg r sg' :=
  G_stp hi rfl (fun ls hl => ⟨ls, hl, rfl⟩) k
theorem G_ior {x y : Int32} (hi : ins m pc = some (.ior, np)) (k : Go d scr m np lv (.int (x ||| y) :: st) sg r sg') : Go d scr m pc lv (.int y :: .int x :: st) sg r sg' :=
  G_stp hi rfl (fun ls hl => ⟨ls, hl, rfl⟩) k
theorem G_ixor {x y : Int32} (hi : ins m pc = some (.ixor, np)) (k : Go d scr m np lv (.int (x ^^^ y) :: st) sg r sg') : Go d scr m pc lv (.int y :: .int x :: st) sg r sg' :=
  G_stp hi rfl (fun ls hl => ⟨ls, hl, rfl⟩) k
theorem G_ishl {x y : Int32} (hi : ins m pc = some (.ishl, np)) (k : Go d scr m np lv (.int (x <<< (y &&& 31)) :: st) sg r sg') : Go d scr m pc lv (.int y :: .int x :: st) sg r sg' :=
  G_stp hi rfl (fun ls hl => ⟨ls, hl, rfl⟩) k
theorem G_ishr {x y : Int32} (hi : ins m pc = some (.ishr, np)) (k : Go d scr m np lv (.int (x >>> (y &&& 31)) :: st) sg r sg') : Go d scr m pc lv (.int y :: .int x :: st) sg r sg' :=
  G_stp hi rfl (fun ls hl => ⟨ls, hl, rfl⟩) k
theorem G_iushr {x y : Int32} (hi : ins m pc = some (.iushr, np)) (k : Go d scr m np lv (.int ((x.toUInt32 >>> (y.toUInt32 &&& Int32.toUInt32 31)).toInt32) :: st) sg r sg') : Go d scr m pc lv (.int y :: .int x :: st) sg r sg' :=
  G_stp hi rfl (fun ls hl => ⟨ls, hl, rfl⟩) k
theorem G_idiv {x y : Int32} (hi : ins m pc = some (.idiv, np)) (hy : ¬ y = 0) (k : Go d scr m np lv (.int (x / y) :: st) sg r sg') : Go d scr m pc lv (.int y :: .int x :: st) sg r sg' :=
  G_stp hi rfl (fun ls hl => ⟨ls, hl, by simp only [stp]; rw [if_neg hy]⟩) k
theorem G_irem {x y : Int32} (hi : ins m pc = some (.irem, np)) (hy : ¬ y = 0) (k : Go d scr m np lv (.int (x - x / y * y) :: st) sg r sg') : Go d scr m pc lv (.int y :: .int x :: st) sg r sg' :=
  G_stp hi rfl (fun ls hl => ⟨ls, hl, by simp only [stp]; rw [if_neg hy]⟩) k
theorem G_ineg {x : Int32} (hi : ins m pc = some (.ineg, np)) (k : Go d scr m np lv (.int (-x) :: st) sg r sg') : Go d scr m pc lv (.int x :: st) sg r sg' :=
  G_stp hi rfl (fun ls hl => ⟨ls, hl, rfl⟩) k
theorem G_i2l {x : Int32} (hi : ins m pc = some (.i2l, np)) (k : Go d scr m np lv (.long (x.toInt64) :: st) sg r sg') : Go d scr m pc lv (.int x :: st) sg r sg' :=
  G_stp hi rfl (fun ls hl => ⟨ls, hl, rfl⟩) k
theorem G_i2b {x : Int32} (hi : ins m pc = some (.i2b, np)) (k : Go d scr m np lv (.int (x.toInt8.toInt32) :: st) sg r sg') : Go d scr m pc lv (.int x :: st) sg r sg' :=
  G_stp hi rfl (fun ls hl => ⟨ls, hl, rfl⟩) k
theorem G_i2s {x : Int32} (hi : ins m pc = some (.i2s, np)) (k : Go d scr m np lv (.int (x.toInt16.toInt32) :: st) sg r sg') : Go d scr m pc lv (.int x :: st) sg r sg' :=
  G_stp hi rfl (fun ls hl => ⟨ls, hl, rfl⟩) k
theorem G_ladd {x y : Int64} (hi : ins m pc = some (.ladd, np)) (k : Go d scr m np lv (.long (x + y) :: st) sg r sg') : Go d scr m pc lv (.long y :: .long x :: st) sg r sg' :=
  G_stp hi rfl (fun ls hl => ⟨ls, hl, rfl⟩) k
theorem G_lmul {x y : Int64} (hi : ins m pc = some (.lmul, np)) (k : Go d scr m np lv (.long (x * y) :: st) sg r sg') : Go d scr m pc lv (.long y :: .long x :: st) sg r sg' :=
  G_stp hi rfl (fun ls hl => ⟨ls, hl, rfl⟩) k
theorem G_lcmp {x y : Int64} (hi : ins m pc = some (.lcmp, np)) (k : Go d scr m np lv (.int (lg_cmp x y) :: st) sg r sg') : Go d scr m pc lv (.long y :: .long x :: st) sg r sg' :=
  G_stp hi rfl (fun ls hl => ⟨ls, hl, rfl⟩) k
theorem G_dupi {x : Int32} (hi : ins m pc = some (.dup, np)) (k : Go d scr m np lv (.int x :: .int x :: st) sg r sg') : Go d scr m pc lv (.int x :: st) sg r sg' := G_stp hi rfl (fun ls hl => ⟨ls, hl, rfl⟩) k
theorem G_dupr {x : Nat} (hi : ins m pc = some (.dup, np)) (k : Go d scr m np lv (.ref x :: .ref x :: st) sg r sg') : Go d scr m pc lv (.ref x :: st) sg r sg' := G_stp hi rfl (fun ls hl => ⟨ls, hl, rfl⟩) k
theorem G_pop {x : Int32} (hi : ins m pc = some (.pop, np)) (k : Go d scr m np lv st sg r sg') : Go d scr m pc lv (.int x :: st) sg r sg' := G_stp hi rfl (fun ls hl => ⟨ls, hl, rfl⟩) k
theorem G_dup2 {x : Nat} {y : Int32} (hi : ins m pc = some (.dup2, np)) (k : Go d scr m np lv (.int y :: .ref x :: .int y :: .ref x :: st) sg r sg') : Go d scr m pc lv (.int y :: .ref x :: st) sg r sg' := G_stp hi rfl (fun ls hl => ⟨ls, hl, rfl⟩) k
theorem stp_getf {e a ci : Nat} {ls : LSt} (hc : clsOf a = ci) (he : (decide (ci < 11) && decide (e / 100 % 100 = ci) && decide (e % 100 < fN ci)) = true) : stp scr (.getfield e) (ML m) ls (.ref a :: st) (HSx sg) = some (ls, (if fI ci (e % 100) then .int (sg a (e % 100)) else .ref (rt a (e % 100))) :: st, HSx sg) := by
  simp only [Bool.and_eq_true, decide_eq_true_eq] at he
  obtain ⟨⟨h1, h2⟩, h3⟩ := he
  have hlt : a < nC := cls_lt (by omega)
  have hd : decide (a < (HSx sg).2.1) = true := decide_eq_true hlt
  have hh : (HSx sg).1 a = .inr (ci, flds sg a ci) := HP_obj hc h1
  simp only [stp, hd, hh]
  rw [if_pos h2.symm, flds_get h3]
theorem G_getI {e : Nat} {a ci : Nat} (kk : Nat) (hi : ins m pc = some (.getfield e, np)) (hc : clsOf a = ci) (he : (decide (ci < 11) && decide (e / 100 % 100 = ci) && decide (e % 100 < fN ci)) = true) (hI : fI ci (e % 100) = true) (hk : e % 100 = kk) (k : Go d scr m np lv (.int (sg a kk) :: st) sg r sg') : Go d scr m pc lv (.ref a :: st) sg r sg' := by
  subst hk
  refine G_stp hi rfl (fun ls hl => ⟨ls, hl, ?_⟩) k
  rw [stp_getf hc he, if_pos hI]
theorem G_getR {e : Nat} {a ci : Nat} (b : Nat) (hi : ins m pc = some (.getfield e, np)) (hc : clsOf a = ci) (he : (decide (ci < 11) && decide (e / 100 % 100 = ci) && decide (e % 100 < fN ci)) = true) (hI : fI ci (e % 100) = false) (hb : rt a (e % 100) = b) (k : Go d scr m np lv (.ref b :: st) sg r sg') : Go d scr m pc lv (.ref a :: st) sg r sg' := by
  subst hb
  refine G_stp hi rfl (fun ls hl => ⟨ls, hl, ?_⟩) k
  rw [stp_getf hc he, if_neg (by rw [hI]; decide)]
theorem G_putI {e : Nat} {a ci : Nat} {x : Int32} (kk : Nat) (hi : ins m pc = some (.putfield e, np)) (hc : clsOf a = ci) (he : (decide (ci < 11) && decide (e / 100 % 100 = ci) && decide (e % 100 < fN ci)) = true) (hI : fI ci (e % 100) = true) (hk : e % 100 = kk) {sg1 : Hp} (hw : w2 sg a kk x = sg1) (k : Go d scr m np lv st sg1 r sg') : Go d scr m pc lv (.int x :: .ref a :: st) sg r sg' := by
  subst hk
  subst hw
  refine G_stp hi rfl (fun ls hl => ⟨ls, hl, ?_⟩) k
  simp only [Bool.and_eq_true, decide_eq_true_eq] at he
  obtain ⟨⟨h1, h2⟩, h3⟩ := he
  have hlt : a < nC := cls_lt (by omega)
  have hd : decide (a < (HSx sg).2.1) = true := decide_eq_true hlt
  have hh : (HSx sg).1 a = .inr (ci, flds sg a ci) := HP_obj hc h1
  simp only [stp, hd, hh]
  rw [if_pos ⟨h2.symm, by rw [flds_len]; exact h3, hI⟩]
  show some (ls, st, va_up (HP sg) a _, _) = _
  rw [HP_upO hc h1 hI]
  rfl
theorem G_iald {a n : Nat} {j : Int32} (hi : ins m pc = some (.iaload, np)) (hc : clsOf a = 20) (hn : lenOf a = n) (hj : inb j n = true) (k : Go d scr m np lv (.int (sg a j.toNatClampNeg) :: st) sg r sg') : Go d scr m pc lv (.int j :: .ref a :: st) sg r sg' := by
  subst hn
  refine G_stp hi rfl (fun ls hl => ⟨ls, hl, ?_⟩) k
  have hlt : a < nC := cls_lt (by omega)
  have hd : decide (a < (HSx sg).2.1) = true := decide_eq_true hlt
  have hh : (HSx sg).1 a = .inl (0, lenOf a, .inl (sg a)) := HP_arr hc
  have h8 : nC < 999999 := by decide
  have h9 : ¬ a = 999999 := by omega
  simp only [stp, hd, hh]
  rw [if_neg h9, if_pos hj]
theorem G_iast {a n : Nat} {j x : Int32} (hi : ins m pc = some (.iastore, np)) (hc : clsOf a = 20) (hn : lenOf a = n) (hj : inb j n = true) {sg1 : Hp} (hw : w2 sg a j.toNatClampNeg x = sg1) (k : Go d scr m np lv st sg1 r sg') : Go d scr m pc lv (.int x :: .int j :: .ref a :: st) sg r sg' := by
  subst hn
  subst hw
  refine G_stp hi rfl (fun ls hl => ⟨ls, hl, ?_⟩) k
  have hlt : a < nC := cls_lt (by omega)
  have hd : decide (a < (HSx sg).2.1) = true := decide_eq_true hlt
  have hh : (HSx sg).1 a = .inl (0, lenOf a, .inl (sg a)) := HP_arr hc
  simp only [stp, hd, hh]
  rw [if_pos hj]
  show some (ls, st, va_up (HP sg) a _, _) = _
  rw [HP_upA _ hc]
  rfl
theorem inb_lt {j : Int32} {n : Nat} (h : inb j n = true) : j.toNatClampNeg < n := by
  have h3 := inb_in h
  exact Nat.not_le.mp fun q => h3 (Or.inr q)
theorem G_aald {a n t : Nat} {j : Int32} (hi : ins m pc = some (.aaload, np)) (hc : clsOf a = t) (ht : t = 21 ∨ t = 22) (hn : lenOf a = n) (hj : inb j n = true) (k : Go d scr m np lv (.ref (rt a j.toNatClampNeg) :: st) sg r sg') : Go d scr m pc lv (.int j :: .ref a :: st) sg r sg' := by
  subst hn
  refine G_stp hi rfl (fun ls hl => ⟨ls, hl, ?_⟩) k
  have hlt : a < nC := cls_lt (by omega)
  have hd : decide (a < (HSx sg).2.1) = true := decide_eq_true hlt
  have hlj := inb_lt hj
  rcases ht with rfl | rfl
  · have hh : (HSx sg).1 a = .inl (1, lenOf a, .inr (.inr (.inr (.inr (fun j => if j < lenOf a then some (rt a j) else none))))) := by show HP sg a = _; unfold HP; rw [if_neg (by omega), if_pos hc]
    simp only [stp, hd, hh]
    simp [hj, hlj]
  · have hh : (HSx sg).1 a = .inl (2, lenOf a, .inr (.inr (.inr (.inr (fun j => if j < lenOf a then some (rt a j) else none))))) := by show HP sg a = _; unfold HP; rw [if_neg (by omega), if_neg (by omega), if_pos hc]
    simp only [stp, hd, hh]
    simp [hj, hlj]
theorem G_sld {L : Nat} {xs : Nat → Int32} {j : Int32} (hi : ins m pc = some (.iaload, np)) (hs : scr = some (L, xs)) (hj : inb j L = true) (k : Go d scr m np lv (.int (xs j.toNatClampNeg) :: st) sg r sg') : Go d scr m pc lv (.int j :: .ref 999999 :: st) sg r sg' := by
  subst hs
  refine G_stp hi rfl (fun ls hl => ⟨ls, hl, ?_⟩) k
  simp only [stp]
  rw [if_pos trivial, if_pos hj]
theorem G_slen {L : Nat} {xs : Nat → Int32} (hi : ins m pc = some (.arraylength, np)) (hs : scr = some (L, xs)) (k : Go d scr m np lv (.int (Int32.ofNat L) :: st) sg r sg') : Go d scr m pc lv (.ref 999999 :: st) sg r sg' := by
  subst hs
  exact G_stp hi rfl (fun ls hl => ⟨ls, hl, rfl⟩) k
theorem Go.step {pc2 : Nat} {st2 : List Value} (h : ∀ f ls, lsub lv ls → run (f + 1) d scr m pc ls st (HSx sg) = run f d scr m pc2 ls st2 (HSx sg)) (k : Go d scr m pc2 lv st2 sg r sg') : Go d scr m pc lv st sg r sg' := by
  obtain ⟨N, hN⟩ := k
  refine ⟨N + 1, fun f hf ls hl => ?_⟩
  obtain ⟨g, rfl⟩ : ∃ g, f = g + 1 := ⟨f - 1, by omega⟩
  rw [h g ls hl]
  exact hN g (by omega) ls hl
theorem Go.ret {r : Option Value} (h : ∀ f ls, run (f + 1) d scr m pc ls st (HSx sg) = some (r, HSx sg)) : Go d scr m pc lv st sg r sg := by
  refine ⟨1, fun f hf ls hl => ?_⟩
  obtain ⟨g, rfl⟩ : ∃ g, f = g + 1 := ⟨f - 1, by omega⟩
  exact h g ls
theorem G_iret {v : Int32} (hi : ins m pc = some (.ireturn, np)) (hz : retZ m v = true) : Go d scr m pc lv [.int v] sg (some (.int v)) sg := Go.ret fun f ls => by
  rw [run_ctl hi]; exact if_pos hz
theorem G_lret {v : Int64} (hi : ins m pc = some (.lreturn, np)) (hz : MR m = some .long) : Go d scr m pc lv [.long v] sg (some (.long v)) sg := Go.ret fun f ls => by
  rw [run_ctl hi]; exact if_pos hz
theorem G_vret (hi : ins m pc = some (.return_, np)) (hz : MR m = none) : Go d scr m pc lv [] sg none sg := Go.ret fun f ls => by
  rw [run_ctl hi]; exact if_pos hz
theorem G_goto {t : Int} (t' : Nat) (hi : ins m pc = some (.goto t, np)) (ht : t.toNat = t') (k : Go d scr m t' lv st sg r sg') : Go d scr m pc lv st sg r sg' := by
  subst ht
  exact Go.step (fun f ls _ => by rw [run_ctl hi]) k
theorem G_if_eq {x : Int32} {t : Int} (t' : Nat) (hi : ins m pc = some (.ifCond .eq t, np)) (ht : t.toNat = t') (kt : x = 0 → Go d scr m t' lv st sg r sg') (kf : ¬ x = 0 → Go d scr m np lv st sg r sg') : Go d scr m pc lv (.int x :: st) sg r sg' := by
  subst ht
  by_cases hq : x = 0
  · exact Go.step (fun f ls _ => by rw [run_ctl hi]; exact if_pos (decide_eq_true hq)) (kt hq)
  · exact Go.step (fun f ls _ => by rw [run_ctl hi]; exact if_neg (fun q => hq (of_decide_eq_true q))) (kf hq)
theorem G_if_ne {x : Int32} {t : Int} (t' : Nat) (hi : ins m pc = some (.ifCond .ne t, np)) (ht : t.toNat = t') (kt : ¬ x = 0 → Go d scr m t' lv st sg r sg') (kf : x = 0 → Go d scr m np lv st sg r sg') : Go d scr m pc lv (.int x :: st) sg r sg' := by
  subst ht
  by_cases hq : x = 0
  · exact Go.step (fun f ls _ => by rw [run_ctl hi]; exact if_neg (fun q => absurd hq (of_decide_eq_true q))) (kf hq)
  · exact Go.step (fun f ls _ => by rw [run_ctl hi]; exact if_pos (decide_eq_true hq)) (kt hq)
theorem G_if_lt {x : Int32} {t : Int} (t' : Nat) (hi : ins m pc = some (.ifCond .lt t, np)) (ht : t.toNat = t') (kt : x < 0 → Go d scr m t' lv st sg r sg') (kf : ¬ x < 0 → Go d scr m np lv st sg r sg') : Go d scr m pc lv (.int x :: st) sg r sg' := by
  subst ht
  by_cases hq : x < 0
  · exact Go.step (fun f ls _ => by rw [run_ctl hi]; exact if_pos (decide_eq_true hq)) (kt hq)
  · exact Go.step (fun f ls _ => by rw [run_ctl hi]; exact if_neg (fun q => hq (of_decide_eq_true q))) (kf hq)
theorem G_if_ge {x : Int32} {t : Int} (t' : Nat) (hi : ins m pc = some (.ifCond .ge t, np)) (ht : t.toNat = t') (kt : 0 ≤ x → Go d scr m t' lv st sg r sg') (kf : ¬ 0 ≤ x → Go d scr m np lv st sg r sg') : Go d scr m pc lv (.int x :: st) sg r sg' := by
  subst ht
  by_cases hq : 0 ≤ x
  · exact Go.step (fun f ls _ => by rw [run_ctl hi]; exact if_pos (decide_eq_true hq)) (kt hq)
  · exact Go.step (fun f ls _ => by rw [run_ctl hi]; exact if_neg (fun q => hq (of_decide_eq_true q))) (kf hq)
theorem G_if_gt {x : Int32} {t : Int} (t' : Nat) (hi : ins m pc = some (.ifCond .gt t, np)) (ht : t.toNat = t') (kt : 0 < x → Go d scr m t' lv st sg r sg') (kf : ¬ 0 < x → Go d scr m np lv st sg r sg') : Go d scr m pc lv (.int x :: st) sg r sg' := by
  subst ht
  by_cases hq : 0 < x
  · exact Go.step (fun f ls _ => by rw [run_ctl hi]; exact if_pos (decide_eq_true hq)) (kt hq)
  · exact Go.step (fun f ls _ => by rw [run_ctl hi]; exact if_neg (fun q => hq (of_decide_eq_true q))) (kf hq)
theorem G_if_le {x : Int32} {t : Int} (t' : Nat) (hi : ins m pc = some (.ifCond .le t, np)) (ht : t.toNat = t') (kt : x ≤ 0 → Go d scr m t' lv st sg r sg') (kf : ¬ x ≤ 0 → Go d scr m np lv st sg r sg') : Go d scr m pc lv (.int x :: st) sg r sg' := by
  subst ht
  by_cases hq : x ≤ 0
  · exact Go.step (fun f ls _ => by rw [run_ctl hi]; exact if_pos (decide_eq_true hq)) (kt hq)
  · exact Go.step (fun f ls _ => by rw [run_ctl hi]; exact if_neg (fun q => hq (of_decide_eq_true q))) (kf hq)
theorem G_ic_eq {x y : Int32} {t : Int} (t' : Nat) (hi : ins m pc = some (.if_icmp .eq t, np)) (ht : t.toNat = t') (kt : x = y → Go d scr m t' lv st sg r sg') (kf : ¬ x = y → Go d scr m np lv st sg r sg') : Go d scr m pc lv (.int y :: .int x :: st) sg r sg' := by
  subst ht
  by_cases hq : x = y
  · exact Go.step (fun f ls _ => by rw [run_ctl hi]; exact if_pos (decide_eq_true hq)) (kt hq)
  · exact Go.step (fun f ls _ => by rw [run_ctl hi]; exact if_neg (fun q => hq (of_decide_eq_true q))) (kf hq)
theorem G_ic_ne {x y : Int32} {t : Int} (t' : Nat) (hi : ins m pc = some (.if_icmp .ne t, np)) (ht : t.toNat = t') (kt : ¬ x = y → Go d scr m t' lv st sg r sg') (kf : x = y → Go d scr m np lv st sg r sg') : Go d scr m pc lv (.int y :: .int x :: st) sg r sg' := by
  subst ht
  by_cases hq : x = y
  · exact Go.step (fun f ls _ => by rw [run_ctl hi]; exact if_neg (fun q => absurd hq (of_decide_eq_true q))) (kf hq)
  · exact Go.step (fun f ls _ => by rw [run_ctl hi]; exact if_pos (decide_eq_true hq)) (kt hq)
theorem G_ic_lt {x y : Int32} {t : Int} (t' : Nat) (hi : ins m pc = some (.if_icmp .lt t, np)) (ht : t.toNat = t') (kt : x < y → Go d scr m t' lv st sg r sg') (kf : ¬ x < y → Go d scr m np lv st sg r sg') : Go d scr m pc lv (.int y :: .int x :: st) sg r sg' := by
  subst ht
  by_cases hq : x < y
  · exact Go.step (fun f ls _ => by rw [run_ctl hi]; exact if_pos (decide_eq_true hq)) (kt hq)
  · exact Go.step (fun f ls _ => by rw [run_ctl hi]; exact if_neg (fun q => hq (of_decide_eq_true q))) (kf hq)
theorem G_ic_ge {x y : Int32} {t : Int} (t' : Nat) (hi : ins m pc = some (.if_icmp .ge t, np)) (ht : t.toNat = t') (kt : y ≤ x → Go d scr m t' lv st sg r sg') (kf : ¬ y ≤ x → Go d scr m np lv st sg r sg') : Go d scr m pc lv (.int y :: .int x :: st) sg r sg' := by
  subst ht
  by_cases hq : y ≤ x
  · exact Go.step (fun f ls _ => by rw [run_ctl hi]; exact if_pos (decide_eq_true hq)) (kt hq)
  · exact Go.step (fun f ls _ => by rw [run_ctl hi]; exact if_neg (fun q => hq (of_decide_eq_true q))) (kf hq)
theorem G_ic_gt {x y : Int32} {t : Int} (t' : Nat) (hi : ins m pc = some (.if_icmp .gt t, np)) (ht : t.toNat = t') (kt : y < x → Go d scr m t' lv st sg r sg') (kf : ¬ y < x → Go d scr m np lv st sg r sg') : Go d scr m pc lv (.int y :: .int x :: st) sg r sg' := by
  subst ht
  by_cases hq : y < x
  · exact Go.step (fun f ls _ => by rw [run_ctl hi]; exact if_pos (decide_eq_true hq)) (kt hq)
  · exact Go.step (fun f ls _ => by rw [run_ctl hi]; exact if_neg (fun q => hq (of_decide_eq_true q))) (kf hq)
theorem G_ic_le {x y : Int32} {t : Int} (t' : Nat) (hi : ins m pc = some (.if_icmp .le t, np)) (ht : t.toNat = t') (kt : x ≤ y → Go d scr m t' lv st sg r sg') (kf : ¬ x ≤ y → Go d scr m np lv st sg r sg') : Go d scr m pc lv (.int y :: .int x :: st) sg r sg' := by
  subst ht
  by_cases hq : x ≤ y
  · exact Go.step (fun f ls _ => by rw [run_ctl hi]; exact if_pos (decide_eq_true hq)) (kt hq)
  · exact Go.step (fun f ls _ => by rw [run_ctl hi]; exact if_neg (fun q => hq (of_decide_eq_true q))) (kf hq)
theorem G_tsw {x : Int32} {df lo hi2 : Int} {os : Array Int} {t : Int} (t' : Nat) (hi : ins m pc = some (.tableswitch df lo hi2 os, np)) (h1 : ¬ (x.toInt < lo ∨ hi2 < x.toInt)) (ho : os.toList[(x.toInt - lo).toNat]? = some t) (ht : t.toNat = t') (k : Go d scr m t' lv st sg r sg') : Go d scr m pc lv (.int x :: st) sg r sg' := by
  subst ht
  exact Go.step (fun f ls _ => by rw [run_ctl hi]; dsimp only; rw [if_neg h1, ho]) k
theorem G_tswD {x : Int32} {df lo hi2 : Int} {os : Array Int} (t' : Nat) (hi : ins m pc = some (.tableswitch df lo hi2 os, np)) (h1 : x.toInt < lo ∨ hi2 < x.toInt) (ht : df.toNat = t') (k : Go d scr m t' lv st sg r sg') : Go d scr m pc lv (.int x :: st) sg r sg' := by
  subst ht
  exact Go.step (fun f ls _ => by rw [run_ctl hi]; dsimp only; rw [if_pos h1]) k
theorem G_lsw {x : Int32} {df : Int} {ps : Array (Int × Int)} (t' : Nat) (hi : ins m pc = some (.lookupswitch df ps, np)) (ht : (swl ps.toList df x.toInt).toNat = t') (k : Go d scr m t' lv st sg r sg') : Go d scr m pc lv (.int x :: st) sg r sg' := by
  subst ht
  exact Go.step (fun f ls _ => by rw [run_ctl hi]) k
theorem ti_ne {x : Int32} {n : Int} {c : Int32} (h : ¬ x = c) (hc : c.toInt = n) : ¬ x.toInt = n := fun q => h (Int32.toInt_inj.mp (q.trans hc.symm))
/-- a call -/
theorem Go.call {d m pc np q na : Nat} {st as rest : List Value} {r1 : Option Value} {sg1 : Hp} (h : ∀ f ls, run (f + 1) (d + 1) scr m pc ls st (HSx sg) = (match run f d none q 0 (lv_args 0 as) [] (HSx sg) with
            | some (r, h') => run f (d + 1) scr m np ls (r.toList ++ rest) h'
            | none => none)) (S : Sm d q as sg r1 sg1) (k : Go (d + 1) scr m np lv (r1.toList ++ rest) sg1 r sg') : Go (d + 1) scr m pc lv st sg r sg' := by
  obtain ⟨N1, h1⟩ := S
  obtain ⟨N2, h2⟩ := k
  refine ⟨N1 + N2 + 1, fun f hf ls hl => ?_⟩
  obtain ⟨g, rfl⟩ : ∃ g, f = g + 1 := ⟨f - 1, by omega⟩
  rw [h g ls, h1 g (by omega)]
  exact h2 g (by omega) ls hl
theorem rcv_of {q a : Nat} {As : List Value} (hc : clsOf a = mC.getD q 99) (h11 : Nat.blt (mC.getD q 99) 11 = true) : rcv q (.ref a :: As) (HSx sg) = true := by
  have h1 : mC.getD q 99 < 11 := Nat.le_of_ble_eq_true h11
  have hlt : a < nC := cls_lt (by omega)
  have hd : decide (a < (HSx sg).2.1) = true := decide_eq_true hlt
  have hh : (HSx sg).1 a = .inr (mC.getD q 99, flds sg a (mC.getD q 99)) := HP_obj hc h1
  simp only [rcv, hd, hh]
  simp
theorem G_callv {e a q : Nat} {st As rest : List Value} {r1 : Option Value} {sg1 : Hp} (na : Nat) (hi : ins m pc = some (.invokevirtual e, np)) (hq : e % 1000 = q) (hna : MP q + 1 = na) (hlt : Nat.blt q nMeth = true) (hlen : Nat.ble na st.length = true) (hst : (st.take na).reverse = .ref a :: As) (hrest : st.drop na = rest) (hs1 : Nat.ble (rest.map fun v => v.category).sum 8 = true) (hs2 : Nat.ble ((Value.ref a :: As).map fun v => v.category).sum (ML q) = true) (hc : clsOf a = mC.getD q 99) (h11 : Nat.blt (mC.getD q 99) 11 = true)
    (S : Sm d q (.ref a :: As) sg r1 sg1) (k : Go (d + 1) scr m np lv (r1.toList ++ rest) sg1 r sg') : Go (d + 1) scr m pc lv st sg r sg' := by
  subst hq
  subst hna
  subst hrest
  refine Go.call (na := 0) (fun f ls => ?_) S k
  rw [run_ctl hi]
  dsimp only
  rw [hst, if_pos ⟨Nat.le_of_ble_eq_true hlen, Nat.le_of_ble_eq_true hlt, Nat.le_of_ble_eq_true hs1, Nat.le_of_ble_eq_true hs2, fun _ => rcv_of hc h11⟩]
theorem G_calls {e q : Nat} {st As rest : List Value} {r1 : Option Value} {sg1 : Hp} (na : Nat) (hi : ins m pc = some (.invokestatic e, np)) (hq : e % 1000 = q) (hna : MP q = na) (hlt : Nat.blt q nMeth = true) (hlen : Nat.ble na st.length = true) (hst : (st.take na).reverse = As) (hrest : st.drop na = rest) (hs1 : Nat.ble (rest.map fun v => v.category).sum 8 = true) (hs2 : Nat.ble (As.map fun v => v.category).sum (ML q) = true)
    (S : Sm d q As sg r1 sg1) (k : Go (d + 1) scr m np lv (r1.toList ++ rest) sg1 r sg') : Go (d + 1) scr m pc lv st sg r sg' := by
  subst hq
  subst hna
  subst hrest
  subst hst
  refine Go.call (na := 0) (fun f ls => ?_) S k
  rw [run_ctl hi]
  dsimp only
  have h5 : nMeth < 500 := by decide
  have h6 : e % 1000 < nMeth := Nat.le_of_ble_eq_true hlt
  rw [if_pos (by omega), if_pos ⟨Nat.le_of_ble_eq_true hlen, h6, Nat.le_of_ble_eq_true hs1, Nat.le_of_ble_eq_true hs2, fun h => by cases h⟩]
theorem Go.own {e q : Nat} {st' : List Value} {sg1 : Hp} (hi : ins m pc = some (.invokestatic e, np)) (hq : e % 1000 = q) (h5 : Nat.ble 500 q = true) (ho : own5 q st (HSx sg) = some (st', HSx sg1)) (k : Go (d + 1) scr m np lv st' sg1 r sg') : Go (d + 1) scr m pc lv st sg r sg' := by
  subst hq
  have h6 : 500 ≤ e % 1000 := Nat.le_of_ble_eq_true h5
  obtain ⟨N, hN⟩ := k
  refine ⟨N + 1, fun f hf ls hl => ?_⟩
  obtain ⟨g, rfl⟩ : ∃ g, f = g + 1 := ⟨f - 1, by omega⟩
  rw [run_ctl hi]
  dsimp only
  rw [if_neg (by omega), if_neg (by omega), ho]
  exact hN g (by omega) ls hl
theorem G_min {x y : Int32} {e : Nat} (hi : ins m pc = some (.invokestatic e, np)) (hq : e % 1000 = 502) (hs : Nat.ble (st.map fun v => v.category).sum 8 = true) (k : Go (d + 1) scr m np lv (.int (if y < x then y else x) :: st) sg r sg') : Go (d + 1) scr m pc lv (.int y :: .int x :: st) sg r sg' :=
  Go.own hi hq rfl (by unfold own5; rw [if_neg (by decide), if_neg (by decide), if_pos rfl]; exact if_pos (Nat.le_of_ble_eq_true hs)) k
theorem G_max {x y : Int32} {e : Nat} (hi : ins m pc = some (.invokestatic e, np)) (hq : e % 1000 = 503) (hs : Nat.ble (st.map fun v => v.category).sum 8 = true) (k : Go (d + 1) scr m np lv (.int (if x < y then y else x) :: st) sg r sg') : Go (d + 1) scr m pc lv (.int y :: .int x :: st) sg r sg' :=
  Go.own hi hq rfl (by unfold own5; rw [if_neg (by decide), if_neg (by decide), if_neg (by decide), if_pos rfl]; exact if_pos (Nat.le_of_ble_eq_true hs)) k
theorem G_abs {x : Int32} {e : Nat} (hi : ins m pc = some (.invokestatic e, np)) (hq : e % 1000 = 504) (hs : Nat.ble (st.map fun v => v.category).sum 8 = true) (k : Go (d + 1) scr m np lv (.int (if 0 ≤ x then x else 0 - x) :: st) sg r sg') : Go (d + 1) scr m pc lv (.int x :: st) sg r sg' :=
  Go.own hi hq rfl (by unfold own5; rw [if_neg (by decide), if_neg (by decide), if_neg (by decide), if_neg (by decide), if_pos rfl]; exact if_pos (Nat.le_of_ble_eq_true hs)) k
def cpok (sp dp n : Int32) (n0 n1 : Nat) : Bool := decide (0 ≤ sp.toInt) && decide (0 ≤ dp.toInt) && decide (0 ≤ n.toInt) && decide (sp.toInt + n.toInt ≤ n0) && decide (dp.toInt + n.toInt ≤ n1)
theorem G_cpy {n dp sp : Int32} {a b e n0 n1 : Nat} (hi : ins m pc = some (.invokestatic e, np)) (hq : e % 1000 = 501) (hs : Nat.ble (st.map fun v => v.category).sum 8 = true) (ha : clsOf a = 20) (hb : clsOf b = 20) (hla : lenOf a = n0) (hlb : lenOf b = n1) (hc : cpok sp dp n n0 n1 = true) {sg1 : Hp} (hw : cp2 sg a b sp dp n = sg1) (k : Go (d + 1) scr m np lv st sg1 r sg') : Go (d + 1) scr m pc lv (.int n :: .int dp :: .ref b :: .int sp :: .ref a :: st) sg r sg' := by
  subst hw
  subst hla
  subst hlb
  simp only [cpok, Bool.and_eq_true, decide_eq_true_eq] at hc
  obtain ⟨⟨⟨⟨c1, c2⟩, c3⟩, c4⟩, c5⟩ := hc
  refine Go.own hi hq rfl ?_ k
  have hd : decide (a < (HSx sg).2.1) = true := decide_eq_true (cls_lt (by omega))
  have hd2 : decide (b < (HSx sg).2.1) = true := decide_eq_true (cls_lt (by omega))
  have hh : (HSx sg).1 a = .inl (0, lenOf a, .inl (sg a)) := HP_arr ha
  have hh2 : (HSx sg).1 b = .inl (0, lenOf b, .inl (sg b)) := HP_arr hb
  unfold own5
  rw [if_neg (by decide), if_pos rfl]
  simp only [hd, hd2, hh, hh2]
  rw [if_pos ⟨c1, c2, c3, c4, c5, Nat.le_of_ble_eq_true hs⟩]
  show some (st, va_up (HP sg) b _, _) = _
  rw [HP_upA _ hb]
  rfl
end GS
