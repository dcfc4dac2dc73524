/-! the small machine's heap in the machine's own -/
def ad (b base : Nat) (i : Nat) : Nat := if i = 999999 then b else base + i
def cv (b base : Nat) : Value → Value
  | .ref i => .ref (ad b base i)
  | v => v
def ca' (b base : Nat) (ca : Nat → ClassId) (t : Nat) (x : vp_A) : va_E := match x with
  | (n, .inr (.inr (.inr (.inr f)))) => .inl (ca t, n, .inr (.inr (.inr (.inr (fun j => (f j).map (ad b base))))))
  | x => .inl (ca t, x)
def ce (b base : Nat) (ca : Nat → ClassId) : va_E → va_E
  | .inl (t, x) => ca' b base ca t x
  | .inr (ci, fs) => .inr (ci, fs.map (cv b base))
def cw (b base : Nat) (ca : Nat → ClassId) (h : Nat → va_E) (sz : Nat) : va_W := (List.range sz).map fun i => (ad b base i, ce b base ca (h i))
def cl (b base : Nat) (ls : LSt) : LSt := ls.map fun q => (q.1, cv b base q.2)
theorem ad_lt {b base i : Nat} (h : i < 999999) : ad b base i = base + i := by unfold ad; rw [if_neg (by omega)]
theorem cv_cat (b base : Nat) (v : Value) : (cv b base v).category = v.category := by cases v <;> rfl
theorem cv_sum (b base : Nat) (st : List Value) : (((st.map (cv b base)).map fun v => v.category)).sum = (st.map fun v => v.category).sum := by
  rw [List.map_map]
  congr 1
  apply List.map_congr_left
  intro v _
  exact cv_cat b base v
theorem cw_get {b base : Nat} {ca : Nat → ClassId} {h : Nat → va_E} {sz i : Nat} (hi : i < sz) : (cw b base ca h sz)[i]? = some (ad b base i, ce b base ca (h i)) := by
  unfold cw
  rw [List.getElem?_map, List.getElem?_range hi]
  rfl
theorem cw_len {b base : Nat} {ca : Nat → ClassId} {h : Nat → va_E} {sz : Nat} : (cw b base ca h sz).length = sz := by simp [cw]
theorem cw_at {b base : Nat} {ca : Nat → ClassId} {h : Nat → va_E} {sz i : Nat} {q : Nat × va_E} (hq : (cw b base ca h sz)[i]? = some q) : i < sz ∧ q = (ad b base i, ce b base ca (h i)) := by
  have hi : i < sz := by
    have := (List.getElem?_eq_some_iff.mp hq).1
    rwa [cw_len] at this
  rw [cw_get hi] at hq
  exact ⟨hi, (Option.some.inj hq).symm⟩
theorem cw_set {b base : Nat} {ca : Nat → ClassId} {h : Nat → va_E} {sz i : Nat} (e : va_E) : (cw b base ca h sz).set i (ad b base i, ce b base ca e) = cw b base ca (va_up h i e) sz := by
  apply List.ext_getElem?
  intro j
  rw [List.getElem?_set]
  by_cases hj : j < sz
  · rw [cw_get (h := va_up h i e) hj]
    by_cases hij : i = j
    · subst hij
      rw [if_pos rfl, cw_len, if_pos hj]
      simp only [va_up, if_true]
    · rw [if_neg hij, cw_get hj]
      simp only [va_up]
      rw [if_neg (Ne.symm hij)]
  · have e1 : (cw b base ca (va_up h i e) sz)[j]? = none := by rw [List.getElem?_eq_none_iff, cw_len]; omega
    have e2 : (cw b base ca h sz)[j]? = none := by rw [List.getElem?_eq_none_iff, cw_len]; omega
    rw [e1, e2]
    by_cases hij : i = j
    · subst hij
      rw [if_pos rfl, cw_len, if_neg hj]
    · rw [if_neg hij]
theorem cw_push {b base : Nat} {ca : Nat → ClassId} {h : Nat → va_E} {sz : Nat} (e : va_E) : cw b base ca h sz ++ [(ad b base sz, ce b base ca e)] = cw b base ca (va_up h sz e) (sz + 1) := by
  unfold cw
  rw [List.range_succ, List.map_append]
  congr 1
  · apply List.map_congr_left
    intro i hi
    have := List.mem_range.mp hi
    simp only [va_up]
    rw [if_neg (by omega)]
  · simp [va_up]
theorem cw_D {b base : Nat} {ca : Nat → ClassId} {h : Nat → va_E} {sz : Nat} (hz : sz ≤ 999999) : va_D (fun q : Nat => base ≤ q) (cw b base ca h sz) := by
  refine ⟨fun i j x y hi hj hxy => ?_, fun k q hk => ?_⟩
  · obtain ⟨h1, rfl⟩ := cw_at hi
    obtain ⟨h2, rfl⟩ := cw_at hj
    dsimp only at hxy
    rw [ad_lt (by omega), ad_lt (by omega)] at hxy
    omega
  · obtain ⟨h1, rfl⟩ := cw_at hk
    show base ≤ ad b base k
    rw [ad_lt (by omega)]
    omega
theorem lget_mem {ls : LSt} {k : Nat} {v : Value} (h : lget ls k = some v) : (k, v) ∈ ls := by
  induction ls with
  | nil => cases h
  | cons q r ih =>
    obtain ⟨j, w⟩ := q
    unfold lget at h
    by_cases hj : j = k
    · rw [if_pos hj] at h
      cases h
      subst hj
      exact List.mem_cons_self
    · rw [if_neg hj] at h
      exact List.mem_cons_of_mem _ (ih h)
theorem cl_get {b base : Nat} {ls : LSt} {k : Nat} {v : Value} (h : lget ls k = some v) : (k, cv b base v) ∈ cl b base ls := List.mem_map_of_mem (f := fun q : Nat × Value => (q.1, cv b base q.2)) (lget_mem h)
theorem cl_put1 (b base : Nat) (ls : LSt) (k : Nat) (v : Value) : (k, cv b base v) :: (cl b base ls).filter (fun q => !(q.1 == k) && !(q.1 + 1 == k && q.2.category == 2)) = cl b base (lput1 ls k v) := by
  unfold lput1 cl
  rw [List.map_cons, List.filter_map]
  congr 2
  apply List.filter_congr
  intro q _
  simp only [Function.comp, cv_cat]
theorem cl_put2 (b base : Nat) (ls : LSt) (k : Nat) (v : Value) : (k, cv b base v) :: (cl b base ls).filter (fun q => !(q.1 == k) && (!(q.1 == k + 1) && !(q.1 + 1 == k && q.2.category == 2))) = cl b base (lput2 ls k v) := by
  unfold lput2 cl
  rw [List.map_cons, List.filter_map]
  congr 2
  apply List.filter_congr
  intro q _
  simp only [Function.comp, cv_cat]
theorem cl_args (b base : Nat) (as : List Value) : ∀ i : Nat, cl b base (lv_args i as) = lv_args i (as.map (cv b base)) := by
  induction as with
  | nil => intro i; rfl
  | cons v r ih =>
    intro i
    show (i, cv b base v) :: cl b base (lv_args (if v.category = 2 then i + 2 else i + 1) r) = (i, cv b base v) :: lv_args (if (cv b base v).category = 2 then i + 2 else i + 1) (r.map (cv b base))
    rw [ih, cv_cat]
theorem sl_len (vs : List Value) : (lg_sl vs).length = (vs.map fun v => v.category).sum := by
  unfold lg_sl
  induction vs with
  | nil => rfl
  | cons v r ih =>
    rw [List.flatMap_cons, List.length_append, ih, List.map_cons, List.sum_cons]
    congr 1
    cases v <;> rfl
theorem inb_in {j : Int32} {n : Nat} (h : inb j n = true) : vp_in j n := by
  unfold inb at h
  simp only [Bool.and_eq_true, decide_eq_true_eq] at h
  exact vp_in_iff.mpr h
def tysOf (ca : Nat → ClassId) : List (ClassId × FieldType) := [(ca 0, .int), (ca 1, .object "BoxSpider$Stand"), (ca 2, .object "BoxSpider$Sheet")]
def NWd (U : State) : Prop := (∀ q ∈ nfl, va_Nw (nfW q) U) ∧ (∀ q ∈ nml, va_Nw (nmW q) U) ∧ va_AO "BoxSpider$Stand" U ∧ va_AO "BoxSpider$Sheet" U
theorem NWd.warm {s U : State} (hW : s.WarmedH U.vm) (h : NWd s) : NWd U :=
  ⟨fun q hq => va_Nw.warmF hW (h.1 q hq), fun q hq => va_Nw.warmM hW (h.2.1 q hq), h.2.2.1.moved hW.alike, h.2.2.2.moved hW.alike⟩
theorem NWd.same {s U : State} (hv : s.vm = U.vm) (h : NWd s) : NWd U :=
  ⟨fun q hq => (h.1 q hq).same rfl hv, fun q hq => (h.2.1 q hq).same rfl hv, h.2.2.1.moved (hv ▸ Vm.Alike.refl s.vm), h.2.2.2.moved (hv ▸ Vm.Alike.refl s.vm)⟩
def Wd (b base : Nat) (ca : Nat → ClassId) (D : va_G) (h : HS) (H : Heap) : Prop := h.2.1 ≤ 999999 ∧ va_P D vwCl (cw b base ca h.1 h.2.1) H
/-- what stands fast in a frame of method k -/
def Cx (p : Program) (s : State) (m : MethodId) (args : Array Value) (meth : Method) (c : Code) (k b base : Nat) (ca : Nat → ClassId) (D : va_G) (scr : Option (Nat × (Nat → Int32))) : Prop :=
  p.tables.exec = Jvm.exec ∧ c.code = MB k ∧ c.maxLocals = ML k ∧ s.vm.findClass (cn (mC.getD k 99)) = some m.cls ∧ (∀ w ∈ GT, w.before args s = true) ∧ NWd s ∧ va_K D vwCl (tysOf ca) s ∧ (isInit k = true → meth.name = "<init>") ∧ base ≤ s.heap.size ∧ (∀ n f, scr = some (n, f) → va_X b n f s s.heap ∧ b < base)
theorem lkp_mem {ps : List (Nat × Instr × Nat)} {pc : Nat} {i : Instr} {n : Nat} (h : lkp ps pc = some (i, n)) : (pc, i, n) ∈ ps := by
  induction ps with
  | nil => cases h
  | cons q r ih =>
    obtain ⟨q, i', n'⟩ := q
    unfold lkp at h
    cases hb : Nat.beq q pc with
    | true =>
      rw [hb] at h
      have := Nat.eq_of_beq_eq_true hb
      cases h
      subst this
      exact List.mem_cons_self
    | false =>
      rw [hb] at h
      exact List.mem_cons_of_mem _ (ih h)
