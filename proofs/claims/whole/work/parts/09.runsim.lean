theorem stp_mono {scr : Option (Nat × (Nat → Int32))} {i : Instr} {nL : Nat} {ls ls' : LSt} {st st' : List Value} {h h' : HS} (hs : stp scr i nL ls st h = some (ls', st', h')) : h.2.1 ≤ h'.2.1 ∧ h.2.2 ≤ h'.2.2 := by
  unfold stp at hs
  split at hs <;> (repeat' split at hs) <;> first | (cases hs; done) | (cases hs; exact ⟨Nat.le_refl _, Nat.le_refl _⟩) | (cases hs; dsimp only; omega)
theorem own5_mono {k : Nat} {st st' : List Value} {h h' : HS} (hs : own5 k st h = some (st', h')) : h'.2 = h.2 := by
  unfold own5 at hs
  (repeat' split at hs) <;> first | (cases hs; done) | (cases hs; rfl)
theorem run_mono : ∀ (f d : Nat) (scr : Option (Nat × (Nat → Int32))) (m pc : Nat) (ls : LSt) (st : List Value) (h : HS) (r : Option Value) (h' : HS), run f d scr m pc ls st h = some (r, h') → h.2.1 ≤ h'.2.1 ∧ h.2.2 ≤ h'.2.2 := by
  intro f
  induction f with
  | zero =>
    intro d scr m pc ls st h r h' hr
    cases hr
  | succ f ih =>
    intro d scr m pc ls st h r h' hr
    have hcall : ∀ (np : Nat) (k na : Nat) (rc : Bool), (match (generalizing := false) d with
        | 0 => none
        | d + 1 => if na ≤ st.length ∧ k < nMeth ∧ ((st.drop na).map fun v => v.category).sum ≤ 8 ∧ (((st.take na).reverse).map fun v => v.category).sum ≤ ML k ∧ (rc = true → rcv k (st.take na).reverse h = true) then
            match run f d none k 0 (lv_args 0 (st.take na).reverse) [] h with
            | some (r, h') => run f (d + 1) scr m np ls (r.toList ++ st.drop na) h'
            | none => none
          else none) = some (r, h') → h.2.1 ≤ h'.2.1 ∧ h.2.2 ≤ h'.2.2 := by
      intro np k na rc hq
      split at hq
      · cases hq
      · split at hq
        · split at hq
          · rename_i r1 h1 e1
            have a1 := ih _ _ _ _ _ _ _ _ _ e1
            have a2 := ih _ _ _ _ _ _ _ _ _ hq
            exact ⟨Nat.le_trans a1.1 a2.1, Nat.le_trans a1.2 a2.2⟩
          · cases hq
        · cases hq
    have hown : ∀ (np k : Nat), (if d = 0 then none else match own5 k st h with
        | some (st', h') => run f d scr m np ls st' h'
        | none => none) = some (r, h') → h.2.1 ≤ h'.2.1 ∧ h.2.2 ≤ h'.2.2 := by
      intro np k hq
      split at hq
      · cases hq
      · split at hq
        · rename_i st1 h1 e1
          have a1 := own5_mono e1
          have a2 := ih _ _ _ _ _ _ _ _ _ hq
          rw [a1] at a2
          exact a2
        · cases hq
    unfold run at hr
    split at hr
    · cases hr
    · rename_i i np hi
      dsimp only at hr
      split at hr
      · (repeat' split at hr) <;> first | (cases hr; done) | (cases hr; exact ⟨Nat.le_refl _, Nat.le_refl _⟩)
      · (repeat' split at hr) <;> first | (cases hr; done) | (cases hr; exact ⟨Nat.le_refl _, Nat.le_refl _⟩)
      · (repeat' split at hr) <;> first | (cases hr; done) | (cases hr; exact ⟨Nat.le_refl _, Nat.le_refl _⟩)
      · exact ih _ _ _ _ _ _ _ _ _ hr
      · (repeat' split at hr) <;> first | (cases hr; done) | exact ih _ _ _ _ _ _ _ _ _ hr
      · (repeat' split at hr) <;> first | (cases hr; done) | exact ih _ _ _ _ _ _ _ _ _ hr
      · (repeat' split at hr) <;> first | (cases hr; done) | exact ih _ _ _ _ _ _ _ _ _ hr
      · (repeat' split at hr) <;> first | (cases hr; done) | exact ih _ _ _ _ _ _ _ _ _ hr
      · exact hcall _ _ _ _ hr
      · split at hr
        · exact hcall _ _ _ _ hr
        · exact hown _ _ hr
      · split at hr
        · exact hcall _ _ _ _ hr
        · exact hown _ _ hr
      · split at hr
        · rename_i ls1 st1 h1 e1
          have a1 := stp_mono e1
          have a2 := ih _ _ _ _ _ _ _ _ _ hr
          exact ⟨Nat.le_trans a1.1 a2.1, Nat.le_trans a1.2 a2.2⟩
        · cases hr
/-- the methods' words -/
theorem all_at {P : Nat → Bool} {k : Nat} (h : (List.range nMeth).all P = true) (hk : k < nMeth) : P k = true := List.all_eq_true.mp h k (List.mem_range.mpr hk)
theorem m_stat {k : Nat} (hk : k < nMeth) (hx : MX k = true) : Cond.static (MN k) ∈ GT := by
  have h := all_at im_ok hk
  rw [hx, if_pos rfl] at h
  exact tSM_in (of_decide_eq_true h)
theorem m_inst {k : Nat} (hk : k < nMeth) (hx : MX k = false) : Cond.instanceMethod (MN k) ∈ GT := by
  have h := all_at im_ok hk
  rw [hx, if_neg (by decide)] at h
  exact tIM_in (of_decide_eq_true h)
theorem m_sel {k : Nat} (hk : k < nMeth) (hx : MX k = false) (hi : isInit k = false) : Cond.selects (MN k).cls (MN k) (MN k) ∈ GT := by
  have h := all_at se_ok hk
  have hi' : ((mS.getD k ("", "")).1 == "<init>") = false := hi
  rw [hx, hi', Bool.false_or, Bool.false_or] at h
  exact tSe_in (of_decide_eq_true h)
theorem m_init {k : Nat} (hk : k < nMeth) : Cond.initialized (MN k).cls ∈ GT := tIn_in (of_decide_eq_true (all_at in_ok hk))
theorem m_par {k : Nat} (hk : k < nMeth) : (parseMethodDescriptor (MN k).desc).map (fun d => d.parameters.length) = some (MP k) := of_decide_eq_true (all_at ds_ok1 hk)
theorem m_nm {k : Nat} (hk : k < nMeth) : (MN k).cls ≠ "java/lang/invoke/MethodHandle" ∧ (MN k).cls ≠ "java/lang/invoke/VarHandle" := by
  have h := all_at ds_ok2 hk
  rw [Bool.and_eq_true] at h
  exact ⟨of_decide_eq_true h.1, of_decide_eq_true h.2⟩
theorem m_plain {k : Nat} (hk : k < nMeth) : Jvm.plainName (MN k).cls = true := all_at ds_ok3 hk
theorem m_ml {k : Nat} (hk : k < nMeth) : ML k ≤ 40 := of_decide_eq_true (all_at ds_ok4 hk)
theorem m_good {k : Nat} (hk : k < nMeth) : GoodIn GT (wCode k :: GT) := fun w hw => by
  rcases List.mem_cons.mp hw with rfl | hw
  · exact ⟨code_in hk, GT_good _ (code_in hk)⟩
  · exact ⟨hw, GT_good w hw⟩
theorem m_x {k : Nat} (hk : k < nMeth) : MNx k = MN k := by
  have h : nMeth < 500 := by decide
  unfold MNx
  rw [if_neg (by omega), if_neg (by omega), if_neg (by omega), if_neg (by omega), if_neg (by omega)]
theorem ckM_in {o x e : Nat} (h : ckM o x e = true) : (o, x, e % 1000) ∈ mlk ∨ (o, x, e % 1000) ∈ nml := by
  unfold ckM at h
  split at h
  · exact Or.inl (List.mem_of_getElem? (of_decide_eq_true h))
  · exact Or.inr (List.mem_of_getElem? (of_decide_eq_true h))
theorem ckM_nn {o x e : Nat} (h : ckM o x e = true) (h0 : e / 1000000 = 0) : (o, x, e % 1000) ∈ mlk := by
  unfold ckM at h
  rw [if_pos h0] at h
  exact List.mem_of_getElem? (of_decide_eq_true h)
theorem ckE_inv {m pc np : Nat} {i : Instr} (h : ckE m (pc, i, np) = true) : ∃ (o : Instr) (len : Nat), decode (MB m) pc = .ok (o, len) ∧ pc + len = np ∧ (isw o || decide (len = ilen o)) = true ∧ chk m pc o i = true := by
  unfold ckE at h
  dsimp only at h
  split at h
  · rename_i o len hd
    simp only [Bool.and_eq_true, decide_eq_true_eq] at h
    exact ⟨o, len, hd, h.1.1, h.1.2, h.2⟩
  · cases h
