set_option maxRecDepth 100000 in
set_option maxHeartbeats 4000000 in
theorem t_Mod_fliesOf_55 (d : Nat)   : ∀ (n : Nat) (sg : Hp) (x3 : Int32) (x5 : Int32) (x6 : Int32) (x7 : Int32)  (y : Int32 × Hp), f_Mod_fliesOf_55  n sg x3 x5 x6 x7 = some y → Go (d + 6) none 177 55 [(0, .ref 46), (3, .int x3), (5, .int x5), (6, .int x6), (7, .int x7)] [] sg (some (.int y.1)) y.2 := by
  intro n
  induction n with
  | zero =>
    intro sg x3 x5 x6 x7 y h
    rw [f_Mod_fliesOf_55] at h
    cases h
  | succ n ih =>
    intro sg x3 x5 x6 x7 y h
    rw [f_Mod_fliesOf_55] at h
    refine G_iload rfl rfl ?_
    refine G_iload rfl rfl ?_
    refine G_ic_ge 97 rfl rfl (fun hc => ?_) (fun hc => ?_)
    · rw [if_pos hc] at h
      refine G_iload rfl rfl ?_
      obtain rfl := Option.some.inj h
      exact G_iret rfl rfl
    · rw [if_neg hc] at h
      refine G_ldc (1103515245 : Int32) rfl (by decide) ?_
      refine G_iload rfl rfl ?_
      refine G_imul rfl ?_
      refine G_iconst (12345 : Int32) rfl (by decide) ?_
      refine G_iadd rfl ?_
      refine G_istore rfl rfl ?_
      refine G_iload rfl rfl ?_
      refine G_aload rfl rfl ?_
      refine G_getR (ci := 10) 62 rfl rfl rfl rfl rfl ?_
      refine G_iload rfl rfl ?_
      refine G_iconst (16 : Int32) rfl (by decide) ?_
      refine G_iushr rfl ?_
      refine G_iconst (8 : Int32) rfl (by decide) ?_
      refine G_irem rfl (by decide) ?_
      obtain ⟨hg1, h⟩ := if_some h
      refine G_iald rfl rfl rfl hg1 ?_
      refine G_iadd rfl ?_
      refine G_istore rfl rfl ?_
      refine G_iinc (1 : Int32) rfl (by decide) rfl rfl ?_
      refine G_goto 55 rfl rfl ?_
      exact Go.weak' (ih _ _ _ _ _  _ h) ⟨rfl, rfl, rfl, rfl, rfl, trivial⟩
set_option maxRecDepth 100000 in
set_option maxHeartbeats 4000000 in
theorem t_Mod_fliesOf_39 (d : Nat) {k3 : Hp → Int32 → Int32 → Int32 → Int32 → Int32 → Option (Int32 × Hp)} (hk3 : ∀ (sg : Hp) (x1 : Int32) (x2 : Int32) (x3 : Int32) (x4 : Int32) (x5 : Int32)  (y : Int32 × Hp), k3 sg x1 x2 x3 x4 x5 = some y → Go (d + 6) none 177 3 [(0, .ref 46), (1, .int x1), (2, .int x2), (3, .int x3), (4, .int x4), (5, .int x5)] [] sg (some (.int y.1)) y.2) (sg : Hp) (x1 : Int32) (x2 : Int32) (x3 : Int32) (x4 : Int32) (x5 : Int32) (xs1 : Int32) (xs2 : Int32)  (y : Int32 × Hp) (h : f_Mod_fliesOf_39 k3 sg x1 x2 x3 x4 x5 xs1 xs2 = some y) : Go (d + 6) none 177 39 [(0, .ref 46), (1, .int x1), (2, .int x2), (3, .int x3), (4, .int x4), (5, .int x5)] [.int xs2, .int xs1, .ref 62] sg (some (.int y.1)) y.2 := by
  unfold f_Mod_fliesOf_39 at h
  obtain ⟨hg4, h⟩ := if_some h
  obtain ⟨s5, hs5, h⟩ := Option.bind_eq_some_iff.mp h
  refine G_iast rfl rfl rfl hg4 (Option.some.inj hs5) ?_
  refine G_iinc (1 : Int32) rfl (by decide) rfl rfl ?_
  refine G_goto 3 rfl rfl ?_
  exact Go.weak' (hk3 _ _ _ _ _ _  _ h) ⟨rfl, rfl, rfl, rfl, rfl, rfl, trivial⟩
set_option maxRecDepth 100000 in
set_option maxHeartbeats 4000000 in
theorem t_Mod_fliesOf_3 (d : Nat)   : ∀ (n : Nat) (sg : Hp) (x1 : Int32) (x2 : Int32) (x3 : Int32) (x4 : Int32) (x5 : Int32)  (y : Int32 × Hp), f_Mod_fliesOf_3  n sg x1 x2 x3 x4 x5 = some y → Go (d + 6) none 177 3 [(0, .ref 46), (1, .int x1), (2, .int x2), (3, .int x3), (4, .int x4), (5, .int x5)] [] sg (some (.int y.1)) y.2 := by
  intro n
  induction n with
  | zero =>
    intro sg x1 x2 x3 x4 x5 y h
    rw [f_Mod_fliesOf_3] at h
    cases h
  | succ n ih =>
    intro sg x1 x2 x3 x4 x5 y h
    rw [f_Mod_fliesOf_3] at h
    refine G_iload rfl rfl ?_
    refine G_iconst (8 : Int32) rfl (by decide) ?_
    refine G_ic_ge 46 rfl rfl (fun hc => ?_) (fun hc => ?_)
    · rw [if_pos hc] at h
      refine G_iload rfl rfl ?_
      refine G_istore rfl rfl ?_
      refine G_iconst (0 : Int32) rfl (by decide) ?_
      refine G_istore rfl rfl ?_
      refine G_iconst (0 : Int32) rfl (by decide) ?_
      refine G_istore rfl rfl ?_
      exact Go.weak' (t_Mod_fliesOf_55 d  _ _ _ _ _ _  _ h) ⟨rfl, rfl, rfl, rfl, rfl, trivial⟩
    · rw [if_neg hc] at h
      refine G_aload rfl rfl ?_
      refine G_getR (ci := 10) 62 rfl rfl rfl rfl rfl ?_
      refine G_iload rfl rfl ?_
      refine G_aload rfl rfl ?_
      refine G_iload rfl rfl ?_
      refine G_iload rfl rfl ?_
      obtain ⟨y2, hy2, h⟩ := Option.bind_eq_some_iff.mp h
      refine G_callvI 3 (t_Mod_shortestOf _ _ _ _  _ hy2) rfl rfl rfl rfl rfl rfl rfl rfl rfl rfl rfl ?_
      refine G_i2l rfl ?_
      refine G_lconst (0 : Int64) rfl (by decide) ?_
      refine G_iload rfl rfl ?_
      refine G_i2l rfl ?_
      obtain ⟨y3, hy3, h⟩ := Option.bind_eq_some_iff.mp h
      refine G_callsI 3 (t_Mod_in _ _ _ _ _  _ hy3) rfl rfl rfl rfl rfl rfl rfl rfl rfl ?_
      refine G_if_eq 38 rfl rfl (fun hc => ?_) (fun hc => ?_)
      · rw [if_pos hc] at h
        refine G_iconst (0 : Int32) rfl (by decide) ?_
        exact Go.weak' (t_Mod_fliesOf_39 d ih _ _ _ _ _ _ _ _  _ h) ⟨rfl, rfl, rfl, rfl, rfl, rfl, trivial⟩
      · rw [if_neg hc] at h
        refine G_iconst (1 : Int32) rfl (by decide) ?_
        refine G_goto 39 rfl rfl ?_
        exact Go.weak' (t_Mod_fliesOf_39 d ih _ _ _ _ _ _ _ _  _ h) ⟨rfl, rfl, rfl, rfl, rfl, rfl, trivial⟩
set_option maxRecDepth 100000 in
set_option maxHeartbeats 4000000 in
theorem t_Mod_fliesOf (d : Nat) (sg : Hp) (x1 : Int32) (x2 : Int32) (x3 : Int32) (x4 : Int32)  (y : Int32 × Hp) (h : f_Mod_fliesOf sg x1 x2 x3 x4 = some y) : Sm (d + 6) 177 [.ref 46, .int x1, .int x2, .int x3, .int x4] sg (some (.int y.1)) y.2 := by
  unfold f_Mod_fliesOf at h
  refine Sm.of (lv := [(0, .ref 46), (1, .int x1), (2, .int x2), (3, .int x3), (4, .int x4)]) rfl ?_
  refine G_iconst (0 : Int32) rfl (by decide) ?_
  refine G_istore rfl rfl ?_
  exact Go.weak' (t_Mod_fliesOf_3 d  _ _ _ _ _ _ _  _ h) ⟨rfl, rfl, rfl, rfl, rfl, rfl, trivial⟩
set_option maxRecDepth 100000 in
set_option maxHeartbeats 4000000 in
theorem t_Mod_flies (d : Nat) (sg : Hp) (x1 : Int32) (x2 : Int32) (x3 : Int32) (x4 : Int32)  (y : Int32 × Hp) (h : f_Mod_flies sg x1 x2 x3 x4 = some y) : Sm (d + 7) 176 [.ref 46, .int x1, .int x2, .int x3, .int x4] sg (some (.int y.1)) y.2 := by
  unfold f_Mod_flies at h
  refine Sm.of (lv := [(0, .ref 46), (1, .int x1), (2, .int x2), (3, .int x3), (4, .int x4)]) rfl ?_
  refine G_iload rfl rfl ?_
  obtain ⟨y1, hy1, h⟩ := Option.bind_eq_some_iff.mp h
  refine G_callsI 1 (t_Mod_isPlace _ _ _  _ hy1) rfl rfl rfl rfl rfl rfl rfl rfl rfl ?_
  refine G_if_eq 44 rfl rfl (fun hc => ?_) (fun hc => ?_)
  · rw [if_pos hc] at h
    refine G_iconst (-2 : Int32) rfl (by decide) ?_
    obtain rfl := Option.some.inj h
    exact G_iret rfl rfl
  · rw [if_neg hc] at h
    refine G_iload rfl rfl ?_
    refine G_i2l rfl ?_
    refine G_lconst (0 : Int64) rfl (by decide) ?_
    refine G_ldc2 (99 : Int64) rfl (by decide) ?_
    obtain ⟨y2, hy2, h⟩ := Option.bind_eq_some_iff.mp h
    refine G_callsI 3 (t_Mod_in _ _ _ _ _  _ hy2) rfl rfl rfl rfl rfl rfl rfl rfl rfl ?_
    refine G_if_eq 44 rfl rfl (fun hc => ?_) (fun hc => ?_)
    · rw [if_pos hc] at h
      refine G_iconst (-2 : Int32) rfl (by decide) ?_
      obtain rfl := Option.some.inj h
      exact G_iret rfl rfl
    · rw [if_neg hc] at h
      refine G_iload rfl rfl ?_
      refine G_i2l rfl ?_
      refine G_lconst (0 : Int64) rfl (by decide) ?_
      refine G_ldc2 (9999 : Int64) rfl (by decide) ?_
      obtain ⟨y3, hy3, h⟩ := Option.bind_eq_some_iff.mp h
      refine G_callsI 3 (t_Mod_in _ _ _ _ _  _ hy3) rfl rfl rfl rfl rfl rfl rfl rfl rfl ?_
      refine G_if_eq 44 rfl rfl (fun hc => ?_) (fun hc => ?_)
      · rw [if_pos hc] at h
        refine G_iconst (-2 : Int32) rfl (by decide) ?_
        obtain rfl := Option.some.inj h
        exact G_iret rfl rfl
      · rw [if_neg hc] at h
        refine G_aload rfl rfl ?_
        refine G_iload rfl rfl ?_
        refine G_iload rfl rfl ?_
        refine G_iload rfl rfl ?_
        refine G_iload rfl rfl ?_
        obtain ⟨y4, hy4, h⟩ := Option.bind_eq_some_iff.mp h
        refine G_callvI 5 (t_Mod_fliesOf _ _ _ _ _ _  _ hy4) rfl rfl rfl rfl rfl rfl rfl rfl rfl rfl rfl ?_
        refine G_goto 46 rfl rfl ?_
        obtain rfl := Option.some.inj h
        exact G_iret rfl rfl
set_option maxRecDepth 100000 in
set_option maxHeartbeats 4000000 in
theorem t_Box_isForm (d : Nat) (sg : Hp) (x0 : Int32)  (y : Int32 × Hp) (h : f_Box_isForm sg x0 = some y) : Sm (d + 0) 82 [.int x0] sg (some (.int y.1)) y.2 := by
  unfold f_Box_isForm at h
  refine Sm.of (lv := [(0, .int x0)]) rfl ?_
  refine G_iload rfl rfl ?_
  refine G_if_lt 13 rfl rfl (fun hc => ?_) (fun hc => ?_)
  · rw [if_pos hc] at h
    refine G_iconst (0 : Int32) rfl (by decide) ?_
    obtain rfl := Option.some.inj h
    exact G_iret rfl rfl
  · rw [if_neg hc] at h
    refine G_iload rfl rfl ?_
    refine G_iconst (3 : Int32) rfl (by decide) ?_
    refine G_ic_ge 13 rfl rfl (fun hc => ?_) (fun hc => ?_)
    · rw [if_pos hc] at h
      refine G_iconst (0 : Int32) rfl (by decide) ?_
      obtain rfl := Option.some.inj h
      exact G_iret rfl rfl
    · rw [if_neg hc] at h
      refine G_iconst (1 : Int32) rfl (by decide) ?_
      refine G_goto 14 rfl rfl ?_
      obtain rfl := Option.some.inj h
      exact G_iret rfl rfl
set_option maxRecDepth 100000 in
set_option maxHeartbeats 4000000 in
theorem t_Sheet_renew_12 (d : Nat)   : ∀ (n : Nat) (sg : Hp) (a0 : Nat) (x3 : Int32) (h0 : clsOf a0 = 4) (y : Hp), f_Sheet_renew_12  n sg a0 x3 = some y → Go (d + 0) none 83 12 [(0, .ref a0), (3, .int x3)] [] sg none y := by
  intro n
  induction n with
  | zero =>
    intro sg a0 x3 h0 y h
    rw [f_Sheet_renew_12] at h
    cases h
  | succ n ih =>
    intro sg a0 x3 h0 y h
    rw [f_Sheet_renew_12] at h
    refine G_iload rfl rfl ?_
    refine G_iconst (60 : Int32) rfl (by decide) ?_
    refine G_ic_ge 31 rfl rfl (fun hc => ?_) (fun hc => ?_)
    · rw [if_pos hc] at h
      obtain rfl := Option.some.inj h
      exact G_vret rfl rfl
    · rw [if_neg hc] at h
      refine G_aload rfl rfl ?_
      refine G_getR (ci := 4) (rt a0 0) rfl h0 rfl rfl rfl ?_
      refine G_iload rfl rfl ?_
      refine G_iconst (0 : Int32) rfl (by decide) ?_
      obtain ⟨hg3, h⟩ := if_some h
      obtain ⟨s4, hs4, h⟩ := Option.bind_eq_some_iff.mp h
      refine G_iast rfl (rt_cls h0 0 rfl).1 (rt_cls h0 0 rfl).2 hg3 (Option.some.inj hs4) ?_
      refine G_iinc (1 : Int32) rfl (by decide) rfl rfl ?_
      refine G_goto 12 rfl rfl ?_
      exact Go.weak' (ih _ _ _ h0 _ h) ⟨rfl, rfl, trivial⟩
set_option maxRecDepth 100000 in
set_option maxHeartbeats 4000000 in
theorem t_Sheet_renew (d : Nat) (sg : Hp) (a0 : Nat) (x1 : Int32) (x2 : Int32) (h0 : clsOf a0 = 4) (y : Hp) (h : f_Sheet_renew sg a0 x1 x2 = some y) : Sm (d + 0) 83 [.ref a0, .int x1, .int x2] sg none y := by
  unfold f_Sheet_renew at h
  refine Sm.of (lv := [(0, .ref a0), (1, .int x1), (2, .int x2)]) rfl ?_
  refine G_aload rfl rfl ?_
  refine G_iload rfl rfl ?_
  obtain ⟨s1, hs1, h⟩ := Option.bind_eq_some_iff.mp h
  refine G_putI (ci := 4) 1 rfl h0 rfl rfl rfl (Option.some.inj hs1) ?_
  refine G_aload rfl rfl ?_
  refine G_iload rfl rfl ?_
  obtain ⟨s2, hs2, h⟩ := Option.bind_eq_some_iff.mp h
  refine G_putI (ci := 4) 2 rfl h0 rfl rfl rfl (Option.some.inj hs2) ?_
  refine G_iconst (0 : Int32) rfl (by decide) ?_
  refine G_istore rfl rfl ?_
  exact Go.weak' (t_Sheet_renew_12 d  _ _ _ _ h0 _ h) ⟨rfl, rfl, trivial⟩
set_option maxRecDepth 100000 in
set_option maxHeartbeats 4000000 in
theorem t_Box_sheet (d : Nat) (sg : Hp) (x1 : Int32) (x2 : Int32) (x3 : Int32)  (y : Int32 × Hp) (h : f_Box_sheet sg x1 x2 x3 = some y) : Sm (d + 1) 81 [.ref 0, .int x1, .int x2, .int x3] sg (some (.int y.1)) y.2 := by
  unfold f_Box_sheet at h
  refine Sm.of (lv := [(0, .ref 0), (1, .int x1), (2, .int x2), (3, .int x3)]) rfl ?_
  refine G_iload rfl rfl ?_
  obtain ⟨y1, hy1, h⟩ := Option.bind_eq_some_iff.mp h
  refine G_callsI 1 (t_Box_isSheet _ _ _  _ hy1) rfl rfl rfl rfl rfl rfl rfl rfl rfl ?_
  refine G_if_eq 20 rfl rfl (fun hc => ?_) (fun hc => ?_)
  · rw [if_pos hc] at h
    refine G_iconst (-2 : Int32) rfl (by decide) ?_
    obtain rfl := Option.some.inj h
    exact G_iret rfl rfl
  · rw [if_neg hc] at h
    refine G_iload rfl rfl ?_
    obtain ⟨y2, hy2, h⟩ := Option.bind_eq_some_iff.mp h
    refine G_callsI 1 (t_Box_isForm _ _ _  _ hy2) rfl rfl rfl rfl rfl rfl rfl rfl rfl ?_
    refine G_if_eq 20 rfl rfl (fun hc => ?_) (fun hc => ?_)
    · rw [if_pos hc] at h
      refine G_iconst (-2 : Int32) rfl (by decide) ?_
      obtain rfl := Option.some.inj h
      exact G_iret rfl rfl
    · rw [if_neg hc] at h
      refine G_iload rfl rfl ?_
      refine G_iconst (60 : Int32) rfl (by decide) ?_
      refine G_ic_le 23 rfl rfl (fun hc => ?_) (fun hc => ?_)
      · rw [if_pos hc] at h
        refine G_iload rfl rfl ?_
        refine G_if_ge 33 rfl rfl (fun hc => ?_) (fun hc => ?_)
        · rw [if_pos hc] at h
          refine G_aload rfl rfl ?_
          refine G_getR (ci := 9) 32 rfl rfl rfl rfl rfl ?_
          refine G_iload rfl rfl ?_
          obtain ⟨hg3, h⟩ := if_some h
          refine G_aald (t := 22) rfl rfl (Or.inr rfl) rfl hg3 ?_
          refine G_iload rfl rfl ?_
          refine G_iload rfl rfl ?_
          obtain ⟨y4, hy4, h⟩ := Option.bind_eq_some_iff.mp h
          refine G_callvV 3 (t_Sheet_renew _ _ _ _ _ (rt_el22 (a := 32) rfl (inb_lt hg3)) _ hy4) rfl rfl rfl rfl rfl rfl rfl rfl rfl (rt_el22 (a := 32) rfl (inb_lt hg3)) rfl ?_
          refine G_iload rfl rfl ?_
          obtain rfl := Option.some.inj h
          exact G_iret rfl rfl
        · rw [if_neg hc] at h
          refine G_aload rfl rfl ?_
          refine G_iconst (5 : Int32) rfl (by decide) ?_
          obtain ⟨y5, hy5, h⟩ := Option.bind_eq_some_iff.mp h
          refine G_callvI 2 (t_Box_found _ _ _  _ hy5) rfl rfl rfl rfl rfl rfl rfl rfl rfl rfl rfl ?_
          obtain rfl := Option.some.inj h
          exact G_iret rfl rfl
      · rw [if_neg hc] at h
        refine G_iconst (-2 : Int32) rfl (by decide) ?_
        obtain rfl := Option.some.inj h
        exact G_iret rfl rfl
set_option maxRecDepth 100000 in
set_option maxHeartbeats 4000000 in
theorem t_Mod_sheet_55 (d : Nat)   : ∀ (n : Nat) (sg : Hp) (x1 : Int32) (x3 : Int32) (x4 : Int32)  (y : Int32 × Hp), f_Mod_sheet_55  n sg x1 x3 x4 = some y → Go (d + 2) none 99 55 [(0, .ref 46), (1, .int x1), (3, .int x3), (4, .int x4)] [] sg (some (.int y.1)) y.2 := by
  intro n
  induction n with
  | zero =>
    intro sg x1 x3 x4 y h
    rw [f_Mod_sheet_55] at h
    cases h
  | succ n ih =>
    intro sg x1 x3 x4 y h
    rw [f_Mod_sheet_55] at h
    refine G_iload rfl rfl ?_
    refine G_iload rfl rfl ?_
    refine G_ic_ge 80 rfl rfl (fun hc => ?_) (fun hc => ?_)
    · rw [if_pos hc] at h
      refine G_iload rfl rfl ?_
      obtain rfl := Option.some.inj h
      exact G_iret rfl rfl
    · rw [if_neg hc] at h
      refine G_aload rfl rfl ?_
      refine G_getR (ci := 10) 49 rfl rfl rfl rfl rfl ?_
      refine G_iconst (60 : Int32) rfl (by decide) ?_
      refine G_iload rfl rfl ?_
      refine G_imul rfl ?_
      refine G_iload rfl rfl ?_
      refine G_iadd rfl ?_
      refine G_iconst (0 : Int32) rfl (by decide) ?_
      obtain ⟨hg7, h⟩ := if_some h
      obtain ⟨s8, hs8, h⟩ := Option.bind_eq_some_iff.mp h
      refine G_iast rfl rfl rfl hg7 (Option.some.inj hs8) ?_
      refine G_iinc (1 : Int32) rfl (by decide) rfl rfl ?_
      refine G_goto 55 rfl rfl ?_
      exact Go.weak' (ih _ _ _ _  _ h) ⟨rfl, rfl, rfl, rfl, trivial⟩
set_option maxRecDepth 100000 in
set_option maxHeartbeats 4000000 in
theorem t_Mod_sheet (d : Nat) (sg : Hp) (x1 : Int32) (x2 : Int32) (x3 : Int32)  (y : Int32 × Hp) (h : f_Mod_sheet sg x1 x2 x3 = some y) : Sm (d + 2) 99 [.ref 46, .int x1, .int x2, .int x3] sg (some (.int y.1)) y.2 := by
  unfold f_Mod_sheet at h
  refine Sm.of (lv := [(0, .ref 46), (1, .int x1), (2, .int x2), (3, .int x3)]) rfl ?_
  refine G_iload rfl rfl ?_
  obtain ⟨y1, hy1, h⟩ := Option.bind_eq_some_iff.mp h
  refine G_callsI 1 (t_Mod_isSheet _ _ _  _ hy1) rfl rfl rfl rfl rfl rfl rfl rfl rfl ?_
  refine G_if_eq 25 rfl rfl (fun hc => ?_) (fun hc => ?_)
  · rw [if_pos hc] at h
    refine G_iconst (-2 : Int32) rfl (by decide) ?_
    obtain rfl := Option.some.inj h
    exact G_iret rfl rfl
  · rw [if_neg hc] at h
    refine G_iload rfl rfl ?_
    refine G_i2l rfl ?_
    refine G_lconst (0 : Int64) rfl (by decide) ?_
    refine G_ldc2 (2 : Int64) rfl (by decide) ?_
    obtain ⟨y2, hy2, h⟩ := Option.bind_eq_some_iff.mp h
    refine G_callsI 3 (t_Mod_in _ _ _ _ _  _ hy2) rfl rfl rfl rfl rfl rfl rfl rfl rfl ?_
    refine G_if_eq 25 rfl rfl (fun hc => ?_) (fun hc => ?_)
    · rw [if_pos hc] at h
      refine G_iconst (-2 : Int32) rfl (by decide) ?_
      obtain rfl := Option.some.inj h
      exact G_iret rfl rfl
    · rw [if_neg hc] at h
      refine G_iload rfl rfl ?_
      refine G_iconst (60 : Int32) rfl (by decide) ?_
      refine G_ic_le 28 rfl rfl (fun hc => ?_) (fun hc => ?_)
      · rw [if_pos hc] at h
        refine G_iload rfl rfl ?_
        refine G_if_ge 38 rfl rfl (fun hc => ?_) (fun hc => ?_)
        · rw [if_pos hc] at h
          refine G_aload rfl rfl ?_
          refine G_getR (ci := 10) 47 rfl rfl rfl rfl rfl ?_
          refine G_iload rfl rfl ?_
          refine G_iload rfl rfl ?_
          obtain ⟨hg3, h⟩ := if_some h
          obtain ⟨s4, hs4, h⟩ := Option.bind_eq_some_iff.mp h
          refine G_iast rfl rfl rfl hg3 (Option.some.inj hs4) ?_
          refine G_aload rfl rfl ?_
          refine G_getR (ci := 10) 48 rfl rfl rfl rfl rfl ?_
          refine G_iload rfl rfl ?_
          refine G_iload rfl rfl ?_
          obtain ⟨hg5, h⟩ := if_some h
          obtain ⟨s6, hs6, h⟩ := Option.bind_eq_some_iff.mp h
          refine G_iast rfl rfl rfl hg5 (Option.some.inj hs6) ?_
          refine G_iconst (0 : Int32) rfl (by decide) ?_
          refine G_istore rfl rfl ?_
          exact Go.weak' (t_Mod_sheet_55 d  _ _ _ _ _  _ h) ⟨rfl, rfl, rfl, rfl, trivial⟩
        · rw [if_neg hc] at h
          refine G_aload rfl rfl ?_
          refine G_iconst (5 : Int32) rfl (by decide) ?_
          obtain ⟨y9, hy9, h⟩ := Option.bind_eq_some_iff.mp h
          refine G_callvI 2 (t_Mod_met _ _ _  _ hy9) rfl rfl rfl rfl rfl rfl rfl rfl rfl rfl rfl ?_
          obtain rfl := Option.some.inj h
          exact G_iret rfl rfl
      · rw [if_neg hc] at h
        refine G_iconst (-2 : Int32) rfl (by decide) ?_
        obtain rfl := Option.some.inj h
        exact G_iret rfl rfl
set_option maxRecDepth 100000 in
set_option maxHeartbeats 4000000 in
theorem t_Box_lose (d : Nat) (sg : Hp) (x1 : Int32)  (y : Int32 × Hp) (h : f_Box_lose sg x1 = some y) : Sm (d + 1) 84 [.ref 0, .int x1] sg (some (.int y.1)) y.2 := by
  unfold f_Box_lose at h
  refine Sm.of (lv := [(0, .ref 0), (1, .int x1)]) rfl ?_
  refine G_iload rfl rfl ?_
  obtain ⟨y1, hy1, h⟩ := Option.bind_eq_some_iff.mp h
  refine G_callsI 1 (t_Box_isSheet _ _ _  _ hy1) rfl rfl rfl rfl rfl rfl rfl rfl rfl ?_
  refine G_if_ne 10 rfl rfl (fun hc => ?_) (fun hc => ?_)
  · rw [if_neg hc] at h
    refine G_aload rfl rfl ?_
    refine G_getR (ci := 9) 32 rfl rfl rfl rfl rfl ?_
    refine G_iload rfl rfl ?_
    obtain ⟨hg2, h⟩ := if_some h
    refine G_aald (t := 22) rfl rfl (Or.inr rfl) rfl hg2 ?_
    refine G_astore rfl rfl ?_
    refine G_aload rfl rfl ?_
    obtain ⟨y3, hy3, h⟩ := Option.bind_eq_some_iff.mp h
    refine G_callvI 1 (t_Sheet_isLost _ _ _ (rt_el22 (a := 32) rfl (inb_lt hg2)) _ hy3) rfl rfl rfl rfl rfl rfl rfl rfl rfl (rt_el22 (a := 32) rfl (inb_lt hg2)) rfl ?_
    refine G_if_eq 30 rfl rfl (fun hc => ?_) (fun hc => ?_)
    · rw [if_pos hc] at h
      refine G_aload rfl rfl ?_
      refine G_iconst (-1 : Int32) rfl (by decide) ?_
      obtain ⟨s4, hs4, h⟩ := Option.bind_eq_some_iff.mp h
      refine G_putI (ci := 4) 1 rfl (rt_el22 (a := 32) rfl (inb_lt hg2)) rfl rfl rfl (Option.some.inj hs4) ?_
      refine G_aload rfl rfl ?_
      refine G_getI (ci := 4) 2 rfl (rt_el22 (a := 32) rfl (inb_lt hg2)) rfl rfl rfl ?_
      obtain rfl := Option.some.inj h
      exact G_iret rfl rfl
    · rw [if_neg hc] at h
      refine G_aload rfl rfl ?_
      refine G_iconst (1 : Int32) rfl (by decide) ?_
      obtain ⟨y5, hy5, h⟩ := Option.bind_eq_some_iff.mp h
      refine G_callvI 2 (t_Box_found _ _ _  _ hy5) rfl rfl rfl rfl rfl rfl rfl rfl rfl rfl rfl ?_
      obtain rfl := Option.some.inj h
      exact G_iret rfl rfl
  · rw [if_pos hc] at h
    refine G_iconst (-2 : Int32) rfl (by decide) ?_
    obtain rfl := Option.some.inj h
    exact G_iret rfl rfl
set_option maxRecDepth 100000 in
set_option maxHeartbeats 4000000 in
theorem t_Mod_lose (d : Nat) (sg : Hp) (x1 : Int32)  (y : Int32 × Hp) (h : f_Mod_lose sg x1 = some y) : Sm (d + 2) 103 [.ref 46, .int x1] sg (some (.int y.1)) y.2 := by
  unfold f_Mod_lose at h
  refine Sm.of (lv := [(0, .ref 46), (1, .int x1)]) rfl ?_
  refine G_iload rfl rfl ?_
  obtain ⟨y1, hy1, h⟩ := Option.bind_eq_some_iff.mp h
  refine G_callsI 1 (t_Mod_isSheet _ _ _  _ hy1) rfl rfl rfl rfl rfl rfl rfl rfl rfl ?_
  refine G_if_ne 10 rfl rfl (fun hc => ?_) (fun hc => ?_)
  · rw [if_neg hc] at h
    refine G_aload rfl rfl ?_
    refine G_getR (ci := 10) 47 rfl rfl rfl rfl rfl ?_
    refine G_iload rfl rfl ?_
    obtain ⟨hg2, h⟩ := if_some h
    refine G_iald rfl rfl rfl hg2 ?_
    refine G_if_ge 25 rfl rfl (fun hc => ?_) (fun hc => ?_)
    · rw [if_pos hc] at h
      refine G_aload rfl rfl ?_
      refine G_getR (ci := 10) 47 rfl rfl rfl rfl rfl ?_
      refine G_iload rfl rfl ?_
      refine G_iconst (-1 : Int32) rfl (by decide) ?_
      obtain ⟨hg3, h⟩ := if_some h
      obtain ⟨s4, hs4, h⟩ := Option.bind_eq_some_iff.mp h
      refine G_iast rfl rfl rfl hg3 (Option.some.inj hs4) ?_
      refine G_aload rfl rfl ?_
      refine G_getR (ci := 10) 48 rfl rfl rfl rfl rfl ?_
      refine G_iload rfl rfl ?_
      obtain ⟨hg5, h⟩ := if_some h
      refine G_iald rfl rfl rfl hg5 ?_
      obtain rfl := Option.some.inj h
      exact G_iret rfl rfl
    · rw [if_neg hc] at h
      refine G_aload rfl rfl ?_
      refine G_iconst (1 : Int32) rfl (by decide) ?_
      obtain ⟨y6, hy6, h⟩ := Option.bind_eq_some_iff.mp h
      refine G_callvI 2 (t_Mod_met _ _ _  _ hy6) rfl rfl rfl rfl rfl rfl rfl rfl rfl rfl rfl ?_
      obtain rfl := Option.some.inj h
      exact G_iret rfl rfl
  · rw [if_pos hc] at h
    refine G_iconst (-2 : Int32) rfl (by decide) ?_
    obtain rfl := Option.some.inj h
    exact G_iret rfl rfl
set_option maxRecDepth 100000 in
set_option maxHeartbeats 4000000 in
theorem t_Sheet_findingAt_31 (d : Nat)   (sg : Hp)   (y : Int32 × Hp) (h : f_Sheet_findingAt_31  sg  = some y) : Go (d + 1) none 86 31 [] [] sg (some (.int y.1)) y.2 := by
  unfold f_Sheet_findingAt_31 at h
  refine G_iconst (2 : Int32) rfl (by decide) ?_
  refine G_goto 36 rfl rfl ?_
  obtain rfl := Option.some.inj h
  exact G_iret rfl rfl
set_option maxRecDepth 100000 in
set_option maxHeartbeats 4000000 in
theorem t_Sheet_findingAt (d : Nat) (sg : Hp) (a0 : Nat) (x1 : Int32) (x2 : Int32) (h0 : clsOf a0 = 4) (y : Int32 × Hp) (h : f_Sheet_findingAt sg a0 x1 x2 = some y) : Sm (d + 1) 86 [.ref a0, .int x1, .int x2] sg (some (.int y.1)) y.2 := by
  unfold f_Sheet_findingAt at h
  refine Sm.of (lv := [(0, .ref a0), (1, .int x1), (2, .int x2)]) rfl ?_
  refine G_aload rfl rfl ?_
  obtain ⟨y1, hy1, h⟩ := Option.bind_eq_some_iff.mp h
  refine G_callvI 1 (t_Sheet_isLost _ _ _ h0 _ hy1) rfl rfl rfl rfl rfl rfl rfl rfl rfl h0 rfl ?_
  refine G_if_eq 9 rfl rfl (fun hc => ?_) (fun hc => ?_)
  · rw [if_pos hc] at h
    refine G_aload rfl rfl ?_
    refine G_getI (ci := 4) 1 rfl h0 rfl rfl rfl ?_
    refine G_iload rfl rfl ?_
    refine G_ic_eq 19 rfl rfl (fun hc => ?_) (fun hc => ?_)
    · rw [if_pos hc] at h
      refine G_iload rfl rfl ?_
      refine G_if_lt 31 rfl rfl (fun hc => ?_) (fun hc => ?_)
      · rw [if_pos hc] at h
        exact Go.weak' (t_Sheet_findingAt_31 d  _   _ h) trivial
      · rw [if_neg hc] at h
        refine G_iload rfl rfl ?_
        refine G_aload rfl rfl ?_
        refine G_getI (ci := 4) 2 rfl h0 rfl rfl rfl ?_
        refine G_ic_lt 35 rfl rfl (fun hc => ?_) (fun hc => ?_)
        · rw [if_pos hc] at h
          refine G_iconst (0 : Int32) rfl (by decide) ?_
          obtain rfl := Option.some.inj h
          exact G_iret rfl rfl
        · rw [if_neg hc] at h
          exact Go.weak' (t_Sheet_findingAt_31 d  _   _ h) trivial
    · rw [if_neg hc] at h
      refine G_iconst (3 : Int32) rfl (by decide) ?_
      obtain rfl := Option.some.inj h
      exact G_iret rfl rfl
  · rw [if_neg hc] at h
    refine G_iconst (1 : Int32) rfl (by decide) ?_
    obtain rfl := Option.some.inj h
    exact G_iret rfl rfl
set_option maxRecDepth 100000 in
set_option maxHeartbeats 4000000 in
theorem t_Sheet_put (d : Nat) (sg : Hp) (a0 : Nat) (x1 : Int32) (x2 : Int32) (h0 : clsOf a0 = 4) (y : Hp) (h : f_Sheet_put sg a0 x1 x2 = some y) : Sm (d + 0) 87 [.ref a0, .int x1, .int x2] sg none y := by
  unfold f_Sheet_put at h
  refine Sm.of (lv := [(0, .ref a0), (1, .int x1), (2, .int x2)]) rfl ?_
  refine G_aload rfl rfl ?_
  refine G_getI (ci := 4) 1 rfl h0 rfl rfl rfl ?_
  refine G_if_ne 18 rfl rfl (fun hc => ?_) (fun hc => ?_)
  · rw [if_neg hc] at h
    refine G_aload rfl rfl ?_
    refine G_getI (ci := 4) 1 rfl h0 rfl rfl rfl ?_
    refine G_iconst (1 : Int32) rfl (by decide) ?_
    refine G_ic_ne 37 rfl rfl (fun hc => ?_) (fun hc => ?_)
    · rw [if_neg hc] at h
      refine G_aload rfl rfl ?_
      refine G_getR (ci := 4) (rt a0 0) rfl h0 rfl rfl rfl ?_
      refine G_iload rfl rfl ?_
      refine G_iload rfl rfl ?_
      obtain ⟨hg1, h⟩ := if_some h
      obtain ⟨s2, hs2, h⟩ := Option.bind_eq_some_iff.mp h
      refine G_iast rfl (rt_cls h0 0 rfl).1 (rt_cls h0 0 rfl).2 hg1 (Option.some.inj hs2) ?_
      obtain rfl := Option.some.inj h
      exact G_vret rfl rfl
    · rw [if_pos hc] at h
      refine G_aload rfl rfl ?_
      refine G_getR (ci := 4) (rt a0 0) rfl h0 rfl rfl rfl ?_
      refine G_iload rfl rfl ?_
      refine G_iload rfl rfl ?_
      refine G_i2s rfl ?_
      obtain ⟨hg3, h⟩ := if_some h
      obtain ⟨s4, hs4, h⟩ := Option.bind_eq_some_iff.mp h
      refine G_iast rfl (rt_cls h0 0 rfl).1 (rt_cls h0 0 rfl).2 hg3 (Option.some.inj hs4) ?_
      refine G_goto 44 rfl rfl ?_
      obtain rfl := Option.some.inj h
      exact G_vret rfl rfl
  · rw [if_pos hc] at h
    refine G_aload rfl rfl ?_
    refine G_getR (ci := 4) (rt a0 0) rfl h0 rfl rfl rfl ?_
    refine G_iload rfl rfl ?_
    refine G_iload rfl rfl ?_
    refine G_i2b rfl ?_
    obtain ⟨hg5, h⟩ := if_some h
    obtain ⟨s6, hs6, h⟩ := Option.bind_eq_some_iff.mp h
    refine G_iast rfl (rt_cls h0 0 rfl).1 (rt_cls h0 0 rfl).2 hg5 (Option.some.inj hs6) ?_
    refine G_goto 44 rfl rfl ?_
    obtain rfl := Option.some.inj h
    exact G_vret rfl rfl
set_option maxRecDepth 100000 in
set_option maxHeartbeats 4000000 in
theorem t_Box_lay (d : Nat) (sg : Hp) (x1 : Int32) (x2 : Int32) (x3 : Int32) (x4 : Int32)  (y : Int32 × Hp) (h : f_Box_lay sg x1 x2 x3 x4 = some y) : Sm (d + 2) 85 [.ref 0, .int x1, .int x2, .int x3, .int x4] sg (some (.int y.1)) y.2 := by
  unfold f_Box_lay at h
  refine Sm.of (lv := [(0, .ref 0), (1, .int x1), (2, .int x2), (3, .int x3), (4, .int x4)]) rfl ?_
  refine G_iload rfl rfl ?_
  obtain ⟨y1, hy1, h⟩ := Option.bind_eq_some_iff.mp h
  refine G_callsI 1 (t_Box_isSheet _ _ _  _ hy1) rfl rfl rfl rfl rfl rfl rfl rfl rfl ?_
  refine G_if_eq 14 rfl rfl (fun hc => ?_) (fun hc => ?_)
  · rw [if_pos hc] at h
    refine G_iconst (-2 : Int32) rfl (by decide) ?_
    obtain rfl := Option.some.inj h
    exact G_iret rfl rfl
  · rw [if_neg hc] at h
    refine G_iload rfl rfl ?_
    obtain ⟨y2, hy2, h⟩ := Option.bind_eq_some_iff.mp h
    refine G_callsI 1 (t_Box_isForm _ _ _  _ hy2) rfl rfl rfl rfl rfl rfl rfl rfl rfl ?_
    refine G_if_ne 17 rfl rfl (fun hc => ?_) (fun hc => ?_)
    · rw [if_neg hc] at h
      refine G_aload rfl rfl ?_
      refine G_getR (ci := 9) 32 rfl rfl rfl rfl rfl ?_
      refine G_iload rfl rfl ?_
      obtain ⟨hg3, h⟩ := if_some h
      refine G_aald (t := 22) rfl rfl (Or.inr rfl) rfl hg3 ?_
      refine G_iload rfl rfl ?_
      refine G_iload rfl rfl ?_
      obtain ⟨y4, hy4, h⟩ := Option.bind_eq_some_iff.mp h
      refine G_callvI 3 (t_Sheet_findingAt _ _ _ _ _ (rt_el22 (a := 32) rfl (inb_lt hg3)) _ hy4) rfl rfl rfl rfl rfl rfl rfl rfl rfl (rt_el22 (a := 32) rfl (inb_lt hg3)) rfl ?_
      refine G_istore rfl rfl ?_
      refine G_iload rfl rfl ?_
      refine G_if_eq 42 rfl rfl (fun hc => ?_) (fun hc => ?_)
      · rw [if_pos hc] at h
        refine G_aload rfl rfl ?_
        refine G_getR (ci := 9) 32 rfl rfl rfl rfl rfl ?_
        refine G_iload rfl rfl ?_
        obtain ⟨hg5, h⟩ := if_some h
        refine G_aald (t := 22) rfl rfl (Or.inr rfl) rfl hg5 ?_
        refine G_iload rfl rfl ?_
        refine G_iload rfl rfl ?_
        obtain ⟨y6, hy6, h⟩ := Option.bind_eq_some_iff.mp h
        refine G_callvV 3 (t_Sheet_put _ _ _ _ _ (rt_el22 (a := 32) rfl (inb_lt hg5)) _ hy6) rfl rfl rfl rfl rfl rfl rfl rfl rfl (rt_el22 (a := 32) rfl (inb_lt hg5)) rfl ?_
        refine G_iconst (1 : Int32) rfl (by decide) ?_
        obtain rfl := Option.some.inj h
        exact G_iret rfl rfl
      · rw [if_neg hc] at h
        refine G_aload rfl rfl ?_
        refine G_iload rfl rfl ?_
        obtain ⟨y7, hy7, h⟩ := Option.bind_eq_some_iff.mp h
        refine G_callvI 2 (t_Box_found _ _ _  _ hy7) rfl rfl rfl rfl rfl rfl rfl rfl rfl rfl rfl ?_
        obtain rfl := Option.some.inj h
        exact G_iret rfl rfl
    · rw [if_pos hc] at h
      refine G_iconst (-2 : Int32) rfl (by decide) ?_
      obtain rfl := Option.some.inj h
      exact G_iret rfl rfl
set_option maxRecDepth 100000 in
set_option maxHeartbeats 4000000 in
theorem t_Mod_lacks (d : Nat) (sg : Hp) (x1 : Int32) (x2 : Int32) (x3 : Int32)  (y : Int32 × Hp) (h : f_Mod_lacks sg x1 x2 x3 = some y) : Sm (d + 1) 105 [.ref 46, .int x1, .int x2, .int x3] sg (some (.int y.1)) y.2 := by
  unfold f_Mod_lacks at h
  refine Sm.of (lv := [(0, .ref 46), (1, .int x1), (2, .int x2), (3, .int x3)]) rfl ?_
  refine G_aload rfl rfl ?_
  refine G_getR (ci := 10) 47 rfl rfl rfl rfl rfl ?_
  refine G_iload rfl rfl ?_
  obtain ⟨hg1, h⟩ := if_some h
  refine G_iald rfl rfl rfl hg1 ?_
  refine G_if_ge 15 rfl rfl (fun hc => ?_) (fun hc => ?_)
  · rw [if_pos hc] at h
    refine G_aload rfl rfl ?_
    refine G_getR (ci := 10) 47 rfl rfl rfl rfl rfl ?_
    refine G_iload rfl rfl ?_
    obtain ⟨hg2, h⟩ := if_some h
    refine G_iald rfl rfl rfl hg2 ?_
    refine G_iload rfl rfl ?_
    refine G_ic_eq 31 rfl rfl (fun hc => ?_) (fun hc => ?_)
    · rw [if_pos hc] at h
      refine G_iload rfl rfl ?_
      refine G_i2l rfl ?_
      refine G_lconst (0 : Int64) rfl (by decide) ?_
      refine G_aload rfl rfl ?_
      refine G_getR (ci := 10) 48 rfl rfl rfl rfl rfl ?_
      refine G_iload rfl rfl ?_
      obtain ⟨hg3, h⟩ := if_some h
      refine G_iald rfl rfl rfl hg3 ?_
      refine G_iconst (1 : Int32) rfl (by decide) ?_
      refine G_isub rfl ?_
      refine G_i2l rfl ?_
      obtain ⟨y4, hy4, h⟩ := Option.bind_eq_some_iff.mp h
      refine G_callsI 3 (t_Mod_in _ _ _ _ _  _ hy4) rfl rfl rfl rfl rfl rfl rfl rfl rfl ?_
      refine G_if_eq 53 rfl rfl (fun hc => ?_) (fun hc => ?_)
      · rw [if_pos hc] at h
        refine G_aload rfl rfl ?_
        refine G_iconst (2 : Int32) rfl (by decide) ?_
        obtain ⟨y5, hy5, h⟩ := Option.bind_eq_some_iff.mp h
        refine G_callvI 2 (t_Mod_met _ _ _  _ hy5) rfl rfl rfl rfl rfl rfl rfl rfl rfl rfl rfl ?_
        obtain rfl := Option.some.inj h
        exact G_iret rfl rfl
      · rw [if_neg hc] at h
        refine G_iconst (0 : Int32) rfl (by decide) ?_
        refine G_goto 58 rfl rfl ?_
        obtain rfl := Option.some.inj h
        exact G_iret rfl rfl
    · rw [if_neg hc] at h
      refine G_aload rfl rfl ?_
      refine G_iconst (3 : Int32) rfl (by decide) ?_
      obtain ⟨y6, hy6, h⟩ := Option.bind_eq_some_iff.mp h
      refine G_callvI 2 (t_Mod_met _ _ _  _ hy6) rfl rfl rfl rfl rfl rfl rfl rfl rfl rfl rfl ?_
      obtain rfl := Option.some.inj h
      exact G_iret rfl rfl
  · rw [if_neg hc] at h
    refine G_aload rfl rfl ?_
    refine G_iconst (1 : Int32) rfl (by decide) ?_
    obtain ⟨y7, hy7, h⟩ := Option.bind_eq_some_iff.mp h
    refine G_callvI 2 (t_Mod_met _ _ _  _ hy7) rfl rfl rfl rfl rfl rfl rfl rfl rfl rfl rfl ?_
    obtain rfl := Option.some.inj h
    exact G_iret rfl rfl
set_option maxRecDepth 100000 in
set_option maxHeartbeats 4000000 in
theorem t_Mod_cut (d : Nat) (sg : Hp) (x0 : Int32) (x1 : Int32)  (y : Int32 × Hp) (h : f_Mod_cut sg x0 x1 = some y) : Sm (d + 0) 106 [.int x0, .int x1] sg (some (.int y.1)) y.2 := by
  unfold f_Mod_cut at h
  refine Sm.of (lv := [(0, .int x0), (1, .int x1)]) rfl ?_
  refine G_iload rfl rfl ?_
  refine G_if_ne 9 rfl rfl (fun hc => ?_) (fun hc => ?_)
  · rw [if_neg hc] at h
    refine G_iload rfl rfl ?_
    refine G_iconst (1 : Int32) rfl (by decide) ?_
    refine G_ic_ne 19 rfl rfl (fun hc => ?_) (fun hc => ?_)
    · rw [if_neg hc] at h
      refine G_iload rfl rfl ?_
      obtain rfl := Option.some.inj h
      exact G_iret rfl rfl
    · rw [if_pos hc] at h
      refine G_iload rfl rfl ?_
      refine G_i2s rfl ?_
      refine G_goto 20 rfl rfl ?_
      obtain rfl := Option.some.inj h
      exact G_iret rfl rfl
  · rw [if_pos hc] at h
    refine G_iload rfl rfl ?_
    refine G_i2b rfl ?_
    refine G_goto 20 rfl rfl ?_
    obtain rfl := Option.some.inj h
    exact G_iret rfl rfl
set_option maxRecDepth 100000 in
set_option maxHeartbeats 4000000 in
theorem t_Mod_lay (d : Nat) (sg : Hp) (x1 : Int32) (x2 : Int32) (x3 : Int32) (x4 : Int32)  (y : Int32 × Hp) (h : f_Mod_lay sg x1 x2 x3 x4 = some y) : Sm (d + 2) 104 [.ref 46, .int x1, .int x2, .int x3, .int x4] sg (some (.int y.1)) y.2 := by
  unfold f_Mod_lay at h
  refine Sm.of (lv := [(0, .ref 46), (1, .int x1), (2, .int x2), (3, .int x3), (4, .int x4)]) rfl ?_
  refine G_iload rfl rfl ?_
  obtain ⟨y1, hy1, h⟩ := Option.bind_eq_some_iff.mp h
  refine G_callsI 1 (t_Mod_isSheet _ _ _  _ hy1) rfl rfl rfl rfl rfl rfl rfl rfl rfl ?_
  refine G_if_eq 19 rfl rfl (fun hc => ?_) (fun hc => ?_)
  · rw [if_pos hc] at h
    refine G_iconst (-2 : Int32) rfl (by decide) ?_
    obtain rfl := Option.some.inj h
    exact G_iret rfl rfl
  · rw [if_neg hc] at h
    refine G_iload rfl rfl ?_
    refine G_i2l rfl ?_
    refine G_lconst (0 : Int64) rfl (by decide) ?_
    refine G_ldc2 (2 : Int64) rfl (by decide) ?_
    obtain ⟨y2, hy2, h⟩ := Option.bind_eq_some_iff.mp h
    refine G_callsI 3 (t_Mod_in _ _ _ _ _  _ hy2) rfl rfl rfl rfl rfl rfl rfl rfl rfl ?_
    refine G_if_ne 22 rfl rfl (fun hc => ?_) (fun hc => ?_)
    · rw [if_neg hc] at h
      refine G_aload rfl rfl ?_
      refine G_iload rfl rfl ?_
      refine G_iload rfl rfl ?_
      refine G_iload rfl rfl ?_
      obtain ⟨y3, hy3, h⟩ := Option.bind_eq_some_iff.mp h
      refine G_callvI 4 (t_Mod_lacks _ _ _ _ _  _ hy3) rfl rfl rfl rfl rfl rfl rfl rfl rfl rfl rfl ?_
      refine G_istore rfl rfl ?_
      refine G_iload rfl rfl ?_
      refine G_if_eq 39 rfl rfl (fun hc => ?_) (fun hc => ?_)
      · rw [if_pos hc] at h
        refine G_aload rfl rfl ?_
        refine G_getR (ci := 10) 49 rfl rfl rfl rfl rfl ?_
        refine G_iconst (60 : Int32) rfl (by decide) ?_
        refine G_iload rfl rfl ?_
        refine G_imul rfl ?_
        refine G_iload rfl rfl ?_
        refine G_iadd rfl ?_
        refine G_iload rfl rfl ?_
        refine G_iload rfl rfl ?_
        obtain ⟨y4, hy4, h⟩ := Option.bind_eq_some_iff.mp h
        refine G_callsI 2 (t_Mod_cut _ _ _ _  _ hy4) rfl rfl rfl rfl rfl rfl rfl rfl rfl ?_
        obtain ⟨hg5, h⟩ := if_some h
        obtain ⟨s6, hs6, h⟩ := Option.bind_eq_some_iff.mp h
        refine G_iast rfl rfl rfl hg5 (Option.some.inj hs6) ?_
        refine G_iconst (1 : Int32) rfl (by decide) ?_
        obtain rfl := Option.some.inj h
        exact G_iret rfl rfl
      · rw [if_neg hc] at h
        refine G_iload rfl rfl ?_
        obtain rfl := Option.some.inj h
        exact G_iret rfl rfl
    · rw [if_pos hc] at h
      refine G_iconst (-2 : Int32) rfl (by decide) ?_
      obtain rfl := Option.some.inj h
      exact G_iret rfl rfl
set_option maxRecDepth 100000 in
set_option maxHeartbeats 4000000 in
theorem t_Box_get (d : Nat) (sg : Hp) (x1 : Int32) (x2 : Int32) (x3 : Int32)  (y : Int32 × Hp) (h : f_Box_get sg x1 x2 x3 = some y) : Sm (d + 2) 88 [.ref 0, .int x1, .int x2, .int x3] sg (some (.int y.1)) y.2 := by
  unfold f_Box_get at h
  refine Sm.of (lv := [(0, .ref 0), (1, .int x1), (2, .int x2), (3, .int x3)]) rfl ?_
  refine G_iload rfl rfl ?_
  obtain ⟨y1, hy1, h⟩ := Option.bind_eq_some_iff.mp h
  refine G_callsI 1 (t_Box_isSheet _ _ _  _ hy1) rfl rfl rfl rfl rfl rfl rfl rfl rfl ?_
  refine G_if_eq 14 rfl rfl (fun hc => ?_) (fun hc => ?_)
  · rw [if_pos hc] at h
    refine G_ldc (-2147483648 : Int32) rfl (by decide) ?_
    obtain rfl := Option.some.inj h
    exact G_iret rfl rfl
  · rw [if_neg hc] at h
    refine G_iload rfl rfl ?_
    obtain ⟨y2, hy2, h⟩ := Option.bind_eq_some_iff.mp h
    refine G_callsI 1 (t_Box_isForm _ _ _  _ hy2) rfl rfl rfl rfl rfl rfl rfl rfl rfl ?_
    refine G_if_ne 18 rfl rfl (fun hc => ?_) (fun hc => ?_)
    · rw [if_neg hc] at h
      refine G_aload rfl rfl ?_
      refine G_getR (ci := 9) 32 rfl rfl rfl rfl rfl ?_
      refine G_iload rfl rfl ?_
      obtain ⟨hg3, h⟩ := if_some h
      refine G_aald (t := 22) rfl rfl (Or.inr rfl) rfl hg3 ?_
      refine G_iload rfl rfl ?_
      refine G_iload rfl rfl ?_
      obtain ⟨y4, hy4, h⟩ := Option.bind_eq_some_iff.mp h
      refine G_callvI 3 (t_Sheet_findingAt _ _ _ _ _ (rt_el22 (a := 32) rfl (inb_lt hg3)) _ hy4) rfl rfl rfl rfl rfl rfl rfl rfl rfl (rt_el22 (a := 32) rfl (inb_lt hg3)) rfl ?_
      refine G_istore rfl rfl ?_
      refine G_iload rfl rfl ?_
      refine G_if_eq 46 rfl rfl (fun hc => ?_) (fun hc => ?_)
      · rw [if_pos hc] at h
        refine G_aload rfl rfl ?_
        refine G_getR (ci := 9) 32 rfl rfl rfl rfl rfl ?_
        refine G_iload rfl rfl ?_
        obtain ⟨hg5, h⟩ := if_some h
        refine G_aald (t := 22) rfl rfl (Or.inr rfl) rfl hg5 ?_
        refine G_getR (ci := 4) (rt (rt 32 (x1).toNatClampNeg) 0) rfl (rt_el22 (a := 32) rfl (inb_lt hg5)) rfl rfl rfl ?_
        refine G_iload rfl rfl ?_
        obtain ⟨hg6, h⟩ := if_some h
        refine G_iald rfl (rt_cls (rt_el22 (a := 32) rfl (inb_lt hg5)) 0 rfl).1 (rt_cls (rt_el22 (a := 32) rfl (inb_lt hg5)) 0 rfl).2 hg6 ?_
        obtain rfl := Option.some.inj h
        exact G_iret rfl rfl
      · rw [if_neg hc] at h
        refine G_aload rfl rfl ?_
        refine G_iload rfl rfl ?_
        obtain ⟨s7, hs7, h⟩ := Option.bind_eq_some_iff.mp h
        refine G_putI (ci := 9) 10 rfl rfl rfl rfl rfl (Option.some.inj hs7) ?_
        refine G_ldc (-2147483648 : Int32) rfl (by decide) ?_
        obtain rfl := Option.some.inj h
        exact G_iret rfl rfl
    · rw [if_pos hc] at h
      refine G_ldc (-2147483648 : Int32) rfl (by decide) ?_
      obtain rfl := Option.some.inj h
      exact G_iret rfl rfl
set_option maxRecDepth 100000 in
set_option maxHeartbeats 4000000 in
theorem t_Mod_get (d : Nat) (sg : Hp) (x1 : Int32) (x2 : Int32) (x3 : Int32)  (y : Int32 × Hp) (h : f_Mod_get sg x1 x2 x3 = some y) : Sm (d + 2) 107 [.ref 46, .int x1, .int x2, .int x3] sg (some (.int y.1)) y.2 := by
  unfold f_Mod_get at h
  refine Sm.of (lv := [(0, .ref 46), (1, .int x1), (2, .int x2), (3, .int x3)]) rfl ?_
  refine G_iload rfl rfl ?_
  obtain ⟨y1, hy1, h⟩ := Option.bind_eq_some_iff.mp h
  refine G_callsI 1 (t_Mod_isSheet _ _ _  _ hy1) rfl rfl rfl rfl rfl rfl rfl rfl rfl ?_
  refine G_if_eq 29 rfl rfl (fun hc => ?_) (fun hc => ?_)
  · rw [if_pos hc] at h
    refine G_ldc (-2147483648 : Int32) rfl (by decide) ?_
    obtain rfl := Option.some.inj h
    exact G_iret rfl rfl
  · rw [if_neg hc] at h
    refine G_iload rfl rfl ?_
    refine G_i2l rfl ?_
    refine G_lconst (0 : Int64) rfl (by decide) ?_
    refine G_ldc2 (2 : Int64) rfl (by decide) ?_
    obtain ⟨y2, hy2, h⟩ := Option.bind_eq_some_iff.mp h
    refine G_callsI 3 (t_Mod_in _ _ _ _ _  _ hy2) rfl rfl rfl rfl rfl rfl rfl rfl rfl ?_
    refine G_if_eq 29 rfl rfl (fun hc => ?_) (fun hc => ?_)
    · rw [if_pos hc] at h
      refine G_ldc (-2147483648 : Int32) rfl (by decide) ?_
      obtain rfl := Option.some.inj h
      exact G_iret rfl rfl
    · rw [if_neg hc] at h
      refine G_aload rfl rfl ?_
      refine G_iload rfl rfl ?_
      refine G_iload rfl rfl ?_
      refine G_iload rfl rfl ?_
      obtain ⟨y3, hy3, h⟩ := Option.bind_eq_some_iff.mp h
      refine G_callvI 4 (t_Mod_lacks _ _ _ _ _  _ hy3) rfl rfl rfl rfl rfl rfl rfl rfl rfl rfl rfl ?_
      refine G_if_eq 32 rfl rfl (fun hc => ?_) (fun hc => ?_)
      · rw [if_pos hc] at h
        refine G_aload rfl rfl ?_
        refine G_getR (ci := 10) 49 rfl rfl rfl rfl rfl ?_
        refine G_iconst (60 : Int32) rfl (by decide) ?_
        refine G_iload rfl rfl ?_
        refine G_imul rfl ?_
        refine G_iload rfl rfl ?_
        refine G_iadd rfl ?_
        obtain ⟨hg4, h⟩ := if_some h
        refine G_iald rfl rfl rfl hg4 ?_
        obtain rfl := Option.some.inj h
        exact G_iret rfl rfl
      · rw [if_neg hc] at h
        refine G_ldc (-2147483648 : Int32) rfl (by decide) ?_
        obtain rfl := Option.some.inj h
        exact G_iret rfl rfl
set_option maxRecDepth 100000 in
set_option maxHeartbeats 4000000 in
theorem t_Sheet_hasRun (d : Nat) (sg : Hp) (a0 : Nat) (x1 : Int32) (x2 : Int32) (h0 : clsOf a0 = 4) (y : Int32 × Hp) (h : f_Sheet_hasRun sg a0 x1 x2 = some y) : Sm (d + 0) 90 [.ref a0, .int x1, .int x2] sg (some (.int y.1)) y.2 := by
  unfold f_Sheet_hasRun at h
  refine Sm.of (lv := [(0, .ref a0), (1, .int x1), (2, .int x2)]) rfl ?_
  refine G_iload rfl rfl ?_
  refine G_if_lt 30 rfl rfl (fun hc => ?_) (fun hc => ?_)
  · rw [if_pos hc] at h
    refine G_iconst (0 : Int32) rfl (by decide) ?_
    obtain rfl := Option.some.inj h
    exact G_iret rfl rfl
  · rw [if_neg hc] at h
    refine G_iload rfl rfl ?_
    refine G_if_lt 30 rfl rfl (fun hc => ?_) (fun hc => ?_)
    · rw [if_pos hc] at h
      refine G_iconst (0 : Int32) rfl (by decide) ?_
      obtain rfl := Option.some.inj h
      exact G_iret rfl rfl
    · rw [if_neg hc] at h
      refine G_iload rfl rfl ?_
      refine G_aload rfl rfl ?_
      refine G_getI (ci := 4) 2 rfl h0 rfl rfl rfl ?_
      refine G_ic_gt 30 rfl rfl (fun hc => ?_) (fun hc => ?_)
      · rw [if_pos hc] at h
        refine G_iconst (0 : Int32) rfl (by decide) ?_
        obtain rfl := Option.some.inj h
        exact G_iret rfl rfl
      · rw [if_neg hc] at h
        refine G_iload rfl rfl ?_
        refine G_aload rfl rfl ?_
        refine G_getI (ci := 4) 2 rfl h0 rfl rfl rfl ?_
        refine G_iload rfl rfl ?_
        refine G_isub rfl ?_
        refine G_ic_gt 30 rfl rfl (fun hc => ?_) (fun hc => ?_)
        · rw [if_pos hc] at h
          refine G_iconst (0 : Int32) rfl (by decide) ?_
          obtain rfl := Option.some.inj h
          exact G_iret rfl rfl
        · rw [if_neg hc] at h
          refine G_iconst (1 : Int32) rfl (by decide) ?_
          refine G_goto 31 rfl rfl ?_
          obtain rfl := Option.some.inj h
          exact G_iret rfl rfl
set_option maxRecDepth 100000 in
set_option maxHeartbeats 4000000 in
theorem t_Box_copy_49 (d : Nat)   (sg : Hp)   (y : Int32 × Hp) (h : f_Box_copy_49  sg  = some y) : Go (d + 1) none 89 49 [(0, .ref 0)] [] sg (some (.int y.1)) y.2 := by
  unfold f_Box_copy_49 at h
  refine G_aload rfl rfl ?_
  refine G_iconst (1 : Int32) rfl (by decide) ?_
  obtain ⟨y6, hy6, h⟩ := Option.bind_eq_some_iff.mp h
  refine G_callvI 2 (t_Box_found _ _ _  _ hy6) rfl rfl rfl rfl rfl rfl rfl rfl rfl rfl rfl ?_
  obtain rfl := Option.some.inj h
  exact G_iret rfl rfl
set_option maxRecDepth 100000 in
set_option maxHeartbeats 4000000 in
theorem t_Box_copy_97 (d : Nat)   (sg : Hp)   (y : Int32 × Hp) (h : f_Box_copy_97  sg  = some y) : Go (d + 1) none 89 97 [(0, .ref 0)] [] sg (some (.int y.1)) y.2 := by
  unfold f_Box_copy_97 at h
  refine G_aload rfl rfl ?_
  refine G_iconst (2 : Int32) rfl (by decide) ?_
  obtain ⟨y9, hy9, h⟩ := Option.bind_eq_some_iff.mp h
  refine G_callvI 2 (t_Box_found _ _ _  _ hy9) rfl rfl rfl rfl rfl rfl rfl rfl rfl rfl rfl ?_
  obtain rfl := Option.some.inj h
  exact G_iret rfl rfl
set_option maxRecDepth 100000 in
set_option maxHeartbeats 4000000 in
theorem t_Box_copy (d : Nat) (sg : Hp) (x1 : Int32) (x2 : Int32) (x3 : Int32) (x4 : Int32) (x5 : Int32)  (y : Int32 × Hp) (h : f_Box_copy sg x1 x2 x3 x4 x5 = some y) : Sm (d + 1) 89 [.ref 0, .int x1, .int x2, .int x3, .int x4, .int x5] sg (some (.int y.1)) y.2 := by
  unfold f_Box_copy at h
  refine Sm.of (lv := [(0, .ref 0), (1, .int x1), (2, .int x2), (3, .int x3), (4, .int x4), (5, .int x5)]) rfl ?_
  refine G_iload rfl rfl ?_
  obtain ⟨y1, hy1, h⟩ := Option.bind_eq_some_iff.mp h
  refine G_callsI 1 (t_Box_isSheet _ _ _  _ hy1) rfl rfl rfl rfl rfl rfl rfl rfl rfl ?_
  refine G_if_eq 14 rfl rfl (fun hc => ?_) (fun hc => ?_)
  · rw [if_pos hc] at h
    refine G_iconst (-2 : Int32) rfl (by decide) ?_
    obtain rfl := Option.some.inj h
    exact G_iret rfl rfl
  · rw [if_neg hc] at h
    refine G_iload rfl rfl ?_
    obtain ⟨y2, hy2, h⟩ := Option.bind_eq_some_iff.mp h
    refine G_callsI 1 (t_Box_isSheet _ _ _  _ hy2) rfl rfl rfl rfl rfl rfl rfl rfl rfl ?_
    refine G_if_ne 17 rfl rfl (fun hc => ?_) (fun hc => ?_)
    · rw [if_neg hc] at h
      refine G_aload rfl rfl ?_
      refine G_getR (ci := 9) 32 rfl rfl rfl rfl rfl ?_
      refine G_iload rfl rfl ?_
      obtain ⟨hg3, h⟩ := if_some h
      refine G_aald (t := 22) rfl rfl (Or.inr rfl) rfl hg3 ?_
      refine G_astore rfl rfl ?_
      refine G_aload rfl rfl ?_
      refine G_getR (ci := 9) 32 rfl rfl rfl rfl rfl ?_
      refine G_iload rfl rfl ?_
      obtain ⟨hg4, h⟩ := if_some h
      refine G_aald (t := 22) rfl rfl (Or.inr rfl) rfl hg4 ?_
      refine G_astore rfl rfl ?_
      refine G_aload rfl rfl ?_
      obtain ⟨y5, hy5, h⟩ := Option.bind_eq_some_iff.mp h
      refine G_callvI 1 (t_Sheet_isLost _ _ _ (rt_el22 (a := 32) rfl (inb_lt hg3)) _ hy5) rfl rfl rfl rfl rfl rfl rfl rfl rfl (rt_el22 (a := 32) rfl (inb_lt hg3)) rfl ?_
      refine G_if_ne 49 rfl rfl (fun hc => ?_) (fun hc => ?_)
      · rw [if_neg hc] at h
        exact Go.weak' (t_Box_copy_49 d  _   _ h) ⟨rfl, trivial⟩
      · rw [if_pos hc] at h
        refine G_aload rfl rfl ?_
        obtain ⟨y7, hy7, h⟩ := Option.bind_eq_some_iff.mp h
        refine G_callvI 1 (t_Sheet_isLost _ _ _ (rt_el22 (a := 32) rfl (inb_lt hg4)) _ hy7) rfl rfl rfl rfl rfl rfl rfl rfl rfl (rt_el22 (a := 32) rfl (inb_lt hg4)) rfl ?_
        refine G_if_eq 55 rfl rfl (fun hc => ?_) (fun hc => ?_)
        · rw [if_pos hc] at h
          refine G_aload rfl rfl ?_
          refine G_getI (ci := 4) 1 rfl (rt_el22 (a := 32) rfl (inb_lt hg3)) rfl rfl rfl ?_
          refine G_aload rfl rfl ?_
          refine G_getI (ci := 4) 1 rfl (rt_el22 (a := 32) rfl (inb_lt hg4)) rfl rfl rfl ?_
          refine G_ic_eq 74 rfl rfl (fun hc => ?_) (fun hc => ?_)
          · rw [if_pos hc] at h
            refine G_aload rfl rfl ?_
            refine G_iload rfl rfl ?_
            refine G_iload rfl rfl ?_
            obtain ⟨y8, hy8, h⟩ := Option.bind_eq_some_iff.mp h
            refine G_callvI 3 (t_Sheet_hasRun _ _ _ _ _ (rt_el22 (a := 32) rfl (inb_lt hg3)) _ hy8) rfl rfl rfl rfl rfl rfl rfl rfl rfl (rt_el22 (a := 32) rfl (inb_lt hg3)) rfl ?_
            refine G_if_eq 97 rfl rfl (fun hc => ?_) (fun hc => ?_)
            · rw [if_pos hc] at h
              exact Go.weak' (t_Box_copy_97 d  _   _ h) ⟨rfl, trivial⟩
            · rw [if_neg hc] at h
              refine G_aload rfl rfl ?_
              refine G_iload rfl rfl ?_
              refine G_iload rfl rfl ?_
              obtain ⟨y10, hy10, h⟩ := Option.bind_eq_some_iff.mp h
              refine G_callvI 3 (t_Sheet_hasRun _ _ _ _ _ (rt_el22 (a := 32) rfl (inb_lt hg4)) _ hy10) rfl rfl rfl rfl rfl rfl rfl rfl rfl (rt_el22 (a := 32) rfl (inb_lt hg4)) rfl ?_
              refine G_if_ne 103 rfl rfl (fun hc => ?_) (fun hc => ?_)
              · rw [if_neg hc] at h
                refine G_aload rfl rfl ?_
                refine G_getR (ci := 4) (rt (rt 32 (x1).toNatClampNeg) 0) rfl (rt_el22 (a := 32) rfl (inb_lt hg3)) rfl rfl rfl ?_
                refine G_iload rfl rfl ?_
                refine G_aload rfl rfl ?_
                refine G_getR (ci := 4) (rt (rt 32 (x3).toNatClampNeg) 0) rfl (rt_el22 (a := 32) rfl (inb_lt hg4)) rfl rfl rfl ?_
                refine G_iload rfl rfl ?_
                refine G_iload rfl rfl ?_
                obtain ⟨hg11, h⟩ := if_some h
                obtain ⟨s12, hs12, h⟩ := Option.bind_eq_some_iff.mp h
                refine G_cpy rfl rfl rfl (rt_cls (rt_el22 (a := 32) rfl (inb_lt hg3)) 0 rfl).1 (rt_cls (rt_el22 (a := 32) rfl (inb_lt hg4)) 0 rfl).1 (rt_cls (rt_el22 (a := 32) rfl (inb_lt hg3)) 0 rfl).2 (rt_cls (rt_el22 (a := 32) rfl (inb_lt hg4)) 0 rfl).2 hg11 (Option.some.inj hs12) ?_
                refine G_iconst (1 : Int32) rfl (by decide) ?_
                obtain rfl := Option.some.inj h
                exact G_iret rfl rfl
              · rw [if_pos hc] at h
                exact Go.weak' (t_Box_copy_97 d  _   _ h) ⟨rfl, trivial⟩
          · rw [if_neg hc] at h
            refine G_aload rfl rfl ?_
            refine G_iconst (4 : Int32) rfl (by decide) ?_
            obtain ⟨y13, hy13, h⟩ := Option.bind_eq_some_iff.mp h
            refine G_callvI 2 (t_Box_found _ _ _  _ hy13) rfl rfl rfl rfl rfl rfl rfl rfl rfl rfl rfl ?_
            obtain rfl := Option.some.inj h
            exact G_iret rfl rfl
        · rw [if_neg hc] at h
          exact Go.weak' (t_Box_copy_49 d  _   _ h) ⟨rfl, trivial⟩
    · rw [if_pos hc] at h
      refine G_iconst (-2 : Int32) rfl (by decide) ?_
      obtain rfl := Option.some.inj h
      exact G_iret rfl rfl
set_option maxRecDepth 100000 in
set_option maxHeartbeats 4000000 in
theorem t_Mod_copy_35 (d : Nat)   (sg : Hp)   (y : Int32 × Hp) (h : f_Mod_copy_35  sg  = some y) : Go (d + 2) none 108 35 [(0, .ref 46)] [] sg (some (.int y.1)) y.2 := by
  unfold f_Mod_copy_35 at h
  refine G_aload rfl rfl ?_
  refine G_iconst (1 : Int32) rfl (by decide) ?_
  obtain ⟨y4, hy4, h⟩ := Option.bind_eq_some_iff.mp h
  refine G_callvI 2 (t_Mod_met _ _ _  _ hy4) rfl rfl rfl rfl rfl rfl rfl rfl rfl rfl rfl ?_
  obtain rfl := Option.some.inj h
  exact G_iret rfl rfl
set_option maxRecDepth 100000 in
set_option maxHeartbeats 4000000 in
theorem t_Mod_copy_111 (d : Nat)   (sg : Hp)   (y : Int32 × Hp) (h : f_Mod_copy_111  sg  = some y) : Go (d + 2) none 108 111 [(0, .ref 46)] [] sg (some (.int y.1)) y.2 := by
  unfold f_Mod_copy_111 at h
  refine G_aload rfl rfl ?_
  refine G_iconst (2 : Int32) rfl (by decide) ?_
  obtain ⟨y8, hy8, h⟩ := Option.bind_eq_some_iff.mp h
  refine G_callvI 2 (t_Mod_met _ _ _  _ hy8) rfl rfl rfl rfl rfl rfl rfl rfl rfl rfl rfl ?_
  obtain rfl := Option.some.inj h
  exact G_iret rfl rfl
set_option maxRecDepth 100000 in
set_option maxHeartbeats 4000000 in
theorem t_Mod_copy_157 (d : Nat)   : ∀ (n : Nat) (sg : Hp) (x3 : Int32) (x4 : Int32) (x5 : Int32) (x6 : Int32)  (y : Int32 × Hp), f_Mod_copy_157  n sg x3 x4 x5 x6 = some y → Go (d + 2) none 108 157 [(0, .ref 46), (3, .int x3), (4, .int x4), (5, .int x5), (6, .int x6)] [] sg (some (.int y.1)) y.2 := by
  intro n
  induction n with
  | zero =>
    intro sg x3 x4 x5 x6 y h
    rw [f_Mod_copy_157] at h
    cases h
  | succ n ih =>
    intro sg x3 x4 x5 x6 y h
    rw [f_Mod_copy_157] at h
    refine G_iload rfl rfl ?_
    refine G_iload rfl rfl ?_
    refine G_ic_ge 192 rfl rfl (fun hc => ?_) (fun hc => ?_)
    · rw [if_pos hc] at h
      refine G_iconst (1 : Int32) rfl (by decide) ?_
      obtain rfl := Option.some.inj h
      exact G_iret rfl rfl
    · rw [if_neg hc] at h
      refine G_aload rfl rfl ?_
      refine G_getR (ci := 10) 49 rfl rfl rfl rfl rfl ?_
      refine G_iconst (60 : Int32) rfl (by decide) ?_
      refine G_iload rfl rfl ?_
      refine G_imul rfl ?_
      refine G_iload rfl rfl ?_
      refine G_iadd rfl ?_
      refine G_iload rfl rfl ?_
      refine G_iadd rfl ?_
      refine G_aload rfl rfl ?_
      refine G_getR (ci := 10) 50 rfl rfl rfl rfl rfl ?_
      refine G_iload rfl rfl ?_
      obtain ⟨hg11, h⟩ := if_some h
      refine G_iald rfl rfl rfl hg11 ?_
      obtain ⟨hg12, h⟩ := if_some h
      obtain ⟨s13, hs13, h⟩ := Option.bind_eq_some_iff.mp h
      refine G_iast rfl rfl rfl hg12 (Option.some.inj hs13) ?_
      refine G_iinc (1 : Int32) rfl (by decide) rfl rfl ?_
      refine G_goto 157 rfl rfl ?_
      exact Go.weak' (ih _ _ _ _ _  _ h) ⟨rfl, rfl, rfl, rfl, rfl, trivial⟩
set_option maxRecDepth 100000 in
set_option maxHeartbeats 4000000 in
theorem t_Mod_copy_120 (d : Nat)   : ∀ (n : Nat) (sg : Hp) (x1 : Int32) (x2 : Int32) (x3 : Int32) (x4 : Int32) (x5 : Int32) (x6 : Int32)  (y : Int32 × Hp), f_Mod_copy_120  n sg x1 x2 x3 x4 x5 x6 = some y → Go (d + 2) none 108 120 [(0, .ref 46), (1, .int x1), (2, .int x2), (3, .int x3), (4, .int x4), (5, .int x5), (6, .int x6)] [] sg (some (.int y.1)) y.2 := by
  intro n
  induction n with
  | zero =>
    intro sg x1 x2 x3 x4 x5 x6 y h
    rw [f_Mod_copy_120] at h
    cases h
  | succ n ih =>
    intro sg x1 x2 x3 x4 x5 x6 y h
    rw [f_Mod_copy_120] at h
    refine G_iload rfl rfl ?_
    refine G_iload rfl rfl ?_
    refine G_ic_ge 154 rfl rfl (fun hc => ?_) (fun hc => ?_)
    · rw [if_pos hc] at h
      refine G_iconst (0 : Int32) rfl (by decide) ?_
      refine G_istore rfl rfl ?_
      exact Go.weak' (t_Mod_copy_157 d  _ _ _ _ _ _  _ h) ⟨rfl, rfl, rfl, rfl, rfl, trivial⟩
    · rw [if_neg hc] at h
      refine G_aload rfl rfl ?_
      refine G_getR (ci := 10) 50 rfl rfl rfl rfl rfl ?_
      refine G_iload rfl rfl ?_
      refine G_aload rfl rfl ?_
      refine G_getR (ci := 10) 49 rfl rfl rfl rfl rfl ?_
      refine G_iconst (60 : Int32) rfl (by decide) ?_
      refine G_iload rfl rfl ?_
      refine G_imul rfl ?_
      refine G_iload rfl rfl ?_
      refine G_iadd rfl ?_
      refine G_iload rfl rfl ?_
      refine G_iadd rfl ?_
      obtain ⟨hg14, h⟩ := if_some h
      refine G_iald rfl rfl rfl hg14 ?_
      obtain ⟨hg15, h⟩ := if_some h
      obtain ⟨s16, hs16, h⟩ := Option.bind_eq_some_iff.mp h
      refine G_iast rfl rfl rfl hg15 (Option.some.inj hs16) ?_
      refine G_iinc (1 : Int32) rfl (by decide) rfl rfl ?_
      refine G_goto 120 rfl rfl ?_
      exact Go.weak' (ih _ _ _ _ _ _ _  _ h) ⟨rfl, rfl, rfl, rfl, rfl, rfl, rfl, trivial⟩
set_option maxRecDepth 100000 in
set_option maxHeartbeats 4000000 in
theorem t_Mod_copy (d : Nat) (sg : Hp) (x1 : Int32) (x2 : Int32) (x3 : Int32) (x4 : Int32) (x5 : Int32)  (y : Int32 × Hp) (h : f_Mod_copy sg x1 x2 x3 x4 x5 = some y) : Sm (d + 2) 108 [.ref 46, .int x1, .int x2, .int x3, .int x4, .int x5] sg (some (.int y.1)) y.2 := by
  unfold f_Mod_copy at h
  refine Sm.of (lv := [(0, .ref 46), (1, .int x1), (2, .int x2), (3, .int x3), (4, .int x4), (5, .int x5)]) rfl ?_
  refine G_iload rfl rfl ?_
  obtain ⟨y1, hy1, h⟩ := Option.bind_eq_some_iff.mp h
  refine G_callsI 1 (t_Mod_isSheet _ _ _  _ hy1) rfl rfl rfl rfl rfl rfl rfl rfl rfl ?_
  refine G_if_eq 14 rfl rfl (fun hc => ?_) (fun hc => ?_)
  · rw [if_pos hc] at h
    refine G_iconst (-2 : Int32) rfl (by decide) ?_
    obtain rfl := Option.some.inj h
    exact G_iret rfl rfl
  · rw [if_neg hc] at h
    refine G_iload rfl rfl ?_
    obtain ⟨y2, hy2, h⟩ := Option.bind_eq_some_iff.mp h
    refine G_callsI 1 (t_Mod_isSheet _ _ _  _ hy2) rfl rfl rfl rfl rfl rfl rfl rfl rfl ?_
    refine G_if_ne 17 rfl rfl (fun hc => ?_) (fun hc => ?_)
    · rw [if_neg hc] at h
      refine G_aload rfl rfl ?_
      refine G_getR (ci := 10) 47 rfl rfl rfl rfl rfl ?_
      refine G_iload rfl rfl ?_
      obtain ⟨hg3, h⟩ := if_some h
      refine G_iald rfl rfl rfl hg3 ?_
      refine G_if_lt 35 rfl rfl (fun hc => ?_) (fun hc => ?_)
      · rw [if_pos hc] at h
        exact Go.weak' (t_Mod_copy_35 d  _   _ h) ⟨rfl, trivial⟩
      · rw [if_neg hc] at h
        refine G_aload rfl rfl ?_
        refine G_getR (ci := 10) 47 rfl rfl rfl rfl rfl ?_
        refine G_iload rfl rfl ?_
        obtain ⟨hg5, h⟩ := if_some h
        refine G_iald rfl rfl rfl hg5 ?_
        refine G_if_ge 41 rfl rfl (fun hc => ?_) (fun hc => ?_)
        · rw [if_pos hc] at h
          refine G_aload rfl rfl ?_
          refine G_getR (ci := 10) 47 rfl rfl rfl rfl rfl ?_
          refine G_iload rfl rfl ?_
          obtain ⟨hg6, h⟩ := if_some h
          refine G_iald rfl rfl rfl hg6 ?_
          refine G_aload rfl rfl ?_
          refine G_getR (ci := 10) 47 rfl rfl rfl rfl rfl ?_
          refine G_iload rfl rfl ?_
          obtain ⟨hg7, h⟩ := if_some h
          refine G_iald rfl rfl rfl hg7 ?_
          refine G_ic_eq 62 rfl rfl (fun hc => ?_) (fun hc => ?_)
          · rw [if_pos hc] at h
            refine G_iload rfl rfl ?_
            refine G_if_lt 111 rfl rfl (fun hc => ?_) (fun hc => ?_)
            · rw [if_pos hc] at h
              exact Go.weak' (t_Mod_copy_111 d  _   _ h) ⟨rfl, trivial⟩
            · rw [if_neg hc] at h
              refine G_iload rfl rfl ?_
              refine G_if_lt 111 rfl rfl (fun hc => ?_) (fun hc => ?_)
              · rw [if_pos hc] at h
                exact Go.weak' (t_Mod_copy_111 d  _   _ h) ⟨rfl, trivial⟩
              · rw [if_neg hc] at h
                refine G_iload rfl rfl ?_
                refine G_if_lt 111 rfl rfl (fun hc => ?_) (fun hc => ?_)
                · rw [if_pos hc] at h
                  exact Go.weak' (t_Mod_copy_111 d  _   _ h) ⟨rfl, trivial⟩
                · rw [if_neg hc] at h
                  refine G_iload rfl rfl ?_
                  refine G_i2l rfl ?_
                  refine G_iload rfl rfl ?_
                  refine G_i2l rfl ?_
                  refine G_ladd rfl ?_
                  refine G_aload rfl rfl ?_
                  refine G_getR (ci := 10) 48 rfl rfl rfl rfl rfl ?_
                  refine G_iload rfl rfl ?_
                  obtain ⟨hg9, h⟩ := if_some h
                  refine G_iald rfl rfl rfl hg9 ?_
                  refine G_i2l rfl ?_
                  refine G_lcmp rfl ?_
                  refine G_if_gt 111 rfl rfl (fun hc => ?_) (fun hc => ?_)
                  · rw [if_pos hc] at h
                    exact Go.weak' (t_Mod_copy_111 d  _   _ h) ⟨rfl, trivial⟩
                  · rw [if_neg hc] at h
                    refine G_iload rfl rfl ?_
                    refine G_i2l rfl ?_
                    refine G_iload rfl rfl ?_
                    refine G_i2l rfl ?_
                    refine G_ladd rfl ?_
                    refine G_aload rfl rfl ?_
                    refine G_getR (ci := 10) 48 rfl rfl rfl rfl rfl ?_
                    refine G_iload rfl rfl ?_
                    obtain ⟨hg10, h⟩ := if_some h
                    refine G_iald rfl rfl rfl hg10 ?_
                    refine G_i2l rfl ?_
                    refine G_lcmp rfl ?_
                    refine G_if_le 117 rfl rfl (fun hc => ?_) (fun hc => ?_)
                    · rw [if_pos hc] at h
                      refine G_iconst (0 : Int32) rfl (by decide) ?_
                      refine G_istore rfl rfl ?_
                      exact Go.weak' (t_Mod_copy_120 d  _ _ _ _ _ _ _ _  _ h) ⟨rfl, rfl, rfl, rfl, rfl, rfl, rfl, trivial⟩
                    · rw [if_neg hc] at h
                      exact Go.weak' (t_Mod_copy_111 d  _   _ h) ⟨rfl, trivial⟩
          · rw [if_neg hc] at h
            refine G_aload rfl rfl ?_
            refine G_iconst (4 : Int32) rfl (by decide) ?_
            obtain ⟨y17, hy17, h⟩ := Option.bind_eq_some_iff.mp h
            refine G_callvI 2 (t_Mod_met _ _ _  _ hy17) rfl rfl rfl rfl rfl rfl rfl rfl rfl rfl rfl ?_
            obtain rfl := Option.some.inj h
            exact G_iret rfl rfl
        · rw [if_neg hc] at h
          exact Go.weak' (t_Mod_copy_35 d  _   _ h) ⟨rfl, trivial⟩
    · rw [if_pos hc] at h
      refine G_iconst (-2 : Int32) rfl (by decide) ?_
      obtain rfl := Option.some.inj h
      exact G_iret rfl rfl
set_option maxRecDepth 100000 in
set_option maxHeartbeats 4000000 in
theorem t_Box_write_51 (d : Nat)   : ∀ (n : Nat) (sg : Hp) (x1 : Int32) (a3 : Nat) (x4 : Int32) (x5 : Int32) (h3 : clsOf a3 = 4) (y : Int32 × Hp), f_Box_write_51  n sg x1 a3 x4 x5 = some y → Go (d + 11) none 91 51 [(0, .ref 0), (1, .int x1), (3, .ref a3), (4, .int x4), (5, .int x5)] [] sg (some (.int y.1)) y.2 := by
  intro n
  induction n with
  | zero =>
    intro sg x1 a3 x4 x5 h3 y h
    rw [f_Box_write_51] at h
    cases h
  | succ n ih =>
    intro sg x1 a3 x4 x5 h3 y h
    rw [f_Box_write_51] at h
    refine G_iload rfl rfl ?_
    refine G_iload rfl rfl ?_
    refine G_ic_ge 88 rfl rfl (fun hc => ?_) (fun hc => ?_)
    · rw [if_pos hc] at h
      refine G_iload rfl rfl ?_
      obtain rfl := Option.some.inj h
      exact G_iret rfl rfl
    · rw [if_neg hc] at h
      refine G_aload rfl rfl ?_
      refine G_iload rfl rfl ?_
      refine G_aload rfl rfl ?_
      refine G_getR (ci := 9) 24 rfl rfl rfl rfl rfl ?_
      refine G_getR (ci := 7) 25 rfl rfl rfl rfl rfl ?_
      refine G_aload rfl rfl ?_
      refine G_getR (ci := 9) 24 rfl rfl rfl rfl rfl ?_
      refine G_iload rfl rfl ?_
      refine G_iload rfl rfl ?_
      obtain ⟨y5, hy5, h⟩ := Option.bind_eq_some_iff.mp h
      refine G_callvI 3 (t_Table_look _ _ _ _  _ hy5) rfl rfl rfl rfl rfl rfl rfl rfl rfl rfl rfl ?_
      obtain ⟨hg6, h⟩ := if_some h
      refine G_iald rfl rfl rfl hg6 ?_
      obtain ⟨y7, hy7, h⟩ := Option.bind_eq_some_iff.mp h
      refine G_callvV 3 (t_Sheet_put _ _ _ _ _ h3 _ hy7) rfl rfl rfl rfl rfl rfl rfl rfl rfl h3 rfl ?_
      refine G_iinc (1 : Int32) rfl (by decide) rfl rfl ?_
      refine G_goto 51 rfl rfl ?_
      exact Go.weak' (ih _ _ _ _ _ h3 _ h) ⟨rfl, rfl, rfl, rfl, rfl, trivial⟩
set_option maxRecDepth 100000 in
set_option maxHeartbeats 4000000 in
theorem t_Box_write (d : Nat) (sg : Hp) (x1 : Int32) (x2 : Int32)  (y : Int32 × Hp) (h : f_Box_write sg x1 x2 = some y) : Sm (d + 11) 91 [.ref 0, .int x1, .int x2] sg (some (.int y.1)) y.2 := by
  unfold f_Box_write at h
  refine Sm.of (lv := [(0, .ref 0), (1, .int x1), (2, .int x2)]) rfl ?_
  refine G_iload rfl rfl ?_
  obtain ⟨y1, hy1, h⟩ := Option.bind_eq_some_iff.mp h
  refine G_callsI 1 (t_Box_isPlace _ _ _  _ hy1) rfl rfl rfl rfl rfl rfl rfl rfl rfl ?_
  refine G_if_eq 14 rfl rfl (fun hc => ?_) (fun hc => ?_)
  · rw [if_pos hc] at h
    refine G_iconst (-2 : Int32) rfl (by decide) ?_
    obtain rfl := Option.some.inj h
    exact G_iret rfl rfl
  · rw [if_neg hc] at h
    refine G_iload rfl rfl ?_
    obtain ⟨y2, hy2, h⟩ := Option.bind_eq_some_iff.mp h
    refine G_callsI 1 (t_Box_isSheet _ _ _  _ hy2) rfl rfl rfl rfl rfl rfl rfl rfl rfl ?_
    refine G_if_ne 17 rfl rfl (fun hc => ?_) (fun hc => ?_)
    · rw [if_neg hc] at h
      refine G_aload rfl rfl ?_
      refine G_getR (ci := 9) 32 rfl rfl rfl rfl rfl ?_
      refine G_iload rfl rfl ?_
      obtain ⟨hg3, h⟩ := if_some h
      refine G_aald (t := 22) rfl rfl (Or.inr rfl) rfl hg3 ?_
      refine G_astore rfl rfl ?_
      refine G_aload rfl rfl ?_
      obtain ⟨y4, hy4, h⟩ := Option.bind_eq_some_iff.mp h
      refine G_callvI 1 (t_Sheet_isLost _ _ _ (rt_el22 (a := 32) rfl (inb_lt hg3)) _ hy4) rfl rfl rfl rfl rfl rfl rfl rfl rfl (rt_el22 (a := 32) rfl (inb_lt hg3)) rfl ?_
      refine G_if_eq 37 rfl rfl (fun hc => ?_) (fun hc => ?_)
      · rw [if_pos hc] at h
        refine G_aload rfl rfl ?_
        refine G_getI (ci := 4) 2 rfl (rt_el22 (a := 32) rfl (inb_lt hg3)) rfl rfl rfl ?_
        refine G_iconst (8 : Int32) rfl (by decide) ?_
        refine G_min rfl rfl rfl ?_
        refine G_istore rfl rfl ?_
        refine G_iconst (0 : Int32) rfl (by decide) ?_
        refine G_istore rfl rfl ?_
        exact Go.weak' (t_Box_write_51 d  _ _ _ _ _ _ (rt_el22 (a := 32) rfl (inb_lt hg3)) _ h) ⟨rfl, rfl, rfl, rfl, rfl, trivial⟩
      · rw [if_neg hc] at h
        refine G_aload rfl rfl ?_
        refine G_iconst (1 : Int32) rfl (by decide) ?_
        obtain ⟨y8, hy8, h⟩ := Option.bind_eq_some_iff.mp h
        refine G_callvI 2 (t_Box_found _ _ _  _ hy8) rfl rfl rfl rfl rfl rfl rfl rfl rfl rfl rfl ?_
        obtain rfl := Option.some.inj h
        exact G_iret rfl rfl
    · rw [if_pos hc] at h
      refine G_iconst (-2 : Int32) rfl (by decide) ?_
      obtain rfl := Option.some.inj h
      exact G_iret rfl rfl
set_option maxRecDepth 100000 in
set_option maxHeartbeats 4000000 in
theorem t_Mod_write_47 (d : Nat)   : ∀ (n : Nat) (sg : Hp) (x1 : Int32) (x2 : Int32) (x3 : Int32) (x4 : Int32)  (y : Int32 × Hp), f_Mod_write_47  n sg x1 x2 x3 x4 = some y → Go (d + 6) none 178 47 [(0, .ref 46), (1, .int x1), (2, .int x2), (3, .int x3), (4, .int x4)] [] sg (some (.int y.1)) y.2 := by
  intro n
  induction n with
  | zero =>
    intro sg x1 x2 x3 x4 y h
    rw [f_Mod_write_47] at h
    cases h
  | succ n ih =>
    intro sg x1 x2 x3 x4 y h
    rw [f_Mod_write_47] at h
    refine G_iload rfl rfl ?_
    refine G_iload rfl rfl ?_
    refine G_ic_ge 87 rfl rfl (fun hc => ?_) (fun hc => ?_)
    · rw [if_pos hc] at h
      refine G_iload rfl rfl ?_
      obtain rfl := Option.some.inj h
      exact G_iret rfl rfl
    · rw [if_neg hc] at h
      refine G_aload rfl rfl ?_
      refine G_getR (ci := 10) 49 rfl rfl rfl rfl rfl ?_
      refine G_iconst (60 : Int32) rfl (by decide) ?_
      refine G_iload rfl rfl ?_
      refine G_imul rfl ?_
      refine G_iload rfl rfl ?_
      refine G_iadd rfl ?_
      refine G_aload rfl rfl ?_
      refine G_getR (ci := 10) 47 rfl rfl rfl rfl rfl ?_
      refine G_iload rfl rfl ?_
      obtain ⟨hg6, h⟩ := if_some h
      refine G_iald rfl rfl rfl hg6 ?_
      refine G_aload rfl rfl ?_
      refine G_iload rfl rfl ?_
      refine G_iload rfl rfl ?_
      obtain ⟨y7, hy7, h⟩ := Option.bind_eq_some_iff.mp h
      refine G_callvI 3 (t_Mod_shortestOf _ _ _ _  _ hy7) rfl rfl rfl rfl rfl rfl rfl rfl rfl rfl rfl ?_
      obtain ⟨y8, hy8, h⟩ := Option.bind_eq_some_iff.mp h
      refine G_callsI 2 (t_Mod_cut _ _ _ _  _ hy8) rfl rfl rfl rfl rfl rfl rfl rfl rfl ?_
      obtain ⟨hg9, h⟩ := if_some h
      obtain ⟨s10, hs10, h⟩ := Option.bind_eq_some_iff.mp h
      refine G_iast rfl rfl rfl hg9 (Option.some.inj hs10) ?_
      refine G_iinc (1 : Int32) rfl (by decide) rfl rfl ?_
      refine G_goto 47 rfl rfl ?_
      exact Go.weak' (ih _ _ _ _ _  _ h) ⟨rfl, rfl, rfl, rfl, rfl, trivial⟩
set_option maxRecDepth 100000 in
set_option maxHeartbeats 4000000 in
theorem t_Mod_write (d : Nat) (sg : Hp) (x1 : Int32) (x2 : Int32)  (y : Int32 × Hp) (h : f_Mod_write sg x1 x2 = some y) : Sm (d + 6) 178 [.ref 46, .int x1, .int x2] sg (some (.int y.1)) y.2 := by
  unfold f_Mod_write at h
  refine Sm.of (lv := [(0, .ref 46), (1, .int x1), (2, .int x2)]) rfl ?_
  refine G_iload rfl rfl ?_
  obtain ⟨y1, hy1, h⟩ := Option.bind_eq_some_iff.mp h
  refine G_callsI 1 (t_Mod_isPlace _ _ _  _ hy1) rfl rfl rfl rfl rfl rfl rfl rfl rfl ?_
  refine G_if_eq 14 rfl rfl (fun hc => ?_) (fun hc => ?_)
  · rw [if_pos hc] at h
    refine G_iconst (-2 : Int32) rfl (by decide) ?_
    obtain rfl := Option.some.inj h
    exact G_iret rfl rfl
  · rw [if_neg hc] at h
    refine G_iload rfl rfl ?_
    obtain ⟨y2, hy2, h⟩ := Option.bind_eq_some_iff.mp h
    refine G_callsI 1 (t_Mod_isSheet _ _ _  _ hy2) rfl rfl rfl rfl rfl rfl rfl rfl rfl ?_
    refine G_if_ne 17 rfl rfl (fun hc => ?_) (fun hc => ?_)
    · rw [if_neg hc] at h
      refine G_aload rfl rfl ?_
      refine G_getR (ci := 10) 47 rfl rfl rfl rfl rfl ?_
      refine G_iload rfl rfl ?_
      obtain ⟨hg3, h⟩ := if_some h
      refine G_iald rfl rfl rfl hg3 ?_
      refine G_if_ge 32 rfl rfl (fun hc => ?_) (fun hc => ?_)
      · rw [if_pos hc] at h
        refine G_aload rfl rfl ?_
        refine G_getR (ci := 10) 48 rfl rfl rfl rfl rfl ?_
        refine G_iload rfl rfl ?_
        obtain ⟨hg4, h⟩ := if_some h
        refine G_iald rfl rfl rfl hg4 ?_
        refine G_iconst (8 : Int32) rfl (by decide) ?_
        obtain ⟨y5, hy5, h⟩ := Option.bind_eq_some_iff.mp h
        refine G_callsI 2 (t_Mod_lesser _ _ _ _  _ hy5) rfl rfl rfl rfl rfl rfl rfl rfl rfl ?_
        refine G_istore rfl rfl ?_
        refine G_iconst (0 : Int32) rfl (by decide) ?_
        refine G_istore rfl rfl ?_
        exact Go.weak' (t_Mod_write_47 d  _ _ _ _ _ _  _ h) ⟨rfl, rfl, rfl, rfl, rfl, trivial⟩
      · rw [if_neg hc] at h
        refine G_aload rfl rfl ?_
        refine G_iconst (1 : Int32) rfl (by decide) ?_
        obtain ⟨y11, hy11, h⟩ := Option.bind_eq_some_iff.mp h
        refine G_callvI 2 (t_Mod_met _ _ _  _ hy11) rfl rfl rfl rfl rfl rfl rfl rfl rfl rfl rfl ?_
        obtain rfl := Option.some.inj h
        exact G_iret rfl rfl
    · rw [if_pos hc] at h
      refine G_iconst (-2 : Int32) rfl (by decide) ?_
      obtain rfl := Option.some.inj h
      exact G_iret rfl rfl
set_option maxRecDepth 100000 in
set_option maxHeartbeats 4000000 in
theorem t_Int_bitCount (d : Nat) (sg : Hp) (x0 : Int32)  (y : Int32 × Hp) (h : f_Int_bitCount sg x0 = some y) : Sm (d + 0) 94 [.int x0] sg (some (.int y.1)) y.2 := by
  unfold f_Int_bitCount at h
  refine Sm.of (lv := [(0, .int x0)]) rfl ?_
  refine G_iload rfl rfl ?_
  refine G_iload rfl rfl ?_
  refine G_iconst (1 : Int32) rfl (by decide) ?_
  refine G_iushr rfl ?_
  refine G_ldc (1431655765 : Int32) rfl (by decide) ?_
  refine G_iand rfl ?_
  refine G_isub rfl ?_
  refine G_istore rfl rfl ?_
  refine G_iload rfl rfl ?_
  refine G_ldc (858993459 : Int32) rfl (by decide) ?_
  refine G_iand rfl ?_
  refine G_iload rfl rfl ?_
  refine G_iconst (2 : Int32) rfl (by decide) ?_
  refine G_iushr rfl ?_
  refine G_ldc (858993459 : Int32) rfl (by decide) ?_
  refine G_iand rfl ?_
  refine G_iadd rfl ?_
  refine G_istore rfl rfl ?_
  refine G_iload rfl rfl ?_
  refine G_iload rfl rfl ?_
  refine G_iconst (4 : Int32) rfl (by decide) ?_
  refine G_iushr rfl ?_
  refine G_iadd rfl ?_
  refine G_ldc (252645135 : Int32) rfl (by decide) ?_
  refine G_iand rfl ?_
  refine G_istore rfl rfl ?_
  refine G_iload rfl rfl ?_
  refine G_iload rfl rfl ?_
  refine G_iconst (8 : Int32) rfl (by decide) ?_
  refine G_iushr rfl ?_
  refine G_iadd rfl ?_
  refine G_istore rfl rfl ?_
  refine G_iload rfl rfl ?_
  refine G_iload rfl rfl ?_
  refine G_iconst (16 : Int32) rfl (by decide) ?_
  refine G_iushr rfl ?_
  refine G_iadd rfl ?_
  refine G_istore rfl rfl ?_
  refine G_iload rfl rfl ?_
  refine G_iconst (63 : Int32) rfl (by decide) ?_
  refine G_iand rfl ?_
  obtain rfl := Option.some.inj h
  exact G_iret rfl rfl
set_option maxRecDepth 100000 in
set_option maxHeartbeats 4000000 in
theorem t_Room_barredEdges_4 (d : Nat)   : ∀ (n : Nat) (sg : Hp) (x1 : Int32) (x2 : Int32)  (y : Int32 × Hp), f_Room_barredEdges_4  n sg x1 x2 = some y → Go (d + 1) none 93 4 [(0, .ref 1), (1, .int x1), (2, .int x2)] [] sg (some (.int y.1)) y.2 := by
  intro n
  induction n with
  | zero =>
    intro sg x1 x2 y h
    rw [f_Room_barredEdges_4] at h
    cases h
  | succ n ih =>
    intro sg x1 x2 y h
    rw [f_Room_barredEdges_4] at h
    refine G_iload rfl rfl ?_
    refine G_iconst (6 : Int32) rfl (by decide) ?_
    refine G_ic_ge 28 rfl rfl (fun hc => ?_) (fun hc => ?_)
    · rw [if_pos hc] at h
      refine G_iload rfl rfl ?_
      refine G_iconst (2 : Int32) rfl (by decide) ?_
      refine G_idiv rfl (by decide) ?_
      obtain rfl := Option.some.inj h
      exact G_iret rfl rfl
    · rw [if_neg hc] at h
      refine G_iload rfl rfl ?_
      refine G_aload rfl rfl ?_
      refine G_getR (ci := 2) 6 rfl rfl rfl rfl rfl ?_
      refine G_iload rfl rfl ?_
      obtain ⟨hg1, h⟩ := if_some h
      refine G_iald rfl rfl rfl hg1 ?_
      obtain ⟨y2, hy2, h⟩ := Option.bind_eq_some_iff.mp h
      refine G_callsI 1 (t_Int_bitCount _ _ _  _ hy2) rfl rfl rfl rfl rfl rfl rfl rfl rfl ?_
      refine G_iadd rfl ?_
      refine G_istore rfl rfl ?_
      refine G_iinc (1 : Int32) rfl (by decide) rfl rfl ?_
      refine G_goto 4 rfl rfl ?_
      exact Go.weak' (ih _ _ _  _ h) ⟨rfl, rfl, rfl, trivial⟩
set_option maxRecDepth 100000 in
set_option maxHeartbeats 4000000 in
theorem t_Room_barredEdges (d : Nat) (sg : Hp)   (y : Int32 × Hp) (h : f_Room_barredEdges sg  = some y) : Sm (d + 1) 93 [.ref 1] sg (some (.int y.1)) y.2 := by
  unfold f_Room_barredEdges at h
  refine Sm.of (lv := [(0, .ref 1)]) rfl ?_
  refine G_iconst (0 : Int32) rfl (by decide) ?_
  refine G_istore rfl rfl ?_
  refine G_iconst (0 : Int32) rfl (by decide) ?_
  refine G_istore rfl rfl ?_
  exact Go.weak' (t_Room_barredEdges_4 d  _ _ _ _  _ h) ⟨rfl, rfl, rfl, trivial⟩
set_option maxRecDepth 100000 in
set_option maxHeartbeats 4000000 in
theorem t_Room_hasLikeBefore_54 (d : Nat) {k2 : Hp → Int32 → Int32 → Option (Int32 × Hp)} (hk2 : ∀ (sg : Hp) (x1 : Int32) (x2 : Int32)  (y : Int32 × Hp), k2 sg x1 x2 = some y → Go (d + 0) none 96 2 [(0, .ref 1), (1, .int x1), (2, .int x2)] [] sg (some (.int y.1)) y.2) (sg : Hp) (x1 : Int32) (x2 : Int32)  (y : Int32 × Hp) (h : f_Room_hasLikeBefore_54 k2 sg x1 x2 = some y) : Go (d + 0) none 96 54 [(0, .ref 1), (1, .int x1), (2, .int x2)] [] sg (some (.int y.1)) y.2 := by
  unfold f_Room_hasLikeBefore_54 at h
  refine G_iinc (1 : Int32) rfl (by decide) rfl rfl ?_
  refine G_goto 2 rfl rfl ?_
  exact Go.weak' (hk2 _ _ _  _ h) ⟨rfl, rfl, rfl, trivial⟩
set_option maxRecDepth 100000 in
set_option maxHeartbeats 4000000 in
theorem t_Room_hasLikeBefore_2 (d : Nat)   : ∀ (n : Nat) (sg : Hp) (x1 : Int32) (x2 : Int32)  (y : Int32 × Hp), f_Room_hasLikeBefore_2  n sg x1 x2 = some y → Go (d + 0) none 96 2 [(0, .ref 1), (1, .int x1), (2, .int x2)] [] sg (some (.int y.1)) y.2 := by
  intro n
  induction n with
  | zero =>
    intro sg x1 x2 y h
    rw [f_Room_hasLikeBefore_2] at h
    cases h
  | succ n ih =>
    intro sg x1 x2 y h
    rw [f_Room_hasLikeBefore_2] at h
    refine G_iload rfl rfl ?_
    refine G_iload rfl rfl ?_
    refine G_ic_ge 60 rfl rfl (fun hc => ?_) (fun hc => ?_)
    · rw [if_pos hc] at h
      refine G_iconst (0 : Int32) rfl (by decide) ?_
      obtain rfl := Option.some.inj h
      exact G_iret rfl rfl
    · rw [if_neg hc] at h
      refine G_aload rfl rfl ?_
      refine G_getR (ci := 2) 3 rfl rfl rfl rfl rfl ?_
      refine G_iload rfl rfl ?_
      obtain ⟨hg1, h⟩ := if_some h
      refine G_iald rfl rfl rfl hg1 ?_
      refine G_aload rfl rfl ?_
      refine G_getR (ci := 2) 3 rfl rfl rfl rfl rfl ?_
      refine G_iload rfl rfl ?_
      obtain ⟨hg2, h⟩ := if_some h
      refine G_iald rfl rfl rfl hg2 ?_
      refine G_ic_ne 54 rfl rfl (fun hc => ?_) (fun hc => ?_)
      · rw [if_neg hc] at h
        exact Go.weak' (t_Room_hasLikeBefore_54 d ih _ _ _  _ h) ⟨rfl, rfl, rfl, trivial⟩
      · rw [if_pos hc] at h
        refine G_aload rfl rfl ?_
        refine G_getR (ci := 2) 4 rfl rfl rfl rfl rfl ?_
        refine G_iload rfl rfl ?_
        obtain ⟨hg3, h⟩ := if_some h
        refine G_iald rfl rfl rfl hg3 ?_
        refine G_aload rfl rfl ?_
        refine G_getR (ci := 2) 4 rfl rfl rfl rfl rfl ?_
        refine G_iload rfl rfl ?_
        obtain ⟨hg4, h⟩ := if_some h
        refine G_iald rfl rfl rfl hg4 ?_
        refine G_ic_ne 54 rfl rfl (fun hc => ?_) (fun hc => ?_)
        · rw [if_neg hc] at h
          exact Go.weak' (t_Room_hasLikeBefore_54 d ih _ _ _  _ h) ⟨rfl, rfl, rfl, trivial⟩
        · rw [if_pos hc] at h
          refine G_aload rfl rfl ?_
          refine G_getR (ci := 2) 5 rfl rfl rfl rfl rfl ?_
          refine G_iload rfl rfl ?_
          obtain ⟨hg5, h⟩ := if_some h
          refine G_iald rfl rfl rfl hg5 ?_
          refine G_aload rfl rfl ?_
          refine G_getR (ci := 2) 5 rfl rfl rfl rfl rfl ?_
          refine G_iload rfl rfl ?_
          obtain ⟨hg6, h⟩ := if_some h
          refine G_iald rfl rfl rfl hg6 ?_
          refine G_ic_ne 54 rfl rfl (fun hc => ?_) (fun hc => ?_)
          · rw [if_neg hc] at h
            exact Go.weak' (t_Room_hasLikeBefore_54 d ih _ _ _  _ h) ⟨rfl, rfl, rfl, trivial⟩
          · rw [if_pos hc] at h
            refine G_iconst (1 : Int32) rfl (by decide) ?_
            obtain rfl := Option.some.inj h
            exact G_iret rfl rfl
set_option maxRecDepth 100000 in
set_option maxHeartbeats 4000000 in
theorem t_Room_hasLikeBefore (d : Nat) (sg : Hp) (x1 : Int32)  (y : Int32 × Hp) (h : f_Room_hasLikeBefore sg x1 = some y) : Sm (d + 0) 96 [.ref 1, .int x1] sg (some (.int y.1)) y.2 := by
  unfold f_Room_hasLikeBefore at h
  refine Sm.of (lv := [(0, .ref 1), (1, .int x1)]) rfl ?_
  refine G_iconst (0 : Int32) rfl (by decide) ?_
  refine G_istore rfl rfl ?_
  exact Go.weak' (t_Room_hasLikeBefore_2 d  _ _ _ _  _ h) ⟨rfl, rfl, rfl, trivial⟩
set_option maxRecDepth 100000 in
set_option maxHeartbeats 4000000 in
theorem t_Room_unlikePlaces_21 (d : Nat) {k4 : Hp → Int32 → Int32 → Option (Int32 × Hp)} (hk4 : ∀ (sg : Hp) (x1 : Int32) (x2 : Int32)  (y : Int32 × Hp), k4 sg x1 x2 = some y → Go (d + 1) none 95 4 [(0, .ref 1), (1, .int x1), (2, .int x2)] [] sg (some (.int y.1)) y.2) (sg : Hp) (x1 : Int32) (x2 : Int32)  (y : Int32 × Hp) (h : f_Room_unlikePlaces_21 k4 sg x1 x2 = some y) : Go (d + 1) none 95 21 [(0, .ref 1), (1, .int x1), (2, .int x2)] [] sg (some (.int y.1)) y.2 := by
  unfold f_Room_unlikePlaces_21 at h
  refine G_iinc (1 : Int32) rfl (by decide) rfl rfl ?_
  refine G_goto 4 rfl rfl ?_
  exact Go.weak' (hk4 _ _ _  _ h) ⟨rfl, rfl, rfl, trivial⟩
set_option maxRecDepth 100000 in
set_option maxHeartbeats 4000000 in
theorem t_Room_unlikePlaces_4 (d : Nat)   : ∀ (n : Nat) (sg : Hp) (x1 : Int32) (x2 : Int32)  (y : Int32 × Hp), f_Room_unlikePlaces_4  n sg x1 x2 = some y → Go (d + 1) none 95 4 [(0, .ref 1), (1, .int x1), (2, .int x2)] [] sg (some (.int y.1)) y.2 := by
  intro n
  induction n with
  | zero =>
    intro sg x1 x2 y h
    rw [f_Room_unlikePlaces_4] at h
    cases h
  | succ n ih =>
    intro sg x1 x2 y h
    rw [f_Room_unlikePlaces_4] at h
    refine G_iload rfl rfl ?_
    refine G_iconst (8 : Int32) rfl (by decide) ?_
    refine G_ic_ge 27 rfl rfl (fun hc => ?_) (fun hc => ?_)
    · rw [if_pos hc] at h
      refine G_iload rfl rfl ?_
      obtain rfl := Option.some.inj h
      exact G_iret rfl rfl
    · rw [if_neg hc] at h
      refine G_aload rfl rfl ?_
      refine G_iload rfl rfl ?_
      obtain ⟨y1, hy1, h⟩ := Option.bind_eq_some_iff.mp h
      refine G_callvI 2 (t_Room_hasLikeBefore _ _ _  _ hy1) rfl rfl rfl rfl rfl rfl rfl rfl rfl rfl rfl ?_
      refine G_if_ne 21 rfl rfl (fun hc => ?_) (fun hc => ?_)
      · rw [if_neg hc] at h
        exact Go.weak' (t_Room_unlikePlaces_21 d ih _ _ _  _ h) ⟨rfl, rfl, rfl, trivial⟩
      · rw [if_pos hc] at h
        refine G_iinc (1 : Int32) rfl (by decide) rfl rfl ?_
        exact Go.weak' (t_Room_unlikePlaces_21 d ih _ _ _  _ h) ⟨rfl, rfl, rfl, trivial⟩
set_option maxRecDepth 100000 in
set_option maxHeartbeats 4000000 in
theorem t_Room_unlikePlaces (d : Nat) (sg : Hp)   (y : Int32 × Hp) (h : f_Room_unlikePlaces sg  = some y) : Sm (d + 1) 95 [.ref 1] sg (some (.int y.1)) y.2 := by
  unfold f_Room_unlikePlaces at h
  refine Sm.of (lv := [(0, .ref 1)]) rfl ?_
  refine G_iconst (0 : Int32) rfl (by decide) ?_
  refine G_istore rfl rfl ?_
  refine G_iconst (0 : Int32) rfl (by decide) ?_
  refine G_istore rfl rfl ?_
  exact Go.weak' (t_Room_unlikePlaces_4 d  _ _ _ _  _ h) ⟨rfl, rfl, rfl, trivial⟩
set_option maxRecDepth 100000 in
set_option maxHeartbeats 4000000 in
theorem t_Box_count (d : Nat) (sg : Hp) (x1 : Int32)  (y : Int32 × Hp) (h : f_Box_count sg x1 = some y) : Sm (d + 3) 92 [.ref 0, .int x1] sg (some (.int y.1)) y.2 := by
  unfold f_Box_count at h
  refine Sm.of (lv := [(0, .ref 0), (1, .int x1)]) rfl ?_
  refine G_iload rfl rfl ?_
  by_cases hc1_0 : x1 = (0 : Int32)
  · rw [if_pos hc1_0] at h
    refine G_tsw (t := 52) 52 rfl (by rw [hc1_0]; decide) (by rw [hc1_0]; rfl) rfl ?_
    refine G_aload rfl rfl ?_
    refine G_getR (ci := 9) 9 rfl rfl rfl rfl rfl ?_
    obtain ⟨y2, hy2, h⟩ := Option.bind_eq_some_iff.mp h
    refine G_callvI 1 (t_Rolls_valid _ _   _ hy2) rfl rfl rfl rfl rfl rfl rfl rfl rfl rfl rfl ?_
    obtain rfl := Option.some.inj h
    exact G_iret rfl rfl
  · rw [if_neg hc1_0] at h
    by_cases hc1_1 : x1 = (1 : Int32)
    · rw [if_pos hc1_1] at h
      refine G_tsw (t := 60) 60 rfl (by rw [hc1_1]; decide) (by rw [hc1_1]; rfl) rfl ?_
      refine G_aload rfl rfl ?_
      refine G_getR (ci := 9) 9 rfl rfl rfl rfl rfl ?_
      refine G_getI (ci := 1) 1 rfl rfl rfl rfl rfl ?_
      obtain rfl := Option.some.inj h
      exact G_iret rfl rfl
    · rw [if_neg hc1_1] at h
      by_cases hc1_2 : x1 = (2 : Int32)
      · rw [if_pos hc1_2] at h
        refine G_tsw (t := 68) 68 rfl (by rw [hc1_2]; decide) (by rw [hc1_2]; rfl) rfl ?_
        refine G_aload rfl rfl ?_
        refine G_getR (ci := 9) 1 rfl rfl rfl rfl rfl ?_
        refine G_getR (ci := 2) 2 rfl rfl rfl rfl rfl ?_
        refine G_iload rfl rfl ?_
        refine G_iconst (2 : Int32) rfl (by decide) ?_
        refine G_isub rfl ?_
        obtain ⟨y3, hy3, h⟩ := Option.bind_eq_some_iff.mp h
        refine G_callsI 1 (t_Box_axisOf _ _ _  _ hy3) rfl rfl rfl rfl rfl rfl rfl rfl rfl ?_
        obtain ⟨hg4, h⟩ := if_some h
        refine G_iald rfl rfl rfl hg4 ?_
        obtain rfl := Option.some.inj h
        exact G_iret rfl rfl
      · rw [if_neg hc1_2] at h
        by_cases hc1_3 : x1 = (3 : Int32)
        · rw [if_pos hc1_3] at h
          refine G_tsw (t := 68) 68 rfl (by rw [hc1_3]; decide) (by rw [hc1_3]; rfl) rfl ?_
          refine G_aload rfl rfl ?_
          refine G_getR (ci := 9) 1 rfl rfl rfl rfl rfl ?_
          refine G_getR (ci := 2) 2 rfl rfl rfl rfl rfl ?_
          refine G_iload rfl rfl ?_
          refine G_iconst (2 : Int32) rfl (by decide) ?_
          refine G_isub rfl ?_
          obtain ⟨y5, hy5, h⟩ := Option.bind_eq_some_iff.mp h
          refine G_callsI 1 (t_Box_axisOf _ _ _  _ hy5) rfl rfl rfl rfl rfl rfl rfl rfl rfl ?_
          obtain ⟨hg6, h⟩ := if_some h
          refine G_iald rfl rfl rfl hg6 ?_
          obtain rfl := Option.some.inj h
          exact G_iret rfl rfl
        · rw [if_neg hc1_3] at h
          by_cases hc1_4 : x1 = (4 : Int32)
          · rw [if_pos hc1_4] at h
            refine G_tsw (t := 68) 68 rfl (by rw [hc1_4]; decide) (by rw [hc1_4]; rfl) rfl ?_
            refine G_aload rfl rfl ?_
            refine G_getR (ci := 9) 1 rfl rfl rfl rfl rfl ?_
            refine G_getR (ci := 2) 2 rfl rfl rfl rfl rfl ?_
            refine G_iload rfl rfl ?_
            refine G_iconst (2 : Int32) rfl (by decide) ?_
            refine G_isub rfl ?_
            obtain ⟨y7, hy7, h⟩ := Option.bind_eq_some_iff.mp h
            refine G_callsI 1 (t_Box_axisOf _ _ _  _ hy7) rfl rfl rfl rfl rfl rfl rfl rfl rfl ?_
            obtain ⟨hg8, h⟩ := if_some h
            refine G_iald rfl rfl rfl hg8 ?_
            obtain rfl := Option.some.inj h
            exact G_iret rfl rfl
          · rw [if_neg hc1_4] at h
            by_cases hc1_5 : x1 = (5 : Int32)
            · rw [if_pos hc1_5] at h
              refine G_tsw (t := 83) 83 rfl (by rw [hc1_5]; decide) (by rw [hc1_5]; rfl) rfl ?_
              refine G_aload rfl rfl ?_
              refine G_getR (ci := 9) 1 rfl rfl rfl rfl rfl ?_
              obtain ⟨y9, hy9, h⟩ := Option.bind_eq_some_iff.mp h
              refine G_callvI 1 (t_Room_barredEdges _ _   _ hy9) rfl rfl rfl rfl rfl rfl rfl rfl rfl rfl rfl ?_
              obtain rfl := Option.some.inj h
              exact G_iret rfl rfl
            · rw [if_neg hc1_5] at h
              by_cases hc1_6 : x1 = (6 : Int32)
              · rw [if_pos hc1_6] at h
                refine G_tsw (t := 91) 91 rfl (by rw [hc1_6]; decide) (by rw [hc1_6]; rfl) rfl ?_
                refine G_aload rfl rfl ?_
                refine G_getR (ci := 9) 1 rfl rfl rfl rfl rfl ?_
                obtain ⟨y10, hy10, h⟩ := Option.bind_eq_some_iff.mp h
                refine G_callvI 1 (t_Room_unlikePlaces _ _   _ hy10) rfl rfl rfl rfl rfl rfl rfl rfl rfl rfl rfl ?_
                obtain rfl := Option.some.inj h
                exact G_iret rfl rfl
              · rw [if_neg hc1_6] at h
                by_cases hc1_7 : x1 = (7 : Int32)
                · rw [if_pos hc1_7] at h
                  refine G_tsw (t := 99) 99 rfl (by rw [hc1_7]; decide) (by rw [hc1_7]; rfl) rfl ?_
                  refine G_aload rfl rfl ?_
                  refine G_aload rfl rfl ?_
                  refine G_getR (ci := 9) 9 rfl rfl rfl rfl rfl ?_
                  obtain ⟨y11, hy11, h⟩ := Option.bind_eq_some_iff.mp h
                  refine G_callvI 1 (t_Rolls_valid _ _   _ hy11) rfl rfl rfl rfl rfl rfl rfl rfl rfl rfl rfl ?_
                  obtain ⟨y12, hy12, h⟩ := Option.bind_eq_some_iff.mp h
                  refine G_callvV 2 (t_Box_standBehind _ _ _  _ hy12) rfl rfl rfl rfl rfl rfl rfl rfl rfl rfl rfl ?_
                  refine G_aload rfl rfl ?_
                  refine G_getR (ci := 9) 33 rfl rfl rfl rfl rfl ?_
                  refine G_getI (ci := 6) 0 rfl rfl rfl rfl rfl ?_
                  obtain rfl := Option.some.inj h
                  exact G_iret rfl rfl
                · rw [if_neg hc1_7] at h
                  by_cases hc1_8 : x1 = (8 : Int32)
                  · rw [if_pos hc1_8] at h
                    refine G_tsw (t := 118) 118 rfl (by rw [hc1_8]; decide) (by rw [hc1_8]; rfl) rfl ?_
                    refine G_aload rfl rfl ?_
                    refine G_getI (ci := 9) 10 rfl rfl rfl rfl rfl ?_
                    obtain rfl := Option.some.inj h
                    exact G_iret rfl rfl
                  · rw [if_neg hc1_8] at h
                    have q1_0 := ti_ne hc1_0 (n := 0) rfl
                    have q1_1 := ti_ne hc1_1 (n := 1) rfl
                    have q1_2 := ti_ne hc1_2 (n := 2) rfl
                    have q1_3 := ti_ne hc1_3 (n := 3) rfl
                    have q1_4 := ti_ne hc1_4 (n := 4) rfl
                    have q1_5 := ti_ne hc1_5 (n := 5) rfl
                    have q1_6 := ti_ne hc1_6 (n := 6) rfl
                    have q1_7 := ti_ne hc1_7 (n := 7) rfl
                    have q1_8 := ti_ne hc1_8 (n := 8) rfl
                    refine G_tswD 123 rfl (by omega) rfl ?_
                    refine G_iconst (-2 : Int32) rfl (by decide) ?_
                    obtain rfl := Option.some.inj h
                    exact G_iret rfl rfl
set_option maxRecDepth 100000 in
set_option maxHeartbeats 4000000 in
theorem t_Mod_barred_17 (d : Nat) {k4 : Hp → Int32 → Int32 → Option (Int32 × Hp)} (hk4 : ∀ (sg : Hp) (x1 : Int32) (x2 : Int32)  (y : Int32 × Hp), k4 sg x1 x2 = some y → Go (d + 0) none 180 4 [(0, .ref 46), (1, .int x1), (2, .int x2)] [] sg (some (.int y.1)) y.2) : ∀ (n : Nat) (sg : Hp) (x1 : Int32) (x2 : Int32) (x3 : Int32)  (y : Int32 × Hp), f_Mod_barred_17 k4 n sg x1 x2 x3 = some y → Go (d + 0) none 180 17 [(0, .ref 46), (1, .int x1), (2, .int x2), (3, .int x3)] [] sg (some (.int y.1)) y.2 := by
  intro n
  induction n with
  | zero =>
    intro sg x1 x2 x3 y h
    rw [f_Mod_barred_17] at h
    cases h
  | succ n ih =>
    intro sg x1 x2 x3 y h
    rw [f_Mod_barred_17] at h
    refine G_iload rfl rfl ?_
    refine G_if_eq 33 rfl rfl (fun hc => ?_) (fun hc => ?_)
    · rw [if_pos hc] at h
      refine G_iinc (1 : Int32) rfl (by decide) rfl rfl ?_
      refine G_goto 4 rfl rfl ?_
      exact Go.weak' (hk4 _ _ _  _ h) ⟨rfl, rfl, rfl, trivial⟩
    · rw [if_neg hc] at h
      refine G_iinc (1 : Int32) rfl (by decide) rfl rfl ?_
      refine G_iload rfl rfl ?_
      refine G_iload rfl rfl ?_
      refine G_iconst (1 : Int32) rfl (by decide) ?_
      refine G_isub rfl ?_
      refine G_iand rfl ?_
      refine G_istore rfl rfl ?_
      refine G_goto 17 rfl rfl ?_
      exact Go.weak' (ih _ _ _ _  _ h) ⟨rfl, rfl, rfl, rfl, trivial⟩
set_option maxRecDepth 100000 in
set_option maxHeartbeats 4000000 in
theorem t_Mod_barred_4 (d : Nat)   : ∀ (n : Nat) (sg : Hp) (x1 : Int32) (x2 : Int32)  (y : Int32 × Hp), f_Mod_barred_4  n sg x1 x2 = some y → Go (d + 0) none 180 4 [(0, .ref 46), (1, .int x1), (2, .int x2)] [] sg (some (.int y.1)) y.2 := by
  intro n
  induction n with
  | zero =>
    intro sg x1 x2 y h
    rw [f_Mod_barred_4] at h
    cases h
  | succ n ih =>
    intro sg x1 x2 y h
    rw [f_Mod_barred_4] at h
    refine G_iload rfl rfl ?_
    refine G_iconst (6 : Int32) rfl (by decide) ?_
    refine G_ic_ge 39 rfl rfl (fun hc => ?_) (fun hc => ?_)
    · rw [if_pos hc] at h
      refine G_iload rfl rfl ?_
      refine G_iconst (2 : Int32) rfl (by decide) ?_
      refine G_idiv rfl (by decide) ?_
      obtain rfl := Option.some.inj h
      exact G_iret rfl rfl
    · rw [if_neg hc] at h
      refine G_aload rfl rfl ?_
      refine G_getR (ci := 10) 53 rfl rfl rfl rfl rfl ?_
      refine G_iload rfl rfl ?_
      obtain ⟨hg1, h⟩ := if_some h
      refine G_iald rfl rfl rfl hg1 ?_
      refine G_istore rfl rfl ?_
      exact Go.weak' (t_Mod_barred_17 d ih _ _ _ _ _  _ h) ⟨rfl, rfl, rfl, rfl, trivial⟩
set_option maxRecDepth 100000 in
set_option maxHeartbeats 4000000 in
theorem t_Mod_barred (d : Nat) (sg : Hp)   (y : Int32 × Hp) (h : f_Mod_barred sg  = some y) : Sm (d + 0) 180 [.ref 46] sg (some (.int y.1)) y.2 := by
  unfold f_Mod_barred at h
  refine Sm.of (lv := [(0, .ref 46)]) rfl ?_
  refine G_iconst (0 : Int32) rfl (by decide) ?_
  refine G_istore rfl rfl ?_
  refine G_iconst (0 : Int32) rfl (by decide) ?_
  refine G_istore rfl rfl ?_
  exact Go.weak' (t_Mod_barred_4 d  _ _ _ _  _ h) ⟨rfl, rfl, rfl, trivial⟩
set_option maxRecDepth 100000 in
set_option maxHeartbeats 4000000 in
theorem t_Mod_unlike_115 (d : Nat) {k4 : Hp → Int32 → Int32 → Option (Int32 × Hp)} (hk4 : ∀ (sg : Hp) (x1 : Int32) (x2 : Int32)  (y : Int32 × Hp), k4 sg x1 x2 = some y → Go (d + 0) none 181 4 [(0, .ref 46), (1, .int x1), (2, .int x2)] [] sg (some (.int y.1)) y.2) (sg : Hp) (x2 : Int32) (xs0 : Int32) (xs1 : Int32)  (y : Int32 × Hp) (h : f_Mod_unlike_115 k4 sg x2 xs0 xs1 = some y) : Go (d + 0) none 181 115 [(0, .ref 46), (2, .int x2)] [.int xs1, .int xs0] sg (some (.int y.1)) y.2 := by
  unfold f_Mod_unlike_115 at h
  refine G_iadd rfl ?_
  refine G_istore rfl rfl ?_
  refine G_iinc (1 : Int32) rfl (by decide) rfl rfl ?_
  refine G_goto 4 rfl rfl ?_
  exact Go.weak' (hk4 _ _ _  _ h) ⟨rfl, rfl, rfl, trivial⟩
set_option maxRecDepth 100000 in
set_option maxHeartbeats 4000000 in
theorem t_Mod_unlike_98 (d : Nat) {k4 : Hp → Int32 → Int32 → Option (Int32 × Hp)} {k15 : Hp → Int32 → Int32 → Int32 → Int32 → Option (Int32 × Hp)} (hk4 : ∀ (sg : Hp) (x1 : Int32) (x2 : Int32)  (y : Int32 × Hp), k4 sg x1 x2 = some y → Go (d + 0) none 181 4 [(0, .ref 46), (1, .int x1), (2, .int x2)] [] sg (some (.int y.1)) y.2) (hk15 : ∀ (sg : Hp) (x1 : Int32) (x2 : Int32) (x3 : Int32) (x4 : Int32)  (y : Int32 × Hp), k15 sg x1 x2 x3 x4 = some y → Go (d + 0) none 181 15 [(0, .ref 46), (1, .int x1), (2, .int x2), (3, .int x3), (4, .int x4)] [] sg (some (.int y.1)) y.2) (sg : Hp) (x1 : Int32) (x2 : Int32) (x4 : Int32) (xs0 : Int32)  (y : Int32 × Hp) (h : f_Mod_unlike_98 k4 k15 sg x1 x2 x4 xs0 = some y) : Go (d + 0) none 181 98 [(0, .ref 46), (1, .int x1), (2, .int x2), (4, .int x4)] [.int xs0] sg (some (.int y.1)) y.2 := by
  unfold f_Mod_unlike_98 at h
  refine G_istore rfl rfl ?_
  refine G_iinc (1 : Int32) rfl (by decide) rfl rfl ?_
  refine G_goto 15 rfl rfl ?_
  exact Go.weak' (hk15 _ _ _ _ _  _ h) ⟨rfl, rfl, rfl, rfl, rfl, trivial⟩
set_option maxRecDepth 100000 in
set_option maxHeartbeats 4000000 in
theorem t_Mod_unlike_93 (d : Nat) {k4 : Hp → Int32 → Int32 → Option (Int32 × Hp)} {k15 : Hp → Int32 → Int32 → Int32 → Int32 → Option (Int32 × Hp)} (hk4 : ∀ (sg : Hp) (x1 : Int32) (x2 : Int32)  (y : Int32 × Hp), k4 sg x1 x2 = some y → Go (d + 0) none 181 4 [(0, .ref 46), (1, .int x1), (2, .int x2)] [] sg (some (.int y.1)) y.2) (hk15 : ∀ (sg : Hp) (x1 : Int32) (x2 : Int32) (x3 : Int32) (x4 : Int32)  (y : Int32 × Hp), k15 sg x1 x2 x3 x4 = some y → Go (d + 0) none 181 15 [(0, .ref 46), (1, .int x1), (2, .int x2), (3, .int x3), (4, .int x4)] [] sg (some (.int y.1)) y.2) (sg : Hp) (x1 : Int32) (x2 : Int32) (x4 : Int32)  (y : Int32 × Hp) (h : f_Mod_unlike_93 k4 k15 sg x1 x2 x4 = some y) : Go (d + 0) none 181 93 [(0, .ref 46), (1, .int x1), (2, .int x2), (4, .int x4)] [] sg (some (.int y.1)) y.2 := by
  unfold f_Mod_unlike_93 at h
  refine G_iconst (1 : Int32) rfl (by decide) ?_
  refine G_goto 98 rfl rfl ?_
  exact Go.weak' (t_Mod_unlike_98 d hk4 hk15 _ _ _ _ _  _ h) ⟨rfl, rfl, rfl, rfl, trivial⟩
set_option maxRecDepth 100000 in
set_option maxHeartbeats 4000000 in
theorem t_Mod_unlike_97 (d : Nat) {k4 : Hp → Int32 → Int32 → Option (Int32 × Hp)} {k15 : Hp → Int32 → Int32 → Int32 → Int32 → Option (Int32 × Hp)} (hk4 : ∀ (sg : Hp) (x1 : Int32) (x2 : Int32)  (y : Int32 × Hp), k4 sg x1 x2 = some y → Go (d + 0) none 181 4 [(0, .ref 46), (1, .int x1), (2, .int x2)] [] sg (some (.int y.1)) y.2) (hk15 : ∀ (sg : Hp) (x1 : Int32) (x2 : Int32) (x3 : Int32) (x4 : Int32)  (y : Int32 × Hp), k15 sg x1 x2 x3 x4 = some y → Go (d + 0) none 181 15 [(0, .ref 46), (1, .int x1), (2, .int x2), (3, .int x3), (4, .int x4)] [] sg (some (.int y.1)) y.2) (sg : Hp) (x1 : Int32) (x2 : Int32) (x4 : Int32)  (y : Int32 × Hp) (h : f_Mod_unlike_97 k4 k15 sg x1 x2 x4 = some y) : Go (d + 0) none 181 97 [(0, .ref 46), (1, .int x1), (2, .int x2), (4, .int x4)] [] sg (some (.int y.1)) y.2 := by
  unfold f_Mod_unlike_97 at h
  refine G_iconst (0 : Int32) rfl (by decide) ?_
  exact Go.weak' (t_Mod_unlike_98 d hk4 hk15 _ _ _ _ _  _ h) ⟨rfl, rfl, rfl, rfl, trivial⟩
set_option maxRecDepth 100000 in
set_option maxHeartbeats 4000000 in
theorem t_Mod_unlike_15 (d : Nat) {k4 : Hp → Int32 → Int32 → Option (Int32 × Hp)} (hk4 : ∀ (sg : Hp) (x1 : Int32) (x2 : Int32)  (y : Int32 × Hp), k4 sg x1 x2 = some y → Go (d + 0) none 181 4 [(0, .ref 46), (1, .int x1), (2, .int x2)] [] sg (some (.int y.1)) y.2) : ∀ (n : Nat) (sg : Hp) (x1 : Int32) (x2 : Int32) (x3 : Int32) (x4 : Int32)  (y : Int32 × Hp), f_Mod_unlike_15 k4 n sg x1 x2 x3 x4 = some y → Go (d + 0) none 181 15 [(0, .ref 46), (1, .int x1), (2, .int x2), (3, .int x3), (4, .int x4)] [] sg (some (.int y.1)) y.2 := by
  intro n
  induction n with
  | zero =>
    intro sg x1 x2 x3 x4 y h
    rw [f_Mod_unlike_15] at h
    cases h
  | succ n ih =>
    intro sg x1 x2 x3 x4 y h
    rw [f_Mod_unlike_15] at h
    refine G_iload rfl rfl ?_
    refine G_iload rfl rfl ?_
    refine G_ic_ge 105 rfl rfl (fun hc => ?_) (fun hc => ?_)
    · rw [if_pos hc] at h
      refine G_iload rfl rfl ?_
      refine G_iload rfl rfl ?_
      refine G_if_eq 114 rfl rfl (fun hc => ?_) (fun hc => ?_)
      · rw [if_pos hc] at h
        refine G_iconst (1 : Int32) rfl (by decide) ?_
        exact Go.weak' (t_Mod_unlike_115 d hk4 _ _ _ _  _ h) ⟨rfl, rfl, trivial⟩
      · rw [if_neg hc] at h
        refine G_iconst (0 : Int32) rfl (by decide) ?_
        refine G_goto 115 rfl rfl ?_
        exact Go.weak' (t_Mod_unlike_115 d hk4 _ _ _ _  _ h) ⟨rfl, rfl, trivial⟩
    · rw [if_neg hc] at h
      refine G_iload rfl rfl ?_
      refine G_if_ne 93 rfl rfl (fun hc => ?_) (fun hc => ?_)
      · rw [if_neg hc] at h
        exact Go.weak' (t_Mod_unlike_93 d hk4 ih _ _ _ _  _ h) ⟨rfl, rfl, rfl, rfl, trivial⟩
      · rw [if_pos hc] at h
        refine G_aload rfl rfl ?_
        refine G_getR (ci := 10) 52 rfl rfl rfl rfl rfl ?_
        refine G_iconst (3 : Int32) rfl (by decide) ?_
        refine G_iload rfl rfl ?_
        refine G_imul rfl ?_
        obtain ⟨hg1, h⟩ := if_some h
        refine G_iald rfl rfl rfl hg1 ?_
        refine G_aload rfl rfl ?_
        refine G_getR (ci := 10) 52 rfl rfl rfl rfl rfl ?_
        refine G_iconst (3 : Int32) rfl (by decide) ?_
        refine G_iload rfl rfl ?_
        refine G_imul rfl ?_
        obtain ⟨hg2, h⟩ := if_some h
        refine G_iald rfl rfl rfl hg2 ?_
        refine G_ic_ne 97 rfl rfl (fun hc => ?_) (fun hc => ?_)
        · rw [if_neg hc] at h
          exact Go.weak' (t_Mod_unlike_97 d hk4 ih _ _ _ _  _ h) ⟨rfl, rfl, rfl, rfl, trivial⟩
        · rw [if_pos hc] at h
          refine G_aload rfl rfl ?_
          refine G_getR (ci := 10) 52 rfl rfl rfl rfl rfl ?_
          refine G_iconst (3 : Int32) rfl (by decide) ?_
          refine G_iload rfl rfl ?_
          refine G_imul rfl ?_
          refine G_iconst (1 : Int32) rfl (by decide) ?_
          refine G_iadd rfl ?_
          obtain ⟨hg3, h⟩ := if_some h
          refine G_iald rfl rfl rfl hg3 ?_
          refine G_aload rfl rfl ?_
          refine G_getR (ci := 10) 52 rfl rfl rfl rfl rfl ?_
          refine G_iconst (3 : Int32) rfl (by decide) ?_
          refine G_iload rfl rfl ?_
          refine G_imul rfl ?_
          refine G_iconst (1 : Int32) rfl (by decide) ?_
          refine G_iadd rfl ?_
          obtain ⟨hg4, h⟩ := if_some h
          refine G_iald rfl rfl rfl hg4 ?_
          refine G_ic_ne 97 rfl rfl (fun hc => ?_) (fun hc => ?_)
          · rw [if_neg hc] at h
            exact Go.weak' (t_Mod_unlike_97 d hk4 ih _ _ _ _  _ h) ⟨rfl, rfl, rfl, rfl, trivial⟩
          · rw [if_pos hc] at h
            refine G_aload rfl rfl ?_
            refine G_getR (ci := 10) 52 rfl rfl rfl rfl rfl ?_
            refine G_iconst (3 : Int32) rfl (by decide) ?_
            refine G_iload rfl rfl ?_
            refine G_imul rfl ?_
            refine G_iconst (2 : Int32) rfl (by decide) ?_
            refine G_iadd rfl ?_
            obtain ⟨hg5, h⟩ := if_some h
            refine G_iald rfl rfl rfl hg5 ?_
            refine G_aload rfl rfl ?_
            refine G_getR (ci := 10) 52 rfl rfl rfl rfl rfl ?_
            refine G_iconst (3 : Int32) rfl (by decide) ?_
            refine G_iload rfl rfl ?_
            refine G_imul rfl ?_
            refine G_iconst (2 : Int32) rfl (by decide) ?_
            refine G_iadd rfl ?_
            obtain ⟨hg6, h⟩ := if_some h
            refine G_iald rfl rfl rfl hg6 ?_
            refine G_ic_ne 97 rfl rfl (fun hc => ?_) (fun hc => ?_)
            · rw [if_neg hc] at h
              exact Go.weak' (t_Mod_unlike_97 d hk4 ih _ _ _ _  _ h) ⟨rfl, rfl, rfl, rfl, trivial⟩
            · rw [if_pos hc] at h
              exact Go.weak' (t_Mod_unlike_93 d hk4 ih _ _ _ _  _ h) ⟨rfl, rfl, rfl, rfl, trivial⟩
set_option maxRecDepth 100000 in
set_option maxHeartbeats 4000000 in
theorem t_Mod_unlike_4 (d : Nat)   : ∀ (n : Nat) (sg : Hp) (x1 : Int32) (x2 : Int32)  (y : Int32 × Hp), f_Mod_unlike_4  n sg x1 x2 = some y → Go (d + 0) none 181 4 [(0, .ref 46), (1, .int x1), (2, .int x2)] [] sg (some (.int y.1)) y.2 := by
  intro n
  induction n with
  | zero =>
    intro sg x1 x2 y h
    rw [f_Mod_unlike_4] at h
    cases h
  | succ n ih =>
    intro sg x1 x2 y h
    rw [f_Mod_unlike_4] at h
    refine G_iload rfl rfl ?_
    refine G_iconst (8 : Int32) rfl (by decide) ?_
    refine G_ic_ge 123 rfl rfl (fun hc => ?_) (fun hc => ?_)
    · rw [if_pos hc] at h
      refine G_iload rfl rfl ?_
      obtain rfl := Option.some.inj h
      exact G_iret rfl rfl
    · rw [if_neg hc] at h
      refine G_iconst (0 : Int32) rfl (by decide) ?_
      refine G_istore rfl rfl ?_
      refine G_iconst (0 : Int32) rfl (by decide) ?_
      refine G_istore rfl rfl ?_
      exact Go.weak' (t_Mod_unlike_15 d ih _ _ _ _ _ _  _ h) ⟨rfl, rfl, rfl, rfl, rfl, trivial⟩
set_option maxRecDepth 100000 in
set_option maxHeartbeats 4000000 in
theorem t_Mod_unlike (d : Nat) (sg : Hp)   (y : Int32 × Hp) (h : f_Mod_unlike sg  = some y) : Sm (d + 0) 181 [.ref 46] sg (some (.int y.1)) y.2 := by
  unfold f_Mod_unlike at h
  refine Sm.of (lv := [(0, .ref 46)]) rfl ?_
  refine G_iconst (0 : Int32) rfl (by decide) ?_
  refine G_istore rfl rfl ?_
  refine G_iconst (0 : Int32) rfl (by decide) ?_
  refine G_istore rfl rfl ?_
  exact Go.weak' (t_Mod_unlike_4 d  _ _ _ _  _ h) ⟨rfl, rfl, rfl, trivial⟩
set_option maxRecDepth 100000 in
set_option maxHeartbeats 4000000 in
theorem t_Mod_count (d : Nat) (sg : Hp) (x1 : Int32)  (y : Int32 × Hp) (h : f_Mod_count sg x1 = some y) : Sm (d + 4) 179 [.ref 46, .int x1] sg (some (.int y.1)) y.2 := by
  unfold f_Mod_count at h
  refine Sm.of (lv := [(0, .ref 46), (1, .int x1)]) rfl ?_
  refine G_iload rfl rfl ?_
  by_cases hc1_0 : x1 = (0 : Int32)
  · rw [if_pos hc1_0] at h
    refine G_tsw (t := 52) 52 rfl (by rw [hc1_0]; decide) (by rw [hc1_0]; rfl) rfl ?_
    refine G_aload rfl rfl ?_
    obtain ⟨y2, hy2, h⟩ := Option.bind_eq_some_iff.mp h
    refine G_callvI 1 (t_Mod_rolls _ _   _ hy2) rfl rfl rfl rfl rfl rfl rfl rfl rfl rfl rfl ?_
    obtain rfl := Option.some.inj h
    exact G_iret rfl rfl
  · rw [if_neg hc1_0] at h
    by_cases hc1_1 : x1 = (1 : Int32)
    · rw [if_pos hc1_1] at h
      refine G_tsw (t := 57) 57 rfl (by rw [hc1_1]; decide) (by rw [hc1_1]; rfl) rfl ?_
      refine G_aload rfl rfl ?_
      refine G_getI (ci := 10) 9 rfl rfl rfl rfl rfl ?_
      obtain rfl := Option.some.inj h
      exact G_iret rfl rfl
    · rw [if_neg hc1_1] at h
      by_cases hc1_2 : x1 = (2 : Int32)
      · rw [if_pos hc1_2] at h
        refine G_tsw (t := 62) 62 rfl (by rw [hc1_2]; decide) (by rw [hc1_2]; rfl) rfl ?_
        refine G_aload rfl rfl ?_
        refine G_getR (ci := 10) 51 rfl rfl rfl rfl rfl ?_
        refine G_iload rfl rfl ?_
        refine G_iconst (2 : Int32) rfl (by decide) ?_
        refine G_isub rfl ?_
        obtain ⟨hg3, h⟩ := if_some h
        refine G_iald rfl rfl rfl hg3 ?_
        obtain rfl := Option.some.inj h
        exact G_iret rfl rfl
      · rw [if_neg hc1_2] at h
        by_cases hc1_3 : x1 = (3 : Int32)
        · rw [if_pos hc1_3] at h
          refine G_tsw (t := 62) 62 rfl (by rw [hc1_3]; decide) (by rw [hc1_3]; rfl) rfl ?_
          refine G_aload rfl rfl ?_
          refine G_getR (ci := 10) 51 rfl rfl rfl rfl rfl ?_
          refine G_iload rfl rfl ?_
          refine G_iconst (2 : Int32) rfl (by decide) ?_
          refine G_isub rfl ?_
          obtain ⟨hg4, h⟩ := if_some h
          refine G_iald rfl rfl rfl hg4 ?_
          obtain rfl := Option.some.inj h
          exact G_iret rfl rfl
        · rw [if_neg hc1_3] at h
          by_cases hc1_4 : x1 = (4 : Int32)
          · rw [if_pos hc1_4] at h
            refine G_tsw (t := 62) 62 rfl (by rw [hc1_4]; decide) (by rw [hc1_4]; rfl) rfl ?_
            refine G_aload rfl rfl ?_
            refine G_getR (ci := 10) 51 rfl rfl rfl rfl rfl ?_
            refine G_iload rfl rfl ?_
            refine G_iconst (2 : Int32) rfl (by decide) ?_
            refine G_isub rfl ?_
            obtain ⟨hg5, h⟩ := if_some h
            refine G_iald rfl rfl rfl hg5 ?_
            obtain rfl := Option.some.inj h
            exact G_iret rfl rfl
          · rw [if_neg hc1_4] at h
            by_cases hc1_5 : x1 = (5 : Int32)
            · rw [if_pos hc1_5] at h
              refine G_tsw (t := 71) 71 rfl (by rw [hc1_5]; decide) (by rw [hc1_5]; rfl) rfl ?_
              refine G_aload rfl rfl ?_
              obtain ⟨y6, hy6, h⟩ := Option.bind_eq_some_iff.mp h
              refine G_callvI 1 (t_Mod_barred _ _   _ hy6) rfl rfl rfl rfl rfl rfl rfl rfl rfl rfl rfl ?_
              obtain rfl := Option.some.inj h
              exact G_iret rfl rfl
            · rw [if_neg hc1_5] at h
              by_cases hc1_6 : x1 = (6 : Int32)
              · rw [if_pos hc1_6] at h
                refine G_tsw (t := 76) 76 rfl (by rw [hc1_6]; decide) (by rw [hc1_6]; rfl) rfl ?_
                refine G_aload rfl rfl ?_
                obtain ⟨y7, hy7, h⟩ := Option.bind_eq_some_iff.mp h
                refine G_callvI 1 (t_Mod_unlike _ _   _ hy7) rfl rfl rfl rfl rfl rfl rfl rfl rfl rfl rfl ?_
                obtain rfl := Option.some.inj h
                exact G_iret rfl rfl
              · rw [if_neg hc1_6] at h
                by_cases hc1_7 : x1 = (7 : Int32)
                · rw [if_pos hc1_7] at h
                  refine G_tsw (t := 81) 81 rfl (by rw [hc1_7]; decide) (by rw [hc1_7]; rfl) rfl ?_
                  refine G_aload rfl rfl ?_
                  refine G_aload rfl rfl ?_
                  obtain ⟨y8, hy8, h⟩ := Option.bind_eq_some_iff.mp h
                  refine G_callvI 1 (t_Mod_rolls _ _   _ hy8) rfl rfl rfl rfl rfl rfl rfl rfl rfl rfl rfl ?_
                  refine G_iconst (0 : Int32) rfl (by decide) ?_
                  obtain ⟨y9, hy9, h⟩ := Option.bind_eq_some_iff.mp h
                  refine G_callvI 3 (t_Mod_laidOf _ _ _ _  _ hy9) rfl rfl rfl rfl rfl rfl rfl rfl rfl rfl rfl ?_
                  obtain rfl := Option.some.inj h
                  exact G_iret rfl rfl
                · rw [if_neg hc1_7] at h
                  by_cases hc1_8 : x1 = (8 : Int32)
                  · rw [if_pos hc1_8] at h
                    refine G_tsw (t := 91) 91 rfl (by rw [hc1_8]; decide) (by rw [hc1_8]; rfl) rfl ?_
                    refine G_aload rfl rfl ?_
                    refine G_getI (ci := 10) 4 rfl rfl rfl rfl rfl ?_
                    obtain rfl := Option.some.inj h
                    exact G_iret rfl rfl
                  · rw [if_neg hc1_8] at h
                    have q1_0 := ti_ne hc1_0 (n := 0) rfl
                    have q1_1 := ti_ne hc1_1 (n := 1) rfl
                    have q1_2 := ti_ne hc1_2 (n := 2) rfl
                    have q1_3 := ti_ne hc1_3 (n := 3) rfl
                    have q1_4 := ti_ne hc1_4 (n := 4) rfl
                    have q1_5 := ti_ne hc1_5 (n := 5) rfl
                    have q1_6 := ti_ne hc1_6 (n := 6) rfl
                    have q1_7 := ti_ne hc1_7 (n := 7) rfl
                    have q1_8 := ti_ne hc1_8 (n := 8) rfl
                    refine G_tswD 96 rfl (by omega) rfl ?_
                    refine G_iconst (-2 : Int32) rfl (by decide) ?_
                    obtain rfl := Option.some.inj h
                    exact G_iret rfl rfl
set_option maxRecDepth 100000 in
set_option maxHeartbeats 4000000 in
theorem t_Box_digest_212 (d : Nat)   : ∀ (n : Nat) (sg : Hp) (l1 : Int64) (x3 : Int32) (x4 : Int32)  (y : Int64 × Hp), f_Box_digest_212  n sg l1 x3 x4 = some y → Go (d + 13) none 97 212 [(0, .ref 0), (1, .long l1), (3, .int x3), (4, .int x4)] [] sg (some (.long y.1)) y.2 := by
  intro n
  induction n with
  | zero =>
    intro sg l1 x3 x4 y h
    rw [f_Box_digest_212] at h
    cases h
  | succ n ih =>
    intro sg l1 x3 x4 y h
    rw [f_Box_digest_212] at h
    refine G_iload rfl rfl ?_
    refine G_iconst (4 : Int32) rfl (by decide) ?_
    refine G_ic_gt 239 rfl rfl (fun hc => ?_) (fun hc => ?_)
    · rw [if_pos hc] at h
      refine G_ldc2 (31 : Int64) rfl (by decide) ?_
      refine G_lload rfl rfl ?_
      refine G_lmul rfl ?_
      refine G_aload rfl rfl ?_
      obtain ⟨y3, hy3, h⟩ := Option.bind_eq_some_iff.mp h
      refine G_callvI 1 (t_Box_sit _ _   _ hy3) rfl rfl rfl rfl rfl rfl rfl rfl rfl rfl rfl ?_
      refine G_i2l rfl ?_
      refine G_ladd rfl ?_
      refine G_lstore rfl rfl ?_
      refine G_ldc2 (31 : Int64) rfl (by decide) ?_
      refine G_lload rfl rfl ?_
      refine G_lmul rfl ?_
      refine G_aload rfl rfl ?_
      refine G_iconst (0 : Int32) rfl (by decide) ?_
      refine G_iconst (1 : Int32) rfl (by decide) ?_
      obtain ⟨y4, hy4, h⟩ := Option.bind_eq_some_iff.mp h
      refine G_callvI 3 (t_Box_nearer _ _ _ _  _ hy4) rfl rfl rfl rfl rfl rfl rfl rfl rfl rfl rfl ?_
      refine G_i2l rfl ?_
      refine G_ladd rfl ?_
      refine G_lstore rfl rfl ?_
      refine G_ldc2 (31 : Int64) rfl (by decide) ?_
      refine G_lload rfl rfl ?_
      refine G_lmul rfl ?_
      refine G_aload rfl rfl ?_
      refine G_iconst (255 : Int32) rfl (by decide) ?_
      refine G_iconst (-1 : Int32) rfl (by decide) ?_
      obtain ⟨y5, hy5, h⟩ := Option.bind_eq_some_iff.mp h
      refine G_callvI 3 (t_Box_wires _ _ _ _  _ hy5) rfl rfl rfl rfl rfl rfl rfl rfl rfl rfl rfl ?_
      refine G_i2l rfl ?_
      refine G_ladd rfl ?_
      refine G_lstore rfl rfl ?_
      refine G_ldc2 (31 : Int64) rfl (by decide) ?_
      refine G_lload rfl rfl ?_
      refine G_lmul rfl ?_
      refine G_aload rfl rfl ?_
      refine G_iconst (255 : Int32) rfl (by decide) ?_
      refine G_iconst (-2 : Int32) rfl (by decide) ?_
      obtain ⟨y6, hy6, h⟩ := Option.bind_eq_some_iff.mp h
      refine G_callvI 3 (t_Box_wires _ _ _ _  _ hy6) rfl rfl rfl rfl rfl rfl rfl rfl rfl rfl rfl ?_
      refine G_i2l rfl ?_
      refine G_ladd rfl ?_
      refine G_lstore rfl rfl ?_
      refine G_ldc2 (31 : Int64) rfl (by decide) ?_
      refine G_lload rfl rfl ?_
      refine G_lmul rfl ?_
      refine G_aload rfl rfl ?_
      refine G_iconst (255 : Int32) rfl (by decide) ?_
      refine G_iconst (0 : Int32) rfl (by decide) ?_
      obtain ⟨y7, hy7, h⟩ := Option.bind_eq_some_iff.mp h
      refine G_callvI 3 (t_Box_wires _ _ _ _  _ hy7) rfl rfl rfl rfl rfl rfl rfl rfl rfl rfl rfl ?_
      refine G_i2l rfl ?_
      refine G_ladd rfl ?_
      refine G_lstore rfl rfl ?_
      refine G_ldc2 (31 : Int64) rfl (by decide) ?_
      refine G_lload rfl rfl ?_
      refine G_lmul rfl ?_
      refine G_aload rfl rfl ?_
      refine G_iconst (0 : Int32) rfl (by decide) ?_
      refine G_iconst (0 : Int32) rfl (by decide) ?_
      refine G_iconst (1 : Int32) rfl (by decide) ?_
      refine G_iload rfl rfl ?_
      obtain ⟨y8, hy8, h⟩ := Option.bind_eq_some_iff.mp h
      refine G_callvI 5 (t_Box_told _ _ _ _ _ _  _ hy8) rfl rfl rfl rfl rfl rfl rfl rfl rfl rfl rfl ?_
      refine G_i2l rfl ?_
      refine G_ladd rfl ?_
      refine G_lstore rfl rfl ?_
      refine G_ldc2 (31 : Int64) rfl (by decide) ?_
      refine G_lload rfl rfl ?_
      refine G_lmul rfl ?_
      refine G_aload rfl rfl ?_
      refine G_iconst (2 : Int32) rfl (by decide) ?_
      refine G_iconst (1 : Int32) rfl (by decide) ?_
      refine G_iconst (5 : Int32) rfl (by decide) ?_
      refine G_iconst (0 : Int32) rfl (by decide) ?_
      obtain ⟨y9, hy9, h⟩ := Option.bind_eq_some_iff.mp h
      refine G_callvI 5 (t_Box_snail _ _ _ _ _ _  _ hy9) rfl rfl rfl rfl rfl rfl rfl rfl rfl rfl rfl ?_
      refine G_i2l rfl ?_
      refine G_ladd rfl ?_
      refine G_lstore rfl rfl ?_
      refine G_ldc2 (31 : Int64) rfl (by decide) ?_
      refine G_lload rfl rfl ?_
      refine G_lmul rfl ?_
      refine G_aload rfl rfl ?_
      refine G_iconst (3 : Int32) rfl (by decide) ?_
      refine G_iconst (-2 : Int32) rfl (by decide) ?_
      refine G_iconst (8 : Int32) rfl (by decide) ?_
      refine G_iconst (1 : Int32) rfl (by decide) ?_
      obtain ⟨y10, hy10, h⟩ := Option.bind_eq_some_iff.mp h
      refine G_callvI 5 (t_Box_snail _ _ _ _ _ _  _ hy10) rfl rfl rfl rfl rfl rfl rfl rfl rfl rfl rfl ?_
      refine G_i2l rfl ?_
      refine G_ladd rfl ?_
      refine G_lstore rfl rfl ?_
      refine G_ldc2 (31 : Int64) rfl (by decide) ?_
      refine G_lload rfl rfl ?_
      refine G_lmul rfl ?_
      refine G_aload rfl rfl ?_
      refine G_iconst (0 : Int32) rfl (by decide) ?_
      refine G_iconst (1 : Int32) rfl (by decide) ?_
      refine G_iconst (100 : Int32) rfl (by decide) ?_
      refine G_iconst (0 : Int32) rfl (by decide) ?_
      obtain ⟨y11, hy11, h⟩ := Option.bind_eq_some_iff.mp h
      refine G_callvI 5 (t_Box_thread _ _ _ _ _ _  _ hy11) rfl rfl rfl rfl rfl rfl rfl rfl rfl rfl rfl ?_
      refine G_i2l rfl ?_
      refine G_ladd rfl ?_
      refine G_lstore rfl rfl ?_
      refine G_ldc2 (31 : Int64) rfl (by decide) ?_
      refine G_lload rfl rfl ?_
      refine G_lmul rfl ?_
      refine G_aload rfl rfl ?_
      refine G_iconst (0 : Int32) rfl (by decide) ?_
      refine G_iconst (7 : Int32) rfl (by decide) ?_
      refine G_iconst (20 : Int32) rfl (by decide) ?_
      refine G_iconst (300 : Int32) rfl (by decide) ?_
      obtain ⟨y12, hy12, h⟩ := Option.bind_eq_some_iff.mp h
      refine G_callvI 5 (t_Box_flies _ _ _ _ _ _  _ hy12) rfl rfl rfl rfl rfl rfl rfl rfl rfl rfl rfl ?_
      refine G_i2l rfl ?_
      refine G_ladd rfl ?_
      refine G_lstore rfl rfl ?_
      refine G_lload rfl rfl ?_
      obtain rfl := Option.some.inj h
      exact G_lret rfl rfl
    · rw [if_neg hc] at h
      refine G_ldc2 (31 : Int64) rfl (by decide) ?_
      refine G_lload rfl rfl ?_
      refine G_lmul rfl ?_
      refine G_aload rfl rfl ?_
      refine G_iload rfl rfl ?_
      refine G_iload rfl rfl ?_
      obtain ⟨y13, hy13, h⟩ := Option.bind_eq_some_iff.mp h
      refine G_callvI 3 (t_Box_laidOut _ _ _ _  _ hy13) rfl rfl rfl rfl rfl rfl rfl rfl rfl rfl rfl ?_
      refine G_i2l rfl ?_
      refine G_ladd rfl ?_
      refine G_lstore rfl rfl ?_
      refine G_iinc (1 : Int32) rfl (by decide) rfl rfl ?_
      refine G_goto 212 rfl rfl ?_
      exact Go.weak' (ih _ _ _ _  _ h) ⟨rfl, rfl, rfl, rfl, trivial⟩
set_option maxRecDepth 100000 in
set_option maxHeartbeats 4000000 in
theorem t_Box_digest_122 (d : Nat) {k45 : Hp → Int64 → Int32 → Option (Int64 × Hp)} (hk45 : ∀ (sg : Hp) (l1 : Int64) (x3 : Int32)  (y : Int64 × Hp), k45 sg l1 x3 = some y → Go (d + 13) none 97 45 [(0, .ref 0), (1, .long l1), (3, .int x3)] [] sg (some (.long y.1)) y.2) : ∀ (n : Nat) (sg : Hp) (l1 : Int64) (x3 : Int32) (x4 : Int32) (x5 : Int32)  (y : Int64 × Hp), f_Box_digest_122 k45 n sg l1 x3 x4 x5 = some y → Go (d + 13) none 97 122 [(0, .ref 0), (1, .long l1), (3, .int x3), (4, .int x4), (5, .int x5)] [] sg (some (.long y.1)) y.2 := by
  intro n
  induction n with
  | zero =>
    intro sg l1 x3 x4 x5 y h
    rw [f_Box_digest_122] at h
    cases h
  | succ n ih =>
    intro sg l1 x3 x4 x5 y h
    rw [f_Box_digest_122] at h
    refine G_iload rfl rfl ?_
    refine G_iconst (2 : Int32) rfl (by decide) ?_
    refine G_ic_gt 151 rfl rfl (fun hc => ?_) (fun hc => ?_)
    · rw [if_pos hc] at h
      refine G_ldc2 (31 : Int64) rfl (by decide) ?_
      refine G_lload rfl rfl ?_
      refine G_lmul rfl ?_
      refine G_aload rfl rfl ?_
      refine G_iload rfl rfl ?_
      obtain ⟨y16, hy16, h⟩ := Option.bind_eq_some_iff.mp h
      refine G_callvI 2 (t_Box_farthest _ _ _  _ hy16) rfl rfl rfl rfl rfl rfl rfl rfl rfl rfl rfl ?_
      refine G_i2l rfl ?_
      refine G_ladd rfl ?_
      refine G_lstore rfl rfl ?_
      refine G_ldc2 (31 : Int64) rfl (by decide) ?_
      refine G_lload rfl rfl ?_
      refine G_lmul rfl ?_
      refine G_aload rfl rfl ?_
      refine G_iload rfl rfl ?_
      refine G_iconst (200 : Int32) rfl (by decide) ?_
      obtain ⟨y17, hy17, h⟩ := Option.bind_eq_some_iff.mp h
      refine G_callvI 3 (t_Box_within _ _ _ _  _ hy17) rfl rfl rfl rfl rfl rfl rfl rfl rfl rfl rfl ?_
      refine G_i2l rfl ?_
      refine G_ladd rfl ?_
      refine G_lstore rfl rfl ?_
      refine G_ldc2 (31 : Int64) rfl (by decide) ?_
      refine G_lload rfl rfl ?_
      refine G_lmul rfl ?_
      refine G_aload rfl rfl ?_
      refine G_iload rfl rfl ?_
      refine G_iconst (0 : Int32) rfl (by decide) ?_
      refine G_iconst (0 : Int32) rfl (by decide) ?_
      obtain ⟨y18, hy18, h⟩ := Option.bind_eq_some_iff.mp h
      refine G_callvI 4 (t_Box_lies _ _ _ _ _  _ hy18) rfl rfl rfl rfl rfl rfl rfl rfl rfl rfl rfl ?_
      refine G_i2l rfl ?_
      refine G_ladd rfl ?_
      refine G_lstore rfl rfl ?_
      refine G_iinc (1 : Int32) rfl (by decide) rfl rfl ?_
      refine G_goto 45 rfl rfl ?_
      exact Go.weak' (hk45 _ _ _  _ h) ⟨rfl, rfl, rfl, trivial⟩
    · rw [if_neg hc] at h
      refine G_ldc2 (31 : Int64) rfl (by decide) ?_
      refine G_lload rfl rfl ?_
      refine G_lmul rfl ?_
      refine G_aload rfl rfl ?_
      refine G_iload rfl rfl ?_
      refine G_iload rfl rfl ?_
      refine G_iload rfl rfl ?_
      obtain ⟨y19, hy19, h⟩ := Option.bind_eq_some_iff.mp h
      refine G_callvI 4 (t_Box_face _ _ _ _ _  _ hy19) rfl rfl rfl rfl rfl rfl rfl rfl rfl rfl rfl ?_
      refine G_i2l rfl ?_
      refine G_ladd rfl ?_
      refine G_lstore rfl rfl ?_
      refine G_iinc (1 : Int32) rfl (by decide) rfl rfl ?_
      refine G_goto 122 rfl rfl ?_
      exact Go.weak' (ih _ _ _ _ _  _ h) ⟨rfl, rfl, rfl, rfl, rfl, trivial⟩
set_option maxRecDepth 100000 in
set_option maxHeartbeats 4000000 in
theorem t_Box_digest_62 (d : Nat) {k45 : Hp → Int64 → Int32 → Option (Int64 × Hp)} (hk45 : ∀ (sg : Hp) (l1 : Int64) (x3 : Int32)  (y : Int64 × Hp), k45 sg l1 x3 = some y → Go (d + 13) none 97 45 [(0, .ref 0), (1, .long l1), (3, .int x3)] [] sg (some (.long y.1)) y.2) : ∀ (n : Nat) (sg : Hp) (l1 : Int64) (x3 : Int32) (x4 : Int32) (x5 : Int32)  (y : Int64 × Hp), f_Box_digest_62 k45 n sg l1 x3 x4 x5 = some y → Go (d + 13) none 97 62 [(0, .ref 0), (1, .long l1), (3, .int x3), (4, .int x4), (5, .int x5)] [] sg (some (.long y.1)) y.2 := by
  intro n
  induction n with
  | zero =>
    intro sg l1 x3 x4 x5 y h
    rw [f_Box_digest_62] at h
    cases h
  | succ n ih =>
    intro sg l1 x3 x4 x5 y h
    rw [f_Box_digest_62] at h
    refine G_iload rfl rfl ?_
    refine G_iconst (3 : Int32) rfl (by decide) ?_
    refine G_ic_gt 89 rfl rfl (fun hc => ?_) (fun hc => ?_)
    · rw [if_pos hc] at h
      refine G_ldc2 (31 : Int64) rfl (by decide) ?_
      refine G_lload rfl rfl ?_
      refine G_lmul rfl ?_
      refine G_aload rfl rfl ?_
      refine G_iload rfl rfl ?_
      refine G_iload rfl rfl ?_
      obtain ⟨y14, hy14, h⟩ := Option.bind_eq_some_iff.mp h
      refine G_callvI 3 (t_Box_shortest _ _ _ _  _ hy14) rfl rfl rfl rfl rfl rfl rfl rfl rfl rfl rfl ?_
      refine G_i2l rfl ?_
      refine G_ladd rfl ?_
      refine G_lstore rfl rfl ?_
      refine G_ldc2 (31 : Int64) rfl (by decide) ?_
      refine G_lload rfl rfl ?_
      refine G_lmul rfl ?_
      refine G_aload rfl rfl ?_
      refine G_iload rfl rfl ?_
      refine G_iload rfl rfl ?_
      obtain ⟨y15, hy15, h⟩ := Option.bind_eq_some_iff.mp h
      refine G_callvI 3 (t_Box_ways _ _ _ _  _ hy15) rfl rfl rfl rfl rfl rfl rfl rfl rfl rfl rfl ?_
      refine G_i2l rfl ?_
      refine G_ladd rfl ?_
      refine G_lstore rfl rfl ?_
      refine G_iconst (0 : Int32) rfl (by decide) ?_
      refine G_istore rfl rfl ?_
      exact Go.weak' (t_Box_digest_122 d hk45 _ _ _ _ _ _  _ h) ⟨rfl, rfl, rfl, rfl, rfl, trivial⟩
    · rw [if_neg hc] at h
      refine G_ldc2 (31 : Int64) rfl (by decide) ?_
      refine G_lload rfl rfl ?_
      refine G_lmul rfl ?_
      refine G_aload rfl rfl ?_
      refine G_iload rfl rfl ?_
      refine G_iload rfl rfl ?_
      obtain ⟨y20, hy20, h⟩ := Option.bind_eq_some_iff.mp h
      refine G_callvI 3 (t_Box_at _ _ _ _  _ hy20) rfl rfl rfl rfl rfl rfl rfl rfl rfl rfl rfl ?_
      refine G_i2l rfl ?_
      refine G_ladd rfl ?_
      refine G_lstore rfl rfl ?_
      refine G_iinc (1 : Int32) rfl (by decide) rfl rfl ?_
      refine G_goto 62 rfl rfl ?_
      exact Go.weak' (ih _ _ _ _ _  _ h) ⟨rfl, rfl, rfl, rfl, rfl, trivial⟩
set_option maxRecDepth 100000 in
set_option maxHeartbeats 4000000 in
theorem t_Box_digest_45 (d : Nat)   : ∀ (n : Nat) (sg : Hp) (l1 : Int64) (x3 : Int32)  (y : Int64 × Hp), f_Box_digest_45  n sg l1 x3 = some y → Go (d + 13) none 97 45 [(0, .ref 0), (1, .long l1), (3, .int x3)] [] sg (some (.long y.1)) y.2 := by
  intro n
  induction n with
  | zero =>
    intro sg l1 x3 y h
    rw [f_Box_digest_45] at h
    cases h
  | succ n ih =>
    intro sg l1 x3 y h
    rw [f_Box_digest_45] at h
    refine G_iload rfl rfl ?_
    refine G_iconst (8 : Int32) rfl (by decide) ?_
    refine G_ic_ge 201 rfl rfl (fun hc => ?_) (fun hc => ?_)
    · rw [if_pos hc] at h
      refine G_aload rfl rfl ?_
      refine G_getR (ci := 9) 9 rfl rfl rfl rfl rfl ?_
      obtain ⟨y2, hy2, h⟩ := Option.bind_eq_some_iff.mp h
      refine G_callvI 1 (t_Rolls_valid _ _   _ hy2) rfl rfl rfl rfl rfl rfl rfl rfl rfl rfl rfl ?_
      refine G_istore rfl rfl ?_
      refine G_iconst (0 : Int32) rfl (by decide) ?_
      refine G_istore rfl rfl ?_
      exact Go.weak' (t_Box_digest_212 d  _ _ _ _ _  _ h) ⟨rfl, rfl, rfl, rfl, trivial⟩
    · rw [if_neg hc] at h
      refine G_iload rfl rfl ?_
      refine G_iconst (1 : Int32) rfl (by decide) ?_
      refine G_iadd rfl ?_
      refine G_iconst (8 : Int32) rfl (by decide) ?_
      refine G_irem rfl (by decide) ?_
      refine G_istore rfl rfl ?_
      refine G_iconst (0 : Int32) rfl (by decide) ?_
      refine G_istore rfl rfl ?_
      exact Go.weak' (t_Box_digest_62 d ih _ _ _ _ _ _  _ h) ⟨rfl, rfl, rfl, rfl, rfl, trivial⟩
set_option maxRecDepth 100000 in
set_option maxHeartbeats 4000000 in
theorem t_Box_digest_6 (d : Nat)   : ∀ (n : Nat) (sg : Hp) (l1 : Int64) (x3 : Int32)  (y : Int64 × Hp), f_Box_digest_6  n sg l1 x3 = some y → Go (d + 13) none 97 6 [(0, .ref 0), (1, .long l1), (3, .int x3)] [] sg (some (.long y.1)) y.2 := by
  intro n
  induction n with
  | zero =>
    intro sg l1 x3 y h
    rw [f_Box_digest_6] at h
    cases h
  | succ n ih =>
    intro sg l1 x3 y h
    rw [f_Box_digest_6] at h
    refine G_iload rfl rfl ?_
    refine G_iconst (7 : Int32) rfl (by decide) ?_
    refine G_ic_gt 31 rfl rfl (fun hc => ?_) (fun hc => ?_)
    · rw [if_pos hc] at h
      refine G_ldc2 (31 : Int64) rfl (by decide) ?_
      refine G_lload rfl rfl ?_
      refine G_lmul rfl ?_
      refine G_aload rfl rfl ?_
      obtain ⟨y1, hy1, h⟩ := Option.bind_eq_some_iff.mp h
      refine G_callvI 1 (t_Box_fault _ _   _ hy1) rfl rfl rfl rfl rfl rfl rfl rfl rfl rfl rfl ?_
      refine G_i2l rfl ?_
      refine G_ladd rfl ?_
      refine G_lstore rfl rfl ?_
      refine G_iconst (0 : Int32) rfl (by decide) ?_
      refine G_istore rfl rfl ?_
      exact Go.weak' (t_Box_digest_45 d  _ _ _ _  _ h) ⟨rfl, rfl, rfl, trivial⟩
    · rw [if_neg hc] at h
      refine G_ldc2 (31 : Int64) rfl (by decide) ?_
      refine G_lload rfl rfl ?_
      refine G_lmul rfl ?_
      refine G_aload rfl rfl ?_
      refine G_iload rfl rfl ?_
      obtain ⟨y21, hy21, h⟩ := Option.bind_eq_some_iff.mp h
      refine G_callvI 2 (t_Box_count _ _ _  _ hy21) rfl rfl rfl rfl rfl rfl rfl rfl rfl rfl rfl ?_
      refine G_i2l rfl ?_
      refine G_ladd rfl ?_
      refine G_lstore rfl rfl ?_
      refine G_iinc (1 : Int32) rfl (by decide) rfl rfl ?_
      refine G_goto 6 rfl rfl ?_
      exact Go.weak' (ih _ _ _  _ h) ⟨rfl, rfl, rfl, trivial⟩
set_option maxRecDepth 100000 in
set_option maxHeartbeats 4000000 in
theorem t_Box_digest (d : Nat) (sg : Hp)   (y : Int64 × Hp) (h : f_Box_digest sg  = some y) : Sm (d + 13) 97 [.ref 0] sg (some (.long y.1)) y.2 := by
  unfold f_Box_digest at h
  refine Sm.of (lv := [(0, .ref 0)]) rfl ?_
  refine G_ldc2 (17 : Int64) rfl (by decide) ?_
  refine G_lstore rfl rfl ?_
  refine G_iconst (0 : Int32) rfl (by decide) ?_
  refine G_istore rfl rfl ?_
  exact Go.weak' (t_Box_digest_6 d  _ _ _ _  _ h) ⟨rfl, rfl, rfl, trivial⟩
