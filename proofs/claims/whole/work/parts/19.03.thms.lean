set_option maxRecDepth 100000 in
set_option maxHeartbeats 4000000 in
theorem t_Wiring_joinNext_71 (d : Nat) {k8 : Hp → Int32 → Int32 → Int32 → Int32 → Option (Int32 × Hp)} (hk8 : ∀ (sg : Hp) (x2 : Int32) (x3 : Int32) (x4 : Int32) (x5 : Int32)  (y : Int32 × Hp), k8 sg x2 x3 x4 x5 = some y → Go (d + 11) none 67 8 [(0, .ref 29), (1, .ref 24), (2, .int x2), (3, .int x3), (4, .int x4), (5, .int x5)] [] sg (some (.int y.1)) y.2) (sg : Hp) (x2 : Int32) (x3 : Int32) (x4 : Int32) (x5 : Int32)  (y : Int32 × Hp) (h : f_Wiring_joinNext_71 k8 sg x2 x3 x4 x5 = some y) : Go (d + 11) none 67 71 [(0, .ref 29), (1, .ref 24), (2, .int x2), (3, .int x3), (4, .int x4), (5, .int x5)] [] sg (some (.int y.1)) y.2 := by
  unfold f_Wiring_joinNext_71 at h
  refine G_iinc (1 : Int32) rfl (by decide) rfl rfl ?_
  refine G_goto 8 rfl rfl ?_
  exact Go.weak' (hk8 _ _ _ _ _  _ h) ⟨rfl, rfl, rfl, rfl, rfl, rfl, trivial⟩
set_option maxRecDepth 100000 in
set_option maxHeartbeats 4000000 in
theorem t_Wiring_joinNext_64 (d : Nat) {k8 : Hp → Int32 → Int32 → Int32 → Int32 → Option (Int32 × Hp)} (hk8 : ∀ (sg : Hp) (x2 : Int32) (x3 : Int32) (x4 : Int32) (x5 : Int32)  (y : Int32 × Hp), k8 sg x2 x3 x4 x5 = some y → Go (d + 11) none 67 8 [(0, .ref 29), (1, .ref 24), (2, .int x2), (3, .int x3), (4, .int x4), (5, .int x5)] [] sg (some (.int y.1)) y.2) (sg : Hp) (x2 : Int32) (x5 : Int32) (x6 : Int32)  (y : Int32 × Hp) (h : f_Wiring_joinNext_64 k8 sg x2 x5 x6 = some y) : Go (d + 11) none 67 64 [(0, .ref 29), (1, .ref 24), (2, .int x2), (5, .int x5), (6, .int x6)] [] sg (some (.int y.1)) y.2 := by
  unfold f_Wiring_joinNext_64 at h
  refine G_iload rfl rfl ?_
  refine G_istore rfl rfl ?_
  refine G_iload rfl rfl ?_
  refine G_istore rfl rfl ?_
  exact Go.weak' (t_Wiring_joinNext_71 d hk8 _ _ _ _ _  _ h) ⟨rfl, rfl, rfl, rfl, rfl, rfl, trivial⟩
set_option maxRecDepth 100000 in
set_option maxHeartbeats 4000000 in
theorem t_Wiring_joinNext_8 (d : Nat)   : ∀ (n : Nat) (sg : Hp) (x2 : Int32) (x3 : Int32) (x4 : Int32) (x5 : Int32)  (y : Int32 × Hp), f_Wiring_joinNext_8  n sg x2 x3 x4 x5 = some y → Go (d + 11) none 67 8 [(0, .ref 29), (1, .ref 24), (2, .int x2), (3, .int x3), (4, .int x4), (5, .int x5)] [] sg (some (.int y.1)) y.2 := by
  intro n
  induction n with
  | zero =>
    intro sg x2 x3 x4 x5 y h
    rw [f_Wiring_joinNext_8] at h
    cases h
  | succ n ih =>
    intro sg x2 x3 x4 x5 y h
    rw [f_Wiring_joinNext_8] at h
    refine G_iload rfl rfl ?_
    refine G_iconst (64 : Int32) rfl (by decide) ?_
    refine G_ic_ge 77 rfl rfl (fun hc => ?_) (fun hc => ?_)
    · rw [if_pos hc] at h
      refine G_iload rfl rfl ?_
      refine G_iconst (-1 : Int32) rfl (by decide) ?_
      refine G_ic_eq 91 rfl rfl (fun hc => ?_) (fun hc => ?_)
      · rw [if_pos hc] at h
        refine G_iconst (0 : Int32) rfl (by decide) ?_
        obtain rfl := Option.some.inj h
        exact G_iret rfl rfl
      · rw [if_neg hc] at h
        refine G_aload rfl rfl ?_
        refine G_getI (ci := 8) 2 rfl rfl rfl rfl rfl ?_
        refine G_iconst (8 : Int32) rfl (by decide) ?_
        refine G_ic_lt 93 rfl rfl (fun hc => ?_) (fun hc => ?_)
        · rw [if_pos hc] at h
          refine G_aload rfl rfl ?_
          refine G_getR (ci := 8) 31 rfl rfl rfl rfl rfl ?_
          refine G_aload rfl rfl ?_
          refine G_getI (ci := 8) 2 rfl rfl rfl rfl rfl ?_
          refine G_iload rfl rfl ?_
          obtain ⟨hg1, h⟩ := if_some h
          obtain ⟨s2, hs2, h⟩ := Option.bind_eq_some_iff.mp h
          refine G_iast rfl rfl rfl hg1 (Option.some.inj hs2) ?_
          refine G_aload rfl rfl ?_
          refine G_dupr rfl ?_
          refine G_getI (ci := 8) 2 rfl rfl rfl rfl rfl ?_
          refine G_iconst (1 : Int32) rfl (by decide) ?_
          refine G_iadd rfl ?_
          obtain ⟨s3, hs3, h⟩ := Option.bind_eq_some_iff.mp h
          refine G_putI (ci := 8) 2 rfl rfl rfl rfl rfl (Option.some.inj hs3) ?_
          refine G_aload rfl rfl ?_
          refine G_iload rfl rfl ?_
          obtain ⟨s4, hs4, h⟩ := Option.bind_eq_some_iff.mp h
          refine G_putI (ci := 8) 3 rfl rfl rfl rfl rfl (Option.some.inj hs4) ?_
          refine G_aload rfl rfl ?_
          refine G_aload rfl rfl ?_
          refine G_getR (ci := 8) 30 rfl rfl rfl rfl rfl ?_
          refine G_iload rfl rfl ?_
          refine G_iconst (8 : Int32) rfl (by decide) ?_
          refine G_idiv rfl (by decide) ?_
          obtain ⟨hg5, h⟩ := if_some h
          refine G_iald rfl rfl rfl hg5 ?_
          refine G_aload rfl rfl ?_
          refine G_getR (ci := 8) 30 rfl rfl rfl rfl rfl ?_
          refine G_iload rfl rfl ?_
          refine G_iconst (8 : Int32) rfl (by decide) ?_
          refine G_irem rfl (by decide) ?_
          obtain ⟨hg6, h⟩ := if_some h
          refine G_iald rfl rfl rfl hg6 ?_
          obtain ⟨y7, hy7, h⟩ := Option.bind_eq_some_iff.mp h
          refine G_callvV 3 (t_Wiring_unite _ _ _ _  _ hy7) rfl rfl rfl rfl rfl rfl rfl rfl rfl rfl rfl ?_
          refine G_iconst (1 : Int32) rfl (by decide) ?_
          obtain rfl := Option.some.inj h
          exact G_iret rfl rfl
        · rw [if_neg hc] at h
          refine G_iconst (0 : Int32) rfl (by decide) ?_
          obtain rfl := Option.some.inj h
          exact G_iret rfl rfl
    · rw [if_neg hc] at h
      refine G_aload rfl rfl ?_
      refine G_iload rfl rfl ?_
      refine G_iload rfl rfl ?_
      obtain ⟨y8, hy8, h⟩ := Option.bind_eq_some_iff.mp h
      refine G_callvI 3 (t_Wiring_isOpen _ _ _ _  _ hy8) rfl rfl rfl rfl rfl rfl rfl rfl rfl rfl rfl ?_
      refine G_if_eq 71 rfl rfl (fun hc => ?_) (fun hc => ?_)
      · rw [if_pos hc] at h
        exact Go.weak' (t_Wiring_joinNext_71 d ih _ _ _ _ _  _ h) ⟨rfl, rfl, rfl, rfl, rfl, rfl, trivial⟩
      · rw [if_neg hc] at h
        refine G_aload rfl rfl ?_
        refine G_getR (ci := 7) 25 rfl rfl rfl rfl rfl ?_
        refine G_aload rfl rfl ?_
        refine G_iload rfl rfl ?_
        refine G_iconst (8 : Int32) rfl (by decide) ?_
        refine G_idiv rfl (by decide) ?_
        refine G_iload rfl rfl ?_
        refine G_iconst (8 : Int32) rfl (by decide) ?_
        refine G_irem rfl (by decide) ?_
        obtain ⟨y9, hy9, h⟩ := Option.bind_eq_some_iff.mp h
        refine G_callvI 3 (t_Table_look _ _ _ _  _ hy9) rfl rfl rfl rfl rfl rfl rfl rfl rfl rfl rfl ?_
        obtain ⟨hg10, h⟩ := if_some h
        refine G_iald rfl rfl rfl hg10 ?_
        refine G_istore rfl rfl ?_
        refine G_iload rfl rfl ?_
        refine G_iconst (-1 : Int32) rfl (by decide) ?_
        refine G_ic_eq 71 rfl rfl (fun hc => ?_) (fun hc => ?_)
        · rw [if_pos hc] at h
          exact Go.weak' (t_Wiring_joinNext_71 d ih _ _ _ _ _  _ h) ⟨rfl, rfl, rfl, rfl, rfl, rfl, trivial⟩
        · rw [if_neg hc] at h
          refine G_iload rfl rfl ?_
          refine G_iconst (-1 : Int32) rfl (by decide) ?_
          refine G_ic_eq 64 rfl rfl (fun hc => ?_) (fun hc => ?_)
          · rw [if_pos hc] at h
            exact Go.weak' (t_Wiring_joinNext_64 d ih _ _ _ _  _ h) ⟨rfl, rfl, rfl, rfl, rfl, trivial⟩
          · rw [if_neg hc] at h
            refine G_iload rfl rfl ?_
            refine G_iload rfl rfl ?_
            refine G_ic_ge 71 rfl rfl (fun hc => ?_) (fun hc => ?_)
            · rw [if_pos hc] at h
              exact Go.weak' (t_Wiring_joinNext_71 d ih _ _ _ _ _  _ h) ⟨rfl, rfl, rfl, rfl, rfl, rfl, trivial⟩
            · rw [if_neg hc] at h
              exact Go.weak' (t_Wiring_joinNext_64 d ih _ _ _ _  _ h) ⟨rfl, rfl, rfl, rfl, rfl, trivial⟩
set_option maxRecDepth 100000 in
set_option maxHeartbeats 4000000 in
theorem t_Wiring_joinNext (d : Nat) (sg : Hp) (x2 : Int32)  (y : Int32 × Hp) (h : f_Wiring_joinNext sg x2 = some y) : Sm (d + 11) 67 [.ref 29, .ref 24, .int x2] sg (some (.int y.1)) y.2 := by
  unfold f_Wiring_joinNext at h
  refine Sm.of (lv := [(0, .ref 29), (1, .ref 24), (2, .int x2)]) rfl ?_
  refine G_iconst (-1 : Int32) rfl (by decide) ?_
  refine G_istore rfl rfl ?_
  refine G_iconst (-1 : Int32) rfl (by decide) ?_
  refine G_istore rfl rfl ?_
  refine G_iconst (0 : Int32) rfl (by decide) ?_
  refine G_istore rfl rfl ?_
  exact Go.weak' (t_Wiring_joinNext_8 d  _ _ _ _ _ _  _ h) ⟨rfl, rfl, rfl, rfl, rfl, rfl, trivial⟩
set_option maxRecDepth 100000 in
set_option maxHeartbeats 4000000 in
theorem t_Box_wires_62 (d : Nat)   (sg : Hp) (x2 : Int32)  (y : Int32 × Hp) (h : f_Box_wires_62  sg x2 = some y) : Go (d + 12) none 65 62 [(0, .ref 0), (2, .int x2)] [] sg (some (.int y.1)) y.2 := by
  unfold f_Box_wires_62 at h
  refine G_iload rfl rfl ?_
  refine G_iconst (-1 : Int32) rfl (by decide) ?_
  refine G_ic_ne 75 rfl rfl (fun hc => ?_) (fun hc => ?_)
  · rw [if_neg hc] at h
    refine G_iload rfl rfl ?_
    refine G_iconst (-2 : Int32) rfl (by decide) ?_
    refine G_ic_ne 89 rfl rfl (fun hc => ?_) (fun hc => ?_)
    · rw [if_neg hc] at h
      refine G_iload rfl rfl ?_
      refine G_aload rfl rfl ?_
      refine G_getR (ci := 9) 29 rfl rfl rfl rfl rfl ?_
      refine G_getI (ci := 8) 2 rfl rfl rfl rfl rfl ?_
      refine G_ic_ge 112 rfl rfl (fun hc => ?_) (fun hc => ?_)
      · rw [if_pos hc] at h
        refine G_iconst (-1 : Int32) rfl (by decide) ?_
        obtain rfl := Option.some.inj h
        exact G_iret rfl rfl
      · rw [if_neg hc] at h
        refine G_aload rfl rfl ?_
        refine G_getR (ci := 9) 29 rfl rfl rfl rfl rfl ?_
        refine G_getR (ci := 8) 31 rfl rfl rfl rfl rfl ?_
        refine G_iload rfl rfl ?_
        obtain ⟨hg2, h⟩ := if_some h
        refine G_iald rfl rfl rfl hg2 ?_
        refine G_goto 113 rfl rfl ?_
        obtain rfl := Option.some.inj h
        exact G_iret rfl rfl
    · rw [if_pos hc] at h
      refine G_aload rfl rfl ?_
      refine G_getR (ci := 9) 29 rfl rfl rfl rfl rfl ?_
      refine G_getI (ci := 8) 3 rfl rfl rfl rfl rfl ?_
      obtain rfl := Option.some.inj h
      exact G_iret rfl rfl
  · rw [if_pos hc] at h
    refine G_aload rfl rfl ?_
    refine G_getR (ci := 9) 29 rfl rfl rfl rfl rfl ?_
    refine G_getI (ci := 8) 2 rfl rfl rfl rfl rfl ?_
    obtain rfl := Option.some.inj h
    exact G_iret rfl rfl
set_option maxRecDepth 100000 in
set_option maxHeartbeats 4000000 in
theorem t_Box_wires_32 (d : Nat)   : ∀ (n : Nat) (sg : Hp) (x1 : Int32) (x2 : Int32) (x3 : Int32) (x4 : Int32)  (y : Int32 × Hp), f_Box_wires_32  n sg x1 x2 x3 x4 = some y → Go (d + 12) none 65 32 [(0, .ref 0), (1, .int x1), (2, .int x2), (3, .int x3), (4, .int x4)] [] sg (some (.int y.1)) y.2 := by
  intro n
  induction n with
  | zero =>
    intro sg x1 x2 x3 x4 y h
    rw [f_Box_wires_32] at h
    cases h
  | succ n ih =>
    intro sg x1 x2 x3 x4 y h
    rw [f_Box_wires_32] at h
    refine G_iload rfl rfl ?_
    refine G_iconst (8 : Int32) rfl (by decide) ?_
    refine G_ic_ge 62 rfl rfl (fun hc => ?_) (fun hc => ?_)
    · rw [if_pos hc] at h
      exact Go.weak' (t_Box_wires_62 d  _ _  _ h) ⟨rfl, rfl, trivial⟩
    · rw [if_neg hc] at h
      refine G_iload rfl rfl ?_
      refine G_if_eq 62 rfl rfl (fun hc => ?_) (fun hc => ?_)
      · rw [if_pos hc] at h
        exact Go.weak' (t_Box_wires_62 d  _ _  _ h) ⟨rfl, rfl, trivial⟩
      · rw [if_neg hc] at h
        refine G_aload rfl rfl ?_
        refine G_getR (ci := 9) 29 rfl rfl rfl rfl rfl ?_
        refine G_aload rfl rfl ?_
        refine G_getR (ci := 9) 24 rfl rfl rfl rfl rfl ?_
        refine G_iload rfl rfl ?_
        obtain ⟨y3, hy3, h⟩ := Option.bind_eq_some_iff.mp h
        refine G_callvI 3 (t_Wiring_joinNext _ _ _  _ hy3) rfl rfl rfl rfl rfl rfl rfl rfl rfl rfl rfl ?_
        refine G_istore rfl rfl ?_
        refine G_iinc (1 : Int32) rfl (by decide) rfl rfl ?_
        refine G_goto 32 rfl rfl ?_
        exact Go.weak' (ih _ _ _ _ _  _ h) ⟨rfl, rfl, rfl, rfl, rfl, trivial⟩
set_option maxRecDepth 100000 in
set_option maxHeartbeats 4000000 in
theorem t_Box_wires (d : Nat) (sg : Hp) (x1 : Int32) (x2 : Int32)  (y : Int32 × Hp) (h : f_Box_wires sg x1 x2 = some y) : Sm (d + 12) 65 [.ref 0, .int x1, .int x2] sg (some (.int y.1)) y.2 := by
  unfold f_Box_wires at h
  refine Sm.of (lv := [(0, .ref 0), (1, .int x1), (2, .int x2)]) rfl ?_
  refine G_iload rfl rfl ?_
  refine G_if_lt 17 rfl rfl (fun hc => ?_) (fun hc => ?_)
  · rw [if_pos hc] at h
    refine G_iconst (-2 : Int32) rfl (by decide) ?_
    obtain rfl := Option.some.inj h
    exact G_iret rfl rfl
  · rw [if_neg hc] at h
    refine G_iload rfl rfl ?_
    refine G_iconst (256 : Int32) rfl (by decide) ?_
    refine G_ic_ge 17 rfl rfl (fun hc => ?_) (fun hc => ?_)
    · rw [if_pos hc] at h
      refine G_iconst (-2 : Int32) rfl (by decide) ?_
      obtain rfl := Option.some.inj h
      exact G_iret rfl rfl
    · rw [if_neg hc] at h
      refine G_iload rfl rfl ?_
      refine G_iconst (-2 : Int32) rfl (by decide) ?_
      refine G_ic_ge 20 rfl rfl (fun hc => ?_) (fun hc => ?_)
      · rw [if_pos hc] at h
        refine G_aload rfl rfl ?_
        refine G_getR (ci := 9) 29 rfl rfl rfl rfl rfl ?_
        obtain ⟨y1, hy1, h⟩ := Option.bind_eq_some_iff.mp h
        refine G_callvV 1 (t_Wiring_clear _ _   _ hy1) rfl rfl rfl rfl rfl rfl rfl rfl rfl rfl rfl ?_
        refine G_iconst (1 : Int32) rfl (by decide) ?_
        refine G_istore rfl rfl ?_
        refine G_iconst (1 : Int32) rfl (by decide) ?_
        refine G_istore rfl rfl ?_
        exact Go.weak' (t_Box_wires_32 d  _ _ _ _ _ _  _ h) ⟨rfl, rfl, rfl, rfl, rfl, trivial⟩
      · rw [if_neg hc] at h
        refine G_iconst (-2 : Int32) rfl (by decide) ?_
        obtain rfl := Option.some.inj h
        exact G_iret rfl rfl
set_option maxRecDepth 100000 in
set_option maxHeartbeats 4000000 in
theorem t_Mod_joins_50 (d : Nat) {k10 : Hp → Int32 → Int32 → Int32 → Option (Hp)} (hk10 : ∀ (sg : Hp) (x1 : Int32) (x3 : Int32) (x4 : Int32)  (y : Hp), k10 sg x1 x3 x4 = some y → Go (d + 0) none 167 10 [(0, .ref 46), (1, .int x1), (3, .int x3), (4, .int x4)] [] sg none y) (sg : Hp) (x1 : Int32) (x3 : Int32) (x4 : Int32) (xs1 : Int32) (xs2 : Int32)  (y : Hp) (h : f_Mod_joins_50 k10 sg x1 x3 x4 xs1 xs2 = some y) : Go (d + 0) none 167 50 [(0, .ref 46), (1, .int x1), (3, .int x3), (4, .int x4)] [.int xs2, .int xs1, .ref 61] sg none y := by
  unfold f_Mod_joins_50 at h
  obtain ⟨hg4, h⟩ := if_some h
  obtain ⟨s5, hs5, h⟩ := Option.bind_eq_some_iff.mp h
  refine G_iast rfl rfl rfl hg4 (Option.some.inj hs5) ?_
  refine G_iinc (1 : Int32) rfl (by decide) rfl rfl ?_
  refine G_goto 10 rfl rfl ?_
  exact Go.weak' (hk10 _ _ _ _  _ h) ⟨rfl, rfl, rfl, rfl, trivial⟩
set_option maxRecDepth 100000 in
set_option maxHeartbeats 4000000 in
theorem t_Mod_joins_10 (d : Nat)   : ∀ (n : Nat) (sg : Hp) (x1 : Int32) (x3 : Int32) (x4 : Int32)  (y : Hp), f_Mod_joins_10  n sg x1 x3 x4 = some y → Go (d + 0) none 167 10 [(0, .ref 46), (1, .int x1), (3, .int x3), (4, .int x4)] [] sg none y := by
  intro n
  induction n with
  | zero =>
    intro sg x1 x3 x4 y h
    rw [f_Mod_joins_10] at h
    cases h
  | succ n ih =>
    intro sg x1 x3 x4 y h
    rw [f_Mod_joins_10] at h
    refine G_iload rfl rfl ?_
    refine G_iconst (8 : Int32) rfl (by decide) ?_
    refine G_ic_ge 57 rfl rfl (fun hc => ?_) (fun hc => ?_)
    · rw [if_pos hc] at h
      obtain rfl := Option.some.inj h
      exact G_vret rfl rfl
    · rw [if_neg hc] at h
      refine G_aload rfl rfl ?_
      refine G_getR (ci := 10) 61 rfl rfl rfl rfl rfl ?_
      refine G_iload rfl rfl ?_
      refine G_aload rfl rfl ?_
      refine G_getR (ci := 10) 61 rfl rfl rfl rfl rfl ?_
      refine G_iload rfl rfl ?_
      obtain ⟨hg2, h⟩ := if_some h
      refine G_iald rfl rfl rfl hg2 ?_
      refine G_iload rfl rfl ?_
      refine G_ic_ne 43 rfl rfl (fun hc => ?_) (fun hc => ?_)
      · rw [if_neg hc] at h
        refine G_aload rfl rfl ?_
        refine G_getR (ci := 10) 61 rfl rfl rfl rfl rfl ?_
        refine G_iload rfl rfl ?_
        obtain ⟨hg3, h⟩ := if_some h
        refine G_iald rfl rfl rfl hg3 ?_
        exact Go.weak' (t_Mod_joins_50 d ih _ _ _ _ _ _  _ h) ⟨rfl, rfl, rfl, rfl, trivial⟩
      · rw [if_pos hc] at h
        refine G_aload rfl rfl ?_
        refine G_getR (ci := 10) 61 rfl rfl rfl rfl rfl ?_
        refine G_iload rfl rfl ?_
        obtain ⟨hg6, h⟩ := if_some h
        refine G_iald rfl rfl rfl hg6 ?_
        refine G_goto 50 rfl rfl ?_
        exact Go.weak' (t_Mod_joins_50 d ih _ _ _ _ _ _  _ h) ⟨rfl, rfl, rfl, rfl, trivial⟩
set_option maxRecDepth 100000 in
set_option maxHeartbeats 4000000 in
theorem t_Mod_joins (d : Nat) (sg : Hp) (x1 : Int32) (x2 : Int32)  (y : Hp) (h : f_Mod_joins sg x1 x2 = some y) : Sm (d + 0) 167 [.ref 46, .int x1, .int x2] sg none y := by
  unfold f_Mod_joins at h
  refine Sm.of (lv := [(0, .ref 46), (1, .int x1), (2, .int x2)]) rfl ?_
  refine G_aload rfl rfl ?_
  refine G_getR (ci := 10) 61 rfl rfl rfl rfl rfl ?_
  refine G_iload rfl rfl ?_
  obtain ⟨hg1, h⟩ := if_some h
  refine G_iald rfl rfl rfl hg1 ?_
  refine G_istore rfl rfl ?_
  refine G_iconst (0 : Int32) rfl (by decide) ?_
  refine G_istore rfl rfl ?_
  exact Go.weak' (t_Mod_joins_10 d  _ _ _ _ _  _ h) ⟨rfl, rfl, rfl, rfl, trivial⟩
set_option maxRecDepth 100000 in
set_option maxHeartbeats 4000000 in
theorem t_Mod_wiresOf_279 (d : Nat) {k90 : Hp → Int32 → Int32 → Int32 → Int32 → Int32 → Option (Int32 × Hp)} (hk90 : ∀ (sg : Hp) (x2 : Int32) (x3 : Int32) (x4 : Int32) (x5 : Int32) (x6 : Int32)  (y : Int32 × Hp), k90 sg x2 x3 x4 x5 x6 = some y → Go (d + 6) none 166 90 [(0, .ref 46), (2, .int x2), (3, .int x3), (4, .int x4), (5, .int x5), (6, .int x6)] [] sg (some (.int y.1)) y.2) (sg : Hp) (x2 : Int32) (x3 : Int32) (x4 : Int32) (x5 : Int32) (x6 : Int32)  (y : Int32 × Hp) (h : f_Mod_wiresOf_279 k90 sg x2 x3 x4 x5 x6 = some y) : Go (d + 6) none 166 279 [(0, .ref 46), (2, .int x2), (3, .int x3), (4, .int x4), (5, .int x5), (6, .int x6)] [] sg (some (.int y.1)) y.2 := by
  unfold f_Mod_wiresOf_279 at h
  refine G_goto 90 rfl rfl ?_
  exact Go.weak' (hk90 _ _ _ _ _ _  _ h) ⟨rfl, rfl, rfl, rfl, rfl, rfl, trivial⟩
set_option maxRecDepth 100000 in
set_option maxHeartbeats 4000000 in
theorem t_Mod_wiresOf_274 (d : Nat) {k90 : Hp → Int32 → Int32 → Int32 → Int32 → Int32 → Option (Int32 × Hp)} (hk90 : ∀ (sg : Hp) (x2 : Int32) (x3 : Int32) (x4 : Int32) (x5 : Int32) (x6 : Int32)  (y : Int32 × Hp), k90 sg x2 x3 x4 x5 x6 = some y → Go (d + 6) none 166 90 [(0, .ref 46), (2, .int x2), (3, .int x3), (4, .int x4), (5, .int x5), (6, .int x6)] [] sg (some (.int y.1)) y.2) (sg : Hp) (x2 : Int32) (x3 : Int32) (x4 : Int32) (x6 : Int32) (xs0 : Int32)  (y : Int32 × Hp) (h : f_Mod_wiresOf_274 k90 sg x2 x3 x4 x6 xs0 = some y) : Go (d + 6) none 166 274 [(0, .ref 46), (2, .int x2), (3, .int x3), (4, .int x4), (6, .int x6)] [.int xs0] sg (some (.int y.1)) y.2 := by
  unfold f_Mod_wiresOf_274 at h
  refine G_istore rfl rfl ?_
  refine G_iinc (1 : Int32) rfl (by decide) rfl rfl ?_
  exact Go.weak' (t_Mod_wiresOf_279 d hk90 _ _ _ _ _ _  _ h) ⟨rfl, rfl, rfl, rfl, rfl, rfl, trivial⟩
set_option maxRecDepth 100000 in
set_option maxHeartbeats 4000000 in
theorem t_Mod_wiresOf_227 (d : Nat) {k90 : Hp → Int32 → Int32 → Int32 → Int32 → Int32 → Option (Int32 × Hp)} (hk90 : ∀ (sg : Hp) (x2 : Int32) (x3 : Int32) (x4 : Int32) (x5 : Int32) (x6 : Int32)  (y : Int32 × Hp), k90 sg x2 x3 x4 x5 x6 = some y → Go (d + 6) none 166 90 [(0, .ref 46), (2, .int x2), (3, .int x3), (4, .int x4), (5, .int x5), (6, .int x6)] [] sg (some (.int y.1)) y.2) (sg : Hp) (x2 : Int32) (x3 : Int32) (x4 : Int32) (x5 : Int32) (x7 : Int32) (xs0 : Int32)  (y : Int32 × Hp) (h : f_Mod_wiresOf_227 k90 sg x2 x3 x4 x5 x7 xs0 = some y) : Go (d + 6) none 166 227 [(0, .ref 46), (2, .int x2), (3, .int x3), (4, .int x4), (5, .int x5), (7, .int x7)] [.int xs0] sg (some (.int y.1)) y.2 := by
  unfold f_Mod_wiresOf_227 at h
  refine G_istore rfl rfl ?_
  refine G_iload rfl rfl ?_
  refine G_if_eq 279 rfl rfl (fun hc => ?_) (fun hc => ?_)
  · rw [if_pos hc] at h
    exact Go.weak' (t_Mod_wiresOf_279 d hk90 _ _ _ _ _ _  _ h) ⟨rfl, rfl, rfl, rfl, rfl, rfl, trivial⟩
  · rw [if_neg hc] at h
    refine G_aload rfl rfl ?_
    refine G_iload rfl rfl ?_
    refine G_iconst (8 : Int32) rfl (by decide) ?_
    refine G_idiv rfl (by decide) ?_
    refine G_iload rfl rfl ?_
    refine G_iconst (8 : Int32) rfl (by decide) ?_
    refine G_irem rfl (by decide) ?_
    obtain ⟨y1, hy1, h⟩ := Option.bind_eq_some_iff.mp h
    refine G_callvV 3 (t_Mod_joins _ _ _ _  _ hy1) rfl rfl rfl rfl rfl rfl rfl rfl rfl rfl rfl ?_
    refine G_iload rfl rfl ?_
    refine G_aload rfl rfl ?_
    refine G_getR (ci := 10) 60 rfl rfl rfl rfl rfl ?_
    refine G_iload rfl rfl ?_
    obtain ⟨hg2, h⟩ := if_some h
    refine G_iald rfl rfl rfl hg2 ?_
    obtain ⟨y3, hy3, h⟩ := Option.bind_eq_some_iff.mp h
    refine G_callsI 2 (t_Mod_greater _ _ _ _  _ hy3) rfl rfl rfl rfl rfl rfl rfl rfl rfl ?_
    refine G_istore rfl rfl ?_
    refine G_iload rfl rfl ?_
    refine G_iload rfl rfl ?_
    refine G_ic_ne 272 rfl rfl (fun hc => ?_) (fun hc => ?_)
    · rw [if_neg hc] at h
      refine G_iload rfl rfl ?_
      exact Go.weak' (t_Mod_wiresOf_274 d hk90 _ _ _ _ _ _  _ h) ⟨rfl, rfl, rfl, rfl, rfl, trivial⟩
    · rw [if_pos hc] at h
      refine G_iload rfl rfl ?_
      refine G_goto 274 rfl rfl ?_
      exact Go.weak' (t_Mod_wiresOf_274 d hk90 _ _ _ _ _ _  _ h) ⟨rfl, rfl, rfl, rfl, rfl, trivial⟩
set_option maxRecDepth 100000 in
set_option maxHeartbeats 4000000 in
theorem t_Mod_wiresOf_202 (d : Nat) {k90 : Hp → Int32 → Int32 → Int32 → Int32 → Int32 → Option (Int32 × Hp)} {k101 : Hp → Int32 → Int32 → Int32 → Int32 → Int32 → Int32 → Option (Int32 × Hp)} {k114 : Hp → Int32 → Int32 → Int32 → Int32 → Int32 → Int32 → Int32 → Option (Int32 × Hp)} (hk90 : ∀ (sg : Hp) (x2 : Int32) (x3 : Int32) (x4 : Int32) (x5 : Int32) (x6 : Int32)  (y : Int32 × Hp), k90 sg x2 x3 x4 x5 x6 = some y → Go (d + 6) none 166 90 [(0, .ref 46), (2, .int x2), (3, .int x3), (4, .int x4), (5, .int x5), (6, .int x6)] [] sg (some (.int y.1)) y.2) (hk101 : ∀ (sg : Hp) (x2 : Int32) (x3 : Int32) (x4 : Int32) (x5 : Int32) (x7 : Int32) (x8 : Int32)  (y : Int32 × Hp), k101 sg x2 x3 x4 x5 x7 x8 = some y → Go (d + 6) none 166 101 [(0, .ref 46), (2, .int x2), (3, .int x3), (4, .int x4), (5, .int x5), (7, .int x7), (8, .int x8)] [] sg (some (.int y.1)) y.2) (hk114 : ∀ (sg : Hp) (x2 : Int32) (x3 : Int32) (x4 : Int32) (x5 : Int32) (x7 : Int32) (x8 : Int32) (x9 : Int32)  (y : Int32 × Hp), k114 sg x2 x3 x4 x5 x7 x8 x9 = some y → Go (d + 6) none 166 114 [(0, .ref 46), (2, .int x2), (3, .int x3), (4, .int x4), (5, .int x5), (7, .int x7), (8, .int x8), (9, .int x9)] [] sg (some (.int y.1)) y.2) (sg : Hp) (x2 : Int32) (x3 : Int32) (x4 : Int32) (x5 : Int32) (x8 : Int32) (x9 : Int32) (xs0 : Int32)  (y : Int32 × Hp) (h : f_Mod_wiresOf_202 k90 k101 k114 sg x2 x3 x4 x5 x8 x9 xs0 = some y) : Go (d + 6) none 166 202 [(0, .ref 46), (2, .int x2), (3, .int x3), (4, .int x4), (5, .int x5), (8, .int x8), (9, .int x9)] [.int xs0] sg (some (.int y.1)) y.2 := by
  unfold f_Mod_wiresOf_202 at h
  refine G_istore rfl rfl ?_
  refine G_iinc (1 : Int32) rfl (by decide) rfl rfl ?_
  refine G_goto 114 rfl rfl ?_
  exact Go.weak' (hk114 _ _ _ _ _ _ _ _  _ h) ⟨rfl, rfl, rfl, rfl, rfl, rfl, rfl, rfl, trivial⟩
set_option maxRecDepth 100000 in
set_option maxHeartbeats 4000000 in
theorem t_Mod_wiresOf_200 (d : Nat) {k90 : Hp → Int32 → Int32 → Int32 → Int32 → Int32 → Option (Int32 × Hp)} {k101 : Hp → Int32 → Int32 → Int32 → Int32 → Int32 → Int32 → Option (Int32 × Hp)} {k114 : Hp → Int32 → Int32 → Int32 → Int32 → Int32 → Int32 → Int32 → Option (Int32 × Hp)} (hk90 : ∀ (sg : Hp) (x2 : Int32) (x3 : Int32) (x4 : Int32) (x5 : Int32) (x6 : Int32)  (y : Int32 × Hp), k90 sg x2 x3 x4 x5 x6 = some y → Go (d + 6) none 166 90 [(0, .ref 46), (2, .int x2), (3, .int x3), (4, .int x4), (5, .int x5), (6, .int x6)] [] sg (some (.int y.1)) y.2) (hk101 : ∀ (sg : Hp) (x2 : Int32) (x3 : Int32) (x4 : Int32) (x5 : Int32) (x7 : Int32) (x8 : Int32)  (y : Int32 × Hp), k101 sg x2 x3 x4 x5 x7 x8 = some y → Go (d + 6) none 166 101 [(0, .ref 46), (2, .int x2), (3, .int x3), (4, .int x4), (5, .int x5), (7, .int x7), (8, .int x8)] [] sg (some (.int y.1)) y.2) (hk114 : ∀ (sg : Hp) (x2 : Int32) (x3 : Int32) (x4 : Int32) (x5 : Int32) (x7 : Int32) (x8 : Int32) (x9 : Int32)  (y : Int32 × Hp), k114 sg x2 x3 x4 x5 x7 x8 x9 = some y → Go (d + 6) none 166 114 [(0, .ref 46), (2, .int x2), (3, .int x3), (4, .int x4), (5, .int x5), (7, .int x7), (8, .int x8), (9, .int x9)] [] sg (some (.int y.1)) y.2) (sg : Hp) (x2 : Int32) (x3 : Int32) (x4 : Int32) (x5 : Int32) (x7 : Int32) (x8 : Int32) (x9 : Int32)  (y : Int32 × Hp) (h : f_Mod_wiresOf_200 k90 k101 k114 sg x2 x3 x4 x5 x7 x8 x9 = some y) : Go (d + 6) none 166 200 [(0, .ref 46), (2, .int x2), (3, .int x3), (4, .int x4), (5, .int x5), (7, .int x7), (8, .int x8), (9, .int x9)] [] sg (some (.int y.1)) y.2 := by
  unfold f_Mod_wiresOf_200 at h
  refine G_iload rfl rfl ?_
  exact Go.weak' (t_Mod_wiresOf_202 d hk90 hk101 hk114 _ _ _ _ _ _ _ _  _ h) ⟨rfl, rfl, rfl, rfl, rfl, rfl, rfl, trivial⟩
set_option maxRecDepth 100000 in
set_option maxHeartbeats 4000000 in
theorem t_Mod_wiresOf_189 (d : Nat) {k90 : Hp → Int32 → Int32 → Int32 → Int32 → Int32 → Option (Int32 × Hp)} {k101 : Hp → Int32 → Int32 → Int32 → Int32 → Int32 → Int32 → Option (Int32 × Hp)} {k114 : Hp → Int32 → Int32 → Int32 → Int32 → Int32 → Int32 → Int32 → Option (Int32 × Hp)} (hk90 : ∀ (sg : Hp) (x2 : Int32) (x3 : Int32) (x4 : Int32) (x5 : Int32) (x6 : Int32)  (y : Int32 × Hp), k90 sg x2 x3 x4 x5 x6 = some y → Go (d + 6) none 166 90 [(0, .ref 46), (2, .int x2), (3, .int x3), (4, .int x4), (5, .int x5), (6, .int x6)] [] sg (some (.int y.1)) y.2) (hk101 : ∀ (sg : Hp) (x2 : Int32) (x3 : Int32) (x4 : Int32) (x5 : Int32) (x7 : Int32) (x8 : Int32)  (y : Int32 × Hp), k101 sg x2 x3 x4 x5 x7 x8 = some y → Go (d + 6) none 166 101 [(0, .ref 46), (2, .int x2), (3, .int x3), (4, .int x4), (5, .int x5), (7, .int x7), (8, .int x8)] [] sg (some (.int y.1)) y.2) (hk114 : ∀ (sg : Hp) (x2 : Int32) (x3 : Int32) (x4 : Int32) (x5 : Int32) (x7 : Int32) (x8 : Int32) (x9 : Int32)  (y : Int32 × Hp), k114 sg x2 x3 x4 x5 x7 x8 x9 = some y → Go (d + 6) none 166 114 [(0, .ref 46), (2, .int x2), (3, .int x3), (4, .int x4), (5, .int x5), (7, .int x7), (8, .int x8), (9, .int x9)] [] sg (some (.int y.1)) y.2) (sg : Hp) (x2 : Int32) (x3 : Int32) (x4 : Int32) (x5 : Int32) (x8 : Int32) (x9 : Int32)  (y : Int32 × Hp) (h : f_Mod_wiresOf_189 k90 k101 k114 sg x2 x3 x4 x5 x8 x9 = some y) : Go (d + 6) none 166 189 [(0, .ref 46), (2, .int x2), (3, .int x3), (4, .int x4), (5, .int x5), (8, .int x8), (9, .int x9)] [] sg (some (.int y.1)) y.2 := by
  unfold f_Mod_wiresOf_189 at h
  refine G_iconst (8 : Int32) rfl (by decide) ?_
  refine G_iload rfl rfl ?_
  refine G_imul rfl ?_
  refine G_iload rfl rfl ?_
  refine G_iadd rfl ?_
  refine G_goto 202 rfl rfl ?_
  exact Go.weak' (t_Mod_wiresOf_202 d hk90 hk101 hk114 _ _ _ _ _ _ _ _  _ h) ⟨rfl, rfl, rfl, rfl, rfl, rfl, rfl, trivial⟩
set_option maxRecDepth 100000 in
set_option maxHeartbeats 4000000 in
theorem t_Mod_wiresOf_164 (d : Nat) {k90 : Hp → Int32 → Int32 → Int32 → Int32 → Int32 → Option (Int32 × Hp)} {k101 : Hp → Int32 → Int32 → Int32 → Int32 → Int32 → Int32 → Option (Int32 × Hp)} {k114 : Hp → Int32 → Int32 → Int32 → Int32 → Int32 → Int32 → Int32 → Option (Int32 × Hp)} (hk90 : ∀ (sg : Hp) (x2 : Int32) (x3 : Int32) (x4 : Int32) (x5 : Int32) (x6 : Int32)  (y : Int32 × Hp), k90 sg x2 x3 x4 x5 x6 = some y → Go (d + 6) none 166 90 [(0, .ref 46), (2, .int x2), (3, .int x3), (4, .int x4), (5, .int x5), (6, .int x6)] [] sg (some (.int y.1)) y.2) (hk101 : ∀ (sg : Hp) (x2 : Int32) (x3 : Int32) (x4 : Int32) (x5 : Int32) (x7 : Int32) (x8 : Int32)  (y : Int32 × Hp), k101 sg x2 x3 x4 x5 x7 x8 = some y → Go (d + 6) none 166 101 [(0, .ref 46), (2, .int x2), (3, .int x3), (4, .int x4), (5, .int x5), (7, .int x7), (8, .int x8)] [] sg (some (.int y.1)) y.2) (hk114 : ∀ (sg : Hp) (x2 : Int32) (x3 : Int32) (x4 : Int32) (x5 : Int32) (x7 : Int32) (x8 : Int32) (x9 : Int32)  (y : Int32 × Hp), k114 sg x2 x3 x4 x5 x7 x8 x9 = some y → Go (d + 6) none 166 114 [(0, .ref 46), (2, .int x2), (3, .int x3), (4, .int x4), (5, .int x5), (7, .int x7), (8, .int x8), (9, .int x9)] [] sg (some (.int y.1)) y.2) (sg : Hp) (x2 : Int32) (x3 : Int32) (x4 : Int32) (x5 : Int32) (x7 : Int32) (x8 : Int32) (x9 : Int32) (x10 : Int32) (xs0 : Int32)  (y : Int32 × Hp) (h : f_Mod_wiresOf_164 k90 k101 k114 sg x2 x3 x4 x5 x7 x8 x9 x10 xs0 = some y) : Go (d + 6) none 166 164 [(0, .ref 46), (2, .int x2), (3, .int x3), (4, .int x4), (5, .int x5), (7, .int x7), (8, .int x8), (9, .int x9), (10, .int x10)] [.int xs0] sg (some (.int y.1)) y.2 := by
  unfold f_Mod_wiresOf_164 at h
  refine G_istore rfl rfl ?_
  refine G_iload rfl rfl ?_
  refine G_if_eq 200 rfl rfl (fun hc => ?_) (fun hc => ?_)
  · rw [if_pos hc] at h
    exact Go.weak' (t_Mod_wiresOf_200 d hk90 hk101 hk114 _ _ _ _ _ _ _ _  _ h) ⟨rfl, rfl, rfl, rfl, rfl, rfl, rfl, rfl, trivial⟩
  · rw [if_neg hc] at h
    refine G_iload rfl rfl ?_
    refine G_iconst (-1 : Int32) rfl (by decide) ?_
    refine G_ic_eq 189 rfl rfl (fun hc => ?_) (fun hc => ?_)
    · rw [if_pos hc] at h
      exact Go.weak' (t_Mod_wiresOf_189 d hk90 hk101 hk114 _ _ _ _ _ _ _  _ h) ⟨rfl, rfl, rfl, rfl, rfl, rfl, rfl, trivial⟩
    · rw [if_neg hc] at h
      refine G_iload rfl rfl ?_
      refine G_aload rfl rfl ?_
      refine G_getR (ci := 10) 60 rfl rfl rfl rfl rfl ?_
      refine G_iload rfl rfl ?_
      obtain ⟨hg5, h⟩ := if_some h
      refine G_iald rfl rfl rfl hg5 ?_
      refine G_ic_ge 200 rfl rfl (fun hc => ?_) (fun hc => ?_)
      · rw [if_pos hc] at h
        exact Go.weak' (t_Mod_wiresOf_200 d hk90 hk101 hk114 _ _ _ _ _ _ _ _  _ h) ⟨rfl, rfl, rfl, rfl, rfl, rfl, rfl, rfl, trivial⟩
      · rw [if_neg hc] at h
        exact Go.weak' (t_Mod_wiresOf_189 d hk90 hk101 hk114 _ _ _ _ _ _ _  _ h) ⟨rfl, rfl, rfl, rfl, rfl, rfl, rfl, trivial⟩
set_option maxRecDepth 100000 in
set_option maxHeartbeats 4000000 in
theorem t_Mod_wiresOf_163 (d : Nat) {k90 : Hp → Int32 → Int32 → Int32 → Int32 → Int32 → Option (Int32 × Hp)} {k101 : Hp → Int32 → Int32 → Int32 → Int32 → Int32 → Int32 → Option (Int32 × Hp)} {k114 : Hp → Int32 → Int32 → Int32 → Int32 → Int32 → Int32 → Int32 → Option (Int32 × Hp)} (hk90 : ∀ (sg : Hp) (x2 : Int32) (x3 : Int32) (x4 : Int32) (x5 : Int32) (x6 : Int32)  (y : Int32 × Hp), k90 sg x2 x3 x4 x5 x6 = some y → Go (d + 6) none 166 90 [(0, .ref 46), (2, .int x2), (3, .int x3), (4, .int x4), (5, .int x5), (6, .int x6)] [] sg (some (.int y.1)) y.2) (hk101 : ∀ (sg : Hp) (x2 : Int32) (x3 : Int32) (x4 : Int32) (x5 : Int32) (x7 : Int32) (x8 : Int32)  (y : Int32 × Hp), k101 sg x2 x3 x4 x5 x7 x8 = some y → Go (d + 6) none 166 101 [(0, .ref 46), (2, .int x2), (3, .int x3), (4, .int x4), (5, .int x5), (7, .int x7), (8, .int x8)] [] sg (some (.int y.1)) y.2) (hk114 : ∀ (sg : Hp) (x2 : Int32) (x3 : Int32) (x4 : Int32) (x5 : Int32) (x7 : Int32) (x8 : Int32) (x9 : Int32)  (y : Int32 × Hp), k114 sg x2 x3 x4 x5 x7 x8 x9 = some y → Go (d + 6) none 166 114 [(0, .ref 46), (2, .int x2), (3, .int x3), (4, .int x4), (5, .int x5), (7, .int x7), (8, .int x8), (9, .int x9)] [] sg (some (.int y.1)) y.2) (sg : Hp) (x2 : Int32) (x3 : Int32) (x4 : Int32) (x5 : Int32) (x7 : Int32) (x8 : Int32) (x9 : Int32) (x10 : Int32)  (y : Int32 × Hp) (h : f_Mod_wiresOf_163 k90 k101 k114 sg x2 x3 x4 x5 x7 x8 x9 x10 = some y) : Go (d + 6) none 166 163 [(0, .ref 46), (2, .int x2), (3, .int x3), (4, .int x4), (5, .int x5), (7, .int x7), (8, .int x8), (9, .int x9), (10, .int x10)] [] sg (some (.int y.1)) y.2 := by
  unfold f_Mod_wiresOf_163 at h
  refine G_iconst (0 : Int32) rfl (by decide) ?_
  exact Go.weak' (t_Mod_wiresOf_164 d hk90 hk101 hk114 _ _ _ _ _ _ _ _ _ _  _ h) ⟨rfl, rfl, rfl, rfl, rfl, rfl, rfl, rfl, rfl, trivial⟩
set_option maxRecDepth 100000 in
set_option maxHeartbeats 4000000 in
theorem t_Mod_wiresOf_114 (d : Nat) {k90 : Hp → Int32 → Int32 → Int32 → Int32 → Int32 → Option (Int32 × Hp)} {k101 : Hp → Int32 → Int32 → Int32 → Int32 → Int32 → Int32 → Option (Int32 × Hp)} (hk90 : ∀ (sg : Hp) (x2 : Int32) (x3 : Int32) (x4 : Int32) (x5 : Int32) (x6 : Int32)  (y : Int32 × Hp), k90 sg x2 x3 x4 x5 x6 = some y → Go (d + 6) none 166 90 [(0, .ref 46), (2, .int x2), (3, .int x3), (4, .int x4), (5, .int x5), (6, .int x6)] [] sg (some (.int y.1)) y.2) (hk101 : ∀ (sg : Hp) (x2 : Int32) (x3 : Int32) (x4 : Int32) (x5 : Int32) (x7 : Int32) (x8 : Int32)  (y : Int32 × Hp), k101 sg x2 x3 x4 x5 x7 x8 = some y → Go (d + 6) none 166 101 [(0, .ref 46), (2, .int x2), (3, .int x3), (4, .int x4), (5, .int x5), (7, .int x7), (8, .int x8)] [] sg (some (.int y.1)) y.2) : ∀ (n : Nat) (sg : Hp) (x2 : Int32) (x3 : Int32) (x4 : Int32) (x5 : Int32) (x7 : Int32) (x8 : Int32) (x9 : Int32)  (y : Int32 × Hp), f_Mod_wiresOf_114 k90 k101 n sg x2 x3 x4 x5 x7 x8 x9 = some y → Go (d + 6) none 166 114 [(0, .ref 46), (2, .int x2), (3, .int x3), (4, .int x4), (5, .int x5), (7, .int x7), (8, .int x8), (9, .int x9)] [] sg (some (.int y.1)) y.2 := by
  intro n
  induction n with
  | zero =>
    intro sg x2 x3 x4 x5 x7 x8 x9 y h
    rw [f_Mod_wiresOf_114] at h
    cases h
  | succ n ih =>
    intro sg x2 x3 x4 x5 x7 x8 x9 y h
    rw [f_Mod_wiresOf_114] at h
    refine G_iload rfl rfl ?_
    refine G_iconst (8 : Int32) rfl (by decide) ?_
    refine G_ic_ge 210 rfl rfl (fun hc => ?_) (fun hc => ?_)
    · rw [if_pos hc] at h
      refine G_iinc (1 : Int32) rfl (by decide) rfl rfl ?_
      refine G_goto 101 rfl rfl ?_
      exact Go.weak' (hk101 _ _ _ _ _ _ _  _ h) ⟨rfl, rfl, rfl, rfl, rfl, rfl, rfl, trivial⟩
    · rw [if_neg hc] at h
      refine G_aload rfl rfl ?_
      refine G_getR (ci := 10) 60 rfl rfl rfl rfl rfl ?_
      refine G_iconst (8 : Int32) rfl (by decide) ?_
      refine G_iload rfl rfl ?_
      refine G_imul rfl ?_
      refine G_iload rfl rfl ?_
      refine G_iadd rfl ?_
      obtain ⟨hg4, h⟩ := if_some h
      refine G_iald rfl rfl rfl hg4 ?_
      refine G_istore rfl rfl ?_
      refine G_iload rfl rfl ?_
      refine G_iconst (-1 : Int32) rfl (by decide) ?_
      refine G_ic_eq 163 rfl rfl (fun hc => ?_) (fun hc => ?_)
      · rw [if_pos hc] at h
        exact Go.weak' (t_Mod_wiresOf_163 d hk90 hk101 ih _ _ _ _ _ _ _ _ _  _ h) ⟨rfl, rfl, rfl, rfl, rfl, rfl, rfl, rfl, rfl, trivial⟩
      · rw [if_neg hc] at h
        refine G_aload rfl rfl ?_
        refine G_getR (ci := 10) 61 rfl rfl rfl rfl rfl ?_
        refine G_iload rfl rfl ?_
        obtain ⟨hg6, h⟩ := if_some h
        refine G_iald rfl rfl rfl hg6 ?_
        refine G_aload rfl rfl ?_
        refine G_getR (ci := 10) 61 rfl rfl rfl rfl rfl ?_
        refine G_iload rfl rfl ?_
        obtain ⟨hg7, h⟩ := if_some h
        refine G_iald rfl rfl rfl hg7 ?_
        refine G_ic_eq 163 rfl rfl (fun hc => ?_) (fun hc => ?_)
        · rw [if_pos hc] at h
          exact Go.weak' (t_Mod_wiresOf_163 d hk90 hk101 ih _ _ _ _ _ _ _ _ _  _ h) ⟨rfl, rfl, rfl, rfl, rfl, rfl, rfl, rfl, rfl, trivial⟩
        · rw [if_neg hc] at h
          refine G_iconst (1 : Int32) rfl (by decide) ?_
          refine G_goto 164 rfl rfl ?_
          exact Go.weak' (t_Mod_wiresOf_164 d hk90 hk101 ih _ _ _ _ _ _ _ _ _ _  _ h) ⟨rfl, rfl, rfl, rfl, rfl, rfl, rfl, rfl, rfl, trivial⟩
set_option maxRecDepth 100000 in
set_option maxHeartbeats 4000000 in
theorem t_Mod_wiresOf_101 (d : Nat) {k90 : Hp → Int32 → Int32 → Int32 → Int32 → Int32 → Option (Int32 × Hp)} (hk90 : ∀ (sg : Hp) (x2 : Int32) (x3 : Int32) (x4 : Int32) (x5 : Int32) (x6 : Int32)  (y : Int32 × Hp), k90 sg x2 x3 x4 x5 x6 = some y → Go (d + 6) none 166 90 [(0, .ref 46), (2, .int x2), (3, .int x3), (4, .int x4), (5, .int x5), (6, .int x6)] [] sg (some (.int y.1)) y.2) : ∀ (n : Nat) (sg : Hp) (x2 : Int32) (x3 : Int32) (x4 : Int32) (x5 : Int32) (x7 : Int32) (x8 : Int32)  (y : Int32 × Hp), f_Mod_wiresOf_101 k90 n sg x2 x3 x4 x5 x7 x8 = some y → Go (d + 6) none 166 101 [(0, .ref 46), (2, .int x2), (3, .int x3), (4, .int x4), (5, .int x5), (7, .int x7), (8, .int x8)] [] sg (some (.int y.1)) y.2 := by
  intro n
  induction n with
  | zero =>
    intro sg x2 x3 x4 x5 x7 x8 y h
    rw [f_Mod_wiresOf_101] at h
    cases h
  | succ n ih =>
    intro sg x2 x3 x4 x5 x7 x8 y h
    rw [f_Mod_wiresOf_101] at h
    refine G_iload rfl rfl ?_
    refine G_iconst (8 : Int32) rfl (by decide) ?_
    refine G_ic_ge 216 rfl rfl (fun hc => ?_) (fun hc => ?_)
    · rw [if_pos hc] at h
      refine G_iload rfl rfl ?_
      refine G_iconst (-1 : Int32) rfl (by decide) ?_
      refine G_ic_eq 226 rfl rfl (fun hc => ?_) (fun hc => ?_)
      · rw [if_pos hc] at h
        refine G_iconst (0 : Int32) rfl (by decide) ?_
        exact Go.weak' (t_Mod_wiresOf_227 d hk90 _ _ _ _ _ _ _  _ h) ⟨rfl, rfl, rfl, rfl, rfl, rfl, trivial⟩
      · rw [if_neg hc] at h
        refine G_iconst (1 : Int32) rfl (by decide) ?_
        refine G_goto 227 rfl rfl ?_
        exact Go.weak' (t_Mod_wiresOf_227 d hk90 _ _ _ _ _ _ _  _ h) ⟨rfl, rfl, rfl, rfl, rfl, rfl, trivial⟩
    · rw [if_neg hc] at h
      refine G_iload rfl rfl ?_
      refine G_iconst (1 : Int32) rfl (by decide) ?_
      refine G_iadd rfl ?_
      refine G_istore rfl rfl ?_
      exact Go.weak' (t_Mod_wiresOf_114 d hk90 ih _ _ _ _ _ _ _ _ _  _ h) ⟨rfl, rfl, rfl, rfl, rfl, rfl, rfl, rfl, trivial⟩
set_option maxRecDepth 100000 in
set_option maxHeartbeats 4000000 in
theorem t_Mod_wiresOf_90 (d : Nat)   : ∀ (n : Nat) (sg : Hp) (x2 : Int32) (x3 : Int32) (x4 : Int32) (x5 : Int32) (x6 : Int32)  (y : Int32 × Hp), f_Mod_wiresOf_90  n sg x2 x3 x4 x5 x6 = some y → Go (d + 6) none 166 90 [(0, .ref 46), (2, .int x2), (3, .int x3), (4, .int x4), (5, .int x5), (6, .int x6)] [] sg (some (.int y.1)) y.2 := by
  intro n
  induction n with
  | zero =>
    intro sg x2 x3 x4 x5 x6 y h
    rw [f_Mod_wiresOf_90] at h
    cases h
  | succ n ih =>
    intro sg x2 x3 x4 x5 x6 y h
    rw [f_Mod_wiresOf_90] at h
    refine G_iload rfl rfl ?_
    refine G_if_eq 282 rfl rfl (fun hc => ?_) (fun hc => ?_)
    · rw [if_pos hc] at h
      refine G_iload rfl rfl ?_
      refine G_iconst (-1 : Int32) rfl (by decide) ?_
      refine G_ic_ne 291 rfl rfl (fun hc => ?_) (fun hc => ?_)
      · rw [if_neg hc] at h
        refine G_iload rfl rfl ?_
        refine G_iconst (-2 : Int32) rfl (by decide) ?_
        refine G_ic_ne 302 rfl rfl (fun hc => ?_) (fun hc => ?_)
        · rw [if_neg hc] at h
          refine G_iload rfl rfl ?_
          obtain rfl := Option.some.inj h
          exact G_iret rfl rfl
        · rw [if_pos hc] at h
          refine G_iload rfl rfl ?_
          refine G_goto 304 rfl rfl ?_
          obtain rfl := Option.some.inj h
          exact G_iret rfl rfl
      · rw [if_pos hc] at h
        refine G_iload rfl rfl ?_
        refine G_goto 304 rfl rfl ?_
        obtain rfl := Option.some.inj h
        exact G_iret rfl rfl
    · rw [if_neg hc] at h
      refine G_iconst (-1 : Int32) rfl (by decide) ?_
      refine G_istore rfl rfl ?_
      refine G_iconst (0 : Int32) rfl (by decide) ?_
      refine G_istore rfl rfl ?_
      exact Go.weak' (t_Mod_wiresOf_101 d ih _ _ _ _ _ _ _ _  _ h) ⟨rfl, rfl, rfl, rfl, rfl, rfl, rfl, trivial⟩
set_option maxRecDepth 100000 in
set_option maxHeartbeats 4000000 in
theorem t_Mod_wiresOf_66 (d : Nat) {k2 : Hp → Int32 → Int32 → Int32 → Option (Int32 × Hp)} {k20 : Hp → Int32 → Int32 → Int32 → Int32 → Option (Int32 × Hp)} (hk2 : ∀ (sg : Hp) (x1 : Int32) (x2 : Int32) (x3 : Int32)  (y : Int32 × Hp), k2 sg x1 x2 x3 = some y → Go (d + 6) none 166 2 [(0, .ref 46), (1, .int x1), (2, .int x2), (3, .int x3)] [] sg (some (.int y.1)) y.2) (hk20 : ∀ (sg : Hp) (x1 : Int32) (x2 : Int32) (x3 : Int32) (x4 : Int32)  (y : Int32 × Hp), k20 sg x1 x2 x3 x4 = some y → Go (d + 6) none 166 20 [(0, .ref 46), (1, .int x1), (2, .int x2), (3, .int x3), (4, .int x4)] [] sg (some (.int y.1)) y.2) (sg : Hp) (x1 : Int32) (x2 : Int32) (x3 : Int32) (x4 : Int32) (xs1 : Int32) (xs2 : Int32)  (y : Int32 × Hp) (h : f_Mod_wiresOf_66 k2 k20 sg x1 x2 x3 x4 xs1 xs2 = some y) : Go (d + 6) none 166 66 [(0, .ref 46), (1, .int x1), (2, .int x2), (3, .int x3), (4, .int x4)] [.int xs2, .int xs1, .ref 60] sg (some (.int y.1)) y.2 := by
  unfold f_Mod_wiresOf_66 at h
  obtain ⟨hg11, h⟩ := if_some h
  obtain ⟨s12, hs12, h⟩ := Option.bind_eq_some_iff.mp h
  refine G_iast rfl rfl rfl hg11 (Option.some.inj hs12) ?_
  refine G_iinc (1 : Int32) rfl (by decide) rfl rfl ?_
  refine G_goto 20 rfl rfl ?_
  exact Go.weak' (hk20 _ _ _ _ _  _ h) ⟨rfl, rfl, rfl, rfl, rfl, trivial⟩
set_option maxRecDepth 100000 in
set_option maxHeartbeats 4000000 in
theorem t_Mod_wiresOf_65 (d : Nat) {k2 : Hp → Int32 → Int32 → Int32 → Option (Int32 × Hp)} {k20 : Hp → Int32 → Int32 → Int32 → Int32 → Option (Int32 × Hp)} (hk2 : ∀ (sg : Hp) (x1 : Int32) (x2 : Int32) (x3 : Int32)  (y : Int32 × Hp), k2 sg x1 x2 x3 = some y → Go (d + 6) none 166 2 [(0, .ref 46), (1, .int x1), (2, .int x2), (3, .int x3)] [] sg (some (.int y.1)) y.2) (hk20 : ∀ (sg : Hp) (x1 : Int32) (x2 : Int32) (x3 : Int32) (x4 : Int32)  (y : Int32 × Hp), k20 sg x1 x2 x3 x4 = some y → Go (d + 6) none 166 20 [(0, .ref 46), (1, .int x1), (2, .int x2), (3, .int x3), (4, .int x4)] [] sg (some (.int y.1)) y.2) (sg : Hp) (x1 : Int32) (x2 : Int32) (x3 : Int32) (x4 : Int32) (xs1 : Int32)  (y : Int32 × Hp) (h : f_Mod_wiresOf_65 k2 k20 sg x1 x2 x3 x4 xs1 = some y) : Go (d + 6) none 166 65 [(0, .ref 46), (1, .int x1), (2, .int x2), (3, .int x3), (4, .int x4)] [.int xs1, .ref 60] sg (some (.int y.1)) y.2 := by
  unfold f_Mod_wiresOf_65 at h
  refine G_iconst (-1 : Int32) rfl (by decide) ?_
  exact Go.weak' (t_Mod_wiresOf_66 d hk2 hk20 _ _ _ _ _ _ _  _ h) ⟨rfl, rfl, rfl, rfl, rfl, trivial⟩
set_option maxRecDepth 100000 in
set_option maxHeartbeats 4000000 in
theorem t_Mod_wiresOf_20 (d : Nat) {k2 : Hp → Int32 → Int32 → Int32 → Option (Int32 × Hp)} (hk2 : ∀ (sg : Hp) (x1 : Int32) (x2 : Int32) (x3 : Int32)  (y : Int32 × Hp), k2 sg x1 x2 x3 = some y → Go (d + 6) none 166 2 [(0, .ref 46), (1, .int x1), (2, .int x2), (3, .int x3)] [] sg (some (.int y.1)) y.2) : ∀ (n : Nat) (sg : Hp) (x1 : Int32) (x2 : Int32) (x3 : Int32) (x4 : Int32)  (y : Int32 × Hp), f_Mod_wiresOf_20 k2 n sg x1 x2 x3 x4 = some y → Go (d + 6) none 166 20 [(0, .ref 46), (1, .int x1), (2, .int x2), (3, .int x3), (4, .int x4)] [] sg (some (.int y.1)) y.2 := by
  intro n
  induction n with
  | zero =>
    intro sg x1 x2 x3 x4 y h
    rw [f_Mod_wiresOf_20] at h
    cases h
  | succ n ih =>
    intro sg x1 x2 x3 x4 y h
    rw [f_Mod_wiresOf_20] at h
    refine G_iload rfl rfl ?_
    refine G_iconst (8 : Int32) rfl (by decide) ?_
    refine G_ic_ge 73 rfl rfl (fun hc => ?_) (fun hc => ?_)
    · rw [if_pos hc] at h
      refine G_iinc (1 : Int32) rfl (by decide) rfl rfl ?_
      refine G_goto 2 rfl rfl ?_
      exact Go.weak' (hk2 _ _ _ _  _ h) ⟨rfl, rfl, rfl, rfl, trivial⟩
    · rw [if_neg hc] at h
      refine G_aload rfl rfl ?_
      refine G_getR (ci := 10) 60 rfl rfl rfl rfl rfl ?_
      refine G_iconst (8 : Int32) rfl (by decide) ?_
      refine G_iload rfl rfl ?_
      refine G_imul rfl ?_
      refine G_iload rfl rfl ?_
      refine G_iadd rfl ?_
      refine G_iload rfl rfl ?_
      refine G_iload rfl rfl ?_
      obtain ⟨y10, hy10, h⟩ := Option.bind_eq_some_iff.mp h
      refine G_callsI 2 (t_Mod_isIn _ _ _ _  _ hy10) rfl rfl rfl rfl rfl rfl rfl rfl rfl ?_
      refine G_if_eq 65 rfl rfl (fun hc => ?_) (fun hc => ?_)
      · rw [if_pos hc] at h
        exact Go.weak' (t_Mod_wiresOf_65 d hk2 ih _ _ _ _ _ _  _ h) ⟨rfl, rfl, rfl, rfl, rfl, trivial⟩
      · rw [if_neg hc] at h
        refine G_iload rfl rfl ?_
        refine G_iload rfl rfl ?_
        obtain ⟨y13, hy13, h⟩ := Option.bind_eq_some_iff.mp h
        refine G_callsI 2 (t_Mod_isIn _ _ _ _  _ hy13) rfl rfl rfl rfl rfl rfl rfl rfl rfl ?_
        refine G_if_eq 65 rfl rfl (fun hc => ?_) (fun hc => ?_)
        · rw [if_pos hc] at h
          exact Go.weak' (t_Mod_wiresOf_65 d hk2 ih _ _ _ _ _ _  _ h) ⟨rfl, rfl, rfl, rfl, rfl, trivial⟩
        · rw [if_neg hc] at h
          refine G_aload rfl rfl ?_
          refine G_iload rfl rfl ?_
          refine G_iload rfl rfl ?_
          obtain ⟨y14, hy14, h⟩ := Option.bind_eq_some_iff.mp h
          refine G_callvI 3 (t_Mod_shortestOf _ _ _ _  _ hy14) rfl rfl rfl rfl rfl rfl rfl rfl rfl rfl rfl ?_
          refine G_goto 66 rfl rfl ?_
          exact Go.weak' (t_Mod_wiresOf_66 d hk2 ih _ _ _ _ _ _ _  _ h) ⟨rfl, rfl, rfl, rfl, rfl, trivial⟩
set_option maxRecDepth 100000 in
set_option maxHeartbeats 4000000 in
theorem t_Mod_wiresOf_2 (d : Nat)   : ∀ (n : Nat) (sg : Hp) (x1 : Int32) (x2 : Int32) (x3 : Int32)  (y : Int32 × Hp), f_Mod_wiresOf_2  n sg x1 x2 x3 = some y → Go (d + 6) none 166 2 [(0, .ref 46), (1, .int x1), (2, .int x2), (3, .int x3)] [] sg (some (.int y.1)) y.2 := by
  intro n
  induction n with
  | zero =>
    intro sg x1 x2 x3 y h
    rw [f_Mod_wiresOf_2] at h
    cases h
  | succ n ih =>
    intro sg x1 x2 x3 y h
    rw [f_Mod_wiresOf_2] at h
    refine G_iload rfl rfl ?_
    refine G_iconst (8 : Int32) rfl (by decide) ?_
    refine G_ic_ge 79 rfl rfl (fun hc => ?_) (fun hc => ?_)
    · rw [if_pos hc] at h
      refine G_iconst (0 : Int32) rfl (by decide) ?_
      refine G_istore rfl rfl ?_
      refine G_iconst (0 : Int32) rfl (by decide) ?_
      refine G_istore rfl rfl ?_
      refine G_iconst (-1 : Int32) rfl (by decide) ?_
      refine G_istore rfl rfl ?_
      refine G_iconst (1 : Int32) rfl (by decide) ?_
      refine G_istore rfl rfl ?_
      exact Go.weak' (t_Mod_wiresOf_90 d  _ _ _ _ _ _ _  _ h) ⟨rfl, rfl, rfl, rfl, rfl, rfl, trivial⟩
    · rw [if_neg hc] at h
      refine G_aload rfl rfl ?_
      refine G_getR (ci := 10) 61 rfl rfl rfl rfl rfl ?_
      refine G_iload rfl rfl ?_
      refine G_iload rfl rfl ?_
      obtain ⟨hg8, h⟩ := if_some h
      obtain ⟨s9, hs9, h⟩ := Option.bind_eq_some_iff.mp h
      refine G_iast rfl rfl rfl hg8 (Option.some.inj hs9) ?_
      refine G_iload rfl rfl ?_
      refine G_iconst (1 : Int32) rfl (by decide) ?_
      refine G_iadd rfl ?_
      refine G_istore rfl rfl ?_
      exact Go.weak' (t_Mod_wiresOf_20 d ih _ _ _ _ _ _  _ h) ⟨rfl, rfl, rfl, rfl, rfl, trivial⟩
set_option maxRecDepth 100000 in
set_option maxHeartbeats 4000000 in
theorem t_Mod_wiresOf (d : Nat) (sg : Hp) (x1 : Int32) (x2 : Int32)  (y : Int32 × Hp) (h : f_Mod_wiresOf sg x1 x2 = some y) : Sm (d + 6) 166 [.ref 46, .int x1, .int x2] sg (some (.int y.1)) y.2 := by
  unfold f_Mod_wiresOf at h
  refine Sm.of (lv := [(0, .ref 46), (1, .int x1), (2, .int x2)]) rfl ?_
  refine G_iconst (0 : Int32) rfl (by decide) ?_
  refine G_istore rfl rfl ?_
  exact Go.weak' (t_Mod_wiresOf_2 d  _ _ _ _ _  _ h) ⟨rfl, rfl, rfl, rfl, trivial⟩
set_option maxRecDepth 100000 in
set_option maxHeartbeats 4000000 in
theorem t_Mod_wires (d : Nat) (sg : Hp) (x1 : Int32) (x2 : Int32)  (y : Int32 × Hp) (h : f_Mod_wires sg x1 x2 = some y) : Sm (d + 7) 165 [.ref 46, .int x1, .int x2] sg (some (.int y.1)) y.2 := by
  unfold f_Mod_wires at h
  refine Sm.of (lv := [(0, .ref 46), (1, .int x1), (2, .int x2)]) rfl ?_
  refine G_iload rfl rfl ?_
  refine G_i2l rfl ?_
  refine G_lconst (0 : Int64) rfl (by decide) ?_
  refine G_ldc2 (255 : Int64) rfl (by decide) ?_
  obtain ⟨y1, hy1, h⟩ := Option.bind_eq_some_iff.mp h
  refine G_callsI 3 (t_Mod_in _ _ _ _ _  _ hy1) rfl rfl rfl rfl rfl rfl rfl rfl rfl ?_
  refine G_if_eq 27 rfl rfl (fun hc => ?_) (fun hc => ?_)
  · rw [if_pos hc] at h
    refine G_iconst (-2 : Int32) rfl (by decide) ?_
    obtain rfl := Option.some.inj h
    exact G_iret rfl rfl
  · rw [if_neg hc] at h
    refine G_iload rfl rfl ?_
    refine G_iconst (-2 : Int32) rfl (by decide) ?_
    refine G_ic_lt 27 rfl rfl (fun hc => ?_) (fun hc => ?_)
    · rw [if_pos hc] at h
      refine G_iconst (-2 : Int32) rfl (by decide) ?_
      obtain rfl := Option.some.inj h
      exact G_iret rfl rfl
    · rw [if_neg hc] at h
      refine G_aload rfl rfl ?_
      refine G_iload rfl rfl ?_
      refine G_iload rfl rfl ?_
      obtain ⟨y2, hy2, h⟩ := Option.bind_eq_some_iff.mp h
      refine G_callvI 3 (t_Mod_wiresOf _ _ _ _  _ hy2) rfl rfl rfl rfl rfl rfl rfl rfl rfl rfl rfl ?_
      refine G_goto 29 rfl rfl ?_
      obtain rfl := Option.some.inj h
      exact G_iret rfl rfl
set_option maxRecDepth 100000 in
set_option maxHeartbeats 4000000 in
theorem t_Box_isLength (d : Nat) (sg : Hp) (x0 : Int32)  (y : Int32 × Hp) (h : f_Box_isLength sg x0 = some y) : Sm (d + 0) 71 [.int x0] sg (some (.int y.1)) y.2 := by
  unfold f_Box_isLength at h
  refine Sm.of (lv := [(0, .int x0)]) rfl ?_
  refine G_iload rfl rfl ?_
  refine G_if_lt 15 rfl rfl (fun hc => ?_) (fun hc => ?_)
  · rw [if_pos hc] at h
    refine G_iconst (0 : Int32) rfl (by decide) ?_
    obtain rfl := Option.some.inj h
    exact G_iret rfl rfl
  · rw [if_neg hc] at h
    refine G_iload rfl rfl ?_
    refine G_iconst (9999 : Int32) rfl (by decide) ?_
    refine G_ic_gt 15 rfl rfl (fun hc => ?_) (fun hc => ?_)
    · rw [if_pos hc] at h
      refine G_iconst (0 : Int32) rfl (by decide) ?_
      obtain rfl := Option.some.inj h
      exact G_iret rfl rfl
    · rw [if_neg hc] at h
      refine G_iconst (1 : Int32) rfl (by decide) ?_
      refine G_goto 16 rfl rfl ?_
      obtain rfl := Option.some.inj h
      exact G_iret rfl rfl
set_option maxRecDepth 100000 in
set_option maxHeartbeats 4000000 in
theorem t_Box_isNear (d : Nat) (sg : Hp) (x1 : Int32) (x2 : Int32) (x3 : Int32)  (y : Int32 × Hp) (h : f_Box_isNear sg x1 x2 x3 = some y) : Sm (d + 11) 72 [.ref 0, .int x1, .int x2, .int x3] sg (some (.int y.1)) y.2 := by
  unfold f_Box_isNear at h
  refine Sm.of (lv := [(0, .ref 0), (1, .int x1), (2, .int x2), (3, .int x3)]) rfl ?_
  refine G_aload rfl rfl ?_
  refine G_getR (ci := 9) 24 rfl rfl rfl rfl rfl ?_
  refine G_getR (ci := 7) 25 rfl rfl rfl rfl rfl ?_
  refine G_aload rfl rfl ?_
  refine G_getR (ci := 9) 24 rfl rfl rfl rfl rfl ?_
  refine G_iload rfl rfl ?_
  refine G_iload rfl rfl ?_
  obtain ⟨y1, hy1, h⟩ := Option.bind_eq_some_iff.mp h
  refine G_callvI 3 (t_Table_look _ _ _ _  _ hy1) rfl rfl rfl rfl rfl rfl rfl rfl rfl rfl rfl ?_
  obtain ⟨hg2, h⟩ := if_some h
  refine G_iald rfl rfl rfl hg2 ?_
  refine G_istore rfl rfl ?_
  refine G_iload rfl rfl ?_
  refine G_iconst (-1 : Int32) rfl (by decide) ?_
  refine G_ic_eq 35 rfl rfl (fun hc => ?_) (fun hc => ?_)
  · rw [if_pos hc] at h
    refine G_iconst (0 : Int32) rfl (by decide) ?_
    obtain rfl := Option.some.inj h
    exact G_iret rfl rfl
  · rw [if_neg hc] at h
    refine G_iload rfl rfl ?_
    refine G_iload rfl rfl ?_
    refine G_ic_gt 35 rfl rfl (fun hc => ?_) (fun hc => ?_)
    · rw [if_pos hc] at h
      refine G_iconst (0 : Int32) rfl (by decide) ?_
      obtain rfl := Option.some.inj h
      exact G_iret rfl rfl
    · rw [if_neg hc] at h
      refine G_iconst (1 : Int32) rfl (by decide) ?_
      refine G_goto 36 rfl rfl ?_
      obtain rfl := Option.some.inj h
      exact G_iret rfl rfl
set_option maxRecDepth 100000 in
set_option maxHeartbeats 4000000 in
theorem t_Box_within_43 (d : Nat) {k22 : Hp → Int32 → Int32 → Int32 → Int32 → Option (Int32 × Hp)} (hk22 : ∀ (sg : Hp) (x1 : Int32) (x2 : Int32) (x3 : Int32) (x4 : Int32)  (y : Int32 × Hp), k22 sg x1 x2 x3 x4 = some y → Go (d + 12) none 70 22 [(0, .ref 0), (1, .int x1), (2, .int x2), (3, .int x3), (4, .int x4)] [] sg (some (.int y.1)) y.2) (sg : Hp) (x1 : Int32) (x2 : Int32) (x3 : Int32) (x4 : Int32)  (y : Int32 × Hp) (h : f_Box_within_43 k22 sg x1 x2 x3 x4 = some y) : Go (d + 12) none 70 43 [(0, .ref 0), (1, .int x1), (2, .int x2), (3, .int x3), (4, .int x4)] [] sg (some (.int y.1)) y.2 := by
  unfold f_Box_within_43 at h
  refine G_iinc (1 : Int32) rfl (by decide) rfl rfl ?_
  refine G_goto 22 rfl rfl ?_
  exact Go.weak' (hk22 _ _ _ _ _  _ h) ⟨rfl, rfl, rfl, rfl, rfl, trivial⟩
set_option maxRecDepth 100000 in
set_option maxHeartbeats 4000000 in
theorem t_Box_within_22 (d : Nat)   : ∀ (n : Nat) (sg : Hp) (x1 : Int32) (x2 : Int32) (x3 : Int32) (x4 : Int32)  (y : Int32 × Hp), f_Box_within_22  n sg x1 x2 x3 x4 = some y → Go (d + 12) none 70 22 [(0, .ref 0), (1, .int x1), (2, .int x2), (3, .int x3), (4, .int x4)] [] sg (some (.int y.1)) y.2 := by
  intro n
  induction n with
  | zero =>
    intro sg x1 x2 x3 x4 y h
    rw [f_Box_within_22] at h
    cases h
  | succ n ih =>
    intro sg x1 x2 x3 x4 y h
    rw [f_Box_within_22] at h
    refine G_iload rfl rfl ?_
    refine G_iconst (8 : Int32) rfl (by decide) ?_
    refine G_ic_ge 49 rfl rfl (fun hc => ?_) (fun hc => ?_)
    · rw [if_pos hc] at h
      refine G_iload rfl rfl ?_
      obtain rfl := Option.some.inj h
      exact G_iret rfl rfl
    · rw [if_neg hc] at h
      refine G_aload rfl rfl ?_
      refine G_iload rfl rfl ?_
      refine G_iload rfl rfl ?_
      refine G_iload rfl rfl ?_
      obtain ⟨y3, hy3, h⟩ := Option.bind_eq_some_iff.mp h
      refine G_callvI 4 (t_Box_isNear _ _ _ _ _  _ hy3) rfl rfl rfl rfl rfl rfl rfl rfl rfl rfl rfl ?_
      refine G_if_eq 43 rfl rfl (fun hc => ?_) (fun hc => ?_)
      · rw [if_pos hc] at h
        exact Go.weak' (t_Box_within_43 d ih _ _ _ _ _  _ h) ⟨rfl, rfl, rfl, rfl, rfl, trivial⟩
      · rw [if_neg hc] at h
        refine G_iinc (1 : Int32) rfl (by decide) rfl rfl ?_
        exact Go.weak' (t_Box_within_43 d ih _ _ _ _ _  _ h) ⟨rfl, rfl, rfl, rfl, rfl, trivial⟩
set_option maxRecDepth 100000 in
set_option maxHeartbeats 4000000 in
theorem t_Box_within (d : Nat) (sg : Hp) (x1 : Int32) (x2 : Int32)  (y : Int32 × Hp) (h : f_Box_within sg x1 x2 = some y) : Sm (d + 12) 70 [.ref 0, .int x1, .int x2] sg (some (.int y.1)) y.2 := by
  unfold f_Box_within at h
  refine Sm.of (lv := [(0, .ref 0), (1, .int x1), (2, .int x2)]) rfl ?_
  refine G_iload rfl rfl ?_
  obtain ⟨y1, hy1, h⟩ := Option.bind_eq_some_iff.mp h
  refine G_callsI 1 (t_Box_isPlace _ _ _  _ hy1) rfl rfl rfl rfl rfl rfl rfl rfl rfl ?_
  refine G_if_eq 14 rfl rfl (fun hc => ?_) (fun hc => ?_)
  · rw [if_pos hc] at h
    refine G_iconst (-2 : Int32) rfl (by decide) ?_
    obtain rfl := Option.some.inj h
    exact G_iret rfl rfl
  · rw [if_neg hc] at h
    refine G_iload rfl rfl ?_
    obtain ⟨y2, hy2, h⟩ := Option.bind_eq_some_iff.mp h
    refine G_callsI 1 (t_Box_isLength _ _ _  _ hy2) rfl rfl rfl rfl rfl rfl rfl rfl rfl ?_
    refine G_if_ne 17 rfl rfl (fun hc => ?_) (fun hc => ?_)
    · rw [if_neg hc] at h
      refine G_iconst (0 : Int32) rfl (by decide) ?_
      refine G_istore rfl rfl ?_
      refine G_iconst (0 : Int32) rfl (by decide) ?_
      refine G_istore rfl rfl ?_
      exact Go.weak' (t_Box_within_22 d  _ _ _ _ _ _  _ h) ⟨rfl, rfl, rfl, rfl, rfl, trivial⟩
    · rw [if_pos hc] at h
      refine G_iconst (-2 : Int32) rfl (by decide) ?_
      obtain rfl := Option.some.inj h
      exact G_iret rfl rfl
set_option maxRecDepth 100000 in
set_option maxHeartbeats 4000000 in
theorem t_Mod_withinOf_35 (d : Nat) {k5 : Hp → Int32 → Int32 → Int32 → Int32 → Option (Int32 × Hp)} (hk5 : ∀ (sg : Hp) (x1 : Int32) (x2 : Int32) (x3 : Int32) (x4 : Int32)  (y : Int32 × Hp), k5 sg x1 x2 x3 x4 = some y → Go (d + 6) none 169 5 [(0, .ref 46), (1, .int x1), (2, .int x2), (3, .int x3), (4, .int x4)] [] sg (some (.int y.1)) y.2) (sg : Hp) (x1 : Int32) (x2 : Int32) (x4 : Int32) (xs0 : Int32) (xs1 : Int32)  (y : Int32 × Hp) (h : f_Mod_withinOf_35 k5 sg x1 x2 x4 xs0 xs1 = some y) : Go (d + 6) none 169 35 [(0, .ref 46), (1, .int x1), (2, .int x2), (4, .int x4)] [.int xs1, .int xs0] sg (some (.int y.1)) y.2 := by
  unfold f_Mod_withinOf_35 at h
  refine G_iadd rfl ?_
  refine G_istore rfl rfl ?_
  refine G_iinc (1 : Int32) rfl (by decide) rfl rfl ?_
  refine G_goto 5 rfl rfl ?_
  exact Go.weak' (hk5 _ _ _ _ _  _ h) ⟨rfl, rfl, rfl, rfl, rfl, trivial⟩
set_option maxRecDepth 100000 in
set_option maxHeartbeats 4000000 in
theorem t_Mod_withinOf_5 (d : Nat)   : ∀ (n : Nat) (sg : Hp) (x1 : Int32) (x2 : Int32) (x3 : Int32) (x4 : Int32)  (y : Int32 × Hp), f_Mod_withinOf_5  n sg x1 x2 x3 x4 = some y → Go (d + 6) none 169 5 [(0, .ref 46), (1, .int x1), (2, .int x2), (3, .int x3), (4, .int x4)] [] sg (some (.int y.1)) y.2 := by
  intro n
  induction n with
  | zero =>
    intro sg x1 x2 x3 x4 y h
    rw [f_Mod_withinOf_5] at h
    cases h
  | succ n ih =>
    intro sg x1 x2 x3 x4 y h
    rw [f_Mod_withinOf_5] at h
    refine G_iload rfl rfl ?_
    refine G_iconst (8 : Int32) rfl (by decide) ?_
    refine G_ic_ge 43 rfl rfl (fun hc => ?_) (fun hc => ?_)
    · rw [if_pos hc] at h
      refine G_iload rfl rfl ?_
      obtain rfl := Option.some.inj h
      exact G_iret rfl rfl
    · rw [if_neg hc] at h
      refine G_iload rfl rfl ?_
      refine G_aload rfl rfl ?_
      refine G_iload rfl rfl ?_
      refine G_iload rfl rfl ?_
      obtain ⟨y1, hy1, h⟩ := Option.bind_eq_some_iff.mp h
      refine G_callvI 3 (t_Mod_shortestOf _ _ _ _  _ hy1) rfl rfl rfl rfl rfl rfl rfl rfl rfl rfl rfl ?_
      refine G_i2l rfl ?_
      refine G_lconst (0 : Int64) rfl (by decide) ?_
      refine G_iload rfl rfl ?_
      refine G_i2l rfl ?_
      obtain ⟨y2, hy2, h⟩ := Option.bind_eq_some_iff.mp h
      refine G_callsI 3 (t_Mod_in _ _ _ _ _  _ hy2) rfl rfl rfl rfl rfl rfl rfl rfl rfl ?_
      refine G_if_eq 34 rfl rfl (fun hc => ?_) (fun hc => ?_)
      · rw [if_pos hc] at h
        refine G_iconst (0 : Int32) rfl (by decide) ?_
        exact Go.weak' (t_Mod_withinOf_35 d ih _ _ _ _ _ _  _ h) ⟨rfl, rfl, rfl, rfl, trivial⟩
      · rw [if_neg hc] at h
        refine G_iconst (1 : Int32) rfl (by decide) ?_
        refine G_goto 35 rfl rfl ?_
        exact Go.weak' (t_Mod_withinOf_35 d ih _ _ _ _ _ _  _ h) ⟨rfl, rfl, rfl, rfl, trivial⟩
set_option maxRecDepth 100000 in
set_option maxHeartbeats 4000000 in
theorem t_Mod_withinOf (d : Nat) (sg : Hp) (x1 : Int32) (x2 : Int32)  (y : Int32 × Hp) (h : f_Mod_withinOf sg x1 x2 = some y) : Sm (d + 6) 169 [.ref 46, .int x1, .int x2] sg (some (.int y.1)) y.2 := by
  unfold f_Mod_withinOf at h
  refine Sm.of (lv := [(0, .ref 46), (1, .int x1), (2, .int x2)]) rfl ?_
  refine G_iconst (0 : Int32) rfl (by decide) ?_
  refine G_istore rfl rfl ?_
  refine G_iconst (0 : Int32) rfl (by decide) ?_
  refine G_istore rfl rfl ?_
  exact Go.weak' (t_Mod_withinOf_5 d  _ _ _ _ _ _  _ h) ⟨rfl, rfl, rfl, rfl, rfl, trivial⟩
set_option maxRecDepth 100000 in
set_option maxHeartbeats 4000000 in
theorem t_Mod_within (d : Nat) (sg : Hp) (x1 : Int32) (x2 : Int32)  (y : Int32 × Hp) (h : f_Mod_within sg x1 x2 = some y) : Sm (d + 7) 168 [.ref 46, .int x1, .int x2] sg (some (.int y.1)) y.2 := by
  unfold f_Mod_within at h
  refine Sm.of (lv := [(0, .ref 46), (1, .int x1), (2, .int x2)]) rfl ?_
  refine G_iload rfl rfl ?_
  obtain ⟨y1, hy1, h⟩ := Option.bind_eq_some_iff.mp h
  refine G_callsI 1 (t_Mod_isPlace _ _ _  _ hy1) rfl rfl rfl rfl rfl rfl rfl rfl rfl ?_
  refine G_if_eq 28 rfl rfl (fun hc => ?_) (fun hc => ?_)
  · rw [if_pos hc] at h
    refine G_iconst (-2 : Int32) rfl (by decide) ?_
    obtain rfl := Option.some.inj h
    exact G_iret rfl rfl
  · rw [if_neg hc] at h
    refine G_iload rfl rfl ?_
    refine G_i2l rfl ?_
    refine G_lconst (0 : Int64) rfl (by decide) ?_
    refine G_ldc2 (9999 : Int64) rfl (by decide) ?_
    obtain ⟨y2, hy2, h⟩ := Option.bind_eq_some_iff.mp h
    refine G_callsI 3 (t_Mod_in _ _ _ _ _  _ hy2) rfl rfl rfl rfl rfl rfl rfl rfl rfl ?_
    refine G_if_eq 28 rfl rfl (fun hc => ?_) (fun hc => ?_)
    · rw [if_pos hc] at h
      refine G_iconst (-2 : Int32) rfl (by decide) ?_
      obtain rfl := Option.some.inj h
      exact G_iret rfl rfl
    · rw [if_neg hc] at h
      refine G_aload rfl rfl ?_
      refine G_iload rfl rfl ?_
      refine G_iload rfl rfl ?_
      obtain ⟨y3, hy3, h⟩ := Option.bind_eq_some_iff.mp h
      refine G_callvI 3 (t_Mod_withinOf _ _ _ _  _ hy3) rfl rfl rfl rfl rfl rfl rfl rfl rfl rfl rfl ?_
      refine G_goto 30 rfl rfl ?_
      obtain rfl := Option.some.inj h
      exact G_iret rfl rfl
set_option maxRecDepth 100000 in
set_option maxHeartbeats 4000000 in
theorem t_Box_lineStaysWithin_7 (d : Nat)   : ∀ (n : Nat) (sg : Hp) (x2 : Int32) (x3 : Int32)  (y : Int32 × Hp), f_Box_lineStaysWithin_7  n sg x2 x3 = some y → Go (d + 2) none 74 7 [(0, .ref 0), (2, .int x2), (3, .int x3)] [] sg (some (.int y.1)) y.2 := by
  intro n
  induction n with
  | zero =>
    intro sg x2 x3 y h
    rw [f_Box_lineStaysWithin_7] at h
    cases h
  | succ n ih =>
    intro sg x2 x3 y h
    rw [f_Box_lineStaysWithin_7] at h
    refine G_iload rfl rfl ?_
    refine G_iload rfl rfl ?_
    refine G_ic_ge 100 rfl rfl (fun hc => ?_) (fun hc => ?_)
    · rw [if_pos hc] at h
      refine G_iconst (1 : Int32) rfl (by decide) ?_
      obtain rfl := Option.some.inj h
      exact G_iret rfl rfl
    · rw [if_neg hc] at h
      refine G_iload rfl rfl ?_
      refine G_aload rfl rfl ?_
      refine G_getR (ci := 9) 9 rfl rfl rfl rfl rfl ?_
      refine G_getI (ci := 1) 1 rfl rfl rfl rfl rfl ?_
      refine G_ic_ge 100 rfl rfl (fun hc => ?_) (fun hc => ?_)
      · rw [if_pos hc] at h
        refine G_iconst (1 : Int32) rfl (by decide) ?_
        obtain rfl := Option.some.inj h
        exact G_iret rfl rfl
      · rw [if_neg hc] at h
        refine G_aload rfl rfl ?_
        refine G_getR (ci := 9) 9 rfl rfl rfl rfl rfl ?_
        refine G_getR (ci := 1) 10 rfl rfl rfl rfl rfl ?_
        refine G_iload rfl rfl ?_
        obtain ⟨hg2, h⟩ := if_some h
        refine G_iald rfl rfl rfl hg2 ?_
        obtain ⟨y3, hy3, h⟩ := Option.bind_eq_some_iff.mp h
        refine G_callsI 1 (t_Rolls_rollOf _ _ _  _ hy3) rfl rfl rfl rfl rfl rfl rfl rfl rfl ?_
        refine G_istore rfl rfl ?_
        refine G_aload rfl rfl ?_
        refine G_getR (ci := 9) 33 rfl rfl rfl rfl rfl ?_
        refine G_getI (ci := 6) 0 rfl rfl rfl rfl rfl ?_
        refine G_istore rfl rfl ?_
        refine G_aload rfl rfl ?_
        refine G_getR (ci := 9) 34 rfl rfl rfl rfl rfl ?_
        refine G_aload rfl rfl ?_
        refine G_getR (ci := 9) 33 rfl rfl rfl rfl rfl ?_
        refine G_iload rfl rfl ?_
        obtain ⟨y4, hy4, h⟩ := Option.bind_eq_some_iff.mp h
        refine G_callvI 3 (t_Line_meets _ _ _ _ _ rfl rfl _ hy4) rfl rfl rfl rfl rfl rfl rfl rfl rfl rfl rfl ?_
        refine G_if_ne 64 rfl rfl (fun hc => ?_) (fun hc => ?_)
        · rw [if_neg hc] at h
          refine G_aload rfl rfl ?_
          refine G_getR (ci := 9) 33 rfl rfl rfl rfl rfl ?_
          refine G_iload rfl rfl ?_
          obtain ⟨y5, hy5, h⟩ := Option.bind_eq_some_iff.mp h
          refine G_callvV 2 (t_Stand_roll _ _ _ _ rfl _ hy5) rfl rfl rfl rfl rfl rfl rfl rfl rfl rfl rfl ?_
          refine G_aload rfl rfl ?_
          refine G_getR (ci := 9) 1 rfl rfl rfl rfl rfl ?_
          refine G_iload rfl rfl ?_
          refine G_aload rfl rfl ?_
          refine G_getR (ci := 9) 33 rfl rfl rfl rfl rfl ?_
          refine G_getI (ci := 6) 0 rfl rfl rfl rfl rfl ?_
          obtain ⟨y6, hy6, h⟩ := Option.bind_eq_some_iff.mp h
          refine G_callvI 3 (t_Room_isBarred _ _ _ _  _ hy6) rfl rfl rfl rfl rfl rfl rfl rfl rfl rfl rfl ?_
          refine G_if_eq 94 rfl rfl (fun hc => ?_) (fun hc => ?_)
          · rw [if_pos hc] at h
            refine G_iinc (1 : Int32) rfl (by decide) rfl rfl ?_
            refine G_goto 7 rfl rfl ?_
            exact Go.weak' (ih _ _ _  _ h) ⟨rfl, rfl, rfl, trivial⟩
          · rw [if_neg hc] at h
            refine G_iconst (0 : Int32) rfl (by decide) ?_
            obtain rfl := Option.some.inj h
            exact G_iret rfl rfl
        · rw [if_pos hc] at h
          refine G_iconst (0 : Int32) rfl (by decide) ?_
          obtain rfl := Option.some.inj h
          exact G_iret rfl rfl
set_option maxRecDepth 100000 in
set_option maxHeartbeats 4000000 in
theorem t_Box_lineStaysWithin (d : Nat) (sg : Hp) (x1 : Int32) (x2 : Int32)  (y : Int32 × Hp) (h : f_Box_lineStaysWithin sg x1 x2 = some y) : Sm (d + 2) 74 [.ref 0, .int x1, .int x2] sg (some (.int y.1)) y.2 := by
  unfold f_Box_lineStaysWithin at h
  refine Sm.of (lv := [(0, .ref 0), (1, .int x1), (2, .int x2)]) rfl ?_
  refine G_aload rfl rfl ?_
  refine G_iload rfl rfl ?_
  obtain ⟨y1, hy1, h⟩ := Option.bind_eq_some_iff.mp h
  refine G_callvV 2 (t_Box_standBehind _ _ _  _ hy1) rfl rfl rfl rfl rfl rfl rfl rfl rfl rfl rfl ?_
  refine G_iload rfl rfl ?_
  refine G_istore rfl rfl ?_
  exact Go.weak' (t_Box_lineStaysWithin_7 d  _ _ _ _  _ h) ⟨rfl, rfl, rfl, trivial⟩
set_option maxRecDepth 100000 in
set_option maxHeartbeats 4000000 in
theorem t_Box_told (d : Nat) (sg : Hp) (x1 : Int32) (x2 : Int32) (x3 : Int32) (x4 : Int32)  (y : Int32 × Hp) (h : f_Box_told sg x1 x2 x3 x4 = some y) : Sm (d + 3) 73 [.ref 0, .int x1, .int x2, .int x3, .int x4] sg (some (.int y.1)) y.2 := by
  unfold f_Box_told at h
  refine Sm.of (lv := [(0, .ref 0), (1, .int x1), (2, .int x2), (3, .int x3), (4, .int x4)]) rfl ?_
  refine G_iload rfl rfl ?_
  obtain ⟨y1, hy1, h⟩ := Option.bind_eq_some_iff.mp h
  refine G_callsI 1 (t_Box_isPlace _ _ _  _ hy1) rfl rfl rfl rfl rfl rfl rfl rfl rfl ?_
  refine G_if_eq 36 rfl rfl (fun hc => ?_) (fun hc => ?_)
  · rw [if_pos hc] at h
    refine G_iconst (-2 : Int32) rfl (by decide) ?_
    obtain rfl := Option.some.inj h
    exact G_iret rfl rfl
  · rw [if_neg hc] at h
    refine G_iload rfl rfl ?_
    obtain ⟨y2, hy2, h⟩ := Option.bind_eq_some_iff.mp h
    refine G_callsI 1 (t_Box_isPlace _ _ _  _ hy2) rfl rfl rfl rfl rfl rfl rfl rfl rfl ?_
    refine G_if_eq 36 rfl rfl (fun hc => ?_) (fun hc => ?_)
    · rw [if_pos hc] at h
      refine G_iconst (-2 : Int32) rfl (by decide) ?_
      obtain rfl := Option.some.inj h
      exact G_iret rfl rfl
    · rw [if_neg hc] at h
      refine G_iload rfl rfl ?_
      refine G_if_lt 36 rfl rfl (fun hc => ?_) (fun hc => ?_)
      · rw [if_pos hc] at h
        refine G_iconst (-2 : Int32) rfl (by decide) ?_
        obtain rfl := Option.some.inj h
        exact G_iret rfl rfl
      · rw [if_neg hc] at h
        refine G_iload rfl rfl ?_
        refine G_iload rfl rfl ?_
        refine G_ic_lt 36 rfl rfl (fun hc => ?_) (fun hc => ?_)
        · rw [if_pos hc] at h
          refine G_iconst (-2 : Int32) rfl (by decide) ?_
          obtain rfl := Option.some.inj h
          exact G_iret rfl rfl
        · rw [if_neg hc] at h
          refine G_iload rfl rfl ?_
          refine G_aload rfl rfl ?_
          refine G_getR (ci := 9) 9 rfl rfl rfl rfl rfl ?_
          obtain ⟨y3, hy3, h⟩ := Option.bind_eq_some_iff.mp h
          refine G_callvI 1 (t_Rolls_valid _ _   _ hy3) rfl rfl rfl rfl rfl rfl rfl rfl rfl rfl rfl ?_
          refine G_ic_le 39 rfl rfl (fun hc => ?_) (fun hc => ?_)
          · rw [if_pos hc] at h
            refine G_aload rfl rfl ?_
            refine G_iload rfl rfl ?_
            obtain ⟨y4, hy4, h⟩ := Option.bind_eq_some_iff.mp h
            refine G_callvV 2 (t_Box_standBehind _ _ _  _ hy4) rfl rfl rfl rfl rfl rfl rfl rfl rfl rfl rfl ?_
            refine G_aload rfl rfl ?_
            refine G_getR (ci := 9) 1 rfl rfl rfl rfl rfl ?_
            refine G_iload rfl rfl ?_
            refine G_aload rfl rfl ?_
            refine G_getR (ci := 9) 35 rfl rfl rfl rfl rfl ?_
            obtain ⟨y5, hy5, h⟩ := Option.bind_eq_some_iff.mp h
            refine G_callvV 3 (t_Room_spotOf _ _ _ _ rfl _ hy5) rfl rfl rfl rfl rfl rfl rfl rfl rfl rfl rfl ?_
            refine G_aload rfl rfl ?_
            refine G_getR (ci := 9) 35 rfl rfl rfl rfl rfl ?_
            refine G_aload rfl rfl ?_
            refine G_getR (ci := 9) 33 rfl rfl rfl rfl rfl ?_
            refine G_getI (ci := 6) 0 rfl rfl rfl rfl rfl ?_
            obtain ⟨y6, hy6, h⟩ := Option.bind_eq_some_iff.mp h
            refine G_callvI 2 (t_Spot_isOn _ _ _ _ rfl _ hy6) rfl rfl rfl rfl rfl rfl rfl rfl rfl rfl rfl ?_
            refine G_if_ne 76 rfl rfl (fun hc => ?_) (fun hc => ?_)
            · rw [if_neg hc] at h
              refine G_aload rfl rfl ?_
              refine G_getR (ci := 9) 34 rfl rfl rfl rfl rfl ?_
              refine G_aload rfl rfl ?_
              refine G_getR (ci := 9) 33 rfl rfl rfl rfl rfl ?_
              refine G_aload rfl rfl ?_
              refine G_getR (ci := 9) 35 rfl rfl rfl rfl rfl ?_
              obtain ⟨y7, hy7, h⟩ := Option.bind_eq_some_iff.mp h
              refine G_callvI 2 (t_Stand_planeX _ _ _ _ rfl rfl _ hy7) rfl rfl rfl rfl rfl rfl rfl rfl rfl rfl rfl ?_
              refine G_aload rfl rfl ?_
              refine G_getR (ci := 9) 33 rfl rfl rfl rfl rfl ?_
              refine G_aload rfl rfl ?_
              refine G_getR (ci := 9) 35 rfl rfl rfl rfl rfl ?_
              obtain ⟨y8, hy8, h⟩ := Option.bind_eq_some_iff.mp h
              refine G_callvI 2 (t_Stand_planeY _ _ _ _ rfl rfl _ hy8) rfl rfl rfl rfl rfl rfl rfl rfl rfl rfl rfl ?_
              obtain ⟨y9, hy9, h⟩ := Option.bind_eq_some_iff.mp h
              refine G_callvV 3 (t_Line_begin _ _ _ _ _ rfl _ hy9) rfl rfl rfl rfl rfl rfl rfl rfl rfl rfl rfl ?_
              refine G_aload rfl rfl ?_
              refine G_iload rfl rfl ?_
              obtain ⟨y10, hy10, h⟩ := Option.bind_eq_some_iff.mp h
              refine G_callvV 2 (t_Box_standBehind _ _ _  _ hy10) rfl rfl rfl rfl rfl rfl rfl rfl rfl rfl rfl ?_
              refine G_aload rfl rfl ?_
              refine G_getR (ci := 9) 1 rfl rfl rfl rfl rfl ?_
              refine G_iload rfl rfl ?_
              refine G_aload rfl rfl ?_
              refine G_getR (ci := 9) 35 rfl rfl rfl rfl rfl ?_
              obtain ⟨y11, hy11, h⟩ := Option.bind_eq_some_iff.mp h
              refine G_callvV 3 (t_Room_spotOf _ _ _ _ rfl _ hy11) rfl rfl rfl rfl rfl rfl rfl rfl rfl rfl rfl ?_
              refine G_aload rfl rfl ?_
              refine G_getR (ci := 9) 35 rfl rfl rfl rfl rfl ?_
              refine G_aload rfl rfl ?_
              refine G_getR (ci := 9) 33 rfl rfl rfl rfl rfl ?_
              refine G_getI (ci := 6) 0 rfl rfl rfl rfl rfl ?_
              obtain ⟨y12, hy12, h⟩ := Option.bind_eq_some_iff.mp h
              refine G_callvI 2 (t_Spot_isOn _ _ _ _ rfl _ hy12) rfl rfl rfl rfl rfl rfl rfl rfl rfl rfl rfl ?_
              refine G_if_ne 143 rfl rfl (fun hc => ?_) (fun hc => ?_)
              · rw [if_neg hc] at h
                refine G_aload rfl rfl ?_
                refine G_getR (ci := 9) 34 rfl rfl rfl rfl rfl ?_
                refine G_aload rfl rfl ?_
                refine G_getR (ci := 9) 33 rfl rfl rfl rfl rfl ?_
                refine G_aload rfl rfl ?_
                refine G_getR (ci := 9) 35 rfl rfl rfl rfl rfl ?_
                obtain ⟨y13, hy13, h⟩ := Option.bind_eq_some_iff.mp h
                refine G_callvI 2 (t_Stand_planeX _ _ _ _ rfl rfl _ hy13) rfl rfl rfl rfl rfl rfl rfl rfl rfl rfl rfl ?_
                refine G_aload rfl rfl ?_
                refine G_getR (ci := 9) 33 rfl rfl rfl rfl rfl ?_
                refine G_aload rfl rfl ?_
                refine G_getR (ci := 9) 35 rfl rfl rfl rfl rfl ?_
                obtain ⟨y14, hy14, h⟩ := Option.bind_eq_some_iff.mp h
                refine G_callvI 2 (t_Stand_planeY _ _ _ _ rfl rfl _ hy14) rfl rfl rfl rfl rfl rfl rfl rfl rfl rfl rfl ?_
                obtain ⟨y15, hy15, h⟩ := Option.bind_eq_some_iff.mp h
                refine G_callvV 3 (t_Line_end _ _ _ _ _ rfl _ hy15) rfl rfl rfl rfl rfl rfl rfl rfl rfl rfl rfl ?_
                refine G_aload rfl rfl ?_
                refine G_iload rfl rfl ?_
                refine G_iload rfl rfl ?_
                obtain ⟨y16, hy16, h⟩ := Option.bind_eq_some_iff.mp h
                refine G_callvI 3 (t_Box_lineStaysWithin _ _ _ _  _ hy16) rfl rfl rfl rfl rfl rfl rfl rfl rfl rfl rfl ?_
                refine G_if_eq 192 rfl rfl (fun hc => ?_) (fun hc => ?_)
                · rw [if_pos hc] at h
                  refine G_iconst (-3 : Int32) rfl (by decide) ?_
                  obtain rfl := Option.some.inj h
                  exact G_iret rfl rfl
                · rw [if_neg hc] at h
                  refine G_aload rfl rfl ?_
                  refine G_getR (ci := 9) 34 rfl rfl rfl rfl rfl ?_
                  obtain ⟨y17, hy17, h⟩ := Option.bind_eq_some_iff.mp h
                  refine G_callvI 1 (t_Line_square _ _ _ rfl _ hy17) rfl rfl rfl rfl rfl rfl rfl rfl rfl rfl rfl ?_
                  refine G_goto 194 rfl rfl ?_
                  obtain rfl := Option.some.inj h
                  exact G_iret rfl rfl
              · rw [if_pos hc] at h
                refine G_iconst (-3 : Int32) rfl (by decide) ?_
                obtain rfl := Option.some.inj h
                exact G_iret rfl rfl
            · rw [if_pos hc] at h
              refine G_iconst (-3 : Int32) rfl (by decide) ?_
              obtain rfl := Option.some.inj h
              exact G_iret rfl rfl
          · rw [if_neg hc] at h
            refine G_iconst (-2 : Int32) rfl (by decide) ?_
            obtain rfl := Option.some.inj h
            exact G_iret rfl rfl
set_option maxRecDepth 100000 in
set_option maxHeartbeats 4000000 in
theorem t_Mod_toldOf (d : Nat) (sg : Hp) (x1 : Int32) (x2 : Int32) (x3 : Int32) (x4 : Int32)  (y : Int32 × Hp) (h : f_Mod_toldOf sg x1 x2 x3 x4 = some y) : Sm (d + 4) 171 [.ref 46, .int x1, .int x2, .int x3, .int x4] sg (some (.int y.1)) y.2 := by
  unfold f_Mod_toldOf at h
  refine Sm.of (lv := [(0, .ref 46), (1, .int x1), (2, .int x2), (3, .int x3), (4, .int x4)]) rfl ?_
  refine G_aload rfl rfl ?_
  refine G_iload rfl rfl ?_
  obtain ⟨y1, hy1, h⟩ := Option.bind_eq_some_iff.mp h
  refine G_callvV 2 (t_Mod_goesTo _ _ _  _ hy1) rfl rfl rfl rfl rfl rfl rfl rfl rfl rfl rfl ?_
  refine G_aload rfl rfl ?_
  refine G_aload rfl rfl ?_
  refine G_iload rfl rfl ?_
  obtain ⟨y2, hy2, h⟩ := Option.bind_eq_some_iff.mp h
  refine G_callvI 2 (t_Mod_faceAt _ _ _  _ hy2) rfl rfl rfl rfl rfl rfl rfl rfl rfl rfl rfl ?_
  refine G_iload rfl rfl ?_
  obtain ⟨y3, hy3, h⟩ := Option.bind_eq_some_iff.mp h
  refine G_callvI 3 (t_Mod_isOn _ _ _ _  _ hy3) rfl rfl rfl rfl rfl rfl rfl rfl rfl rfl rfl ?_
  refine G_if_eq 33 rfl rfl (fun hc => ?_) (fun hc => ?_)
  · rw [if_pos hc] at h
    refine G_iconst (-3 : Int32) rfl (by decide) ?_
    obtain rfl := Option.some.inj h
    exact G_iret rfl rfl
  · rw [if_neg hc] at h
    refine G_aload rfl rfl ?_
    refine G_aload rfl rfl ?_
    refine G_iload rfl rfl ?_
    obtain ⟨y4, hy4, h⟩ := Option.bind_eq_some_iff.mp h
    refine G_callvI 2 (t_Mod_faceAt _ _ _  _ hy4) rfl rfl rfl rfl rfl rfl rfl rfl rfl rfl rfl ?_
    refine G_iload rfl rfl ?_
    obtain ⟨y5, hy5, h⟩ := Option.bind_eq_some_iff.mp h
    refine G_callvI 3 (t_Mod_isOn _ _ _ _  _ hy5) rfl rfl rfl rfl rfl rfl rfl rfl rfl rfl rfl ?_
    refine G_if_ne 36 rfl rfl (fun hc => ?_) (fun hc => ?_)
    · rw [if_neg hc] at h
      refine G_aload rfl rfl ?_
      refine G_iload rfl rfl ?_
      refine G_iload rfl rfl ?_
      refine G_iload rfl rfl ?_
      refine G_iload rfl rfl ?_
      obtain ⟨y6, hy6, h⟩ := Option.bind_eq_some_iff.mp h
      refine G_callvI 5 (t_Mod_lineOf _ _ _ _ _ _  _ hy6) rfl rfl rfl rfl rfl rfl rfl rfl rfl rfl rfl ?_
      refine G_istore rfl rfl ?_
      refine G_iload rfl rfl ?_
      refine G_iconst (-1 : Int32) rfl (by decide) ?_
      refine G_ic_ne 58 rfl rfl (fun hc => ?_) (fun hc => ?_)
      · rw [if_neg hc] at h
        refine G_iload rfl rfl ?_
        obtain rfl := Option.some.inj h
        exact G_iret rfl rfl
      · rw [if_pos hc] at h
        refine G_iconst (-3 : Int32) rfl (by decide) ?_
        refine G_goto 60 rfl rfl ?_
        obtain rfl := Option.some.inj h
        exact G_iret rfl rfl
    · rw [if_pos hc] at h
      refine G_iconst (-3 : Int32) rfl (by decide) ?_
      obtain rfl := Option.some.inj h
      exact G_iret rfl rfl
set_option maxRecDepth 100000 in
set_option maxHeartbeats 4000000 in
theorem t_Mod_told (d : Nat) (sg : Hp) (x1 : Int32) (x2 : Int32) (x3 : Int32) (x4 : Int32)  (y : Int32 × Hp) (h : f_Mod_told sg x1 x2 x3 x4 = some y) : Sm (d + 5) 170 [.ref 46, .int x1, .int x2, .int x3, .int x4] sg (some (.int y.1)) y.2 := by
  unfold f_Mod_told at h
  refine Sm.of (lv := [(0, .ref 46), (1, .int x1), (2, .int x2), (3, .int x3), (4, .int x4)]) rfl ?_
  refine G_iload rfl rfl ?_
  obtain ⟨y1, hy1, h⟩ := Option.bind_eq_some_iff.mp h
  refine G_callsI 1 (t_Mod_isPlace _ _ _  _ hy1) rfl rfl rfl rfl rfl rfl rfl rfl rfl ?_
  refine G_if_eq 53 rfl rfl (fun hc => ?_) (fun hc => ?_)
  · rw [if_pos hc] at h
    refine G_iconst (-2 : Int32) rfl (by decide) ?_
    obtain rfl := Option.some.inj h
    exact G_iret rfl rfl
  · rw [if_neg hc] at h
    refine G_iload rfl rfl ?_
    obtain ⟨y2, hy2, h⟩ := Option.bind_eq_some_iff.mp h
    refine G_callsI 1 (t_Mod_isPlace _ _ _  _ hy2) rfl rfl rfl rfl rfl rfl rfl rfl rfl ?_
    refine G_if_eq 53 rfl rfl (fun hc => ?_) (fun hc => ?_)
    · rw [if_pos hc] at h
      refine G_iconst (-2 : Int32) rfl (by decide) ?_
      obtain rfl := Option.some.inj h
      exact G_iret rfl rfl
    · rw [if_neg hc] at h
      refine G_iload rfl rfl ?_
      refine G_i2l rfl ?_
      refine G_lconst (0 : Int64) rfl (by decide) ?_
      refine G_aload rfl rfl ?_
      obtain ⟨y3, hy3, h⟩ := Option.bind_eq_some_iff.mp h
      refine G_callvI 1 (t_Mod_rolls _ _   _ hy3) rfl rfl rfl rfl rfl rfl rfl rfl rfl rfl rfl ?_
      refine G_i2l rfl ?_
      obtain ⟨y4, hy4, h⟩ := Option.bind_eq_some_iff.mp h
      refine G_callsI 3 (t_Mod_in _ _ _ _ _  _ hy4) rfl rfl rfl rfl rfl rfl rfl rfl rfl ?_
      refine G_if_eq 53 rfl rfl (fun hc => ?_) (fun hc => ?_)
      · rw [if_pos hc] at h
        refine G_iconst (-2 : Int32) rfl (by decide) ?_
        obtain rfl := Option.some.inj h
        exact G_iret rfl rfl
      · rw [if_neg hc] at h
        refine G_iload rfl rfl ?_
        refine G_i2l rfl ?_
        refine G_lconst (0 : Int64) rfl (by decide) ?_
        refine G_iload rfl rfl ?_
        refine G_i2l rfl ?_
        obtain ⟨y5, hy5, h⟩ := Option.bind_eq_some_iff.mp h
        refine G_callsI 3 (t_Mod_in _ _ _ _ _  _ hy5) rfl rfl rfl rfl rfl rfl rfl rfl rfl ?_
        refine G_if_eq 53 rfl rfl (fun hc => ?_) (fun hc => ?_)
        · rw [if_pos hc] at h
          refine G_iconst (-2 : Int32) rfl (by decide) ?_
          obtain rfl := Option.some.inj h
          exact G_iret rfl rfl
        · rw [if_neg hc] at h
          refine G_aload rfl rfl ?_
          refine G_iload rfl rfl ?_
          refine G_iload rfl rfl ?_
          refine G_iload rfl rfl ?_
          refine G_iload rfl rfl ?_
          obtain ⟨y6, hy6, h⟩ := Option.bind_eq_some_iff.mp h
          refine G_callvI 5 (t_Mod_toldOf _ _ _ _ _ _  _ hy6) rfl rfl rfl rfl rfl rfl rfl rfl rfl rfl rfl ?_
          refine G_goto 55 rfl rfl ?_
          obtain rfl := Option.some.inj h
          exact G_iret rfl rfl
set_option maxRecDepth 100000 in
set_option maxHeartbeats 4000000 in
theorem t_Box_isSlope (d : Nat) (sg : Hp) (x0 : Int32)  (y : Int32 × Hp) (h : f_Box_isSlope sg x0 = some y) : Sm (d + 0) 76 [.int x0] sg (some (.int y.1)) y.2 := by
  unfold f_Box_isSlope at h
  refine Sm.of (lv := [(0, .int x0)]) rfl ?_
  refine G_iload rfl rfl ?_
  refine G_iconst (-9 : Int32) rfl (by decide) ?_
  refine G_ic_lt 16 rfl rfl (fun hc => ?_) (fun hc => ?_)
  · rw [if_pos hc] at h
    refine G_iconst (0 : Int32) rfl (by decide) ?_
    obtain rfl := Option.some.inj h
    exact G_iret rfl rfl
  · rw [if_neg hc] at h
    refine G_iload rfl rfl ?_
    refine G_iconst (9 : Int32) rfl (by decide) ?_
    refine G_ic_gt 16 rfl rfl (fun hc => ?_) (fun hc => ?_)
    · rw [if_pos hc] at h
      refine G_iconst (0 : Int32) rfl (by decide) ?_
      obtain rfl := Option.some.inj h
      exact G_iret rfl rfl
    · rw [if_neg hc] at h
      refine G_iconst (1 : Int32) rfl (by decide) ?_
      refine G_goto 17 rfl rfl ?_
      obtain rfl := Option.some.inj h
      exact G_iret rfl rfl
set_option maxRecDepth 100000 in
set_option maxHeartbeats 4000000 in
theorem t_Box_nextRoll_78 (d : Nat)   (sg : Hp) (x1 : Int32) (x2 : Int32) (x5 : Int32) (xs0 : Int32)  (y : Int32 × Hp) (h : f_Box_nextRoll_78  sg x1 x2 x5 xs0 = some y) : Go (d + 1) none 77 78 [(1, .int x1), (2, .int x2), (5, .int x5)] [.int xs0] sg (some (.int y.1)) y.2 := by
  unfold f_Box_nextRoll_78 at h
  refine G_istore rfl rfl ?_
  refine G_iload rfl rfl ?_
  refine G_iload rfl rfl ?_
  refine G_abs rfl rfl rfl ?_
  refine G_imul rfl ?_
  refine G_istore rfl rfl ?_
  refine G_iload rfl rfl ?_
  refine G_iload rfl rfl ?_
  refine G_abs rfl rfl rfl ?_
  refine G_imul rfl ?_
  refine G_istore rfl rfl ?_
  refine G_iload rfl rfl ?_
  refine G_iload rfl rfl ?_
  refine G_ic_ne 107 rfl rfl (fun hc => ?_) (fun hc => ?_)
  · rw [if_neg hc] at h
    refine G_iload rfl rfl ?_
    refine G_iload rfl rfl ?_
    refine G_ic_ge 124 rfl rfl (fun hc => ?_) (fun hc => ?_)
    · rw [if_pos hc] at h
      refine G_iload rfl rfl ?_
      refine G_if_le 132 rfl rfl (fun hc => ?_) (fun hc => ?_)
      · rw [if_pos hc] at h
        refine G_iconst (4 : Int32) rfl (by decide) ?_
        obtain rfl := Option.some.inj h
        exact G_iret rfl rfl
      · rw [if_neg hc] at h
        refine G_iconst (3 : Int32) rfl (by decide) ?_
        refine G_goto 133 rfl rfl ?_
        obtain rfl := Option.some.inj h
        exact G_iret rfl rfl
    · rw [if_neg hc] at h
      refine G_iload rfl rfl ?_
      refine G_if_le 122 rfl rfl (fun hc => ?_) (fun hc => ?_)
      · rw [if_pos hc] at h
        refine G_iconst (2 : Int32) rfl (by decide) ?_
        obtain rfl := Option.some.inj h
        exact G_iret rfl rfl
      · rw [if_neg hc] at h
        refine G_iconst (1 : Int32) rfl (by decide) ?_
        refine G_goto 123 rfl rfl ?_
        obtain rfl := Option.some.inj h
        exact G_iret rfl rfl
  · rw [if_pos hc] at h
    refine G_iconst (0 : Int32) rfl (by decide) ?_
    obtain rfl := Option.some.inj h
    exact G_iret rfl rfl
set_option maxRecDepth 100000 in
set_option maxHeartbeats 4000000 in
theorem t_Box_nextRoll_37 (d : Nat)   (sg : Hp) (x1 : Int32) (x2 : Int32) (x4 : Int32) (xs0 : Int32)  (y : Int32 × Hp) (h : f_Box_nextRoll_37  sg x1 x2 x4 xs0 = some y) : Go (d + 1) none 77 37 [(0, .ref 0), (1, .int x1), (2, .int x2), (4, .int x4)] [.int xs0] sg (some (.int y.1)) y.2 := by
  unfold f_Box_nextRoll_37 at h
  refine G_istore rfl rfl ?_
  refine G_iload rfl rfl ?_
  refine G_if_le 66 rfl rfl (fun hc => ?_) (fun hc => ?_)
  · rw [if_pos hc] at h
    refine G_iload rfl rfl ?_
    refine G_iconst (2 : Int32) rfl (by decide) ?_
    refine G_aload rfl rfl ?_
    refine G_getR (ci := 9) 33 rfl rfl rfl rfl rfl ?_
    refine G_getI (ci := 6) 4 rfl rfl rfl rfl rfl ?_
    refine G_imul rfl ?_
    refine G_isub rfl ?_
    exact Go.weak' (t_Box_nextRoll_78 d  _ _ _ _ _  _ h) ⟨rfl, rfl, rfl, trivial⟩
  · rw [if_neg hc] at h
    refine G_iconst (2 : Int32) rfl (by decide) ?_
    refine G_aload rfl rfl ?_
    refine G_getR (ci := 9) 33 rfl rfl rfl rfl rfl ?_
    refine G_getI (ci := 6) 4 rfl rfl rfl rfl rfl ?_
    refine G_aload rfl rfl ?_
    refine G_getR (ci := 9) 33 rfl rfl rfl rfl rfl ?_
    refine G_getI (ci := 6) 6 rfl rfl rfl rfl rfl ?_
    refine G_iadd rfl ?_
    refine G_imul rfl ?_
    refine G_iload rfl rfl ?_
    refine G_isub rfl ?_
    refine G_goto 78 rfl rfl ?_
    exact Go.weak' (t_Box_nextRoll_78 d  _ _ _ _ _  _ h) ⟨rfl, rfl, rfl, trivial⟩
set_option maxRecDepth 100000 in
set_option maxHeartbeats 4000000 in
theorem t_Box_nextRoll (d : Nat) (sg : Hp) (x1 : Int32) (x2 : Int32) (x3 : Int32) (x4 : Int32)  (y : Int32 × Hp) (h : f_Box_nextRoll sg x1 x2 x3 x4 = some y) : Sm (d + 1) 77 [.ref 0, .int x1, .int x2, .int x3, .int x4] sg (some (.int y.1)) y.2 := by
  unfold f_Box_nextRoll at h
  refine Sm.of (lv := [(0, .ref 0), (1, .int x1), (2, .int x2), (3, .int x3), (4, .int x4)]) rfl ?_
  refine G_iload rfl rfl ?_
  refine G_if_le 26 rfl rfl (fun hc => ?_) (fun hc => ?_)
  · rw [if_pos hc] at h
    refine G_iload rfl rfl ?_
    refine G_iconst (2 : Int32) rfl (by decide) ?_
    refine G_aload rfl rfl ?_
    refine G_getR (ci := 9) 33 rfl rfl rfl rfl rfl ?_
    refine G_getI (ci := 6) 3 rfl rfl rfl rfl rfl ?_
    refine G_imul rfl ?_
    refine G_isub rfl ?_
    exact Go.weak' (t_Box_nextRoll_37 d  _ _ _ _ _  _ h) ⟨rfl, rfl, rfl, rfl, trivial⟩
  · rw [if_neg hc] at h
    refine G_iconst (2 : Int32) rfl (by decide) ?_
    refine G_aload rfl rfl ?_
    refine G_getR (ci := 9) 33 rfl rfl rfl rfl rfl ?_
    refine G_getI (ci := 6) 3 rfl rfl rfl rfl rfl ?_
    refine G_aload rfl rfl ?_
    refine G_getR (ci := 9) 33 rfl rfl rfl rfl rfl ?_
    refine G_getI (ci := 6) 5 rfl rfl rfl rfl rfl ?_
    refine G_iadd rfl ?_
    refine G_imul rfl ?_
    refine G_iload rfl rfl ?_
    refine G_isub rfl ?_
    refine G_goto 37 rfl rfl ?_
    exact Go.weak' (t_Box_nextRoll_37 d  _ _ _ _ _  _ h) ⟨rfl, rfl, rfl, rfl, trivial⟩
set_option maxRecDepth 100000 in
set_option maxHeartbeats 4000000 in
theorem t_Box_snail_78 (d : Nat)   : ∀ (n : Nat) (sg : Hp) (x1 : Int32) (x2 : Int32) (x3 : Int32) (x4 : Int32) (x5 : Int32) (x6 : Int32) (x7 : Int32) (x8 : Int32)  (y : Int32 × Hp), f_Box_snail_78  n sg x1 x2 x3 x4 x5 x6 x7 x8 = some y → Go (d + 2) none 75 78 [(0, .ref 0), (1, .int x1), (2, .int x2), (3, .int x3), (4, .int x4), (5, .int x5), (6, .int x6), (7, .int x7), (8, .int x8)] [] sg (some (.int y.1)) y.2 := by
  intro n
  induction n with
  | zero =>
    intro sg x1 x2 x3 x4 x5 x6 x7 x8 y h
    rw [f_Box_snail_78] at h
    cases h
  | succ n ih =>
    intro sg x1 x2 x3 x4 x5 x6 x7 x8 y h
    rw [f_Box_snail_78] at h
    refine G_iload rfl rfl ?_
    refine G_iload rfl rfl ?_
    refine G_ic_ge 118 rfl rfl (fun hc => ?_) (fun hc => ?_)
    · rw [if_pos hc] at h
      refine G_iload rfl rfl ?_
      refine G_if_ne 133 rfl rfl (fun hc => ?_) (fun hc => ?_)
      · rw [if_neg hc] at h
        refine G_iload rfl rfl ?_
        obtain rfl := Option.some.inj h
        exact G_iret rfl rfl
      · rw [if_pos hc] at h
        refine G_aload rfl rfl ?_
        refine G_getR (ci := 9) 33 rfl rfl rfl rfl rfl ?_
        refine G_getI (ci := 6) 0 rfl rfl rfl rfl rfl ?_
        refine G_goto 135 rfl rfl ?_
        obtain rfl := Option.some.inj h
        exact G_iret rfl rfl
    · rw [if_neg hc] at h
      refine G_aload rfl rfl ?_
      refine G_iload rfl rfl ?_
      refine G_iload rfl rfl ?_
      refine G_iload rfl rfl ?_
      refine G_iload rfl rfl ?_
      obtain ⟨y4, hy4, h⟩ := Option.bind_eq_some_iff.mp h
      refine G_callvI 5 (t_Box_nextRoll _ _ _ _ _ _  _ hy4) rfl rfl rfl rfl rfl rfl rfl rfl rfl rfl rfl ?_
      refine G_istore rfl rfl ?_
      refine G_iload rfl rfl ?_
      refine G_if_ne 103 rfl rfl (fun hc => ?_) (fun hc => ?_)
      · rw [if_neg hc] at h
        refine G_aload rfl rfl ?_
        refine G_getR (ci := 9) 33 rfl rfl rfl rfl rfl ?_
        refine G_iload rfl rfl ?_
        obtain ⟨y5, hy5, h⟩ := Option.bind_eq_some_iff.mp h
        refine G_callvV 2 (t_Stand_roll _ _ _ _ rfl _ hy5) rfl rfl rfl rfl rfl rfl rfl rfl rfl rfl rfl ?_
        refine G_iinc (1 : Int32) rfl (by decide) rfl rfl ?_
        refine G_goto 78 rfl rfl ?_
        exact Go.weak' (ih _ _ _ _ _ _ _ _ _  _ h) ⟨rfl, rfl, rfl, rfl, rfl, rfl, rfl, rfl, rfl, trivial⟩
      · rw [if_pos hc] at h
        refine G_iconst (-1 : Int32) rfl (by decide) ?_
        obtain rfl := Option.some.inj h
        exact G_iret rfl rfl
set_option maxRecDepth 100000 in
set_option maxHeartbeats 4000000 in
theorem t_Box_snail_25 (d : Nat)   (sg : Hp) (x1 : Int32) (x2 : Int32) (x3 : Int32) (x4 : Int32)  (y : Int32 × Hp) (h : f_Box_snail_25  sg x1 x2 x3 x4 = some y) : Go (d + 2) none 75 25 [(0, .ref 0), (1, .int x1), (2, .int x2), (3, .int x3), (4, .int x4)] [] sg (some (.int y.1)) y.2 := by
  unfold f_Box_snail_25 at h
  refine G_iload rfl rfl ?_
  refine G_if_lt 46 rfl rfl (fun hc => ?_) (fun hc => ?_)
  · rw [if_pos hc] at h
    refine G_iconst (-2 : Int32) rfl (by decide) ?_
    obtain rfl := Option.some.inj h
    exact G_iret rfl rfl
  · rw [if_neg hc] at h
    refine G_iload rfl rfl ?_
    refine G_iconst (30 : Int32) rfl (by decide) ?_
    refine G_ic_gt 46 rfl rfl (fun hc => ?_) (fun hc => ?_)
    · rw [if_pos hc] at h
      refine G_iconst (-2 : Int32) rfl (by decide) ?_
      obtain rfl := Option.some.inj h
      exact G_iret rfl rfl
    · rw [if_neg hc] at h
      refine G_iload rfl rfl ?_
      refine G_if_lt 46 rfl rfl (fun hc => ?_) (fun hc => ?_)
      · rw [if_pos hc] at h
        refine G_iconst (-2 : Int32) rfl (by decide) ?_
        obtain rfl := Option.some.inj h
        exact G_iret rfl rfl
      · rw [if_neg hc] at h
        refine G_iload rfl rfl ?_
        refine G_iconst (1 : Int32) rfl (by decide) ?_
        refine G_ic_le 49 rfl rfl (fun hc => ?_) (fun hc => ?_)
        · rw [if_pos hc] at h
          refine G_aload rfl rfl ?_
          refine G_iconst (0 : Int32) rfl (by decide) ?_
          obtain ⟨y3, hy3, h⟩ := Option.bind_eq_some_iff.mp h
          refine G_callvV 2 (t_Box_standBehind _ _ _  _ hy3) rfl rfl rfl rfl rfl rfl rfl rfl rfl rfl rfl ?_
          refine G_aload rfl rfl ?_
          refine G_getR (ci := 9) 33 rfl rfl rfl rfl rfl ?_
          refine G_getI (ci := 6) 5 rfl rfl rfl rfl rfl ?_
          refine G_istore rfl rfl ?_
          refine G_aload rfl rfl ?_
          refine G_getR (ci := 9) 33 rfl rfl rfl rfl rfl ?_
          refine G_getI (ci := 6) 6 rfl rfl rfl rfl rfl ?_
          refine G_istore rfl rfl ?_
          refine G_iconst (0 : Int32) rfl (by decide) ?_
          refine G_istore rfl rfl ?_
          refine G_iconst (0 : Int32) rfl (by decide) ?_
          refine G_istore rfl rfl ?_
          exact Go.weak' (t_Box_snail_78 d  _ _ _ _ _ _ _ _ _ _  _ h) ⟨rfl, rfl, rfl, rfl, rfl, rfl, rfl, rfl, rfl, trivial⟩
        · rw [if_neg hc] at h
          refine G_iconst (-2 : Int32) rfl (by decide) ?_
          obtain rfl := Option.some.inj h
          exact G_iret rfl rfl
set_option maxRecDepth 100000 in
set_option maxHeartbeats 4000000 in
theorem t_Box_snail (d : Nat) (sg : Hp) (x1 : Int32) (x2 : Int32) (x3 : Int32) (x4 : Int32)  (y : Int32 × Hp) (h : f_Box_snail sg x1 x2 x3 x4 = some y) : Sm (d + 2) 75 [.ref 0, .int x1, .int x2, .int x3, .int x4] sg (some (.int y.1)) y.2 := by
  unfold f_Box_snail at h
  refine Sm.of (lv := [(0, .ref 0), (1, .int x1), (2, .int x2), (3, .int x3), (4, .int x4)]) rfl ?_
  refine G_iload rfl rfl ?_
  obtain ⟨y1, hy1, h⟩ := Option.bind_eq_some_iff.mp h
  refine G_callsI 1 (t_Box_isSlope _ _ _  _ hy1) rfl rfl rfl rfl rfl rfl rfl rfl rfl ?_
  refine G_if_eq 22 rfl rfl (fun hc => ?_) (fun hc => ?_)
  · rw [if_pos hc] at h
    refine G_iconst (-2 : Int32) rfl (by decide) ?_
    obtain rfl := Option.some.inj h
    exact G_iret rfl rfl
  · rw [if_neg hc] at h
    refine G_iload rfl rfl ?_
    obtain ⟨y2, hy2, h⟩ := Option.bind_eq_some_iff.mp h
    refine G_callsI 1 (t_Box_isSlope _ _ _  _ hy2) rfl rfl rfl rfl rfl rfl rfl rfl rfl ?_
    refine G_if_eq 22 rfl rfl (fun hc => ?_) (fun hc => ?_)
    · rw [if_pos hc] at h
      refine G_iconst (-2 : Int32) rfl (by decide) ?_
      obtain rfl := Option.some.inj h
      exact G_iret rfl rfl
    · rw [if_neg hc] at h
      refine G_iload rfl rfl ?_
      refine G_if_ne 25 rfl rfl (fun hc => ?_) (fun hc => ?_)
      · rw [if_neg hc] at h
        exact Go.weak' (t_Box_snail_25 d  _ _ _ _ _  _ h) ⟨rfl, rfl, rfl, rfl, rfl, trivial⟩
      · rw [if_pos hc] at h
        refine G_iload rfl rfl ?_
        refine G_if_ne 25 rfl rfl (fun hc => ?_) (fun hc => ?_)
        · rw [if_neg hc] at h
          exact Go.weak' (t_Box_snail_25 d  _ _ _ _ _  _ h) ⟨rfl, rfl, rfl, rfl, rfl, trivial⟩
        · rw [if_pos hc] at h
          refine G_iconst (-2 : Int32) rfl (by decide) ?_
          obtain rfl := Option.some.inj h
          exact G_iret rfl rfl
set_option maxRecDepth 100000 in
set_option maxHeartbeats 4000000 in
theorem t_Mod_snailOf_217 (d : Nat) {k26 : Hp → Int32 → Int32 → Int32 → Int32 → Int32 → Int32 → Int32 → Int32 → Option (Int32 × Hp)} (hk26 : ∀ (sg : Hp) (x1 : Int32) (x2 : Int32) (x3 : Int32) (x4 : Int32) (x5 : Int32) (x6 : Int32) (x7 : Int32) (x8 : Int32)  (y : Int32 × Hp), k26 sg x1 x2 x3 x4 x5 x6 x7 x8 = some y → Go (d + 2) none 173 26 [(0, .ref 46), (1, .int x1), (2, .int x2), (3, .int x3), (4, .int x4), (5, .int x5), (6, .int x6), (7, .int x7), (8, .int x8)] [] sg (some (.int y.1)) y.2) : ∀ (n : Nat) (sg : Hp) (x1 : Int32) (x2 : Int32) (x3 : Int32) (x4 : Int32) (x5 : Int32) (x6 : Int32) (x7 : Int32) (x8 : Int32) (x14 : Int32)  (y : Int32 × Hp), f_Mod_snailOf_217 k26 n sg x1 x2 x3 x4 x5 x6 x7 x8 x14 = some y → Go (d + 2) none 173 217 [(0, .ref 46), (1, .int x1), (2, .int x2), (3, .int x3), (4, .int x4), (5, .int x5), (6, .int x6), (7, .int x7), (8, .int x8), (14, .int x14)] [] sg (some (.int y.1)) y.2 := by
  intro n
  induction n with
  | zero =>
    intro sg x1 x2 x3 x4 x5 x6 x7 x8 x14 y h
    rw [f_Mod_snailOf_217] at h
    cases h
  | succ n ih =>
    intro sg x1 x2 x3 x4 x5 x6 x7 x8 x14 y h
    rw [f_Mod_snailOf_217] at h
    refine G_iload rfl rfl ?_
    refine G_iconst (14 : Int32) rfl (by decide) ?_
    refine G_ic_ge 247 rfl rfl (fun hc => ?_) (fun hc => ?_)
    · rw [if_pos hc] at h
      refine G_iinc (1 : Int32) rfl (by decide) rfl rfl ?_
      refine G_goto 26 rfl rfl ?_
      exact Go.weak' (hk26 _ _ _ _ _ _ _ _ _  _ h) ⟨rfl, rfl, rfl, rfl, rfl, rfl, rfl, rfl, rfl, trivial⟩
    · rw [if_neg hc] at h
      refine G_aload rfl rfl ?_
      refine G_getR (ci := 10) 55 rfl rfl rfl rfl rfl ?_
      refine G_iload rfl rfl ?_
      refine G_aload rfl rfl ?_
      refine G_getR (ci := 10) 55 rfl rfl rfl rfl rfl ?_
      refine G_iconst (14 : Int32) rfl (by decide) ?_
      refine G_iload rfl rfl ?_
      refine G_iadd rfl ?_
      obtain ⟨hg6, h⟩ := if_some h
      refine G_iald rfl rfl rfl hg6 ?_
      obtain ⟨hg7, h⟩ := if_some h
      obtain ⟨s8, hs8, h⟩ := Option.bind_eq_some_iff.mp h
      refine G_iast rfl rfl rfl hg7 (Option.some.inj hs8) ?_
      refine G_iinc (1 : Int32) rfl (by decide) rfl rfl ?_
      refine G_goto 217 rfl rfl ?_
      exact Go.weak' (ih _ _ _ _ _ _ _ _ _ _  _ h) ⟨rfl, rfl, rfl, rfl, rfl, rfl, rfl, rfl, rfl, rfl, trivial⟩
set_option maxRecDepth 100000 in
set_option maxHeartbeats 4000000 in
theorem t_Mod_snailOf_205 (d : Nat) {k26 : Hp → Int32 → Int32 → Int32 → Int32 → Int32 → Int32 → Int32 → Int32 → Option (Int32 × Hp)} (hk26 : ∀ (sg : Hp) (x1 : Int32) (x2 : Int32) (x3 : Int32) (x4 : Int32) (x5 : Int32) (x6 : Int32) (x7 : Int32) (x8 : Int32)  (y : Int32 × Hp), k26 sg x1 x2 x3 x4 x5 x6 x7 x8 = some y → Go (d + 2) none 173 26 [(0, .ref 46), (1, .int x1), (2, .int x2), (3, .int x3), (4, .int x4), (5, .int x5), (6, .int x6), (7, .int x7), (8, .int x8)] [] sg (some (.int y.1)) y.2) (sg : Hp) (x1 : Int32) (x2 : Int32) (x3 : Int32) (x4 : Int32) (x5 : Int32) (x6 : Int32) (x8 : Int32) (xs0 : Int32)  (y : Int32 × Hp) (h : f_Mod_snailOf_205 k26 sg x1 x2 x3 x4 x5 x6 x8 xs0 = some y) : Go (d + 2) none 173 205 [(0, .ref 46), (1, .int x1), (2, .int x2), (3, .int x3), (4, .int x4), (5, .int x5), (6, .int x6), (8, .int x8)] [.int xs0] sg (some (.int y.1)) y.2 := by
  unfold f_Mod_snailOf_205 at h
  refine G_istore rfl rfl ?_
  refine G_aload rfl rfl ?_
  refine G_iconst (0 : Int32) rfl (by decide) ?_
  refine G_iload rfl rfl ?_
  obtain ⟨y5, hy5, h⟩ := Option.bind_eq_some_iff.mp h
  refine G_callvV 3 (t_Mod_turns _ _ _ _  _ hy5) rfl rfl rfl rfl rfl rfl rfl rfl rfl rfl rfl ?_
  refine G_iconst (0 : Int32) rfl (by decide) ?_
  refine G_istore rfl rfl ?_
  exact Go.weak' (t_Mod_snailOf_217 d hk26 _ _ _ _ _ _ _ _ _ _ _  _ h) ⟨rfl, rfl, rfl, rfl, rfl, rfl, rfl, rfl, rfl, rfl, trivial⟩
set_option maxRecDepth 100000 in
set_option maxHeartbeats 4000000 in
theorem t_Mod_snailOf_177 (d : Nat) {k26 : Hp → Int32 → Int32 → Int32 → Int32 → Int32 → Int32 → Int32 → Int32 → Option (Int32 × Hp)} (hk26 : ∀ (sg : Hp) (x1 : Int32) (x2 : Int32) (x3 : Int32) (x4 : Int32) (x5 : Int32) (x6 : Int32) (x7 : Int32) (x8 : Int32)  (y : Int32 × Hp), k26 sg x1 x2 x3 x4 x5 x6 x7 x8 = some y → Go (d + 2) none 173 26 [(0, .ref 46), (1, .int x1), (2, .int x2), (3, .int x3), (4, .int x4), (5, .int x5), (6, .int x6), (7, .int x7), (8, .int x8)] [] sg (some (.int y.1)) y.2) (sg : Hp) (x1 : Int32) (x2 : Int32) (x3 : Int32) (x4 : Int32) (x5 : Int32) (x6 : Int32) (x8 : Int32) (xs0 : Int32)  (y : Int32 × Hp) (h : f_Mod_snailOf_177 k26 sg x1 x2 x3 x4 x5 x6 x8 xs0 = some y) : Go (d + 2) none 173 177 [(0, .ref 46), (1, .int x1), (2, .int x2), (3, .int x3), (4, .int x4), (5, .int x5), (6, .int x6), (8, .int x8)] [.int xs0] sg (some (.int y.1)) y.2 := by
  unfold f_Mod_snailOf_177 at h
  refine G_istore rfl rfl ?_
  refine G_iload rfl rfl ?_
  refine G_if_eq 196 rfl rfl (fun hc => ?_) (fun hc => ?_)
  · rw [if_pos hc] at h
    refine G_iload rfl rfl ?_
    refine G_if_le 204 rfl rfl (fun hc => ?_) (fun hc => ?_)
    · rw [if_pos hc] at h
      refine G_iconst (3 : Int32) rfl (by decide) ?_
      exact Go.weak' (t_Mod_snailOf_205 d hk26 _ _ _ _ _ _ _ _ _  _ h) ⟨rfl, rfl, rfl, rfl, rfl, rfl, rfl, rfl, trivial⟩
    · rw [if_neg hc] at h
      refine G_iconst (2 : Int32) rfl (by decide) ?_
      refine G_goto 205 rfl rfl ?_
      exact Go.weak' (t_Mod_snailOf_205 d hk26 _ _ _ _ _ _ _ _ _  _ h) ⟨rfl, rfl, rfl, rfl, rfl, rfl, rfl, rfl, trivial⟩
  · rw [if_neg hc] at h
    refine G_iload rfl rfl ?_
    refine G_if_le 192 rfl rfl (fun hc => ?_) (fun hc => ?_)
    · rw [if_pos hc] at h
      refine G_iconst (1 : Int32) rfl (by decide) ?_
      refine G_goto 205 rfl rfl ?_
      exact Go.weak' (t_Mod_snailOf_205 d hk26 _ _ _ _ _ _ _ _ _  _ h) ⟨rfl, rfl, rfl, rfl, rfl, rfl, rfl, rfl, trivial⟩
    · rw [if_neg hc] at h
      refine G_iconst (0 : Int32) rfl (by decide) ?_
      refine G_goto 205 rfl rfl ?_
      exact Go.weak' (t_Mod_snailOf_205 d hk26 _ _ _ _ _ _ _ _ _  _ h) ⟨rfl, rfl, rfl, rfl, rfl, rfl, rfl, rfl, trivial⟩
set_option maxRecDepth 100000 in
set_option maxHeartbeats 4000000 in
theorem t_Mod_snailOf_172 (d : Nat) {k26 : Hp → Int32 → Int32 → Int32 → Int32 → Int32 → Int32 → Int32 → Int32 → Option (Int32 × Hp)} (hk26 : ∀ (sg : Hp) (x1 : Int32) (x2 : Int32) (x3 : Int32) (x4 : Int32) (x5 : Int32) (x6 : Int32) (x7 : Int32) (x8 : Int32)  (y : Int32 × Hp), k26 sg x1 x2 x3 x4 x5 x6 x7 x8 = some y → Go (d + 2) none 173 26 [(0, .ref 46), (1, .int x1), (2, .int x2), (3, .int x3), (4, .int x4), (5, .int x5), (6, .int x6), (7, .int x7), (8, .int x8)] [] sg (some (.int y.1)) y.2) (sg : Hp) (x1 : Int32) (x2 : Int32) (x3 : Int32) (x4 : Int32) (x5 : Int32) (x6 : Int32) (x8 : Int32)  (y : Int32 × Hp) (h : f_Mod_snailOf_172 k26 sg x1 x2 x3 x4 x5 x6 x8 = some y) : Go (d + 2) none 173 172 [(0, .ref 46), (1, .int x1), (2, .int x2), (3, .int x3), (4, .int x4), (5, .int x5), (6, .int x6), (8, .int x8)] [] sg (some (.int y.1)) y.2 := by
  unfold f_Mod_snailOf_172 at h
  refine G_iconst (1 : Int32) rfl (by decide) ?_
  refine G_goto 177 rfl rfl ?_
  exact Go.weak' (t_Mod_snailOf_177 d hk26 _ _ _ _ _ _ _ _ _  _ h) ⟨rfl, rfl, rfl, rfl, rfl, rfl, rfl, rfl, trivial⟩
set_option maxRecDepth 100000 in
set_option maxHeartbeats 4000000 in
theorem t_Mod_snailOf_176 (d : Nat) {k26 : Hp → Int32 → Int32 → Int32 → Int32 → Int32 → Int32 → Int32 → Int32 → Option (Int32 × Hp)} (hk26 : ∀ (sg : Hp) (x1 : Int32) (x2 : Int32) (x3 : Int32) (x4 : Int32) (x5 : Int32) (x6 : Int32) (x7 : Int32) (x8 : Int32)  (y : Int32 × Hp), k26 sg x1 x2 x3 x4 x5 x6 x7 x8 = some y → Go (d + 2) none 173 26 [(0, .ref 46), (1, .int x1), (2, .int x2), (3, .int x3), (4, .int x4), (5, .int x5), (6, .int x6), (7, .int x7), (8, .int x8)] [] sg (some (.int y.1)) y.2) (sg : Hp) (x1 : Int32) (x2 : Int32) (x3 : Int32) (x4 : Int32) (x5 : Int32) (x6 : Int32) (x8 : Int32)  (y : Int32 × Hp) (h : f_Mod_snailOf_176 k26 sg x1 x2 x3 x4 x5 x6 x8 = some y) : Go (d + 2) none 173 176 [(0, .ref 46), (1, .int x1), (2, .int x2), (3, .int x3), (4, .int x4), (5, .int x5), (6, .int x6), (8, .int x8)] [] sg (some (.int y.1)) y.2 := by
  unfold f_Mod_snailOf_176 at h
  refine G_iconst (0 : Int32) rfl (by decide) ?_
  exact Go.weak' (t_Mod_snailOf_177 d hk26 _ _ _ _ _ _ _ _ _  _ h) ⟨rfl, rfl, rfl, rfl, rfl, rfl, rfl, rfl, trivial⟩
set_option maxRecDepth 100000 in
set_option maxHeartbeats 4000000 in
theorem t_Mod_snailOf_157 (d : Nat) {k26 : Hp → Int32 → Int32 → Int32 → Int32 → Int32 → Int32 → Int32 → Int32 → Option (Int32 × Hp)} (hk26 : ∀ (sg : Hp) (x1 : Int32) (x2 : Int32) (x3 : Int32) (x4 : Int32) (x5 : Int32) (x6 : Int32) (x7 : Int32) (x8 : Int32)  (y : Int32 × Hp), k26 sg x1 x2 x3 x4 x5 x6 x7 x8 = some y → Go (d + 2) none 173 26 [(0, .ref 46), (1, .int x1), (2, .int x2), (3, .int x3), (4, .int x4), (5, .int x5), (6, .int x6), (7, .int x7), (8, .int x8)] [] sg (some (.int y.1)) y.2) (sg : Hp) (x1 : Int32) (x2 : Int32) (x3 : Int32) (x4 : Int32) (x5 : Int32) (x6 : Int32) (x8 : Int32) (x11 : Int32) (x12 : Int32)  (y : Int32 × Hp) (h : f_Mod_snailOf_157 k26 sg x1 x2 x3 x4 x5 x6 x8 x11 x12 = some y) : Go (d + 2) none 173 157 [(0, .ref 46), (1, .int x1), (2, .int x2), (3, .int x3), (4, .int x4), (5, .int x5), (6, .int x6), (8, .int x8), (11, .int x11), (12, .int x12)] [] sg (some (.int y.1)) y.2 := by
  unfold f_Mod_snailOf_157 at h
  refine G_iload rfl rfl ?_
  refine G_if_eq 172 rfl rfl (fun hc => ?_) (fun hc => ?_)
  · rw [if_pos hc] at h
    exact Go.weak' (t_Mod_snailOf_172 d hk26 _ _ _ _ _ _ _ _  _ h) ⟨rfl, rfl, rfl, rfl, rfl, rfl, rfl, rfl, trivial⟩
  · rw [if_neg hc] at h
    refine G_iload rfl rfl ?_
    refine G_if_eq 176 rfl rfl (fun hc => ?_) (fun hc => ?_)
    · rw [if_pos hc] at h
      exact Go.weak' (t_Mod_snailOf_176 d hk26 _ _ _ _ _ _ _ _  _ h) ⟨rfl, rfl, rfl, rfl, rfl, rfl, rfl, rfl, trivial⟩
    · rw [if_neg hc] at h
      refine G_iload rfl rfl ?_
      refine G_iload rfl rfl ?_
      refine G_ic_ge 176 rfl rfl (fun hc => ?_) (fun hc => ?_)
      · rw [if_pos hc] at h
        exact Go.weak' (t_Mod_snailOf_176 d hk26 _ _ _ _ _ _ _ _  _ h) ⟨rfl, rfl, rfl, rfl, rfl, rfl, rfl, rfl, trivial⟩
      · rw [if_neg hc] at h
        exact Go.weak' (t_Mod_snailOf_172 d hk26 _ _ _ _ _ _ _ _  _ h) ⟨rfl, rfl, rfl, rfl, rfl, rfl, rfl, rfl, trivial⟩
set_option maxRecDepth 100000 in
set_option maxHeartbeats 4000000 in
theorem t_Mod_snailOf_137 (d : Nat) {k26 : Hp → Int32 → Int32 → Int32 → Int32 → Int32 → Int32 → Int32 → Int32 → Option (Int32 × Hp)} (hk26 : ∀ (sg : Hp) (x1 : Int32) (x2 : Int32) (x3 : Int32) (x4 : Int32) (x5 : Int32) (x6 : Int32) (x7 : Int32) (x8 : Int32)  (y : Int32 × Hp), k26 sg x1 x2 x3 x4 x5 x6 x7 x8 = some y → Go (d + 2) none 173 26 [(0, .ref 46), (1, .int x1), (2, .int x2), (3, .int x3), (4, .int x4), (5, .int x5), (6, .int x6), (7, .int x7), (8, .int x8)] [] sg (some (.int y.1)) y.2) (sg : Hp) (x1 : Int32) (x2 : Int32) (x3 : Int32) (x4 : Int32) (x5 : Int32) (x6 : Int32) (x8 : Int32) (x11 : Int32) (xs0 : Int32) (xs1 : Int32)  (y : Int32 × Hp) (h : f_Mod_snailOf_137 k26 sg x1 x2 x3 x4 x5 x6 x8 x11 xs0 xs1 = some y) : Go (d + 2) none 173 137 [(0, .ref 46), (1, .int x1), (2, .int x2), (3, .int x3), (4, .int x4), (5, .int x5), (6, .int x6), (8, .int x8), (11, .int x11)] [.int xs1, .int xs0] sg (some (.int y.1)) y.2 := by
  unfold f_Mod_snailOf_137 at h
  refine G_imul rfl ?_
  refine G_istore rfl rfl ?_
  refine G_iload rfl rfl ?_
  refine G_if_eq 157 rfl rfl (fun hc => ?_) (fun hc => ?_)
  · rw [if_pos hc] at h
    exact Go.weak' (t_Mod_snailOf_157 d hk26 _ _ _ _ _ _ _ _ _ _  _ h) ⟨rfl, rfl, rfl, rfl, rfl, rfl, rfl, rfl, rfl, rfl, trivial⟩
  · rw [if_neg hc] at h
    refine G_iload rfl rfl ?_
    refine G_if_eq 157 rfl rfl (fun hc => ?_) (fun hc => ?_)
    · rw [if_pos hc] at h
      exact Go.weak' (t_Mod_snailOf_157 d hk26 _ _ _ _ _ _ _ _ _ _  _ h) ⟨rfl, rfl, rfl, rfl, rfl, rfl, rfl, rfl, rfl, rfl, trivial⟩
    · rw [if_neg hc] at h
      refine G_iload rfl rfl ?_
      refine G_iload rfl rfl ?_
      refine G_ic_ne 157 rfl rfl (fun hc => ?_) (fun hc => ?_)
      · rw [if_neg hc] at h
        exact Go.weak' (t_Mod_snailOf_157 d hk26 _ _ _ _ _ _ _ _ _ _  _ h) ⟨rfl, rfl, rfl, rfl, rfl, rfl, rfl, rfl, rfl, rfl, trivial⟩
      · rw [if_pos hc] at h
        refine G_iconst (-1 : Int32) rfl (by decide) ?_
        obtain rfl := Option.some.inj h
        exact G_iret rfl rfl
set_option maxRecDepth 100000 in
set_option maxHeartbeats 4000000 in
theorem t_Mod_snailOf_127 (d : Nat) {k26 : Hp → Int32 → Int32 → Int32 → Int32 → Int32 → Int32 → Int32 → Int32 → Option (Int32 × Hp)} (hk26 : ∀ (sg : Hp) (x1 : Int32) (x2 : Int32) (x3 : Int32) (x4 : Int32) (x5 : Int32) (x6 : Int32) (x7 : Int32) (x8 : Int32)  (y : Int32 × Hp), k26 sg x1 x2 x3 x4 x5 x6 x7 x8 = some y → Go (d + 2) none 173 26 [(0, .ref 46), (1, .int x1), (2, .int x2), (3, .int x3), (4, .int x4), (5, .int x5), (6, .int x6), (7, .int x7), (8, .int x8)] [] sg (some (.int y.1)) y.2) (sg : Hp) (x1 : Int32) (x2 : Int32) (x3 : Int32) (x4 : Int32) (x5 : Int32) (x6 : Int32) (x8 : Int32) (x11 : Int32) (xs0 : Int32)  (y : Int32 × Hp) (h : f_Mod_snailOf_127 k26 sg x1 x2 x3 x4 x5 x6 x8 x11 xs0 = some y) : Go (d + 2) none 173 127 [(0, .ref 46), (1, .int x1), (2, .int x2), (3, .int x3), (4, .int x4), (5, .int x5), (6, .int x6), (8, .int x8), (11, .int x11)] [.int xs0] sg (some (.int y.1)) y.2 := by
  unfold f_Mod_snailOf_127 at h
  refine G_iload rfl rfl ?_
  refine G_if_ge 136 rfl rfl (fun hc => ?_) (fun hc => ?_)
  · rw [if_pos hc] at h
    refine G_iload rfl rfl ?_
    exact Go.weak' (t_Mod_snailOf_137 d hk26 _ _ _ _ _ _ _ _ _ _ _  _ h) ⟨rfl, rfl, rfl, rfl, rfl, rfl, rfl, rfl, rfl, trivial⟩
  · rw [if_neg hc] at h
    refine G_iload rfl rfl ?_
    refine G_ineg rfl ?_
    refine G_goto 137 rfl rfl ?_
    exact Go.weak' (t_Mod_snailOf_137 d hk26 _ _ _ _ _ _ _ _ _ _ _  _ h) ⟨rfl, rfl, rfl, rfl, rfl, rfl, rfl, rfl, rfl, trivial⟩
set_option maxRecDepth 100000 in
set_option maxHeartbeats 4000000 in
theorem t_Mod_snailOf_111 (d : Nat) {k26 : Hp → Int32 → Int32 → Int32 → Int32 → Int32 → Int32 → Int32 → Int32 → Option (Int32 × Hp)} (hk26 : ∀ (sg : Hp) (x1 : Int32) (x2 : Int32) (x3 : Int32) (x4 : Int32) (x5 : Int32) (x6 : Int32) (x7 : Int32) (x8 : Int32)  (y : Int32 × Hp), k26 sg x1 x2 x3 x4 x5 x6 x7 x8 = some y → Go (d + 2) none 173 26 [(0, .ref 46), (1, .int x1), (2, .int x2), (3, .int x3), (4, .int x4), (5, .int x5), (6, .int x6), (7, .int x7), (8, .int x8)] [] sg (some (.int y.1)) y.2) (sg : Hp) (x1 : Int32) (x2 : Int32) (x3 : Int32) (x4 : Int32) (x5 : Int32) (x6 : Int32) (x8 : Int32) (x10 : Int32) (xs0 : Int32) (xs1 : Int32)  (y : Int32 × Hp) (h : f_Mod_snailOf_111 k26 sg x1 x2 x3 x4 x5 x6 x8 x10 xs0 xs1 = some y) : Go (d + 2) none 173 111 [(0, .ref 46), (1, .int x1), (2, .int x2), (3, .int x3), (4, .int x4), (5, .int x5), (6, .int x6), (8, .int x8), (10, .int x10)] [.int xs1, .int xs0] sg (some (.int y.1)) y.2 := by
  unfold f_Mod_snailOf_111 at h
  refine G_imul rfl ?_
  refine G_istore rfl rfl ?_
  refine G_iload rfl rfl ?_
  refine G_if_ge 125 rfl rfl (fun hc => ?_) (fun hc => ?_)
  · rw [if_pos hc] at h
    refine G_iload rfl rfl ?_
    exact Go.weak' (t_Mod_snailOf_127 d hk26 _ _ _ _ _ _ _ _ _ _  _ h) ⟨rfl, rfl, rfl, rfl, rfl, rfl, rfl, rfl, rfl, trivial⟩
  · rw [if_neg hc] at h
    refine G_iload rfl rfl ?_
    refine G_ineg rfl ?_
    refine G_goto 127 rfl rfl ?_
    exact Go.weak' (t_Mod_snailOf_127 d hk26 _ _ _ _ _ _ _ _ _ _  _ h) ⟨rfl, rfl, rfl, rfl, rfl, rfl, rfl, rfl, rfl, trivial⟩
set_option maxRecDepth 100000 in
set_option maxHeartbeats 4000000 in
theorem t_Mod_snailOf_101 (d : Nat) {k26 : Hp → Int32 → Int32 → Int32 → Int32 → Int32 → Int32 → Int32 → Int32 → Option (Int32 × Hp)} (hk26 : ∀ (sg : Hp) (x1 : Int32) (x2 : Int32) (x3 : Int32) (x4 : Int32) (x5 : Int32) (x6 : Int32) (x7 : Int32) (x8 : Int32)  (y : Int32 × Hp), k26 sg x1 x2 x3 x4 x5 x6 x7 x8 = some y → Go (d + 2) none 173 26 [(0, .ref 46), (1, .int x1), (2, .int x2), (3, .int x3), (4, .int x4), (5, .int x5), (6, .int x6), (7, .int x7), (8, .int x8)] [] sg (some (.int y.1)) y.2) (sg : Hp) (x1 : Int32) (x2 : Int32) (x3 : Int32) (x4 : Int32) (x5 : Int32) (x6 : Int32) (x8 : Int32) (x10 : Int32) (xs0 : Int32)  (y : Int32 × Hp) (h : f_Mod_snailOf_101 k26 sg x1 x2 x3 x4 x5 x6 x8 x10 xs0 = some y) : Go (d + 2) none 173 101 [(0, .ref 46), (1, .int x1), (2, .int x2), (3, .int x3), (4, .int x4), (5, .int x5), (6, .int x6), (8, .int x8), (10, .int x10)] [.int xs0] sg (some (.int y.1)) y.2 := by
  unfold f_Mod_snailOf_101 at h
  refine G_iload rfl rfl ?_
  refine G_if_ge 110 rfl rfl (fun hc => ?_) (fun hc => ?_)
  · rw [if_pos hc] at h
    refine G_iload rfl rfl ?_
    exact Go.weak' (t_Mod_snailOf_111 d hk26 _ _ _ _ _ _ _ _ _ _ _  _ h) ⟨rfl, rfl, rfl, rfl, rfl, rfl, rfl, rfl, rfl, trivial⟩
  · rw [if_neg hc] at h
    refine G_iload rfl rfl ?_
    refine G_ineg rfl ?_
    refine G_goto 111 rfl rfl ?_
    exact Go.weak' (t_Mod_snailOf_111 d hk26 _ _ _ _ _ _ _ _ _ _ _  _ h) ⟨rfl, rfl, rfl, rfl, rfl, rfl, rfl, rfl, rfl, trivial⟩
set_option maxRecDepth 100000 in
set_option maxHeartbeats 4000000 in
theorem t_Mod_snailOf_81 (d : Nat) {k26 : Hp → Int32 → Int32 → Int32 → Int32 → Int32 → Int32 → Int32 → Int32 → Option (Int32 × Hp)} (hk26 : ∀ (sg : Hp) (x1 : Int32) (x2 : Int32) (x3 : Int32) (x4 : Int32) (x5 : Int32) (x6 : Int32) (x7 : Int32) (x8 : Int32)  (y : Int32 × Hp), k26 sg x1 x2 x3 x4 x5 x6 x7 x8 = some y → Go (d + 2) none 173 26 [(0, .ref 46), (1, .int x1), (2, .int x2), (3, .int x3), (4, .int x4), (5, .int x5), (6, .int x6), (7, .int x7), (8, .int x8)] [] sg (some (.int y.1)) y.2) (sg : Hp) (x1 : Int32) (x2 : Int32) (x3 : Int32) (x4 : Int32) (x5 : Int32) (x6 : Int32) (x8 : Int32) (x9 : Int32) (xs0 : Int32) (xs1 : Int32) (xs2 : Int32)  (y : Int32 × Hp) (h : f_Mod_snailOf_81 k26 sg x1 x2 x3 x4 x5 x6 x8 x9 xs0 xs1 xs2 = some y) : Go (d + 2) none 173 81 [(0, .ref 46), (1, .int x1), (2, .int x2), (3, .int x3), (4, .int x4), (5, .int x5), (6, .int x6), (8, .int x8), (9, .int x9)] [.int xs2, .int xs1, .int xs0] sg (some (.int y.1)) y.2 := by
  unfold f_Mod_snailOf_81 at h
  refine G_iadd rfl ?_
  refine G_imul rfl ?_
  refine G_iload rfl rfl ?_
  refine G_isub rfl ?_
  refine G_istore rfl rfl ?_
  refine G_iload rfl rfl ?_
  refine G_if_ge 99 rfl rfl (fun hc => ?_) (fun hc => ?_)
  · rw [if_pos hc] at h
    refine G_iload rfl rfl ?_
    exact Go.weak' (t_Mod_snailOf_101 d hk26 _ _ _ _ _ _ _ _ _ _  _ h) ⟨rfl, rfl, rfl, rfl, rfl, rfl, rfl, rfl, rfl, trivial⟩
  · rw [if_neg hc] at h
    refine G_iload rfl rfl ?_
    refine G_ineg rfl ?_
    refine G_goto 101 rfl rfl ?_
    exact Go.weak' (t_Mod_snailOf_101 d hk26 _ _ _ _ _ _ _ _ _ _  _ h) ⟨rfl, rfl, rfl, rfl, rfl, rfl, rfl, rfl, rfl, trivial⟩
set_option maxRecDepth 100000 in
set_option maxHeartbeats 4000000 in
theorem t_Mod_snailOf_53 (d : Nat) {k26 : Hp → Int32 → Int32 → Int32 → Int32 → Int32 → Int32 → Int32 → Int32 → Option (Int32 × Hp)} (hk26 : ∀ (sg : Hp) (x1 : Int32) (x2 : Int32) (x3 : Int32) (x4 : Int32) (x5 : Int32) (x6 : Int32) (x7 : Int32) (x8 : Int32)  (y : Int32 × Hp), k26 sg x1 x2 x3 x4 x5 x6 x7 x8 = some y → Go (d + 2) none 173 26 [(0, .ref 46), (1, .int x1), (2, .int x2), (3, .int x3), (4, .int x4), (5, .int x5), (6, .int x6), (7, .int x7), (8, .int x8)] [] sg (some (.int y.1)) y.2) (sg : Hp) (x1 : Int32) (x2 : Int32) (x3 : Int32) (x4 : Int32) (x5 : Int32) (x6 : Int32) (x8 : Int32) (xs0 : Int32) (xs1 : Int32) (xs2 : Int32)  (y : Int32 × Hp) (h : f_Mod_snailOf_53 k26 sg x1 x2 x3 x4 x5 x6 x8 xs0 xs1 xs2 = some y) : Go (d + 2) none 173 53 [(0, .ref 46), (1, .int x1), (2, .int x2), (3, .int x3), (4, .int x4), (5, .int x5), (6, .int x6), (8, .int x8)] [.int xs2, .int xs1, .int xs0] sg (some (.int y.1)) y.2 := by
  unfold f_Mod_snailOf_53 at h
  refine G_iadd rfl ?_
  refine G_imul rfl ?_
  refine G_iload rfl rfl ?_
  refine G_isub rfl ?_
  refine G_istore rfl rfl ?_
  refine G_iconst (2 : Int32) rfl (by decide) ?_
  refine G_aload rfl rfl ?_
  refine G_iconst (0 : Int32) rfl (by decide) ?_
  refine G_iconst (1 : Int32) rfl (by decide) ?_
  obtain ⟨y4, hy4, h⟩ := Option.bind_eq_some_iff.mp h
  refine G_callvI 3 (t_Mod_southWest _ _ _ _  _ hy4) rfl rfl rfl rfl rfl rfl rfl rfl rfl rfl rfl ?_
  refine G_iload rfl rfl ?_
  refine G_if_le 80 rfl rfl (fun hc => ?_) (fun hc => ?_)
  · rw [if_pos hc] at h
    refine G_iconst (0 : Int32) rfl (by decide) ?_
    exact Go.weak' (t_Mod_snailOf_81 d hk26 _ _ _ _ _ _ _ _ _ _ _ _  _ h) ⟨rfl, rfl, rfl, rfl, rfl, rfl, rfl, rfl, rfl, trivial⟩
  · rw [if_neg hc] at h
    refine G_aload rfl rfl ?_
    refine G_iconst (0 : Int32) rfl (by decide) ?_
    refine G_iconst (3 : Int32) rfl (by decide) ?_
    obtain ⟨y9, hy9, h⟩ := Option.bind_eq_some_iff.mp h
    refine G_callvI 3 (t_Mod_far _ _ _ _  _ hy9) rfl rfl rfl rfl rfl rfl rfl rfl rfl rfl rfl ?_
    refine G_goto 81 rfl rfl ?_
    exact Go.weak' (t_Mod_snailOf_81 d hk26 _ _ _ _ _ _ _ _ _ _ _ _  _ h) ⟨rfl, rfl, rfl, rfl, rfl, rfl, rfl, rfl, rfl, trivial⟩
set_option maxRecDepth 100000 in
set_option maxHeartbeats 4000000 in
theorem t_Mod_snailOf_26 (d : Nat)   : ∀ (n : Nat) (sg : Hp) (x1 : Int32) (x2 : Int32) (x3 : Int32) (x4 : Int32) (x5 : Int32) (x6 : Int32) (x7 : Int32) (x8 : Int32)  (y : Int32 × Hp), f_Mod_snailOf_26  n sg x1 x2 x3 x4 x5 x6 x7 x8 = some y → Go (d + 2) none 173 26 [(0, .ref 46), (1, .int x1), (2, .int x2), (3, .int x3), (4, .int x4), (5, .int x5), (6, .int x6), (7, .int x7), (8, .int x8)] [] sg (some (.int y.1)) y.2 := by
  intro n
  induction n with
  | zero =>
    intro sg x1 x2 x3 x4 x5 x6 x7 x8 y h
    rw [f_Mod_snailOf_26] at h
    cases h
  | succ n ih =>
    intro sg x1 x2 x3 x4 x5 x6 x7 x8 y h
    rw [f_Mod_snailOf_26] at h
    refine G_iload rfl rfl ?_
    refine G_iload rfl rfl ?_
    refine G_ic_ge 253 rfl rfl (fun hc => ?_) (fun hc => ?_)
    · rw [if_pos hc] at h
      refine G_iload rfl rfl ?_
      refine G_if_ne 266 rfl rfl (fun hc => ?_) (fun hc => ?_)
      · rw [if_neg hc] at h
        refine G_iload rfl rfl ?_
        refine G_iconst (1 : Int32) rfl (by decide) ?_
        refine G_iadd rfl ?_
        obtain rfl := Option.some.inj h
        exact G_iret rfl rfl
      · rw [if_pos hc] at h
        refine G_aload rfl rfl ?_
        refine G_iconst (0 : Int32) rfl (by decide) ?_
        obtain ⟨y2, hy2, h⟩ := Option.bind_eq_some_iff.mp h
        refine G_callvI 2 (t_Mod_faceAt _ _ _  _ hy2) rfl rfl rfl rfl rfl rfl rfl rfl rfl rfl rfl ?_
        refine G_goto 270 rfl rfl ?_
        obtain rfl := Option.some.inj h
        exact G_iret rfl rfl
    · rw [if_neg hc] at h
      refine G_iconst (2 : Int32) rfl (by decide) ?_
      refine G_aload rfl rfl ?_
      refine G_iconst (0 : Int32) rfl (by decide) ?_
      refine G_iconst (0 : Int32) rfl (by decide) ?_
      obtain ⟨y3, hy3, h⟩ := Option.bind_eq_some_iff.mp h
      refine G_callvI 3 (t_Mod_southWest _ _ _ _  _ hy3) rfl rfl rfl rfl rfl rfl rfl rfl rfl rfl rfl ?_
      refine G_iload rfl rfl ?_
      refine G_if_le 52 rfl rfl (fun hc => ?_) (fun hc => ?_)
      · rw [if_pos hc] at h
        refine G_iconst (0 : Int32) rfl (by decide) ?_
        exact Go.weak' (t_Mod_snailOf_53 d ih _ _ _ _ _ _ _ _ _ _ _  _ h) ⟨rfl, rfl, rfl, rfl, rfl, rfl, rfl, rfl, trivial⟩
      · rw [if_neg hc] at h
        refine G_aload rfl rfl ?_
        refine G_iconst (0 : Int32) rfl (by decide) ?_
        refine G_iconst (0 : Int32) rfl (by decide) ?_
        obtain ⟨y10, hy10, h⟩ := Option.bind_eq_some_iff.mp h
        refine G_callvI 3 (t_Mod_far _ _ _ _  _ hy10) rfl rfl rfl rfl rfl rfl rfl rfl rfl rfl rfl ?_
        refine G_goto 53 rfl rfl ?_
        exact Go.weak' (t_Mod_snailOf_53 d ih _ _ _ _ _ _ _ _ _ _ _  _ h) ⟨rfl, rfl, rfl, rfl, rfl, rfl, rfl, rfl, trivial⟩
set_option maxRecDepth 100000 in
set_option maxHeartbeats 4000000 in
theorem t_Mod_snailOf (d : Nat) (sg : Hp) (x1 : Int32) (x2 : Int32) (x3 : Int32) (x4 : Int32)  (y : Int32 × Hp) (h : f_Mod_snailOf sg x1 x2 x3 x4 = some y) : Sm (d + 2) 173 [.ref 46, .int x1, .int x2, .int x3, .int x4] sg (some (.int y.1)) y.2 := by
  unfold f_Mod_snailOf at h
  refine Sm.of (lv := [(0, .ref 46), (1, .int x1), (2, .int x2), (3, .int x3), (4, .int x4)]) rfl ?_
  refine G_aload rfl rfl ?_
  obtain ⟨y1, hy1, h⟩ := Option.bind_eq_some_iff.mp h
  refine G_callvV 1 (t_Mod_begins _ _   _ hy1) rfl rfl rfl rfl rfl rfl rfl rfl rfl rfl rfl ?_
  refine G_aload rfl rfl ?_
  refine G_getR (ci := 10) 51 rfl rfl rfl rfl rfl ?_
  refine G_iconst (0 : Int32) rfl (by decide) ?_
  refine G_ialdL 0 rfl rfl rfl (by decide) (by decide) ?_
  refine G_istore rfl rfl ?_
  refine G_aload rfl rfl ?_
  refine G_getR (ci := 10) 51 rfl rfl rfl rfl rfl ?_
  refine G_iconst (1 : Int32) rfl (by decide) ?_
  refine G_ialdL 1 rfl rfl rfl (by decide) (by decide) ?_
  refine G_istore rfl rfl ?_
  refine G_iconst (-1 : Int32) rfl (by decide) ?_
  refine G_istore rfl rfl ?_
  refine G_iconst (0 : Int32) rfl (by decide) ?_
  refine G_istore rfl rfl ?_
  exact Go.weak' (t_Mod_snailOf_26 d  _ _ _ _ _ _ _ _ _ _  _ h) ⟨rfl, rfl, rfl, rfl, rfl, rfl, rfl, rfl, rfl, trivial⟩
set_option maxRecDepth 100000 in
set_option maxHeartbeats 4000000 in
theorem t_Mod_snail_41 (d : Nat)   (sg : Hp) (x1 : Int32) (x2 : Int32) (x3 : Int32) (x4 : Int32) (xs0 : Int32)  (y : Int32 × Hp) (h : f_Mod_snail_41  sg x1 x2 x3 x4 xs0 = some y) : Go (d + 3) none 172 41 [(0, .ref 46), (1, .int x1), (2, .int x2), (3, .int x3), (4, .int x4)] [.int xs0] sg (some (.int y.1)) y.2 := by
  unfold f_Mod_snail_41 at h
  refine G_istore rfl rfl ?_
  refine G_iload rfl rfl ?_
  refine G_if_eq 80 rfl rfl (fun hc => ?_) (fun hc => ?_)
  · rw [if_pos hc] at h
    refine G_iconst (-2 : Int32) rfl (by decide) ?_
    obtain rfl := Option.some.inj h
    exact G_iret rfl rfl
  · rw [if_neg hc] at h
    refine G_iload rfl rfl ?_
    refine G_i2l rfl ?_
    refine G_lconst (0 : Int64) rfl (by decide) ?_
    refine G_ldc2 (30 : Int64) rfl (by decide) ?_
    obtain ⟨y2, hy2, h⟩ := Option.bind_eq_some_iff.mp h
    refine G_callsI 3 (t_Mod_in _ _ _ _ _  _ hy2) rfl rfl rfl rfl rfl rfl rfl rfl rfl ?_
    refine G_if_eq 80 rfl rfl (fun hc => ?_) (fun hc => ?_)
    · rw [if_pos hc] at h
      refine G_iconst (-2 : Int32) rfl (by decide) ?_
      obtain rfl := Option.some.inj h
      exact G_iret rfl rfl
    · rw [if_neg hc] at h
      refine G_iload rfl rfl ?_
      obtain ⟨y3, hy3, h⟩ := Option.bind_eq_some_iff.mp h
      refine G_callsI 1 (t_Mod_isTwo _ _ _  _ hy3) rfl rfl rfl rfl rfl rfl rfl rfl rfl ?_
      refine G_if_eq 80 rfl rfl (fun hc => ?_) (fun hc => ?_)
      · rw [if_pos hc] at h
        refine G_iconst (-2 : Int32) rfl (by decide) ?_
        obtain rfl := Option.some.inj h
        exact G_iret rfl rfl
      · rw [if_neg hc] at h
        refine G_aload rfl rfl ?_
        refine G_iload rfl rfl ?_
        refine G_iload rfl rfl ?_
        refine G_iload rfl rfl ?_
        refine G_iload rfl rfl ?_
        obtain ⟨y4, hy4, h⟩ := Option.bind_eq_some_iff.mp h
        refine G_callvI 5 (t_Mod_snailOf _ _ _ _ _ _  _ hy4) rfl rfl rfl rfl rfl rfl rfl rfl rfl rfl rfl ?_
        refine G_goto 82 rfl rfl ?_
        obtain rfl := Option.some.inj h
        exact G_iret rfl rfl
set_option maxRecDepth 100000 in
set_option maxHeartbeats 4000000 in
theorem t_Mod_snail_40 (d : Nat)   (sg : Hp) (x1 : Int32) (x2 : Int32) (x3 : Int32) (x4 : Int32)  (y : Int32 × Hp) (h : f_Mod_snail_40  sg x1 x2 x3 x4 = some y) : Go (d + 3) none 172 40 [(0, .ref 46), (1, .int x1), (2, .int x2), (3, .int x3), (4, .int x4)] [] sg (some (.int y.1)) y.2 := by
  unfold f_Mod_snail_40 at h
  refine G_iconst (0 : Int32) rfl (by decide) ?_
  exact Go.weak' (t_Mod_snail_41 d  _ _ _ _ _ _  _ h) ⟨rfl, rfl, rfl, rfl, rfl, trivial⟩
set_option maxRecDepth 100000 in
set_option maxHeartbeats 4000000 in
theorem t_Mod_snail_36 (d : Nat)   (sg : Hp) (x1 : Int32) (x2 : Int32) (x3 : Int32) (x4 : Int32)  (y : Int32 × Hp) (h : f_Mod_snail_36  sg x1 x2 x3 x4 = some y) : Go (d + 3) none 172 36 [(0, .ref 46), (1, .int x1), (2, .int x2), (3, .int x3), (4, .int x4)] [] sg (some (.int y.1)) y.2 := by
  unfold f_Mod_snail_36 at h
  refine G_iconst (1 : Int32) rfl (by decide) ?_
  refine G_goto 41 rfl rfl ?_
  exact Go.weak' (t_Mod_snail_41 d  _ _ _ _ _ _  _ h) ⟨rfl, rfl, rfl, rfl, rfl, trivial⟩
set_option maxRecDepth 100000 in
set_option maxHeartbeats 4000000 in
theorem t_Mod_snail (d : Nat) (sg : Hp) (x1 : Int32) (x2 : Int32) (x3 : Int32) (x4 : Int32)  (y : Int32 × Hp) (h : f_Mod_snail sg x1 x2 x3 x4 = some y) : Sm (d + 3) 172 [.ref 46, .int x1, .int x2, .int x3, .int x4] sg (some (.int y.1)) y.2 := by
  unfold f_Mod_snail at h
  refine Sm.of (lv := [(0, .ref 46), (1, .int x1), (2, .int x2), (3, .int x3), (4, .int x4)]) rfl ?_
  refine G_iload rfl rfl ?_
  refine G_i2l rfl ?_
  refine G_ldc2 (-9 : Int64) rfl (by decide) ?_
  refine G_ldc2 (9 : Int64) rfl (by decide) ?_
  obtain ⟨y1, hy1, h⟩ := Option.bind_eq_some_iff.mp h
  refine G_callsI 3 (t_Mod_in _ _ _ _ _  _ hy1) rfl rfl rfl rfl rfl rfl rfl rfl rfl ?_
  refine G_if_eq 40 rfl rfl (fun hc => ?_) (fun hc => ?_)
  · rw [if_pos hc] at h
    exact Go.weak' (t_Mod_snail_40 d  _ _ _ _ _  _ h) ⟨rfl, rfl, rfl, rfl, rfl, trivial⟩
  · rw [if_neg hc] at h
    refine G_iload rfl rfl ?_
    refine G_i2l rfl ?_
    refine G_ldc2 (-9 : Int64) rfl (by decide) ?_
    refine G_ldc2 (9 : Int64) rfl (by decide) ?_
    obtain ⟨y5, hy5, h⟩ := Option.bind_eq_some_iff.mp h
    refine G_callsI 3 (t_Mod_in _ _ _ _ _  _ hy5) rfl rfl rfl rfl rfl rfl rfl rfl rfl ?_
    refine G_if_eq 40 rfl rfl (fun hc => ?_) (fun hc => ?_)
    · rw [if_pos hc] at h
      exact Go.weak' (t_Mod_snail_40 d  _ _ _ _ _  _ h) ⟨rfl, rfl, rfl, rfl, rfl, trivial⟩
    · rw [if_neg hc] at h
      refine G_iload rfl rfl ?_
      refine G_if_ne 36 rfl rfl (fun hc => ?_) (fun hc => ?_)
      · rw [if_neg hc] at h
        exact Go.weak' (t_Mod_snail_36 d  _ _ _ _ _  _ h) ⟨rfl, rfl, rfl, rfl, rfl, trivial⟩
      · rw [if_pos hc] at h
        refine G_iload rfl rfl ?_
        refine G_if_eq 40 rfl rfl (fun hc => ?_) (fun hc => ?_)
        · rw [if_pos hc] at h
          exact Go.weak' (t_Mod_snail_40 d  _ _ _ _ _  _ h) ⟨rfl, rfl, rfl, rfl, rfl, trivial⟩
        · rw [if_neg hc] at h
          exact Go.weak' (t_Mod_snail_36 d  _ _ _ _ _  _ h) ⟨rfl, rfl, rfl, rfl, rfl, trivial⟩
set_option maxRecDepth 100000 in
set_option maxHeartbeats 4000000 in
theorem t_Box_lengthIfHigh (d : Nat) (sg : Hp) (x1 : Int32) (x2 : Int32) (x3 : Int32)  (y : Int32 × Hp) (h : f_Box_lengthIfHigh sg x1 x2 x3 = some y) : Sm (d + 10) 79 [.ref 0, .int x1, .int x2, .int x3] sg (some (.int y.1)) y.2 := by
  unfold f_Box_lengthIfHigh at h
  refine Sm.of (lv := [(0, .ref 0), (1, .int x1), (2, .int x2), (3, .int x3)]) rfl ?_
  refine G_aload rfl rfl ?_
  refine G_getR (ci := 9) 1 rfl rfl rfl rfl rfl ?_
  refine G_getR (ci := 2) 2 rfl rfl rfl rfl rfl ?_
  refine G_iconst (0 : Int32) rfl (by decide) ?_
  refine G_aload rfl rfl ?_
  refine G_getR (ci := 9) 37 rfl rfl rfl rfl rfl ?_
  refine G_iconst (0 : Int32) rfl (by decide) ?_
  refine G_iconst (3 : Int32) rfl (by decide) ?_
  obtain ⟨hg1, h⟩ := if_some h
  obtain ⟨s2, hs2, h⟩ := Option.bind_eq_some_iff.mp h
  refine G_cpy rfl rfl rfl rfl rfl rfl rfl hg1 (Option.some.inj hs2) ?_
  refine G_aload rfl rfl ?_
  refine G_getR (ci := 9) 37 rfl rfl rfl rfl rfl ?_
  refine G_iconst (0 : Int32) rfl (by decide) ?_
  refine G_iload rfl rfl ?_
  obtain ⟨s3, hs3, h⟩ := Option.bind_eq_some_iff.mp h
  refine G_iastL 0 rfl rfl rfl (by decide) (by decide) (Option.some.inj hs3) ?_
  refine G_aload rfl rfl ?_
  refine G_getR (ci := 9) 11 rfl rfl rfl rfl rfl ?_
  refine G_getR (ci := 3) 12 rfl rfl rfl rfl rfl ?_
  refine G_aload rfl rfl ?_
  refine G_getR (ci := 9) 37 rfl rfl rfl rfl rfl ?_
  refine G_aload rfl rfl ?_
  refine G_getR (ci := 9) 1 rfl rfl rfl rfl rfl ?_
  refine G_getR (ci := 2) 3 rfl rfl rfl rfl rfl ?_
  refine G_iload rfl rfl ?_
  obtain ⟨hg4, h⟩ := if_some h
  refine G_iald rfl rfl rfl hg4 ?_
  refine G_aload rfl rfl ?_
  refine G_getR (ci := 9) 1 rfl rfl rfl rfl rfl ?_
  refine G_getR (ci := 2) 4 rfl rfl rfl rfl rfl ?_
  refine G_iload rfl rfl ?_
  obtain ⟨hg5, h⟩ := if_some h
  refine G_iald rfl rfl rfl hg5 ?_
  refine G_aload rfl rfl ?_
  refine G_getR (ci := 9) 1 rfl rfl rfl rfl rfl ?_
  refine G_getR (ci := 2) 5 rfl rfl rfl rfl rfl ?_
  refine G_iload rfl rfl ?_
  obtain ⟨hg6, h⟩ := if_some h
  refine G_iald rfl rfl rfl hg6 ?_
  obtain ⟨y7, hy7, h⟩ := Option.bind_eq_some_iff.mp h
  refine G_callvV 5 (t_Spot_set _ _ _ _ _ _ _ rfl rfl rfl _ hy7) rfl rfl rfl rfl rfl rfl rfl rfl rfl rfl rfl ?_
  refine G_aload rfl rfl ?_
  refine G_getR (ci := 9) 11 rfl rfl rfl rfl rfl ?_
  refine G_getR (ci := 3) 14 rfl rfl rfl rfl rfl ?_
  refine G_aload rfl rfl ?_
  refine G_getR (ci := 9) 37 rfl rfl rfl rfl rfl ?_
  refine G_aload rfl rfl ?_
  refine G_getR (ci := 9) 1 rfl rfl rfl rfl rfl ?_
  refine G_getR (ci := 2) 3 rfl rfl rfl rfl rfl ?_
  refine G_iload rfl rfl ?_
  obtain ⟨hg8, h⟩ := if_some h
  refine G_iald rfl rfl rfl hg8 ?_
  refine G_aload rfl rfl ?_
  refine G_getR (ci := 9) 1 rfl rfl rfl rfl rfl ?_
  refine G_getR (ci := 2) 4 rfl rfl rfl rfl rfl ?_
  refine G_iload rfl rfl ?_
  obtain ⟨hg9, h⟩ := if_some h
  refine G_iald rfl rfl rfl hg9 ?_
  refine G_aload rfl rfl ?_
  refine G_getR (ci := 9) 1 rfl rfl rfl rfl rfl ?_
  refine G_getR (ci := 2) 5 rfl rfl rfl rfl rfl ?_
  refine G_iload rfl rfl ?_
  obtain ⟨hg10, h⟩ := if_some h
  refine G_iald rfl rfl rfl hg10 ?_
  obtain ⟨y11, hy11, h⟩ := Option.bind_eq_some_iff.mp h
  refine G_callvV 5 (t_Spot_set _ _ _ _ _ _ _ rfl rfl rfl _ hy11) rfl rfl rfl rfl rfl rfl rfl rfl rfl rfl rfl ?_
  refine G_aload rfl rfl ?_
  refine G_getR (ci := 9) 11 rfl rfl rfl rfl rfl ?_
  refine G_getR (ci := 3) 12 rfl rfl rfl rfl rfl ?_
  obtain ⟨y12, hy12, h⟩ := Option.bind_eq_some_iff.mp h
  refine G_callvI 1 (t_Spot_isOnBox _ _ _ rfl _ hy12) rfl rfl rfl rfl rfl rfl rfl rfl rfl rfl rfl ?_
  refine G_if_eq 132 rfl rfl (fun hc => ?_) (fun hc => ?_)
  · rw [if_pos hc] at h
    refine G_iconst (-3 : Int32) rfl (by decide) ?_
    obtain rfl := Option.some.inj h
    exact G_iret rfl rfl
  · rw [if_neg hc] at h
    refine G_aload rfl rfl ?_
    refine G_getR (ci := 9) 11 rfl rfl rfl rfl rfl ?_
    refine G_getR (ci := 3) 14 rfl rfl rfl rfl rfl ?_
    obtain ⟨y13, hy13, h⟩ := Option.bind_eq_some_iff.mp h
    refine G_callvI 1 (t_Spot_isOnBox _ _ _ rfl _ hy13) rfl rfl rfl rfl rfl rfl rfl rfl rfl rfl rfl ?_
    refine G_if_ne 135 rfl rfl (fun hc => ?_) (fun hc => ?_)
    · rw [if_neg hc] at h
      refine G_aload rfl rfl ?_
      refine G_getR (ci := 9) 11 rfl rfl rfl rfl rfl ?_
      refine G_aload rfl rfl ?_
      refine G_getR (ci := 9) 37 rfl rfl rfl rfl rfl ?_
      obtain ⟨y14, hy14, h⟩ := Option.bind_eq_some_iff.mp h
      refine G_callvV 2 (t_Search_find _ _ _ rfl rfl _ hy14) rfl rfl rfl rfl rfl rfl rfl rfl rfl rfl rfl ?_
      refine G_aload rfl rfl ?_
      refine G_getR (ci := 9) 11 rfl rfl rfl rfl rfl ?_
      refine G_getI (ci := 3) 7 rfl rfl rfl rfl rfl ?_
      obtain rfl := Option.some.inj h
      exact G_iret rfl rfl
    · rw [if_pos hc] at h
      refine G_iconst (-3 : Int32) rfl (by decide) ?_
      obtain rfl := Option.some.inj h
      exact G_iret rfl rfl
set_option maxRecDepth 100000 in
set_option maxHeartbeats 4000000 in
theorem t_Box_thread_70 (d : Nat) {k45 : Hp → Int32 → Int32 → Int32 → Int32 → Int32 → Int32 → Int32 → Option (Int32 × Hp)} (hk45 : ∀ (sg : Hp) (x1 : Int32) (x2 : Int32) (x3 : Int32) (x4 : Int32) (x5 : Int32) (x6 : Int32) (x7 : Int32)  (y : Int32 × Hp), k45 sg x1 x2 x3 x4 x5 x6 x7 = some y → Go (d + 11) none 78 45 [(0, .ref 0), (1, .int x1), (2, .int x2), (3, .int x3), (4, .int x4), (5, .int x5), (6, .int x6), (7, .int x7)] [] sg (some (.int y.1)) y.2) (sg : Hp) (x1 : Int32) (x2 : Int32) (x3 : Int32) (x4 : Int32) (x5 : Int32) (x6 : Int32) (x7 : Int32)  (y : Int32 × Hp) (h : f_Box_thread_70 k45 sg x1 x2 x3 x4 x5 x6 x7 = some y) : Go (d + 11) none 78 70 [(0, .ref 0), (1, .int x1), (2, .int x2), (3, .int x3), (4, .int x4), (5, .int x5), (6, .int x6), (7, .int x7)] [] sg (some (.int y.1)) y.2 := by
  unfold f_Box_thread_70 at h
  refine G_iinc (-1 : Int32) rfl (by decide) rfl rfl ?_
  refine G_goto 45 rfl rfl ?_
  exact Go.weak' (hk45 _ _ _ _ _ _ _ _  _ h) ⟨rfl, rfl, rfl, rfl, rfl, rfl, rfl, rfl, trivial⟩
set_option maxRecDepth 100000 in
set_option maxHeartbeats 4000000 in
theorem t_Box_thread_45 (d : Nat)   : ∀ (n : Nat) (sg : Hp) (x1 : Int32) (x2 : Int32) (x3 : Int32) (x4 : Int32) (x5 : Int32) (x6 : Int32) (x7 : Int32)  (y : Int32 × Hp), f_Box_thread_45  n sg x1 x2 x3 x4 x5 x6 x7 = some y → Go (d + 11) none 78 45 [(0, .ref 0), (1, .int x1), (2, .int x2), (3, .int x3), (4, .int x4), (5, .int x5), (6, .int x6), (7, .int x7)] [] sg (some (.int y.1)) y.2 := by
  intro n
  induction n with
  | zero =>
    intro sg x1 x2 x3 x4 x5 x6 x7 y h
    rw [f_Box_thread_45] at h
    cases h
  | succ n ih =>
    intro sg x1 x2 x3 x4 x5 x6 x7 y h
    rw [f_Box_thread_45] at h
    refine G_iload rfl rfl ?_
    refine G_iconst (1 : Int32) rfl (by decide) ?_
    refine G_ic_lt 76 rfl rfl (fun hc => ?_) (fun hc => ?_)
    · rw [if_pos hc] at h
      refine G_iload rfl rfl ?_
      refine G_if_ne 86 rfl rfl (fun hc => ?_) (fun hc => ?_)
      · rw [if_neg hc] at h
        refine G_iload rfl rfl ?_
        obtain rfl := Option.some.inj h
        exact G_iret rfl rfl
      · rw [if_pos hc] at h
        refine G_iload rfl rfl ?_
        refine G_goto 88 rfl rfl ?_
        obtain rfl := Option.some.inj h
        exact G_iret rfl rfl
    · rw [if_neg hc] at h
      refine G_aload rfl rfl ?_
      refine G_iload rfl rfl ?_
      refine G_iload rfl rfl ?_
      refine G_iload rfl rfl ?_
      obtain ⟨y4, hy4, h⟩ := Option.bind_eq_some_iff.mp h
      refine G_callvI 4 (t_Box_lengthIfHigh _ _ _ _ _  _ hy4) rfl rfl rfl rfl rfl rfl rfl rfl rfl rfl rfl ?_
      refine G_iload rfl rfl ?_
      refine G_ic_ne 70 rfl rfl (fun hc => ?_) (fun hc => ?_)
      · rw [if_neg hc] at h
        exact Go.weak' (t_Box_thread_70 d ih _ _ _ _ _ _ _ _  _ h) ⟨rfl, rfl, rfl, rfl, rfl, rfl, rfl, rfl, trivial⟩
      · rw [if_pos hc] at h
        refine G_iinc (1 : Int32) rfl (by decide) rfl rfl ?_
        refine G_iload rfl rfl ?_
        refine G_istore rfl rfl ?_
        exact Go.weak' (t_Box_thread_70 d ih _ _ _ _ _ _ _ _  _ h) ⟨rfl, rfl, rfl, rfl, rfl, rfl, rfl, rfl, trivial⟩
set_option maxRecDepth 100000 in
set_option maxHeartbeats 4000000 in
theorem t_Box_thread (d : Nat) (sg : Hp) (x1 : Int32) (x2 : Int32) (x3 : Int32) (x4 : Int32)  (y : Int32 × Hp) (h : f_Box_thread sg x1 x2 x3 x4 = some y) : Sm (d + 11) 78 [.ref 0, .int x1, .int x2, .int x3, .int x4] sg (some (.int y.1)) y.2 := by
  unfold f_Box_thread at h
  refine Sm.of (lv := [(0, .ref 0), (1, .int x1), (2, .int x2), (3, .int x3), (4, .int x4)]) rfl ?_
  refine G_iload rfl rfl ?_
  obtain ⟨y1, hy1, h⟩ := Option.bind_eq_some_iff.mp h
  refine G_callsI 1 (t_Box_isPlace _ _ _  _ hy1) rfl rfl rfl rfl rfl rfl rfl rfl rfl ?_
  refine G_if_eq 32 rfl rfl (fun hc => ?_) (fun hc => ?_)
  · rw [if_pos hc] at h
    refine G_iconst (-2 : Int32) rfl (by decide) ?_
    obtain rfl := Option.some.inj h
    exact G_iret rfl rfl
  · rw [if_neg hc] at h
    refine G_iload rfl rfl ?_
    obtain ⟨y2, hy2, h⟩ := Option.bind_eq_some_iff.mp h
    refine G_callsI 1 (t_Box_isPlace _ _ _  _ hy2) rfl rfl rfl rfl rfl rfl rfl rfl rfl ?_
    refine G_if_eq 32 rfl rfl (fun hc => ?_) (fun hc => ?_)
    · rw [if_pos hc] at h
      refine G_iconst (-2 : Int32) rfl (by decide) ?_
      obtain rfl := Option.some.inj h
      exact G_iret rfl rfl
    · rw [if_neg hc] at h
      refine G_iload rfl rfl ?_
      obtain ⟨y3, hy3, h⟩ := Option.bind_eq_some_iff.mp h
      refine G_callsI 1 (t_Box_isLength _ _ _  _ hy3) rfl rfl rfl rfl rfl rfl rfl rfl rfl ?_
      refine G_if_eq 32 rfl rfl (fun hc => ?_) (fun hc => ?_)
      · rw [if_pos hc] at h
        refine G_iconst (-2 : Int32) rfl (by decide) ?_
        obtain rfl := Option.some.inj h
        exact G_iret rfl rfl
      · rw [if_neg hc] at h
        refine G_iload rfl rfl ?_
        refine G_if_lt 32 rfl rfl (fun hc => ?_) (fun hc => ?_)
        · rw [if_pos hc] at h
          refine G_iconst (-2 : Int32) rfl (by decide) ?_
          obtain rfl := Option.some.inj h
          exact G_iret rfl rfl
        · rw [if_neg hc] at h
          refine G_iload rfl rfl ?_
          refine G_iconst (1 : Int32) rfl (by decide) ?_
          refine G_ic_le 35 rfl rfl (fun hc => ?_) (fun hc => ?_)
          · rw [if_pos hc] at h
            refine G_iconst (0 : Int32) rfl (by decide) ?_
            refine G_istore rfl rfl ?_
            refine G_iconst (-1 : Int32) rfl (by decide) ?_
            refine G_istore rfl rfl ?_
            refine G_iconst (30 : Int32) rfl (by decide) ?_
            refine G_istore rfl rfl ?_
            exact Go.weak' (t_Box_thread_45 d  _ _ _ _ _ _ _ _ _  _ h) ⟨rfl, rfl, rfl, rfl, rfl, rfl, rfl, rfl, trivial⟩
          · rw [if_neg hc] at h
            refine G_iconst (-2 : Int32) rfl (by decide) ?_
            obtain rfl := Option.some.inj h
            exact G_iret rfl rfl
set_option maxRecDepth 100000 in
set_option maxHeartbeats 4000000 in
theorem t_Mod_threadOf_76 (d : Nat) {k17 : Hp → Int32 → Int32 → Int32 → Int32 → Int32 → Int32 → Int32 → Int32 → Option (Int32 × Hp)} (hk17 : ∀ (sg : Hp) (x1 : Int32) (x2 : Int32) (x3 : Int32) (x4 : Int32) (x5 : Int32) (x6 : Int32) (x7 : Int32) (x8 : Int32)  (y : Int32 × Hp), k17 sg x1 x2 x3 x4 x5 x6 x7 x8 = some y → Go (d + 6) none 175 17 [(0, .ref 46), (1, .int x1), (2, .int x2), (3, .int x3), (4, .int x4), (5, .int x5), (6, .int x6), (7, .int x7), (8, .int x8)] [] sg (some (.int y.1)) y.2) (sg : Hp) (x1 : Int32) (x2 : Int32) (x3 : Int32) (x4 : Int32) (x5 : Int32) (x6 : Int32) (x7 : Int32) (x8 : Int32)  (y : Int32 × Hp) (h : f_Mod_threadOf_76 k17 sg x1 x2 x3 x4 x5 x6 x7 x8 = some y) : Go (d + 6) none 175 76 [(0, .ref 46), (1, .int x1), (2, .int x2), (3, .int x3), (4, .int x4), (5, .int x5), (6, .int x6), (7, .int x7), (8, .int x8)] [] sg (some (.int y.1)) y.2 := by
  unfold f_Mod_threadOf_76 at h
  refine G_iinc (1 : Int32) rfl (by decide) rfl rfl ?_
  refine G_goto 17 rfl rfl ?_
  exact Go.weak' (hk17 _ _ _ _ _ _ _ _ _  _ h) ⟨rfl, rfl, rfl, rfl, rfl, rfl, rfl, rfl, rfl, trivial⟩
set_option maxRecDepth 100000 in
set_option maxHeartbeats 4000000 in
theorem t_Mod_threadOf_74 (d : Nat) {k17 : Hp → Int32 → Int32 → Int32 → Int32 → Int32 → Int32 → Int32 → Int32 → Option (Int32 × Hp)} (hk17 : ∀ (sg : Hp) (x1 : Int32) (x2 : Int32) (x3 : Int32) (x4 : Int32) (x5 : Int32) (x6 : Int32) (x7 : Int32) (x8 : Int32)  (y : Int32 × Hp), k17 sg x1 x2 x3 x4 x5 x6 x7 x8 = some y → Go (d + 6) none 175 17 [(0, .ref 46), (1, .int x1), (2, .int x2), (3, .int x3), (4, .int x4), (5, .int x5), (6, .int x6), (7, .int x7), (8, .int x8)] [] sg (some (.int y.1)) y.2) (sg : Hp) (x1 : Int32) (x2 : Int32) (x3 : Int32) (x4 : Int32) (x5 : Int32) (x6 : Int32) (x8 : Int32) (xs0 : Int32)  (y : Int32 × Hp) (h : f_Mod_threadOf_74 k17 sg x1 x2 x3 x4 x5 x6 x8 xs0 = some y) : Go (d + 6) none 175 74 [(0, .ref 46), (1, .int x1), (2, .int x2), (3, .int x3), (4, .int x4), (5, .int x5), (6, .int x6), (8, .int x8)] [.int xs0] sg (some (.int y.1)) y.2 := by
  unfold f_Mod_threadOf_74 at h
  refine G_istore rfl rfl ?_
  exact Go.weak' (t_Mod_threadOf_76 d hk17 _ _ _ _ _ _ _ _ _  _ h) ⟨rfl, rfl, rfl, rfl, rfl, rfl, rfl, rfl, rfl, trivial⟩
set_option maxRecDepth 100000 in
set_option maxHeartbeats 4000000 in
theorem t_Mod_threadOf_17 (d : Nat)   : ∀ (n : Nat) (sg : Hp) (x1 : Int32) (x2 : Int32) (x3 : Int32) (x4 : Int32) (x5 : Int32) (x6 : Int32) (x7 : Int32) (x8 : Int32)  (y : Int32 × Hp), f_Mod_threadOf_17  n sg x1 x2 x3 x4 x5 x6 x7 x8 = some y → Go (d + 6) none 175 17 [(0, .ref 46), (1, .int x1), (2, .int x2), (3, .int x3), (4, .int x4), (5, .int x5), (6, .int x6), (7, .int x7), (8, .int x8)] [] sg (some (.int y.1)) y.2 := by
  intro n
  induction n with
  | zero =>
    intro sg x1 x2 x3 x4 x5 x6 x7 x8 y h
    rw [f_Mod_threadOf_17] at h
    cases h
  | succ n ih =>
    intro sg x1 x2 x3 x4 x5 x6 x7 x8 y h
    rw [f_Mod_threadOf_17] at h
    refine G_iload rfl rfl ?_
    refine G_iconst (30 : Int32) rfl (by decide) ?_
    refine G_ic_gt 82 rfl rfl (fun hc => ?_) (fun hc => ?_)
    · rw [if_pos hc] at h
      refine G_aload rfl rfl ?_
      refine G_getR (ci := 10) 51 rfl rfl rfl rfl rfl ?_
      refine G_iconst (2 : Int32) rfl (by decide) ?_
      refine G_iload rfl rfl ?_
      obtain ⟨s1, hs1, h⟩ := Option.bind_eq_some_iff.mp h
      refine G_iastL 2 rfl rfl rfl (by decide) (by decide) (Option.some.inj hs1) ?_
      refine G_iload rfl rfl ?_
      refine G_if_ne 100 rfl rfl (fun hc => ?_) (fun hc => ?_)
      · rw [if_neg hc] at h
        refine G_iload rfl rfl ?_
        obtain rfl := Option.some.inj h
        exact G_iret rfl rfl
      · rw [if_pos hc] at h
        refine G_iload rfl rfl ?_
        refine G_goto 102 rfl rfl ?_
        obtain rfl := Option.some.inj h
        exact G_iret rfl rfl
    · rw [if_neg hc] at h
      refine G_aload rfl rfl ?_
      refine G_getR (ci := 10) 51 rfl rfl rfl rfl rfl ?_
      refine G_iconst (2 : Int32) rfl (by decide) ?_
      refine G_iload rfl rfl ?_
      obtain ⟨s2, hs2, h⟩ := Option.bind_eq_some_iff.mp h
      refine G_iastL 2 rfl rfl rfl (by decide) (by decide) (Option.some.inj hs2) ?_
      refine G_aload rfl rfl ?_
      refine G_iload rfl rfl ?_
      obtain ⟨y3, hy3, h⟩ := Option.bind_eq_some_iff.mp h
      refine G_callvI 2 (t_Mod_isThere _ _ _  _ hy3) rfl rfl rfl rfl rfl rfl rfl rfl rfl rfl rfl ?_
      refine G_if_eq 76 rfl rfl (fun hc => ?_) (fun hc => ?_)
      · rw [if_pos hc] at h
        exact Go.weak' (t_Mod_threadOf_76 d ih _ _ _ _ _ _ _ _ _  _ h) ⟨rfl, rfl, rfl, rfl, rfl, rfl, rfl, rfl, rfl, trivial⟩
      · rw [if_neg hc] at h
        refine G_aload rfl rfl ?_
        refine G_iload rfl rfl ?_
        obtain ⟨y4, hy4, h⟩ := Option.bind_eq_some_iff.mp h
        refine G_callvI 2 (t_Mod_isThere _ _ _  _ hy4) rfl rfl rfl rfl rfl rfl rfl rfl rfl rfl rfl ?_
        refine G_if_eq 76 rfl rfl (fun hc => ?_) (fun hc => ?_)
        · rw [if_pos hc] at h
          exact Go.weak' (t_Mod_threadOf_76 d ih _ _ _ _ _ _ _ _ _  _ h) ⟨rfl, rfl, rfl, rfl, rfl, rfl, rfl, rfl, rfl, trivial⟩
        · rw [if_neg hc] at h
          refine G_aload rfl rfl ?_
          refine G_iload rfl rfl ?_
          refine G_iload rfl rfl ?_
          obtain ⟨y5, hy5, h⟩ := Option.bind_eq_some_iff.mp h
          refine G_callvI 3 (t_Mod_shortestOf _ _ _ _  _ hy5) rfl rfl rfl rfl rfl rfl rfl rfl rfl rfl rfl ?_
          refine G_iload rfl rfl ?_
          refine G_ic_ne 76 rfl rfl (fun hc => ?_) (fun hc => ?_)
          · rw [if_neg hc] at h
            exact Go.weak' (t_Mod_threadOf_76 d ih _ _ _ _ _ _ _ _ _  _ h) ⟨rfl, rfl, rfl, rfl, rfl, rfl, rfl, rfl, rfl, trivial⟩
          · rw [if_pos hc] at h
            refine G_iinc (1 : Int32) rfl (by decide) rfl rfl ?_
            refine G_iload rfl rfl ?_
            refine G_iconst (-1 : Int32) rfl (by decide) ?_
            refine G_ic_ne 72 rfl rfl (fun hc => ?_) (fun hc => ?_)
            · rw [if_neg hc] at h
              refine G_iload rfl rfl ?_
              exact Go.weak' (t_Mod_threadOf_74 d ih _ _ _ _ _ _ _ _ _  _ h) ⟨rfl, rfl, rfl, rfl, rfl, rfl, rfl, rfl, trivial⟩
            · rw [if_pos hc] at h
              refine G_iload rfl rfl ?_
              refine G_goto 74 rfl rfl ?_
              exact Go.weak' (t_Mod_threadOf_74 d ih _ _ _ _ _ _ _ _ _  _ h) ⟨rfl, rfl, rfl, rfl, rfl, rfl, rfl, rfl, trivial⟩
set_option maxRecDepth 100000 in
set_option maxHeartbeats 4000000 in
theorem t_Mod_threadOf (d : Nat) (sg : Hp) (x1 : Int32) (x2 : Int32) (x3 : Int32) (x4 : Int32)  (y : Int32 × Hp) (h : f_Mod_threadOf sg x1 x2 x3 x4 = some y) : Sm (d + 6) 175 [.ref 46, .int x1, .int x2, .int x3, .int x4] sg (some (.int y.1)) y.2 := by
  unfold f_Mod_threadOf at h
  refine Sm.of (lv := [(0, .ref 46), (1, .int x1), (2, .int x2), (3, .int x3), (4, .int x4)]) rfl ?_
  refine G_aload rfl rfl ?_
  refine G_getR (ci := 10) 51 rfl rfl rfl rfl rfl ?_
  refine G_iconst (2 : Int32) rfl (by decide) ?_
  refine G_ialdL 2 rfl rfl rfl (by decide) (by decide) ?_
  refine G_istore rfl rfl ?_
  refine G_iconst (0 : Int32) rfl (by decide) ?_
  refine G_istore rfl rfl ?_
  refine G_iconst (-1 : Int32) rfl (by decide) ?_
  refine G_istore rfl rfl ?_
  refine G_iconst (1 : Int32) rfl (by decide) ?_
  refine G_istore rfl rfl ?_
  exact Go.weak' (t_Mod_threadOf_17 d  _ _ _ _ _ _ _ _ _ _  _ h) ⟨rfl, rfl, rfl, rfl, rfl, rfl, rfl, rfl, rfl, trivial⟩
set_option maxRecDepth 100000 in
set_option maxHeartbeats 4000000 in
theorem t_Mod_thread (d : Nat) (sg : Hp) (x1 : Int32) (x2 : Int32) (x3 : Int32) (x4 : Int32)  (y : Int32 × Hp) (h : f_Mod_thread sg x1 x2 x3 x4 = some y) : Sm (d + 7) 174 [.ref 46, .int x1, .int x2, .int x3, .int x4] sg (some (.int y.1)) y.2 := by
  unfold f_Mod_thread at h
  refine Sm.of (lv := [(0, .ref 46), (1, .int x1), (2, .int x2), (3, .int x3), (4, .int x4)]) rfl ?_
  refine G_iload rfl rfl ?_
  obtain ⟨y1, hy1, h⟩ := Option.bind_eq_some_iff.mp h
  refine G_callsI 1 (t_Mod_isPlace _ _ _  _ hy1) rfl rfl rfl rfl rfl rfl rfl rfl rfl ?_
  refine G_if_eq 46 rfl rfl (fun hc => ?_) (fun hc => ?_)
  · rw [if_pos hc] at h
    refine G_iconst (-2 : Int32) rfl (by decide) ?_
    obtain rfl := Option.some.inj h
    exact G_iret rfl rfl
  · rw [if_neg hc] at h
    refine G_iload rfl rfl ?_
    obtain ⟨y2, hy2, h⟩ := Option.bind_eq_some_iff.mp h
    refine G_callsI 1 (t_Mod_isPlace _ _ _  _ hy2) rfl rfl rfl rfl rfl rfl rfl rfl rfl ?_
    refine G_if_eq 46 rfl rfl (fun hc => ?_) (fun hc => ?_)
    · rw [if_pos hc] at h
      refine G_iconst (-2 : Int32) rfl (by decide) ?_
      obtain rfl := Option.some.inj h
      exact G_iret rfl rfl
    · rw [if_neg hc] at h
      refine G_iload rfl rfl ?_
      refine G_i2l rfl ?_
      refine G_lconst (0 : Int64) rfl (by decide) ?_
      refine G_ldc2 (9999 : Int64) rfl (by decide) ?_
      obtain ⟨y3, hy3, h⟩ := Option.bind_eq_some_iff.mp h
      refine G_callsI 3 (t_Mod_in _ _ _ _ _  _ hy3) rfl rfl rfl rfl rfl rfl rfl rfl rfl ?_
      refine G_if_eq 46 rfl rfl (fun hc => ?_) (fun hc => ?_)
      · rw [if_pos hc] at h
        refine G_iconst (-2 : Int32) rfl (by decide) ?_
        obtain rfl := Option.some.inj h
        exact G_iret rfl rfl
      · rw [if_neg hc] at h
        refine G_iload rfl rfl ?_
        obtain ⟨y4, hy4, h⟩ := Option.bind_eq_some_iff.mp h
        refine G_callsI 1 (t_Mod_isTwo _ _ _  _ hy4) rfl rfl rfl rfl rfl rfl rfl rfl rfl ?_
        refine G_if_eq 46 rfl rfl (fun hc => ?_) (fun hc => ?_)
        · rw [if_pos hc] at h
          refine G_iconst (-2 : Int32) rfl (by decide) ?_
          obtain rfl := Option.some.inj h
          exact G_iret rfl rfl
        · rw [if_neg hc] at h
          refine G_aload rfl rfl ?_
          refine G_iload rfl rfl ?_
          refine G_iload rfl rfl ?_
          refine G_iload rfl rfl ?_
          refine G_iload rfl rfl ?_
          obtain ⟨y5, hy5, h⟩ := Option.bind_eq_some_iff.mp h
          refine G_callvI 5 (t_Mod_threadOf _ _ _ _ _ _  _ hy5) rfl rfl rfl rfl rfl rfl rfl rfl rfl rfl rfl ?_
          refine G_goto 48 rfl rfl ?_
          obtain rfl := Option.some.inj h
          exact G_iret rfl rfl
set_option maxRecDepth 100000 in
set_option maxHeartbeats 4000000 in
theorem t_Box_flies_76 (d : Nat) {k37 : Hp → Int32 → Int32 → Int32 → Int32 → Int32 → Int32 → Option (Int32 × Hp)} (hk37 : ∀ (sg : Hp) (x1 : Int32) (x3 : Int32) (x4 : Int32) (x5 : Int32) (x6 : Int32) (x7 : Int32)  (y : Int32 × Hp), k37 sg x1 x3 x4 x5 x6 x7 = some y → Go (d + 12) none 80 37 [(0, .ref 0), (1, .int x1), (3, .int x3), (4, .int x4), (5, .int x5), (6, .int x6), (7, .int x7)] [] sg (some (.int y.1)) y.2) (sg : Hp) (x1 : Int32) (x3 : Int32) (x4 : Int32) (x5 : Int32) (x6 : Int32) (x7 : Int32)  (y : Int32 × Hp) (h : f_Box_flies_76 k37 sg x1 x3 x4 x5 x6 x7 = some y) : Go (d + 12) none 80 76 [(0, .ref 0), (1, .int x1), (3, .int x3), (4, .int x4), (5, .int x5), (6, .int x6), (7, .int x7)] [] sg (some (.int y.1)) y.2 := by
  unfold f_Box_flies_76 at h
  refine G_iinc (1 : Int32) rfl (by decide) rfl rfl ?_
  refine G_goto 37 rfl rfl ?_
  exact Go.weak' (hk37 _ _ _ _ _ _ _  _ h) ⟨rfl, rfl, rfl, rfl, rfl, rfl, rfl, trivial⟩
set_option maxRecDepth 100000 in
set_option maxHeartbeats 4000000 in
theorem t_Box_flies_37 (d : Nat)   : ∀ (n : Nat) (sg : Hp) (x1 : Int32) (x3 : Int32) (x4 : Int32) (x5 : Int32) (x6 : Int32) (x7 : Int32)  (y : Int32 × Hp), f_Box_flies_37  n sg x1 x3 x4 x5 x6 x7 = some y → Go (d + 12) none 80 37 [(0, .ref 0), (1, .int x1), (3, .int x3), (4, .int x4), (5, .int x5), (6, .int x6), (7, .int x7)] [] sg (some (.int y.1)) y.2 := by
  intro n
  induction n with
  | zero =>
    intro sg x1 x3 x4 x5 x6 x7 y h
    rw [f_Box_flies_37] at h
    cases h
  | succ n ih =>
    intro sg x1 x3 x4 x5 x6 x7 y h
    rw [f_Box_flies_37] at h
    refine G_iload rfl rfl ?_
    refine G_iload rfl rfl ?_
    refine G_ic_ge 82 rfl rfl (fun hc => ?_) (fun hc => ?_)
    · rw [if_pos hc] at h
      refine G_iload rfl rfl ?_
      obtain rfl := Option.some.inj h
      exact G_iret rfl rfl
    · rw [if_neg hc] at h
      refine G_ldc (1103515245 : Int32) rfl (by decide) ?_
      refine G_iload rfl rfl ?_
      refine G_imul rfl ?_
      refine G_iconst (12345 : Int32) rfl (by decide) ?_
      refine G_iadd rfl ?_
      refine G_istore rfl rfl ?_
      refine G_aload rfl rfl ?_
      refine G_iload rfl rfl ?_
      refine G_iload rfl rfl ?_
      refine G_iconst (16 : Int32) rfl (by decide) ?_
      refine G_iushr rfl ?_
      refine G_iconst (8 : Int32) rfl (by decide) ?_
      refine G_irem rfl (by decide) ?_
      refine G_iload rfl rfl ?_
      obtain ⟨y3, hy3, h⟩ := Option.bind_eq_some_iff.mp h
      refine G_callvI 4 (t_Box_isNear _ _ _ _ _  _ hy3) rfl rfl rfl rfl rfl rfl rfl rfl rfl rfl rfl ?_
      refine G_if_eq 76 rfl rfl (fun hc => ?_) (fun hc => ?_)
      · rw [if_pos hc] at h
        exact Go.weak' (t_Box_flies_76 d ih _ _ _ _ _ _ _  _ h) ⟨rfl, rfl, rfl, rfl, rfl, rfl, rfl, trivial⟩
      · rw [if_neg hc] at h
        refine G_iinc (1 : Int32) rfl (by decide) rfl rfl ?_
        exact Go.weak' (t_Box_flies_76 d ih _ _ _ _ _ _ _  _ h) ⟨rfl, rfl, rfl, rfl, rfl, rfl, rfl, trivial⟩
set_option maxRecDepth 100000 in
set_option maxHeartbeats 4000000 in
theorem t_Box_flies (d : Nat) (sg : Hp) (x1 : Int32) (x2 : Int32) (x3 : Int32) (x4 : Int32)  (y : Int32 × Hp) (h : f_Box_flies sg x1 x2 x3 x4 = some y) : Sm (d + 12) 80 [.ref 0, .int x1, .int x2, .int x3, .int x4] sg (some (.int y.1)) y.2 := by
  unfold f_Box_flies at h
  refine Sm.of (lv := [(0, .ref 0), (1, .int x1), (2, .int x2), (3, .int x3), (4, .int x4)]) rfl ?_
  refine G_iload rfl rfl ?_
  obtain ⟨y1, hy1, h⟩ := Option.bind_eq_some_iff.mp h
  refine G_callsI 1 (t_Box_isPlace _ _ _  _ hy1) rfl rfl rfl rfl rfl rfl rfl rfl rfl ?_
  refine G_if_eq 25 rfl rfl (fun hc => ?_) (fun hc => ?_)
  · rw [if_pos hc] at h
    refine G_iconst (-2 : Int32) rfl (by decide) ?_
    obtain rfl := Option.some.inj h
    exact G_iret rfl rfl
  · rw [if_neg hc] at h
    refine G_iload rfl rfl ?_
    refine G_if_lt 25 rfl rfl (fun hc => ?_) (fun hc => ?_)
    · rw [if_pos hc] at h
      refine G_iconst (-2 : Int32) rfl (by decide) ?_
      obtain rfl := Option.some.inj h
      exact G_iret rfl rfl
    · rw [if_neg hc] at h
      refine G_iload rfl rfl ?_
      refine G_iconst (99 : Int32) rfl (by decide) ?_
      refine G_ic_gt 25 rfl rfl (fun hc => ?_) (fun hc => ?_)
      · rw [if_pos hc] at h
        refine G_iconst (-2 : Int32) rfl (by decide) ?_
        obtain rfl := Option.some.inj h
        exact G_iret rfl rfl
      · rw [if_neg hc] at h
        refine G_iload rfl rfl ?_
        obtain ⟨y2, hy2, h⟩ := Option.bind_eq_some_iff.mp h
        refine G_callsI 1 (t_Box_isLength _ _ _  _ hy2) rfl rfl rfl rfl rfl rfl rfl rfl rfl ?_
        refine G_if_ne 28 rfl rfl (fun hc => ?_) (fun hc => ?_)
        · rw [if_neg hc] at h
          refine G_iconst (0 : Int32) rfl (by decide) ?_
          refine G_istore rfl rfl ?_
          refine G_iload rfl rfl ?_
          refine G_istore rfl rfl ?_
          refine G_iconst (0 : Int32) rfl (by decide) ?_
          refine G_istore rfl rfl ?_
          exact Go.weak' (t_Box_flies_37 d  _ _ _ _ _ _ _ _  _ h) ⟨rfl, rfl, rfl, rfl, rfl, rfl, rfl, trivial⟩
        · rw [if_pos hc] at h
          refine G_iconst (-2 : Int32) rfl (by decide) ?_
          obtain rfl := Option.some.inj h
          exact G_iret rfl rfl
