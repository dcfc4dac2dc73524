set_option maxRecDepth 100000 in
set_option maxHeartbeats 4000000 in
theorem t_Mod_digest_209 (d : Nat)   : ∀ (n : Nat) (sg : Hp) (l1 : Int64) (x3 : Int32) (x4 : Int32)  (y : Int64 × Hp), f_Mod_digest_209  n sg l1 x3 x4 = some y → Go (d + 7) none 182 209 [(0, .ref 46), (1, .long l1), (3, .int x3), (4, .int x4)] [] sg (some (.long y.1)) y.2 := by
  intro n
  induction n with
  | zero =>
    intro sg l1 x3 x4 y h
    rw [f_Mod_digest_209] at h
    cases h
  | succ n ih =>
    intro sg l1 x3 x4 y h
    rw [f_Mod_digest_209] at h
    refine G_iload rfl rfl ?_
    refine G_iconst (5 : Int32) rfl (by decide) ?_
    refine G_ic_ge 236 rfl rfl (fun hc => ?_) (fun hc => ?_)
    · rw [if_pos hc] at h
      refine G_ldc2 (31 : Int64) rfl (by decide) ?_
      refine G_lload rfl rfl ?_
      refine G_lmul rfl ?_
      refine G_aload rfl rfl ?_
      obtain ⟨y3, hy3, h⟩ := Option.bind_eq_some_iff.mp h
      refine G_callvI 1 (t_Mod_sitNow _ _   _ hy3) rfl rfl rfl rfl rfl rfl rfl rfl rfl rfl rfl ?_
      refine G_i2l rfl ?_
      refine G_ladd rfl ?_
      refine G_lstore rfl rfl ?_
      refine G_ldc2 (31 : Int64) rfl (by decide) ?_
      refine G_lload rfl rfl ?_
      refine G_lmul rfl ?_
      refine G_aload rfl rfl ?_
      refine G_iconst (0 : Int32) rfl (by decide) ?_
      refine G_iconst (1 : Int32) rfl (by decide) ?_
      obtain ⟨y4, hy4, h⟩ := Option.bind_eq_some_iff.mp h
      refine G_callvI 3 (t_Mod_nearerOf _ _ _ _  _ hy4) rfl rfl rfl rfl rfl rfl rfl rfl rfl rfl rfl ?_
      refine G_i2l rfl ?_
      refine G_ladd rfl ?_
      refine G_lstore rfl rfl ?_
      refine G_ldc2 (31 : Int64) rfl (by decide) ?_
      refine G_lload rfl rfl ?_
      refine G_lmul rfl ?_
      refine G_aload rfl rfl ?_
      refine G_iconst (255 : Int32) rfl (by decide) ?_
      refine G_iconst (-1 : Int32) rfl (by decide) ?_
      obtain ⟨y5, hy5, h⟩ := Option.bind_eq_some_iff.mp h
      refine G_callvI 3 (t_Mod_wiresOf _ _ _ _  _ hy5) rfl rfl rfl rfl rfl rfl rfl rfl rfl rfl rfl ?_
      refine G_i2l rfl ?_
      refine G_ladd rfl ?_
      refine G_lstore rfl rfl ?_
      refine G_ldc2 (31 : Int64) rfl (by decide) ?_
      refine G_lload rfl rfl ?_
      refine G_lmul rfl ?_
      refine G_aload rfl rfl ?_
      refine G_iconst (255 : Int32) rfl (by decide) ?_
      refine G_iconst (-2 : Int32) rfl (by decide) ?_
      obtain ⟨y6, hy6, h⟩ := Option.bind_eq_some_iff.mp h
      refine G_callvI 3 (t_Mod_wiresOf _ _ _ _  _ hy6) rfl rfl rfl rfl rfl rfl rfl rfl rfl rfl rfl ?_
      refine G_i2l rfl ?_
      refine G_ladd rfl ?_
      refine G_lstore rfl rfl ?_
      refine G_ldc2 (31 : Int64) rfl (by decide) ?_
      refine G_lload rfl rfl ?_
      refine G_lmul rfl ?_
      refine G_aload rfl rfl ?_
      refine G_iconst (255 : Int32) rfl (by decide) ?_
      refine G_iconst (0 : Int32) rfl (by decide) ?_
      obtain ⟨y7, hy7, h⟩ := Option.bind_eq_some_iff.mp h
      refine G_callvI 3 (t_Mod_wiresOf _ _ _ _  _ hy7) rfl rfl rfl rfl rfl rfl rfl rfl rfl rfl rfl ?_
      refine G_i2l rfl ?_
      refine G_ladd rfl ?_
      refine G_lstore rfl rfl ?_
      refine G_ldc2 (31 : Int64) rfl (by decide) ?_
      refine G_lload rfl rfl ?_
      refine G_lmul rfl ?_
      refine G_aload rfl rfl ?_
      refine G_iconst (0 : Int32) rfl (by decide) ?_
      refine G_iconst (0 : Int32) rfl (by decide) ?_
      refine G_iconst (1 : Int32) rfl (by decide) ?_
      refine G_iload rfl rfl ?_
      obtain ⟨y8, hy8, h⟩ := Option.bind_eq_some_iff.mp h
      refine G_callvI 5 (t_Mod_toldOf _ _ _ _ _ _  _ hy8) rfl rfl rfl rfl rfl rfl rfl rfl rfl rfl rfl ?_
      refine G_i2l rfl ?_
      refine G_ladd rfl ?_
      refine G_lstore rfl rfl ?_
      refine G_ldc2 (31 : Int64) rfl (by decide) ?_
      refine G_lload rfl rfl ?_
      refine G_lmul rfl ?_
      refine G_aload rfl rfl ?_
      refine G_iconst (2 : Int32) rfl (by decide) ?_
      refine G_iconst (1 : Int32) rfl (by decide) ?_
      refine G_iconst (5 : Int32) rfl (by decide) ?_
      refine G_iconst (0 : Int32) rfl (by decide) ?_
      obtain ⟨y9, hy9, h⟩ := Option.bind_eq_some_iff.mp h
      refine G_callvI 5 (t_Mod_snailOf _ _ _ _ _ _  _ hy9) rfl rfl rfl rfl rfl rfl rfl rfl rfl rfl rfl ?_
      refine G_i2l rfl ?_
      refine G_ladd rfl ?_
      refine G_lstore rfl rfl ?_
      refine G_ldc2 (31 : Int64) rfl (by decide) ?_
      refine G_lload rfl rfl ?_
      refine G_lmul rfl ?_
      refine G_aload rfl rfl ?_
      refine G_iconst (3 : Int32) rfl (by decide) ?_
      refine G_iconst (-2 : Int32) rfl (by decide) ?_
      refine G_iconst (8 : Int32) rfl (by decide) ?_
      refine G_iconst (1 : Int32) rfl (by decide) ?_
      obtain ⟨y10, hy10, h⟩ := Option.bind_eq_some_iff.mp h
      refine G_callvI 5 (t_Mod_snailOf _ _ _ _ _ _  _ hy10) rfl rfl rfl rfl rfl rfl rfl rfl rfl rfl rfl ?_
      refine G_i2l rfl ?_
      refine G_ladd rfl ?_
      refine G_lstore rfl rfl ?_
      refine G_ldc2 (31 : Int64) rfl (by decide) ?_
      refine G_lload rfl rfl ?_
      refine G_lmul rfl ?_
      refine G_aload rfl rfl ?_
      refine G_iconst (0 : Int32) rfl (by decide) ?_
      refine G_iconst (1 : Int32) rfl (by decide) ?_
      refine G_iconst (100 : Int32) rfl (by decide) ?_
      refine G_iconst (0 : Int32) rfl (by decide) ?_
      obtain ⟨y11, hy11, h⟩ := Option.bind_eq_some_iff.mp h
      refine G_callvI 5 (t_Mod_threadOf _ _ _ _ _ _  _ hy11) rfl rfl rfl rfl rfl rfl rfl rfl rfl rfl rfl ?_
      refine G_i2l rfl ?_
      refine G_ladd rfl ?_
      refine G_lstore rfl rfl ?_
      refine G_ldc2 (31 : Int64) rfl (by decide) ?_
      refine G_lload rfl rfl ?_
      refine G_lmul rfl ?_
      refine G_aload rfl rfl ?_
      refine G_iconst (0 : Int32) rfl (by decide) ?_
      refine G_iconst (7 : Int32) rfl (by decide) ?_
      refine G_iconst (20 : Int32) rfl (by decide) ?_
      refine G_iconst (300 : Int32) rfl (by decide) ?_
      obtain ⟨y12, hy12, h⟩ := Option.bind_eq_some_iff.mp h
      refine G_callvI 5 (t_Mod_fliesOf _ _ _ _ _ _  _ hy12) rfl rfl rfl rfl rfl rfl rfl rfl rfl rfl rfl ?_
      refine G_i2l rfl ?_
      refine G_ladd rfl ?_
      obtain rfl := Option.some.inj h
      exact G_lret rfl rfl
    · rw [if_neg hc] at h
      refine G_ldc2 (31 : Int64) rfl (by decide) ?_
      refine G_lload rfl rfl ?_
      refine G_lmul rfl ?_
      refine G_aload rfl rfl ?_
      refine G_iload rfl rfl ?_
      refine G_iload rfl rfl ?_
      obtain ⟨y13, hy13, h⟩ := Option.bind_eq_some_iff.mp h
      refine G_callvI 3 (t_Mod_laidOf _ _ _ _  _ hy13) rfl rfl rfl rfl rfl rfl rfl rfl rfl rfl rfl ?_
      refine G_i2l rfl ?_
      refine G_ladd rfl ?_
      refine G_lstore rfl rfl ?_
      refine G_iinc (1 : Int32) rfl (by decide) rfl rfl ?_
      refine G_goto 209 rfl rfl ?_
      exact Go.weak' (ih _ _ _ _  _ h) ⟨rfl, rfl, rfl, rfl, trivial⟩
set_option maxRecDepth 100000 in
set_option maxHeartbeats 4000000 in
theorem t_Mod_digest_122 (d : Nat) {k45 : Hp → Int64 → Int32 → Option (Int64 × Hp)} (hk45 : ∀ (sg : Hp) (l1 : Int64) (x3 : Int32)  (y : Int64 × Hp), k45 sg l1 x3 = some y → Go (d + 7) none 182 45 [(0, .ref 46), (1, .long l1), (3, .int x3)] [] sg (some (.long y.1)) y.2) : ∀ (n : Nat) (sg : Hp) (l1 : Int64) (x3 : Int32) (x4 : Int32) (x5 : Int32)  (y : Int64 × Hp), f_Mod_digest_122 k45 n sg l1 x3 x4 x5 = some y → Go (d + 7) none 182 122 [(0, .ref 46), (1, .long l1), (3, .int x3), (4, .int x4), (5, .int x5)] [] sg (some (.long y.1)) y.2 := by
  intro n
  induction n with
  | zero =>
    intro sg l1 x3 x4 x5 y h
    rw [f_Mod_digest_122] at h
    cases h
  | succ n ih =>
    intro sg l1 x3 x4 x5 y h
    rw [f_Mod_digest_122] at h
    refine G_iload rfl rfl ?_
    refine G_iconst (3 : Int32) rfl (by decide) ?_
    refine G_ic_ge 151 rfl rfl (fun hc => ?_) (fun hc => ?_)
    · rw [if_pos hc] at h
      refine G_ldc2 (31 : Int64) rfl (by decide) ?_
      refine G_lload rfl rfl ?_
      refine G_lmul rfl ?_
      refine G_aload rfl rfl ?_
      refine G_iload rfl rfl ?_
      obtain ⟨y16, hy16, h⟩ := Option.bind_eq_some_iff.mp h
      refine G_callvI 2 (t_Mod_farthestOf _ _ _  _ hy16) rfl rfl rfl rfl rfl rfl rfl rfl rfl rfl rfl ?_
      refine G_i2l rfl ?_
      refine G_ladd rfl ?_
      refine G_lstore rfl rfl ?_
      refine G_ldc2 (31 : Int64) rfl (by decide) ?_
      refine G_lload rfl rfl ?_
      refine G_lmul rfl ?_
      refine G_aload rfl rfl ?_
      refine G_iload rfl rfl ?_
      refine G_iconst (200 : Int32) rfl (by decide) ?_
      obtain ⟨y17, hy17, h⟩ := Option.bind_eq_some_iff.mp h
      refine G_callvI 3 (t_Mod_withinOf _ _ _ _  _ hy17) rfl rfl rfl rfl rfl rfl rfl rfl rfl rfl rfl ?_
      refine G_i2l rfl ?_
      refine G_ladd rfl ?_
      refine G_lstore rfl rfl ?_
      refine G_ldc2 (31 : Int64) rfl (by decide) ?_
      refine G_lload rfl rfl ?_
      refine G_lmul rfl ?_
      refine G_aload rfl rfl ?_
      refine G_iload rfl rfl ?_
      refine G_iconst (0 : Int32) rfl (by decide) ?_
      refine G_iconst (0 : Int32) rfl (by decide) ?_
      obtain ⟨y18, hy18, h⟩ := Option.bind_eq_some_iff.mp h
      refine G_callvI 4 (t_Mod_liesOf _ _ _ _ _  _ hy18) rfl rfl rfl rfl rfl rfl rfl rfl rfl rfl rfl ?_
      refine G_i2l rfl ?_
      refine G_ladd rfl ?_
      refine G_lstore rfl rfl ?_
      refine G_iinc (1 : Int32) rfl (by decide) rfl rfl ?_
      refine G_goto 45 rfl rfl ?_
      exact Go.weak' (hk45 _ _ _  _ h) ⟨rfl, rfl, rfl, trivial⟩
    · rw [if_neg hc] at h
      refine G_ldc2 (31 : Int64) rfl (by decide) ?_
      refine G_lload rfl rfl ?_
      refine G_lmul rfl ?_
      refine G_aload rfl rfl ?_
      refine G_iload rfl rfl ?_
      refine G_iload rfl rfl ?_
      refine G_iload rfl rfl ?_
      obtain ⟨y19, hy19, h⟩ := Option.bind_eq_some_iff.mp h
      refine G_callvI 4 (t_Mod_faceOf _ _ _ _ _  _ hy19) rfl rfl rfl rfl rfl rfl rfl rfl rfl rfl rfl ?_
      refine G_i2l rfl ?_
      refine G_ladd rfl ?_
      refine G_lstore rfl rfl ?_
      refine G_iinc (1 : Int32) rfl (by decide) rfl rfl ?_
      refine G_goto 122 rfl rfl ?_
      exact Go.weak' (ih _ _ _ _ _  _ h) ⟨rfl, rfl, rfl, rfl, rfl, trivial⟩
set_option maxRecDepth 100000 in
set_option maxHeartbeats 4000000 in
theorem t_Mod_digest_62 (d : Nat) {k45 : Hp → Int64 → Int32 → Option (Int64 × Hp)} (hk45 : ∀ (sg : Hp) (l1 : Int64) (x3 : Int32)  (y : Int64 × Hp), k45 sg l1 x3 = some y → Go (d + 7) none 182 45 [(0, .ref 46), (1, .long l1), (3, .int x3)] [] sg (some (.long y.1)) y.2) : ∀ (n : Nat) (sg : Hp) (l1 : Int64) (x3 : Int32) (x4 : Int32) (x5 : Int32)  (y : Int64 × Hp), f_Mod_digest_62 k45 n sg l1 x3 x4 x5 = some y → Go (d + 7) none 182 62 [(0, .ref 46), (1, .long l1), (3, .int x3), (4, .int x4), (5, .int x5)] [] sg (some (.long y.1)) y.2 := by
  intro n
  induction n with
  | zero =>
    intro sg l1 x3 x4 x5 y h
    rw [f_Mod_digest_62] at h
    cases h
  | succ n ih =>
    intro sg l1 x3 x4 x5 y h
    rw [f_Mod_digest_62] at h
    refine G_iload rfl rfl ?_
    refine G_iconst (4 : Int32) rfl (by decide) ?_
    refine G_ic_ge 89 rfl rfl (fun hc => ?_) (fun hc => ?_)
    · rw [if_pos hc] at h
      refine G_ldc2 (31 : Int64) rfl (by decide) ?_
      refine G_lload rfl rfl ?_
      refine G_lmul rfl ?_
      refine G_aload rfl rfl ?_
      refine G_iload rfl rfl ?_
      refine G_iload rfl rfl ?_
      obtain ⟨y14, hy14, h⟩ := Option.bind_eq_some_iff.mp h
      refine G_callvI 3 (t_Mod_shortestOf _ _ _ _  _ hy14) rfl rfl rfl rfl rfl rfl rfl rfl rfl rfl rfl ?_
      refine G_i2l rfl ?_
      refine G_ladd rfl ?_
      refine G_lstore rfl rfl ?_
      refine G_ldc2 (31 : Int64) rfl (by decide) ?_
      refine G_lload rfl rfl ?_
      refine G_lmul rfl ?_
      refine G_aload rfl rfl ?_
      refine G_iload rfl rfl ?_
      refine G_iload rfl rfl ?_
      obtain ⟨y15, hy15, h⟩ := Option.bind_eq_some_iff.mp h
      refine G_callvI 3 (t_Mod_waysOf _ _ _ _  _ hy15) rfl rfl rfl rfl rfl rfl rfl rfl rfl rfl rfl ?_
      refine G_i2l rfl ?_
      refine G_ladd rfl ?_
      refine G_lstore rfl rfl ?_
      refine G_iconst (0 : Int32) rfl (by decide) ?_
      refine G_istore rfl rfl ?_
      exact Go.weak' (t_Mod_digest_122 d hk45 _ _ _ _ _ _  _ h) ⟨rfl, rfl, rfl, rfl, rfl, trivial⟩
    · rw [if_neg hc] at h
      refine G_ldc2 (31 : Int64) rfl (by decide) ?_
      refine G_lload rfl rfl ?_
      refine G_lmul rfl ?_
      refine G_aload rfl rfl ?_
      refine G_iload rfl rfl ?_
      refine G_iload rfl rfl ?_
      obtain ⟨y20, hy20, h⟩ := Option.bind_eq_some_iff.mp h
      refine G_callvI 3 (t_Mod_atOf _ _ _ _  _ hy20) rfl rfl rfl rfl rfl rfl rfl rfl rfl rfl rfl ?_
      refine G_i2l rfl ?_
      refine G_ladd rfl ?_
      refine G_lstore rfl rfl ?_
      refine G_iinc (1 : Int32) rfl (by decide) rfl rfl ?_
      refine G_goto 62 rfl rfl ?_
      exact Go.weak' (ih _ _ _ _ _  _ h) ⟨rfl, rfl, rfl, rfl, rfl, trivial⟩
set_option maxRecDepth 100000 in
set_option maxHeartbeats 4000000 in
theorem t_Mod_digest_45 (d : Nat)   : ∀ (n : Nat) (sg : Hp) (l1 : Int64) (x3 : Int32)  (y : Int64 × Hp), f_Mod_digest_45  n sg l1 x3 = some y → Go (d + 7) none 182 45 [(0, .ref 46), (1, .long l1), (3, .int x3)] [] sg (some (.long y.1)) y.2 := by
  intro n
  induction n with
  | zero =>
    intro sg l1 x3 y h
    rw [f_Mod_digest_45] at h
    cases h
  | succ n ih =>
    intro sg l1 x3 y h
    rw [f_Mod_digest_45] at h
    refine G_iload rfl rfl ?_
    refine G_iconst (8 : Int32) rfl (by decide) ?_
    refine G_ic_ge 201 rfl rfl (fun hc => ?_) (fun hc => ?_)
    · rw [if_pos hc] at h
      refine G_aload rfl rfl ?_
      obtain ⟨y2, hy2, h⟩ := Option.bind_eq_some_iff.mp h
      refine G_callvI 1 (t_Mod_rolls _ _   _ hy2) rfl rfl rfl rfl rfl rfl rfl rfl rfl rfl rfl ?_
      refine G_istore rfl rfl ?_
      refine G_iconst (0 : Int32) rfl (by decide) ?_
      refine G_istore rfl rfl ?_
      exact Go.weak' (t_Mod_digest_209 d  _ _ _ _ _  _ h) ⟨rfl, rfl, rfl, rfl, trivial⟩
    · rw [if_neg hc] at h
      refine G_iload rfl rfl ?_
      refine G_iconst (1 : Int32) rfl (by decide) ?_
      refine G_iadd rfl ?_
      refine G_iconst (8 : Int32) rfl (by decide) ?_
      refine G_irem rfl (by decide) ?_
      refine G_istore rfl rfl ?_
      refine G_iconst (0 : Int32) rfl (by decide) ?_
      refine G_istore rfl rfl ?_
      exact Go.weak' (t_Mod_digest_62 d ih _ _ _ _ _ _  _ h) ⟨rfl, rfl, rfl, rfl, rfl, trivial⟩
set_option maxRecDepth 100000 in
set_option maxHeartbeats 4000000 in
theorem t_Mod_digest_6 (d : Nat)   : ∀ (n : Nat) (sg : Hp) (l1 : Int64) (x3 : Int32)  (y : Int64 × Hp), f_Mod_digest_6  n sg l1 x3 = some y → Go (d + 7) none 182 6 [(0, .ref 46), (1, .long l1), (3, .int x3)] [] sg (some (.long y.1)) y.2 := by
  intro n
  induction n with
  | zero =>
    intro sg l1 x3 y h
    rw [f_Mod_digest_6] at h
    cases h
  | succ n ih =>
    intro sg l1 x3 y h
    rw [f_Mod_digest_6] at h
    refine G_iload rfl rfl ?_
    refine G_iconst (8 : Int32) rfl (by decide) ?_
    refine G_ic_ge 31 rfl rfl (fun hc => ?_) (fun hc => ?_)
    · rw [if_pos hc] at h
      refine G_ldc2 (31 : Int64) rfl (by decide) ?_
      refine G_lload rfl rfl ?_
      refine G_lmul rfl ?_
      refine G_aload rfl rfl ?_
      obtain ⟨y1, hy1, h⟩ := Option.bind_eq_some_iff.mp h
      refine G_callvI 1 (t_Mod_fault _ _   _ hy1) rfl rfl rfl rfl rfl rfl rfl rfl rfl rfl rfl ?_
      refine G_i2l rfl ?_
      refine G_ladd rfl ?_
      refine G_lstore rfl rfl ?_
      refine G_iconst (0 : Int32) rfl (by decide) ?_
      refine G_istore rfl rfl ?_
      exact Go.weak' (t_Mod_digest_45 d  _ _ _ _  _ h) ⟨rfl, rfl, rfl, trivial⟩
    · rw [if_neg hc] at h
      refine G_ldc2 (31 : Int64) rfl (by decide) ?_
      refine G_lload rfl rfl ?_
      refine G_lmul rfl ?_
      refine G_aload rfl rfl ?_
      refine G_iload rfl rfl ?_
      obtain ⟨y21, hy21, h⟩ := Option.bind_eq_some_iff.mp h
      refine G_callvI 2 (t_Mod_count _ _ _  _ hy21) rfl rfl rfl rfl rfl rfl rfl rfl rfl rfl rfl ?_
      refine G_i2l rfl ?_
      refine G_ladd rfl ?_
      refine G_lstore rfl rfl ?_
      refine G_iinc (1 : Int32) rfl (by decide) rfl rfl ?_
      refine G_goto 6 rfl rfl ?_
      exact Go.weak' (ih _ _ _  _ h) ⟨rfl, rfl, rfl, trivial⟩
set_option maxRecDepth 100000 in
set_option maxHeartbeats 4000000 in
theorem t_Mod_digest (d : Nat) (sg : Hp)   (y : Int64 × Hp) (h : f_Mod_digest sg  = some y) : Sm (d + 7) 182 [.ref 46] sg (some (.long y.1)) y.2 := by
  unfold f_Mod_digest at h
  refine Sm.of (lv := [(0, .ref 46)]) rfl ?_
  refine G_ldc2 (17 : Int64) rfl (by decide) ?_
  refine G_lstore rfl rfl ?_
  refine G_iconst (0 : Int32) rfl (by decide) ?_
  refine G_istore rfl rfl ?_
  exact Go.weak' (t_Mod_digest_6 d  _ _ _ _  _ h) ⟨rfl, rfl, rfl, trivial⟩
set_option maxRecDepth 100000 in
set_option maxHeartbeats 4000000 in
theorem t_Law_law_1246 (d : Nat) {L : Nat} {xs : Nat → Int32} {k18 : Hp → Int32 → Option (Int32 × Hp)} (hk18 : ∀ (sg : Hp) (x3 : Int32)  (y : Int32 × Hp), k18 sg x3 = some y → Go (d + 14) (some (L, xs)) 183 18 [(0, .ref 999999), (1, .ref 0), (2, .ref 46), (3, .int x3)] [] sg (some (.int y.1)) y.2) (sg : Hp) (x3 : Int32)  (y : Int32 × Hp) (h : f_Law_law_1246 L xs k18 sg x3 = some y) : Go (d + 14) (some (L, xs)) 183 1246 [(0, .ref 999999), (1, .ref 0), (2, .ref 46), (3, .int x3)] [] sg (some (.int y.1)) y.2 := by
  unfold f_Law_law_1246 at h
  refine G_iinc (6 : Int32) rfl (by decide) rfl rfl ?_
  refine G_goto 18 rfl rfl ?_
  exact Go.weak' (hk18 _ _  _ h) ⟨rfl, rfl, rfl, rfl, trivial⟩
set_option maxRecDepth 100000 in
set_option maxHeartbeats 4000000 in
theorem t_Law_law_18 (d : Nat) {L : Nat} {xs : Nat → Int32}  : ∀ (n : Nat) (sg : Hp) (x3 : Int32)  (y : Int32 × Hp), f_Law_law_18 L xs n sg x3 = some y → Go (d + 14) (some (L, xs)) 183 18 [(0, .ref 999999), (1, .ref 0), (2, .ref 46), (3, .int x3)] [] sg (some (.int y.1)) y.2 := by
  intro n
  induction n with
  | zero =>
    intro sg x3 y h
    rw [f_Law_law_18] at h
    cases h
  | succ n ih =>
    intro sg x3 y h
    rw [f_Law_law_18] at h
    refine G_iload rfl rfl ?_
    refine G_aload rfl rfl ?_
    refine G_slen rfl rfl ?_
    refine G_iconst (6 : Int32) rfl (by decide) ?_
    refine G_isub rfl ?_
    refine G_ic_gt 1252 rfl rfl (fun hc => ?_) (fun hc => ?_)
    · rw [if_pos hc] at h
      refine G_iconst (1 : Int32) rfl (by decide) ?_
      obtain rfl := Option.some.inj h
      exact G_iret rfl rfl
    · rw [if_neg hc] at h
      refine G_aload rfl rfl ?_
      refine G_iload rfl rfl ?_
      obtain ⟨hg1, h⟩ := if_some h
      refine G_sld rfl rfl hg1 ?_
      refine G_iconst (31 : Int32) rfl (by decide) ?_
      refine G_iand rfl ?_
      by_cases hc2_0 : ((xs (x3).toNatClampNeg) &&& (31 : Int32)) = (0 : Int32)
      · rw [if_pos hc2_0] at h
        refine G_tsw (t := 172) 172 rfl (by rw [hc2_0]; decide) (by rw [hc2_0]; rfl) rfl ?_
        refine G_aload rfl rfl ?_
        refine G_aload rfl rfl ?_
        refine G_iload rfl rfl ?_
        refine G_iconst (1 : Int32) rfl (by decide) ?_
        refine G_iadd rfl ?_
        obtain ⟨hg3, h⟩ := if_some h
        refine G_sld rfl rfl hg3 ?_
        refine G_aload rfl rfl ?_
        refine G_iload rfl rfl ?_
        refine G_iconst (2 : Int32) rfl (by decide) ?_
        refine G_iadd rfl ?_
        obtain ⟨hg4, h⟩ := if_some h
        refine G_sld rfl rfl hg4 ?_
        obtain ⟨y5, hy5, h⟩ := Option.bind_eq_some_iff.mp h
        refine G_callvI 3 (t_Box_side _ _ _ _  _ hy5) rfl rfl rfl rfl rfl rfl rfl rfl rfl rfl rfl ?_
        refine G_aload rfl rfl ?_
        refine G_aload rfl rfl ?_
        refine G_iload rfl rfl ?_
        refine G_iconst (1 : Int32) rfl (by decide) ?_
        refine G_iadd rfl ?_
        obtain ⟨hg6, h⟩ := if_some h
        refine G_sld rfl rfl hg6 ?_
        refine G_aload rfl rfl ?_
        refine G_iload rfl rfl ?_
        refine G_iconst (2 : Int32) rfl (by decide) ?_
        refine G_iadd rfl ?_
        obtain ⟨hg7, h⟩ := if_some h
        refine G_sld rfl rfl hg7 ?_
        obtain ⟨y8, hy8, h⟩ := Option.bind_eq_some_iff.mp h
        refine G_callvI 3 (t_Mod_side _ _ _ _  _ hy8) rfl rfl rfl rfl rfl rfl rfl rfl rfl rfl rfl ?_
        refine G_ic_eq 1246 rfl rfl (fun hc => ?_) (fun hc => ?_)
        · rw [if_pos hc] at h
          exact Go.weak' (t_Law_law_1246 d ih _ _  _ h) ⟨rfl, rfl, rfl, rfl, trivial⟩
        · rw [if_neg hc] at h
          refine G_iconst (0 : Int32) rfl (by decide) ?_
          obtain rfl := Option.some.inj h
          exact G_iret rfl rfl
      · rw [if_neg hc2_0] at h
        by_cases hc2_1 : ((xs (x3).toNatClampNeg) &&& (31 : Int32)) = (1 : Int32)
        · rw [if_pos hc2_1] at h
          refine G_tsw (t := 205) 205 rfl (by rw [hc2_1]; decide) (by rw [hc2_1]; rfl) rfl ?_
          refine G_aload rfl rfl ?_
          refine G_aload rfl rfl ?_
          refine G_iload rfl rfl ?_
          refine G_iconst (1 : Int32) rfl (by decide) ?_
          refine G_iadd rfl ?_
          obtain ⟨hg9, h⟩ := if_some h
          refine G_sld rfl rfl hg9 ?_
          refine G_aload rfl rfl ?_
          refine G_iload rfl rfl ?_
          refine G_iconst (2 : Int32) rfl (by decide) ?_
          refine G_iadd rfl ?_
          obtain ⟨hg10, h⟩ := if_some h
          refine G_sld rfl rfl hg10 ?_
          refine G_aload rfl rfl ?_
          refine G_iload rfl rfl ?_
          refine G_iconst (3 : Int32) rfl (by decide) ?_
          refine G_iadd rfl ?_
          obtain ⟨hg11, h⟩ := if_some h
          refine G_sld rfl rfl hg11 ?_
          refine G_aload rfl rfl ?_
          refine G_iload rfl rfl ?_
          refine G_iconst (4 : Int32) rfl (by decide) ?_
          refine G_iadd rfl ?_
          obtain ⟨hg12, h⟩ := if_some h
          refine G_sld rfl rfl hg12 ?_
          obtain ⟨y13, hy13, h⟩ := Option.bind_eq_some_iff.mp h
          refine G_callvI 5 (t_Box_place _ _ _ _ _ _  _ hy13) rfl rfl rfl rfl rfl rfl rfl rfl rfl rfl rfl ?_
          refine G_aload rfl rfl ?_
          refine G_aload rfl rfl ?_
          refine G_iload rfl rfl ?_
          refine G_iconst (1 : Int32) rfl (by decide) ?_
          refine G_iadd rfl ?_
          obtain ⟨hg14, h⟩ := if_some h
          refine G_sld rfl rfl hg14 ?_
          refine G_aload rfl rfl ?_
          refine G_iload rfl rfl ?_
          refine G_iconst (2 : Int32) rfl (by decide) ?_
          refine G_iadd rfl ?_
          obtain ⟨hg15, h⟩ := if_some h
          refine G_sld rfl rfl hg15 ?_
          refine G_aload rfl rfl ?_
          refine G_iload rfl rfl ?_
          refine G_iconst (3 : Int32) rfl (by decide) ?_
          refine G_iadd rfl ?_
          obtain ⟨hg16, h⟩ := if_some h
          refine G_sld rfl rfl hg16 ?_
          refine G_aload rfl rfl ?_
          refine G_iload rfl rfl ?_
          refine G_iconst (4 : Int32) rfl (by decide) ?_
          refine G_iadd rfl ?_
          obtain ⟨hg17, h⟩ := if_some h
          refine G_sld rfl rfl hg17 ?_
          obtain ⟨y18, hy18, h⟩ := Option.bind_eq_some_iff.mp h
          refine G_callvI 5 (t_Mod_place _ _ _ _ _ _  _ hy18) rfl rfl rfl rfl rfl rfl rfl rfl rfl rfl rfl ?_
          refine G_ic_eq 1246 rfl rfl (fun hc => ?_) (fun hc => ?_)
          · rw [if_pos hc] at h
            exact Go.weak' (t_Law_law_1246 d ih _ _  _ h) ⟨rfl, rfl, rfl, rfl, trivial⟩
          · rw [if_neg hc] at h
            refine G_iconst (0 : Int32) rfl (by decide) ?_
            obtain rfl := Option.some.inj h
            exact G_iret rfl rfl
        · rw [if_neg hc2_1] at h
          by_cases hc2_2 : ((xs (x3).toNatClampNeg) &&& (31 : Int32)) = (2 : Int32)
          · rw [if_pos hc2_2] at h
            refine G_tsw (t := 258) 258 rfl (by rw [hc2_2]; decide) (by rw [hc2_2]; rfl) rfl ?_
            refine G_aload rfl rfl ?_
            refine G_aload rfl rfl ?_
            refine G_iload rfl rfl ?_
            refine G_iconst (1 : Int32) rfl (by decide) ?_
            refine G_iadd rfl ?_
            obtain ⟨hg19, h⟩ := if_some h
            refine G_sld rfl rfl hg19 ?_
            refine G_aload rfl rfl ?_
            refine G_iload rfl rfl ?_
            refine G_iconst (2 : Int32) rfl (by decide) ?_
            refine G_iadd rfl ?_
            obtain ⟨hg20, h⟩ := if_some h
            refine G_sld rfl rfl hg20 ?_
            obtain ⟨y21, hy21, h⟩ := Option.bind_eq_some_iff.mp h
            refine G_callvI 3 (t_Box_at _ _ _ _  _ hy21) rfl rfl rfl rfl rfl rfl rfl rfl rfl rfl rfl ?_
            refine G_aload rfl rfl ?_
            refine G_aload rfl rfl ?_
            refine G_iload rfl rfl ?_
            refine G_iconst (1 : Int32) rfl (by decide) ?_
            refine G_iadd rfl ?_
            obtain ⟨hg22, h⟩ := if_some h
            refine G_sld rfl rfl hg22 ?_
            refine G_aload rfl rfl ?_
            refine G_iload rfl rfl ?_
            refine G_iconst (2 : Int32) rfl (by decide) ?_
            refine G_iadd rfl ?_
            obtain ⟨hg23, h⟩ := if_some h
            refine G_sld rfl rfl hg23 ?_
            obtain ⟨y24, hy24, h⟩ := Option.bind_eq_some_iff.mp h
            refine G_callvI 3 (t_Mod_at _ _ _ _  _ hy24) rfl rfl rfl rfl rfl rfl rfl rfl rfl rfl rfl ?_
            refine G_ic_eq 1246 rfl rfl (fun hc => ?_) (fun hc => ?_)
            · rw [if_pos hc] at h
              exact Go.weak' (t_Law_law_1246 d ih _ _  _ h) ⟨rfl, rfl, rfl, rfl, trivial⟩
            · rw [if_neg hc] at h
              refine G_iconst (0 : Int32) rfl (by decide) ?_
              obtain rfl := Option.some.inj h
              exact G_iret rfl rfl
          · rw [if_neg hc2_2] at h
            by_cases hc2_3 : ((xs (x3).toNatClampNeg) &&& (31 : Int32)) = (3 : Int32)
            · rw [if_pos hc2_3] at h
              refine G_tsw (t := 291) 291 rfl (by rw [hc2_3]; decide) (by rw [hc2_3]; rfl) rfl ?_
              refine G_aload rfl rfl ?_
              refine G_aload rfl rfl ?_
              refine G_iload rfl rfl ?_
              refine G_iconst (1 : Int32) rfl (by decide) ?_
              refine G_iadd rfl ?_
              obtain ⟨hg25, h⟩ := if_some h
              refine G_sld rfl rfl hg25 ?_
              obtain ⟨y26, hy26, h⟩ := Option.bind_eq_some_iff.mp h
              refine G_callvI 2 (t_Box_read _ _ _  _ hy26) rfl rfl rfl rfl rfl rfl rfl rfl rfl rfl rfl ?_
              refine G_aload rfl rfl ?_
              refine G_aload rfl rfl ?_
              refine G_iload rfl rfl ?_
              refine G_iconst (1 : Int32) rfl (by decide) ?_
              refine G_iadd rfl ?_
              obtain ⟨hg27, h⟩ := if_some h
              refine G_sld rfl rfl hg27 ?_
              obtain ⟨y28, hy28, h⟩ := Option.bind_eq_some_iff.mp h
              refine G_callvI 2 (t_Mod_read _ _ _  _ hy28) rfl rfl rfl rfl rfl rfl rfl rfl rfl rfl rfl ?_
              refine G_ic_eq 1246 rfl rfl (fun hc => ?_) (fun hc => ?_)
              · rw [if_pos hc] at h
                exact Go.weak' (t_Law_law_1246 d ih _ _  _ h) ⟨rfl, rfl, rfl, rfl, trivial⟩
              · rw [if_neg hc] at h
                refine G_iconst (0 : Int32) rfl (by decide) ?_
                obtain rfl := Option.some.inj h
                exact G_iret rfl rfl
            · rw [if_neg hc2_3] at h
              by_cases hc2_4 : ((xs (x3).toNatClampNeg) &&& (31 : Int32)) = (4 : Int32)
              · rw [if_pos hc2_4] at h
                refine G_tsw (t := 314) 314 rfl (by rw [hc2_4]; decide) (by rw [hc2_4]; rfl) rfl ?_
                refine G_aload rfl rfl ?_
                refine G_aload rfl rfl ?_
                refine G_iload rfl rfl ?_
                refine G_iconst (1 : Int32) rfl (by decide) ?_
                refine G_iadd rfl ?_
                obtain ⟨hg29, h⟩ := if_some h
                refine G_sld rfl rfl hg29 ?_
                obtain ⟨y30, hy30, h⟩ := Option.bind_eq_some_iff.mp h
                refine G_callvI 2 (t_Box_type _ _ _  _ hy30) rfl rfl rfl rfl rfl rfl rfl rfl rfl rfl rfl ?_
                refine G_aload rfl rfl ?_
                refine G_aload rfl rfl ?_
                refine G_iload rfl rfl ?_
                refine G_iconst (1 : Int32) rfl (by decide) ?_
                refine G_iadd rfl ?_
                obtain ⟨hg31, h⟩ := if_some h
                refine G_sld rfl rfl hg31 ?_
                obtain ⟨y32, hy32, h⟩ := Option.bind_eq_some_iff.mp h
                refine G_callvI 2 (t_Mod_type _ _ _  _ hy32) rfl rfl rfl rfl rfl rfl rfl rfl rfl rfl rfl ?_
                refine G_ic_eq 1246 rfl rfl (fun hc => ?_) (fun hc => ?_)
                · rw [if_pos hc] at h
                  exact Go.weak' (t_Law_law_1246 d ih _ _  _ h) ⟨rfl, rfl, rfl, rfl, trivial⟩
                · rw [if_neg hc] at h
                  refine G_iconst (0 : Int32) rfl (by decide) ?_
                  obtain rfl := Option.some.inj h
                  exact G_iret rfl rfl
              · rw [if_neg hc2_4] at h
                by_cases hc2_5 : ((xs (x3).toNatClampNeg) &&& (31 : Int32)) = (5 : Int32)
                · rw [if_pos hc2_5] at h
                  refine G_tsw (t := 337) 337 rfl (by rw [hc2_5]; decide) (by rw [hc2_5]; rfl) rfl ?_
                  refine G_aload rfl rfl ?_
                  obtain ⟨y33, hy33, h⟩ := Option.bind_eq_some_iff.mp h
                  refine G_callvI 1 (t_Box_undo _ _   _ hy33) rfl rfl rfl rfl rfl rfl rfl rfl rfl rfl rfl ?_
                  refine G_aload rfl rfl ?_
                  obtain ⟨y34, hy34, h⟩ := Option.bind_eq_some_iff.mp h
                  refine G_callvI 1 (t_Mod_undo _ _   _ hy34) rfl rfl rfl rfl rfl rfl rfl rfl rfl rfl rfl ?_
                  refine G_ic_eq 1246 rfl rfl (fun hc => ?_) (fun hc => ?_)
                  · rw [if_pos hc] at h
                    exact Go.weak' (t_Law_law_1246 d ih _ _  _ h) ⟨rfl, rfl, rfl, rfl, trivial⟩
                  · rw [if_neg hc] at h
                    refine G_iconst (0 : Int32) rfl (by decide) ?_
                    obtain rfl := Option.some.inj h
                    exact G_iret rfl rfl
                · rw [if_neg hc2_5] at h
                  by_cases hc2_6 : ((xs (x3).toNatClampNeg) &&& (31 : Int32)) = (6 : Int32)
                  · rw [if_pos hc2_6] at h
                    refine G_tsw (t := 350) 350 rfl (by rw [hc2_6]; decide) (by rw [hc2_6]; rfl) rfl ?_
                    refine G_aload rfl rfl ?_
                    obtain ⟨y35, hy35, h⟩ := Option.bind_eq_some_iff.mp h
                    refine G_callvI 1 (t_Box_wipe _ _   _ hy35) rfl rfl rfl rfl rfl rfl rfl rfl rfl rfl rfl ?_
                    refine G_aload rfl rfl ?_
                    obtain ⟨y36, hy36, h⟩ := Option.bind_eq_some_iff.mp h
                    refine G_callvI 1 (t_Mod_wipe _ _   _ hy36) rfl rfl rfl rfl rfl rfl rfl rfl rfl rfl rfl ?_
                    refine G_ic_eq 1246 rfl rfl (fun hc => ?_) (fun hc => ?_)
                    · rw [if_pos hc] at h
                      exact Go.weak' (t_Law_law_1246 d ih _ _  _ h) ⟨rfl, rfl, rfl, rfl, trivial⟩
                    · rw [if_neg hc] at h
                      refine G_iconst (0 : Int32) rfl (by decide) ?_
                      obtain rfl := Option.some.inj h
                      exact G_iret rfl rfl
                  · rw [if_neg hc2_6] at h
                    by_cases hc2_7 : ((xs (x3).toNatClampNeg) &&& (31 : Int32)) = (7 : Int32)
                    · rw [if_pos hc2_7] at h
                      refine G_tsw (t := 363) 363 rfl (by rw [hc2_7]; decide) (by rw [hc2_7]; rfl) rfl ?_
                      refine G_aload rfl rfl ?_
                      obtain ⟨y37, hy37, h⟩ := Option.bind_eq_some_iff.mp h
                      refine G_callvI 1 (t_Box_fault _ _   _ hy37) rfl rfl rfl rfl rfl rfl rfl rfl rfl rfl rfl ?_
                      refine G_aload rfl rfl ?_
                      obtain ⟨y38, hy38, h⟩ := Option.bind_eq_some_iff.mp h
                      refine G_callvI 1 (t_Mod_fault _ _   _ hy38) rfl rfl rfl rfl rfl rfl rfl rfl rfl rfl rfl ?_
                      refine G_ic_eq 1246 rfl rfl (fun hc => ?_) (fun hc => ?_)
                      · rw [if_pos hc] at h
                        exact Go.weak' (t_Law_law_1246 d ih _ _  _ h) ⟨rfl, rfl, rfl, rfl, trivial⟩
                      · rw [if_neg hc] at h
                        refine G_iconst (0 : Int32) rfl (by decide) ?_
                        obtain rfl := Option.some.inj h
                        exact G_iret rfl rfl
                    · rw [if_neg hc2_7] at h
                      by_cases hc2_8 : ((xs (x3).toNatClampNeg) &&& (31 : Int32)) = (8 : Int32)
                      · rw [if_pos hc2_8] at h
                        refine G_tsw (t := 376) 376 rfl (by rw [hc2_8]; decide) (by rw [hc2_8]; rfl) rfl ?_
                        refine G_aload rfl rfl ?_
                        refine G_aload rfl rfl ?_
                        refine G_iload rfl rfl ?_
                        refine G_iconst (1 : Int32) rfl (by decide) ?_
                        refine G_iadd rfl ?_
                        obtain ⟨hg39, h⟩ := if_some h
                        refine G_sld rfl rfl hg39 ?_
                        refine G_aload rfl rfl ?_
                        refine G_iload rfl rfl ?_
                        refine G_iconst (2 : Int32) rfl (by decide) ?_
                        refine G_iadd rfl ?_
                        obtain ⟨hg40, h⟩ := if_some h
                        refine G_sld rfl rfl hg40 ?_
                        refine G_aload rfl rfl ?_
                        refine G_iload rfl rfl ?_
                        refine G_iconst (3 : Int32) rfl (by decide) ?_
                        refine G_iadd rfl ?_
                        obtain ⟨hg41, h⟩ := if_some h
                        refine G_sld rfl rfl hg41 ?_
                        obtain ⟨y42, hy42, h⟩ := Option.bind_eq_some_iff.mp h
                        refine G_callvI 4 (t_Box_bar _ _ _ _ _  _ hy42) rfl rfl rfl rfl rfl rfl rfl rfl rfl rfl rfl ?_
                        refine G_aload rfl rfl ?_
                        refine G_aload rfl rfl ?_
                        refine G_iload rfl rfl ?_
                        refine G_iconst (1 : Int32) rfl (by decide) ?_
                        refine G_iadd rfl ?_
                        obtain ⟨hg43, h⟩ := if_some h
                        refine G_sld rfl rfl hg43 ?_
                        refine G_aload rfl rfl ?_
                        refine G_iload rfl rfl ?_
                        refine G_iconst (2 : Int32) rfl (by decide) ?_
                        refine G_iadd rfl ?_
                        obtain ⟨hg44, h⟩ := if_some h
                        refine G_sld rfl rfl hg44 ?_
                        refine G_aload rfl rfl ?_
                        refine G_iload rfl rfl ?_
                        refine G_iconst (3 : Int32) rfl (by decide) ?_
                        refine G_iadd rfl ?_
                        obtain ⟨hg45, h⟩ := if_some h
                        refine G_sld rfl rfl hg45 ?_
                        obtain ⟨y46, hy46, h⟩ := Option.bind_eq_some_iff.mp h
                        refine G_callvI 4 (t_Mod_bar _ _ _ _ _  _ hy46) rfl rfl rfl rfl rfl rfl rfl rfl rfl rfl rfl ?_
                        refine G_ic_eq 1246 rfl rfl (fun hc => ?_) (fun hc => ?_)
                        · rw [if_pos hc] at h
                          exact Go.weak' (t_Law_law_1246 d ih _ _  _ h) ⟨rfl, rfl, rfl, rfl, trivial⟩
                        · rw [if_neg hc] at h
                          refine G_iconst (0 : Int32) rfl (by decide) ?_
                          obtain rfl := Option.some.inj h
                          exact G_iret rfl rfl
                      · rw [if_neg hc2_8] at h
                        by_cases hc2_9 : ((xs (x3).toNatClampNeg) &&& (31 : Int32)) = (9 : Int32)
                        · rw [if_pos hc2_9] at h
                          refine G_tsw (t := 419) 419 rfl (by rw [hc2_9]; decide) (by rw [hc2_9]; rfl) rfl ?_
                          refine G_aload rfl rfl ?_
                          refine G_aload rfl rfl ?_
                          refine G_iload rfl rfl ?_
                          refine G_iconst (1 : Int32) rfl (by decide) ?_
                          refine G_iadd rfl ?_
                          obtain ⟨hg47, h⟩ := if_some h
                          refine G_sld rfl rfl hg47 ?_
                          refine G_aload rfl rfl ?_
                          refine G_iload rfl rfl ?_
                          refine G_iconst (2 : Int32) rfl (by decide) ?_
                          refine G_iadd rfl ?_
                          obtain ⟨hg48, h⟩ := if_some h
                          refine G_sld rfl rfl hg48 ?_
                          obtain ⟨y49, hy49, h⟩ := Option.bind_eq_some_iff.mp h
                          refine G_callvI 3 (t_Box_laidOut _ _ _ _  _ hy49) rfl rfl rfl rfl rfl rfl rfl rfl rfl rfl rfl ?_
                          refine G_aload rfl rfl ?_
                          refine G_aload rfl rfl ?_
                          refine G_iload rfl rfl ?_
                          refine G_iconst (1 : Int32) rfl (by decide) ?_
                          refine G_iadd rfl ?_
                          obtain ⟨hg50, h⟩ := if_some h
                          refine G_sld rfl rfl hg50 ?_
                          refine G_aload rfl rfl ?_
                          refine G_iload rfl rfl ?_
                          refine G_iconst (2 : Int32) rfl (by decide) ?_
                          refine G_iadd rfl ?_
                          obtain ⟨hg51, h⟩ := if_some h
                          refine G_sld rfl rfl hg51 ?_
                          obtain ⟨y52, hy52, h⟩ := Option.bind_eq_some_iff.mp h
                          refine G_callvI 3 (t_Mod_laidOut _ _ _ _  _ hy52) rfl rfl rfl rfl rfl rfl rfl rfl rfl rfl rfl ?_
                          refine G_ic_eq 1246 rfl rfl (fun hc => ?_) (fun hc => ?_)
                          · rw [if_pos hc] at h
                            exact Go.weak' (t_Law_law_1246 d ih _ _  _ h) ⟨rfl, rfl, rfl, rfl, trivial⟩
                          · rw [if_neg hc] at h
                            refine G_iconst (0 : Int32) rfl (by decide) ?_
                            obtain rfl := Option.some.inj h
                            exact G_iret rfl rfl
                        · rw [if_neg hc2_9] at h
                          by_cases hc2_10 : ((xs (x3).toNatClampNeg) &&& (31 : Int32)) = (10 : Int32)
                          · rw [if_pos hc2_10] at h
                            refine G_tsw (t := 452) 452 rfl (by rw [hc2_10]; decide) (by rw [hc2_10]; rfl) rfl ?_
                            refine G_aload rfl rfl ?_
                            refine G_aload rfl rfl ?_
                            refine G_iload rfl rfl ?_
                            refine G_iconst (1 : Int32) rfl (by decide) ?_
                            refine G_iadd rfl ?_
                            obtain ⟨hg53, h⟩ := if_some h
                            refine G_sld rfl rfl hg53 ?_
                            refine G_aload rfl rfl ?_
                            refine G_iload rfl rfl ?_
                            refine G_iconst (2 : Int32) rfl (by decide) ?_
                            refine G_iadd rfl ?_
                            obtain ⟨hg54, h⟩ := if_some h
                            refine G_sld rfl rfl hg54 ?_
                            refine G_aload rfl rfl ?_
                            refine G_iload rfl rfl ?_
                            refine G_iconst (3 : Int32) rfl (by decide) ?_
                            refine G_iadd rfl ?_
                            obtain ⟨hg55, h⟩ := if_some h
                            refine G_sld rfl rfl hg55 ?_
                            obtain ⟨y56, hy56, h⟩ := Option.bind_eq_some_iff.mp h
                            refine G_callvI 4 (t_Box_lies _ _ _ _ _  _ hy56) rfl rfl rfl rfl rfl rfl rfl rfl rfl rfl rfl ?_
                            refine G_aload rfl rfl ?_
                            refine G_aload rfl rfl ?_
                            refine G_iload rfl rfl ?_
                            refine G_iconst (1 : Int32) rfl (by decide) ?_
                            refine G_iadd rfl ?_
                            obtain ⟨hg57, h⟩ := if_some h
                            refine G_sld rfl rfl hg57 ?_
                            refine G_aload rfl rfl ?_
                            refine G_iload rfl rfl ?_
                            refine G_iconst (2 : Int32) rfl (by decide) ?_
                            refine G_iadd rfl ?_
                            obtain ⟨hg58, h⟩ := if_some h
                            refine G_sld rfl rfl hg58 ?_
                            refine G_aload rfl rfl ?_
                            refine G_iload rfl rfl ?_
                            refine G_iconst (3 : Int32) rfl (by decide) ?_
                            refine G_iadd rfl ?_
                            obtain ⟨hg59, h⟩ := if_some h
                            refine G_sld rfl rfl hg59 ?_
                            obtain ⟨y60, hy60, h⟩ := Option.bind_eq_some_iff.mp h
                            refine G_callvI 4 (t_Mod_lies _ _ _ _ _  _ hy60) rfl rfl rfl rfl rfl rfl rfl rfl rfl rfl rfl ?_
                            refine G_ic_eq 1246 rfl rfl (fun hc => ?_) (fun hc => ?_)
                            · rw [if_pos hc] at h
                              exact Go.weak' (t_Law_law_1246 d ih _ _  _ h) ⟨rfl, rfl, rfl, rfl, trivial⟩
                            · rw [if_neg hc] at h
                              refine G_iconst (0 : Int32) rfl (by decide) ?_
                              obtain rfl := Option.some.inj h
                              exact G_iret rfl rfl
                          · rw [if_neg hc2_10] at h
                            by_cases hc2_11 : ((xs (x3).toNatClampNeg) &&& (31 : Int32)) = (11 : Int32)
                            · rw [if_pos hc2_11] at h
                              refine G_tsw (t := 495) 495 rfl (by rw [hc2_11]; decide) (by rw [hc2_11]; rfl) rfl ?_
                              refine G_aload rfl rfl ?_
                              refine G_aload rfl rfl ?_
                              refine G_iload rfl rfl ?_
                              refine G_iconst (1 : Int32) rfl (by decide) ?_
                              refine G_iadd rfl ?_
                              obtain ⟨hg61, h⟩ := if_some h
                              refine G_sld rfl rfl hg61 ?_
                              refine G_aload rfl rfl ?_
                              refine G_iload rfl rfl ?_
                              refine G_iconst (2 : Int32) rfl (by decide) ?_
                              refine G_iadd rfl ?_
                              obtain ⟨hg62, h⟩ := if_some h
                              refine G_sld rfl rfl hg62 ?_
                              obtain ⟨y63, hy63, h⟩ := Option.bind_eq_some_iff.mp h
                              refine G_callvI 3 (t_Box_shortest _ _ _ _  _ hy63) rfl rfl rfl rfl rfl rfl rfl rfl rfl rfl rfl ?_
                              refine G_aload rfl rfl ?_
                              refine G_aload rfl rfl ?_
                              refine G_iload rfl rfl ?_
                              refine G_iconst (1 : Int32) rfl (by decide) ?_
                              refine G_iadd rfl ?_
                              obtain ⟨hg64, h⟩ := if_some h
                              refine G_sld rfl rfl hg64 ?_
                              refine G_aload rfl rfl ?_
                              refine G_iload rfl rfl ?_
                              refine G_iconst (2 : Int32) rfl (by decide) ?_
                              refine G_iadd rfl ?_
                              obtain ⟨hg65, h⟩ := if_some h
                              refine G_sld rfl rfl hg65 ?_
                              obtain ⟨y66, hy66, h⟩ := Option.bind_eq_some_iff.mp h
                              refine G_callvI 3 (t_Mod_shortest _ _ _ _  _ hy66) rfl rfl rfl rfl rfl rfl rfl rfl rfl rfl rfl ?_
                              refine G_ic_eq 1246 rfl rfl (fun hc => ?_) (fun hc => ?_)
                              · rw [if_pos hc] at h
                                exact Go.weak' (t_Law_law_1246 d ih _ _  _ h) ⟨rfl, rfl, rfl, rfl, trivial⟩
                              · rw [if_neg hc] at h
                                refine G_iconst (0 : Int32) rfl (by decide) ?_
                                obtain rfl := Option.some.inj h
                                exact G_iret rfl rfl
                            · rw [if_neg hc2_11] at h
                              by_cases hc2_12 : ((xs (x3).toNatClampNeg) &&& (31 : Int32)) = (12 : Int32)
                              · rw [if_pos hc2_12] at h
                                refine G_tsw (t := 528) 528 rfl (by rw [hc2_12]; decide) (by rw [hc2_12]; rfl) rfl ?_
                                refine G_aload rfl rfl ?_
                                refine G_aload rfl rfl ?_
                                refine G_iload rfl rfl ?_
                                refine G_iconst (1 : Int32) rfl (by decide) ?_
                                refine G_iadd rfl ?_
                                obtain ⟨hg67, h⟩ := if_some h
                                refine G_sld rfl rfl hg67 ?_
                                refine G_aload rfl rfl ?_
                                refine G_iload rfl rfl ?_
                                refine G_iconst (2 : Int32) rfl (by decide) ?_
                                refine G_iadd rfl ?_
                                obtain ⟨hg68, h⟩ := if_some h
                                refine G_sld rfl rfl hg68 ?_
                                obtain ⟨y69, hy69, h⟩ := Option.bind_eq_some_iff.mp h
                                refine G_callvI 3 (t_Box_ways _ _ _ _  _ hy69) rfl rfl rfl rfl rfl rfl rfl rfl rfl rfl rfl ?_
                                refine G_aload rfl rfl ?_
                                refine G_aload rfl rfl ?_
                                refine G_iload rfl rfl ?_
                                refine G_iconst (1 : Int32) rfl (by decide) ?_
                                refine G_iadd rfl ?_
                                obtain ⟨hg70, h⟩ := if_some h
                                refine G_sld rfl rfl hg70 ?_
                                refine G_aload rfl rfl ?_
                                refine G_iload rfl rfl ?_
                                refine G_iconst (2 : Int32) rfl (by decide) ?_
                                refine G_iadd rfl ?_
                                obtain ⟨hg71, h⟩ := if_some h
                                refine G_sld rfl rfl hg71 ?_
                                obtain ⟨y72, hy72, h⟩ := Option.bind_eq_some_iff.mp h
                                refine G_callvI 3 (t_Mod_ways _ _ _ _  _ hy72) rfl rfl rfl rfl rfl rfl rfl rfl rfl rfl rfl ?_
                                refine G_ic_eq 1246 rfl rfl (fun hc => ?_) (fun hc => ?_)
                                · rw [if_pos hc] at h
                                  exact Go.weak' (t_Law_law_1246 d ih _ _  _ h) ⟨rfl, rfl, rfl, rfl, trivial⟩
                                · rw [if_neg hc] at h
                                  refine G_iconst (0 : Int32) rfl (by decide) ?_
                                  obtain rfl := Option.some.inj h
                                  exact G_iret rfl rfl
                              · rw [if_neg hc2_12] at h
                                by_cases hc2_13 : ((xs (x3).toNatClampNeg) &&& (31 : Int32)) = (13 : Int32)
                                · rw [if_pos hc2_13] at h
                                  refine G_tsw (t := 561) 561 rfl (by rw [hc2_13]; decide) (by rw [hc2_13]; rfl) rfl ?_
                                  refine G_aload rfl rfl ?_
                                  refine G_aload rfl rfl ?_
                                  refine G_iload rfl rfl ?_
                                  refine G_iconst (1 : Int32) rfl (by decide) ?_
                                  refine G_iadd rfl ?_
                                  obtain ⟨hg73, h⟩ := if_some h
                                  refine G_sld rfl rfl hg73 ?_
                                  refine G_aload rfl rfl ?_
                                  refine G_iload rfl rfl ?_
                                  refine G_iconst (2 : Int32) rfl (by decide) ?_
                                  refine G_iadd rfl ?_
                                  obtain ⟨hg74, h⟩ := if_some h
                                  refine G_sld rfl rfl hg74 ?_
                                  refine G_aload rfl rfl ?_
                                  refine G_iload rfl rfl ?_
                                  refine G_iconst (3 : Int32) rfl (by decide) ?_
                                  refine G_iadd rfl ?_
                                  obtain ⟨hg75, h⟩ := if_some h
                                  refine G_sld rfl rfl hg75 ?_
                                  obtain ⟨y76, hy76, h⟩ := Option.bind_eq_some_iff.mp h
                                  refine G_callvI 4 (t_Box_face _ _ _ _ _  _ hy76) rfl rfl rfl rfl rfl rfl rfl rfl rfl rfl rfl ?_
                                  refine G_aload rfl rfl ?_
                                  refine G_aload rfl rfl ?_
                                  refine G_iload rfl rfl ?_
                                  refine G_iconst (1 : Int32) rfl (by decide) ?_
                                  refine G_iadd rfl ?_
                                  obtain ⟨hg77, h⟩ := if_some h
                                  refine G_sld rfl rfl hg77 ?_
                                  refine G_aload rfl rfl ?_
                                  refine G_iload rfl rfl ?_
                                  refine G_iconst (2 : Int32) rfl (by decide) ?_
                                  refine G_iadd rfl ?_
                                  obtain ⟨hg78, h⟩ := if_some h
                                  refine G_sld rfl rfl hg78 ?_
                                  refine G_aload rfl rfl ?_
                                  refine G_iload rfl rfl ?_
                                  refine G_iconst (3 : Int32) rfl (by decide) ?_
                                  refine G_iadd rfl ?_
                                  obtain ⟨hg79, h⟩ := if_some h
                                  refine G_sld rfl rfl hg79 ?_
                                  obtain ⟨y80, hy80, h⟩ := Option.bind_eq_some_iff.mp h
                                  refine G_callvI 4 (t_Mod_face _ _ _ _ _  _ hy80) rfl rfl rfl rfl rfl rfl rfl rfl rfl rfl rfl ?_
                                  refine G_ic_eq 1246 rfl rfl (fun hc => ?_) (fun hc => ?_)
                                  · rw [if_pos hc] at h
                                    exact Go.weak' (t_Law_law_1246 d ih _ _  _ h) ⟨rfl, rfl, rfl, rfl, trivial⟩
                                  · rw [if_neg hc] at h
                                    refine G_iconst (0 : Int32) rfl (by decide) ?_
                                    obtain rfl := Option.some.inj h
                                    exact G_iret rfl rfl
                                · rw [if_neg hc2_13] at h
                                  by_cases hc2_14 : ((xs (x3).toNatClampNeg) &&& (31 : Int32)) = (14 : Int32)
                                  · rw [if_pos hc2_14] at h
                                    refine G_tsw (t := 604) 604 rfl (by rw [hc2_14]; decide) (by rw [hc2_14]; rfl) rfl ?_
                                    refine G_aload rfl rfl ?_
                                    refine G_aload rfl rfl ?_
                                    refine G_iload rfl rfl ?_
                                    refine G_iconst (1 : Int32) rfl (by decide) ?_
                                    refine G_iadd rfl ?_
                                    obtain ⟨hg81, h⟩ := if_some h
                                    refine G_sld rfl rfl hg81 ?_
                                    obtain ⟨y82, hy82, h⟩ := Option.bind_eq_some_iff.mp h
                                    refine G_callvI 2 (t_Box_farthest _ _ _  _ hy82) rfl rfl rfl rfl rfl rfl rfl rfl rfl rfl rfl ?_
                                    refine G_aload rfl rfl ?_
                                    refine G_aload rfl rfl ?_
                                    refine G_iload rfl rfl ?_
                                    refine G_iconst (1 : Int32) rfl (by decide) ?_
                                    refine G_iadd rfl ?_
                                    obtain ⟨hg83, h⟩ := if_some h
                                    refine G_sld rfl rfl hg83 ?_
                                    obtain ⟨y84, hy84, h⟩ := Option.bind_eq_some_iff.mp h
                                    refine G_callvI 2 (t_Mod_farthest _ _ _  _ hy84) rfl rfl rfl rfl rfl rfl rfl rfl rfl rfl rfl ?_
                                    refine G_ic_eq 1246 rfl rfl (fun hc => ?_) (fun hc => ?_)
                                    · rw [if_pos hc] at h
                                      exact Go.weak' (t_Law_law_1246 d ih _ _  _ h) ⟨rfl, rfl, rfl, rfl, trivial⟩
                                    · rw [if_neg hc] at h
                                      refine G_iconst (0 : Int32) rfl (by decide) ?_
                                      obtain rfl := Option.some.inj h
                                      exact G_iret rfl rfl
                                  · rw [if_neg hc2_14] at h
                                    by_cases hc2_15 : ((xs (x3).toNatClampNeg) &&& (31 : Int32)) = (15 : Int32)
                                    · rw [if_pos hc2_15] at h
                                      refine G_tsw (t := 627) 627 rfl (by rw [hc2_15]; decide) (by rw [hc2_15]; rfl) rfl ?_
                                      refine G_aload rfl rfl ?_
                                      obtain ⟨y85, hy85, h⟩ := Option.bind_eq_some_iff.mp h
                                      refine G_callvI 1 (t_Box_sit _ _   _ hy85) rfl rfl rfl rfl rfl rfl rfl rfl rfl rfl rfl ?_
                                      refine G_aload rfl rfl ?_
                                      obtain ⟨y86, hy86, h⟩ := Option.bind_eq_some_iff.mp h
                                      refine G_callvI 1 (t_Mod_sit _ _   _ hy86) rfl rfl rfl rfl rfl rfl rfl rfl rfl rfl rfl ?_
                                      refine G_ic_eq 1246 rfl rfl (fun hc => ?_) (fun hc => ?_)
                                      · rw [if_pos hc] at h
                                        exact Go.weak' (t_Law_law_1246 d ih _ _  _ h) ⟨rfl, rfl, rfl, rfl, trivial⟩
                                      · rw [if_neg hc] at h
                                        refine G_iconst (0 : Int32) rfl (by decide) ?_
                                        obtain rfl := Option.some.inj h
                                        exact G_iret rfl rfl
                                    · rw [if_neg hc2_15] at h
                                      by_cases hc2_16 : ((xs (x3).toNatClampNeg) &&& (31 : Int32)) = (16 : Int32)
                                      · rw [if_pos hc2_16] at h
                                        refine G_tsw (t := 640) 640 rfl (by rw [hc2_16]; decide) (by rw [hc2_16]; rfl) rfl ?_
                                        refine G_aload rfl rfl ?_
                                        refine G_aload rfl rfl ?_
                                        refine G_iload rfl rfl ?_
                                        refine G_iconst (1 : Int32) rfl (by decide) ?_
                                        refine G_iadd rfl ?_
                                        obtain ⟨hg87, h⟩ := if_some h
                                        refine G_sld rfl rfl hg87 ?_
                                        refine G_aload rfl rfl ?_
                                        refine G_iload rfl rfl ?_
                                        refine G_iconst (2 : Int32) rfl (by decide) ?_
                                        refine G_iadd rfl ?_
                                        obtain ⟨hg88, h⟩ := if_some h
                                        refine G_sld rfl rfl hg88 ?_
                                        obtain ⟨y89, hy89, h⟩ := Option.bind_eq_some_iff.mp h
                                        refine G_callvI 3 (t_Box_nearer _ _ _ _  _ hy89) rfl rfl rfl rfl rfl rfl rfl rfl rfl rfl rfl ?_
                                        refine G_aload rfl rfl ?_
                                        refine G_aload rfl rfl ?_
                                        refine G_iload rfl rfl ?_
                                        refine G_iconst (1 : Int32) rfl (by decide) ?_
                                        refine G_iadd rfl ?_
                                        obtain ⟨hg90, h⟩ := if_some h
                                        refine G_sld rfl rfl hg90 ?_
                                        refine G_aload rfl rfl ?_
                                        refine G_iload rfl rfl ?_
                                        refine G_iconst (2 : Int32) rfl (by decide) ?_
                                        refine G_iadd rfl ?_
                                        obtain ⟨hg91, h⟩ := if_some h
                                        refine G_sld rfl rfl hg91 ?_
                                        obtain ⟨y92, hy92, h⟩ := Option.bind_eq_some_iff.mp h
                                        refine G_callvI 3 (t_Mod_nearer _ _ _ _  _ hy92) rfl rfl rfl rfl rfl rfl rfl rfl rfl rfl rfl ?_
                                        refine G_ic_eq 1246 rfl rfl (fun hc => ?_) (fun hc => ?_)
                                        · rw [if_pos hc] at h
                                          exact Go.weak' (t_Law_law_1246 d ih _ _  _ h) ⟨rfl, rfl, rfl, rfl, trivial⟩
                                        · rw [if_neg hc] at h
                                          refine G_iconst (0 : Int32) rfl (by decide) ?_
                                          obtain rfl := Option.some.inj h
                                          exact G_iret rfl rfl
                                      · rw [if_neg hc2_16] at h
                                        by_cases hc2_17 : ((xs (x3).toNatClampNeg) &&& (31 : Int32)) = (17 : Int32)
                                        · rw [if_pos hc2_17] at h
                                          refine G_tsw (t := 673) 673 rfl (by rw [hc2_17]; decide) (by rw [hc2_17]; rfl) rfl ?_
                                          refine G_aload rfl rfl ?_
                                          refine G_aload rfl rfl ?_
                                          refine G_iload rfl rfl ?_
                                          refine G_iconst (1 : Int32) rfl (by decide) ?_
                                          refine G_iadd rfl ?_
                                          obtain ⟨hg93, h⟩ := if_some h
                                          refine G_sld rfl rfl hg93 ?_
                                          refine G_aload rfl rfl ?_
                                          refine G_iload rfl rfl ?_
                                          refine G_iconst (2 : Int32) rfl (by decide) ?_
                                          refine G_iadd rfl ?_
                                          obtain ⟨hg94, h⟩ := if_some h
                                          refine G_sld rfl rfl hg94 ?_
                                          obtain ⟨y95, hy95, h⟩ := Option.bind_eq_some_iff.mp h
                                          refine G_callvI 3 (t_Box_wires _ _ _ _  _ hy95) rfl rfl rfl rfl rfl rfl rfl rfl rfl rfl rfl ?_
                                          refine G_aload rfl rfl ?_
                                          refine G_aload rfl rfl ?_
                                          refine G_iload rfl rfl ?_
                                          refine G_iconst (1 : Int32) rfl (by decide) ?_
                                          refine G_iadd rfl ?_
                                          obtain ⟨hg96, h⟩ := if_some h
                                          refine G_sld rfl rfl hg96 ?_
                                          refine G_aload rfl rfl ?_
                                          refine G_iload rfl rfl ?_
                                          refine G_iconst (2 : Int32) rfl (by decide) ?_
                                          refine G_iadd rfl ?_
                                          obtain ⟨hg97, h⟩ := if_some h
                                          refine G_sld rfl rfl hg97 ?_
                                          obtain ⟨y98, hy98, h⟩ := Option.bind_eq_some_iff.mp h
                                          refine G_callvI 3 (t_Mod_wires _ _ _ _  _ hy98) rfl rfl rfl rfl rfl rfl rfl rfl rfl rfl rfl ?_
                                          refine G_ic_eq 1246 rfl rfl (fun hc => ?_) (fun hc => ?_)
                                          · rw [if_pos hc] at h
                                            exact Go.weak' (t_Law_law_1246 d ih _ _  _ h) ⟨rfl, rfl, rfl, rfl, trivial⟩
                                          · rw [if_neg hc] at h
                                            refine G_iconst (0 : Int32) rfl (by decide) ?_
                                            obtain rfl := Option.some.inj h
                                            exact G_iret rfl rfl
                                        · rw [if_neg hc2_17] at h
                                          by_cases hc2_18 : ((xs (x3).toNatClampNeg) &&& (31 : Int32)) = (18 : Int32)
                                          · rw [if_pos hc2_18] at h
                                            refine G_tsw (t := 706) 706 rfl (by rw [hc2_18]; decide) (by rw [hc2_18]; rfl) rfl ?_
                                            refine G_aload rfl rfl ?_
                                            refine G_aload rfl rfl ?_
                                            refine G_iload rfl rfl ?_
                                            refine G_iconst (1 : Int32) rfl (by decide) ?_
                                            refine G_iadd rfl ?_
                                            obtain ⟨hg99, h⟩ := if_some h
                                            refine G_sld rfl rfl hg99 ?_
                                            refine G_aload rfl rfl ?_
                                            refine G_iload rfl rfl ?_
                                            refine G_iconst (2 : Int32) rfl (by decide) ?_
                                            refine G_iadd rfl ?_
                                            obtain ⟨hg100, h⟩ := if_some h
                                            refine G_sld rfl rfl hg100 ?_
                                            obtain ⟨y101, hy101, h⟩ := Option.bind_eq_some_iff.mp h
                                            refine G_callvI 3 (t_Box_within _ _ _ _  _ hy101) rfl rfl rfl rfl rfl rfl rfl rfl rfl rfl rfl ?_
                                            refine G_aload rfl rfl ?_
                                            refine G_aload rfl rfl ?_
                                            refine G_iload rfl rfl ?_
                                            refine G_iconst (1 : Int32) rfl (by decide) ?_
                                            refine G_iadd rfl ?_
                                            obtain ⟨hg102, h⟩ := if_some h
                                            refine G_sld rfl rfl hg102 ?_
                                            refine G_aload rfl rfl ?_
                                            refine G_iload rfl rfl ?_
                                            refine G_iconst (2 : Int32) rfl (by decide) ?_
                                            refine G_iadd rfl ?_
                                            obtain ⟨hg103, h⟩ := if_some h
                                            refine G_sld rfl rfl hg103 ?_
                                            obtain ⟨y104, hy104, h⟩ := Option.bind_eq_some_iff.mp h
                                            refine G_callvI 3 (t_Mod_within _ _ _ _  _ hy104) rfl rfl rfl rfl rfl rfl rfl rfl rfl rfl rfl ?_
                                            refine G_ic_eq 1246 rfl rfl (fun hc => ?_) (fun hc => ?_)
                                            · rw [if_pos hc] at h
                                              exact Go.weak' (t_Law_law_1246 d ih _ _  _ h) ⟨rfl, rfl, rfl, rfl, trivial⟩
                                            · rw [if_neg hc] at h
                                              refine G_iconst (0 : Int32) rfl (by decide) ?_
                                              obtain rfl := Option.some.inj h
                                              exact G_iret rfl rfl
                                          · rw [if_neg hc2_18] at h
                                            by_cases hc2_19 : ((xs (x3).toNatClampNeg) &&& (31 : Int32)) = (19 : Int32)
                                            · rw [if_pos hc2_19] at h
                                              refine G_tsw (t := 739) 739 rfl (by rw [hc2_19]; decide) (by rw [hc2_19]; rfl) rfl ?_
                                              refine G_aload rfl rfl ?_
                                              refine G_aload rfl rfl ?_
                                              refine G_iload rfl rfl ?_
                                              refine G_iconst (1 : Int32) rfl (by decide) ?_
                                              refine G_iadd rfl ?_
                                              obtain ⟨hg105, h⟩ := if_some h
                                              refine G_sld rfl rfl hg105 ?_
                                              refine G_aload rfl rfl ?_
                                              refine G_iload rfl rfl ?_
                                              refine G_iconst (2 : Int32) rfl (by decide) ?_
                                              refine G_iadd rfl ?_
                                              obtain ⟨hg106, h⟩ := if_some h
                                              refine G_sld rfl rfl hg106 ?_
                                              refine G_aload rfl rfl ?_
                                              refine G_iload rfl rfl ?_
                                              refine G_iconst (3 : Int32) rfl (by decide) ?_
                                              refine G_iadd rfl ?_
                                              obtain ⟨hg107, h⟩ := if_some h
                                              refine G_sld rfl rfl hg107 ?_
                                              refine G_aload rfl rfl ?_
                                              refine G_iload rfl rfl ?_
                                              refine G_iconst (4 : Int32) rfl (by decide) ?_
                                              refine G_iadd rfl ?_
                                              obtain ⟨hg108, h⟩ := if_some h
                                              refine G_sld rfl rfl hg108 ?_
                                              obtain ⟨y109, hy109, h⟩ := Option.bind_eq_some_iff.mp h
                                              refine G_callvI 5 (t_Box_told _ _ _ _ _ _  _ hy109) rfl rfl rfl rfl rfl rfl rfl rfl rfl rfl rfl ?_
                                              refine G_aload rfl rfl ?_
                                              refine G_aload rfl rfl ?_
                                              refine G_iload rfl rfl ?_
                                              refine G_iconst (1 : Int32) rfl (by decide) ?_
                                              refine G_iadd rfl ?_
                                              obtain ⟨hg110, h⟩ := if_some h
                                              refine G_sld rfl rfl hg110 ?_
                                              refine G_aload rfl rfl ?_
                                              refine G_iload rfl rfl ?_
                                              refine G_iconst (2 : Int32) rfl (by decide) ?_
                                              refine G_iadd rfl ?_
                                              obtain ⟨hg111, h⟩ := if_some h
                                              refine G_sld rfl rfl hg111 ?_
                                              refine G_aload rfl rfl ?_
                                              refine G_iload rfl rfl ?_
                                              refine G_iconst (3 : Int32) rfl (by decide) ?_
                                              refine G_iadd rfl ?_
                                              obtain ⟨hg112, h⟩ := if_some h
                                              refine G_sld rfl rfl hg112 ?_
                                              refine G_aload rfl rfl ?_
                                              refine G_iload rfl rfl ?_
                                              refine G_iconst (4 : Int32) rfl (by decide) ?_
                                              refine G_iadd rfl ?_
                                              obtain ⟨hg113, h⟩ := if_some h
                                              refine G_sld rfl rfl hg113 ?_
                                              obtain ⟨y114, hy114, h⟩ := Option.bind_eq_some_iff.mp h
                                              refine G_callvI 5 (t_Mod_told _ _ _ _ _ _  _ hy114) rfl rfl rfl rfl rfl rfl rfl rfl rfl rfl rfl ?_
                                              refine G_ic_eq 1246 rfl rfl (fun hc => ?_) (fun hc => ?_)
                                              · rw [if_pos hc] at h
                                                exact Go.weak' (t_Law_law_1246 d ih _ _  _ h) ⟨rfl, rfl, rfl, rfl, trivial⟩
                                              · rw [if_neg hc] at h
                                                refine G_iconst (0 : Int32) rfl (by decide) ?_
                                                obtain rfl := Option.some.inj h
                                                exact G_iret rfl rfl
                                            · rw [if_neg hc2_19] at h
                                              by_cases hc2_20 : ((xs (x3).toNatClampNeg) &&& (31 : Int32)) = (20 : Int32)
                                              · rw [if_pos hc2_20] at h
                                                refine G_tsw (t := 792) 792 rfl (by rw [hc2_20]; decide) (by rw [hc2_20]; rfl) rfl ?_
                                                refine G_aload rfl rfl ?_
                                                refine G_aload rfl rfl ?_
                                                refine G_iload rfl rfl ?_
                                                refine G_iconst (1 : Int32) rfl (by decide) ?_
                                                refine G_iadd rfl ?_
                                                obtain ⟨hg115, h⟩ := if_some h
                                                refine G_sld rfl rfl hg115 ?_
                                                refine G_aload rfl rfl ?_
                                                refine G_iload rfl rfl ?_
                                                refine G_iconst (2 : Int32) rfl (by decide) ?_
                                                refine G_iadd rfl ?_
                                                obtain ⟨hg116, h⟩ := if_some h
                                                refine G_sld rfl rfl hg116 ?_
                                                refine G_aload rfl rfl ?_
                                                refine G_iload rfl rfl ?_
                                                refine G_iconst (3 : Int32) rfl (by decide) ?_
                                                refine G_iadd rfl ?_
                                                obtain ⟨hg117, h⟩ := if_some h
                                                refine G_sld rfl rfl hg117 ?_
                                                refine G_aload rfl rfl ?_
                                                refine G_iload rfl rfl ?_
                                                refine G_iconst (4 : Int32) rfl (by decide) ?_
                                                refine G_iadd rfl ?_
                                                obtain ⟨hg118, h⟩ := if_some h
                                                refine G_sld rfl rfl hg118 ?_
                                                obtain ⟨y119, hy119, h⟩ := Option.bind_eq_some_iff.mp h
                                                refine G_callvI 5 (t_Box_snail _ _ _ _ _ _  _ hy119) rfl rfl rfl rfl rfl rfl rfl rfl rfl rfl rfl ?_
                                                refine G_aload rfl rfl ?_
                                                refine G_aload rfl rfl ?_
                                                refine G_iload rfl rfl ?_
                                                refine G_iconst (1 : Int32) rfl (by decide) ?_
                                                refine G_iadd rfl ?_
                                                obtain ⟨hg120, h⟩ := if_some h
                                                refine G_sld rfl rfl hg120 ?_
                                                refine G_aload rfl rfl ?_
                                                refine G_iload rfl rfl ?_
                                                refine G_iconst (2 : Int32) rfl (by decide) ?_
                                                refine G_iadd rfl ?_
                                                obtain ⟨hg121, h⟩ := if_some h
                                                refine G_sld rfl rfl hg121 ?_
                                                refine G_aload rfl rfl ?_
                                                refine G_iload rfl rfl ?_
                                                refine G_iconst (3 : Int32) rfl (by decide) ?_
                                                refine G_iadd rfl ?_
                                                obtain ⟨hg122, h⟩ := if_some h
                                                refine G_sld rfl rfl hg122 ?_
                                                refine G_aload rfl rfl ?_
                                                refine G_iload rfl rfl ?_
                                                refine G_iconst (4 : Int32) rfl (by decide) ?_
                                                refine G_iadd rfl ?_
                                                obtain ⟨hg123, h⟩ := if_some h
                                                refine G_sld rfl rfl hg123 ?_
                                                obtain ⟨y124, hy124, h⟩ := Option.bind_eq_some_iff.mp h
                                                refine G_callvI 5 (t_Mod_snail _ _ _ _ _ _  _ hy124) rfl rfl rfl rfl rfl rfl rfl rfl rfl rfl rfl ?_
                                                refine G_ic_eq 1246 rfl rfl (fun hc => ?_) (fun hc => ?_)
                                                · rw [if_pos hc] at h
                                                  exact Go.weak' (t_Law_law_1246 d ih _ _  _ h) ⟨rfl, rfl, rfl, rfl, trivial⟩
                                                · rw [if_neg hc] at h
                                                  refine G_iconst (0 : Int32) rfl (by decide) ?_
                                                  obtain rfl := Option.some.inj h
                                                  exact G_iret rfl rfl
                                              · rw [if_neg hc2_20] at h
                                                by_cases hc2_21 : ((xs (x3).toNatClampNeg) &&& (31 : Int32)) = (21 : Int32)
                                                · rw [if_pos hc2_21] at h
                                                  refine G_tsw (t := 845) 845 rfl (by rw [hc2_21]; decide) (by rw [hc2_21]; rfl) rfl ?_
                                                  refine G_aload rfl rfl ?_
                                                  refine G_aload rfl rfl ?_
                                                  refine G_iload rfl rfl ?_
                                                  refine G_iconst (1 : Int32) rfl (by decide) ?_
                                                  refine G_iadd rfl ?_
                                                  obtain ⟨hg125, h⟩ := if_some h
                                                  refine G_sld rfl rfl hg125 ?_
                                                  refine G_aload rfl rfl ?_
                                                  refine G_iload rfl rfl ?_
                                                  refine G_iconst (2 : Int32) rfl (by decide) ?_
                                                  refine G_iadd rfl ?_
                                                  obtain ⟨hg126, h⟩ := if_some h
                                                  refine G_sld rfl rfl hg126 ?_
                                                  refine G_aload rfl rfl ?_
                                                  refine G_iload rfl rfl ?_
                                                  refine G_iconst (3 : Int32) rfl (by decide) ?_
                                                  refine G_iadd rfl ?_
                                                  obtain ⟨hg127, h⟩ := if_some h
                                                  refine G_sld rfl rfl hg127 ?_
                                                  refine G_aload rfl rfl ?_
                                                  refine G_iload rfl rfl ?_
                                                  refine G_iconst (4 : Int32) rfl (by decide) ?_
                                                  refine G_iadd rfl ?_
                                                  obtain ⟨hg128, h⟩ := if_some h
                                                  refine G_sld rfl rfl hg128 ?_
                                                  obtain ⟨y129, hy129, h⟩ := Option.bind_eq_some_iff.mp h
                                                  refine G_callvI 5 (t_Box_thread _ _ _ _ _ _  _ hy129) rfl rfl rfl rfl rfl rfl rfl rfl rfl rfl rfl ?_
                                                  refine G_aload rfl rfl ?_
                                                  refine G_aload rfl rfl ?_
                                                  refine G_iload rfl rfl ?_
                                                  refine G_iconst (1 : Int32) rfl (by decide) ?_
                                                  refine G_iadd rfl ?_
                                                  obtain ⟨hg130, h⟩ := if_some h
                                                  refine G_sld rfl rfl hg130 ?_
                                                  refine G_aload rfl rfl ?_
                                                  refine G_iload rfl rfl ?_
                                                  refine G_iconst (2 : Int32) rfl (by decide) ?_
                                                  refine G_iadd rfl ?_
                                                  obtain ⟨hg131, h⟩ := if_some h
                                                  refine G_sld rfl rfl hg131 ?_
                                                  refine G_aload rfl rfl ?_
                                                  refine G_iload rfl rfl ?_
                                                  refine G_iconst (3 : Int32) rfl (by decide) ?_
                                                  refine G_iadd rfl ?_
                                                  obtain ⟨hg132, h⟩ := if_some h
                                                  refine G_sld rfl rfl hg132 ?_
                                                  refine G_aload rfl rfl ?_
                                                  refine G_iload rfl rfl ?_
                                                  refine G_iconst (4 : Int32) rfl (by decide) ?_
                                                  refine G_iadd rfl ?_
                                                  obtain ⟨hg133, h⟩ := if_some h
                                                  refine G_sld rfl rfl hg133 ?_
                                                  obtain ⟨y134, hy134, h⟩ := Option.bind_eq_some_iff.mp h
                                                  refine G_callvI 5 (t_Mod_thread _ _ _ _ _ _  _ hy134) rfl rfl rfl rfl rfl rfl rfl rfl rfl rfl rfl ?_
                                                  refine G_ic_eq 1246 rfl rfl (fun hc => ?_) (fun hc => ?_)
                                                  · rw [if_pos hc] at h
                                                    exact Go.weak' (t_Law_law_1246 d ih _ _  _ h) ⟨rfl, rfl, rfl, rfl, trivial⟩
                                                  · rw [if_neg hc] at h
                                                    refine G_iconst (0 : Int32) rfl (by decide) ?_
                                                    obtain rfl := Option.some.inj h
                                                    exact G_iret rfl rfl
                                                · rw [if_neg hc2_21] at h
                                                  by_cases hc2_22 : ((xs (x3).toNatClampNeg) &&& (31 : Int32)) = (22 : Int32)
                                                  · rw [if_pos hc2_22] at h
                                                    refine G_tsw (t := 898) 898 rfl (by rw [hc2_22]; decide) (by rw [hc2_22]; rfl) rfl ?_
                                                    refine G_aload rfl rfl ?_
                                                    refine G_aload rfl rfl ?_
                                                    refine G_iload rfl rfl ?_
                                                    refine G_iconst (1 : Int32) rfl (by decide) ?_
                                                    refine G_iadd rfl ?_
                                                    obtain ⟨hg135, h⟩ := if_some h
                                                    refine G_sld rfl rfl hg135 ?_
                                                    refine G_aload rfl rfl ?_
                                                    refine G_iload rfl rfl ?_
                                                    refine G_iconst (2 : Int32) rfl (by decide) ?_
                                                    refine G_iadd rfl ?_
                                                    obtain ⟨hg136, h⟩ := if_some h
                                                    refine G_sld rfl rfl hg136 ?_
                                                    refine G_aload rfl rfl ?_
                                                    refine G_iload rfl rfl ?_
                                                    refine G_iconst (3 : Int32) rfl (by decide) ?_
                                                    refine G_iadd rfl ?_
                                                    obtain ⟨hg137, h⟩ := if_some h
                                                    refine G_sld rfl rfl hg137 ?_
                                                    refine G_aload rfl rfl ?_
                                                    refine G_iload rfl rfl ?_
                                                    refine G_iconst (4 : Int32) rfl (by decide) ?_
                                                    refine G_iadd rfl ?_
                                                    obtain ⟨hg138, h⟩ := if_some h
                                                    refine G_sld rfl rfl hg138 ?_
                                                    obtain ⟨y139, hy139, h⟩ := Option.bind_eq_some_iff.mp h
                                                    refine G_callvI 5 (t_Box_flies _ _ _ _ _ _  _ hy139) rfl rfl rfl rfl rfl rfl rfl rfl rfl rfl rfl ?_
                                                    refine G_aload rfl rfl ?_
                                                    refine G_aload rfl rfl ?_
                                                    refine G_iload rfl rfl ?_
                                                    refine G_iconst (1 : Int32) rfl (by decide) ?_
                                                    refine G_iadd rfl ?_
                                                    obtain ⟨hg140, h⟩ := if_some h
                                                    refine G_sld rfl rfl hg140 ?_
                                                    refine G_aload rfl rfl ?_
                                                    refine G_iload rfl rfl ?_
                                                    refine G_iconst (2 : Int32) rfl (by decide) ?_
                                                    refine G_iadd rfl ?_
                                                    obtain ⟨hg141, h⟩ := if_some h
                                                    refine G_sld rfl rfl hg141 ?_
                                                    refine G_aload rfl rfl ?_
                                                    refine G_iload rfl rfl ?_
                                                    refine G_iconst (3 : Int32) rfl (by decide) ?_
                                                    refine G_iadd rfl ?_
                                                    obtain ⟨hg142, h⟩ := if_some h
                                                    refine G_sld rfl rfl hg142 ?_
                                                    refine G_aload rfl rfl ?_
                                                    refine G_iload rfl rfl ?_
                                                    refine G_iconst (4 : Int32) rfl (by decide) ?_
                                                    refine G_iadd rfl ?_
                                                    obtain ⟨hg143, h⟩ := if_some h
                                                    refine G_sld rfl rfl hg143 ?_
                                                    obtain ⟨y144, hy144, h⟩ := Option.bind_eq_some_iff.mp h
                                                    refine G_callvI 5 (t_Mod_flies _ _ _ _ _ _  _ hy144) rfl rfl rfl rfl rfl rfl rfl rfl rfl rfl rfl ?_
                                                    refine G_ic_eq 1246 rfl rfl (fun hc => ?_) (fun hc => ?_)
                                                    · rw [if_pos hc] at h
                                                      exact Go.weak' (t_Law_law_1246 d ih _ _  _ h) ⟨rfl, rfl, rfl, rfl, trivial⟩
                                                    · rw [if_neg hc] at h
                                                      refine G_iconst (0 : Int32) rfl (by decide) ?_
                                                      obtain rfl := Option.some.inj h
                                                      exact G_iret rfl rfl
                                                  · rw [if_neg hc2_22] at h
                                                    by_cases hc2_23 : ((xs (x3).toNatClampNeg) &&& (31 : Int32)) = (23 : Int32)
                                                    · rw [if_pos hc2_23] at h
                                                      refine G_tsw (t := 951) 951 rfl (by rw [hc2_23]; decide) (by rw [hc2_23]; rfl) rfl ?_
                                                      refine G_aload rfl rfl ?_
                                                      refine G_aload rfl rfl ?_
                                                      refine G_iload rfl rfl ?_
                                                      refine G_iconst (1 : Int32) rfl (by decide) ?_
                                                      refine G_iadd rfl ?_
                                                      obtain ⟨hg145, h⟩ := if_some h
                                                      refine G_sld rfl rfl hg145 ?_
                                                      refine G_aload rfl rfl ?_
                                                      refine G_iload rfl rfl ?_
                                                      refine G_iconst (2 : Int32) rfl (by decide) ?_
                                                      refine G_iadd rfl ?_
                                                      obtain ⟨hg146, h⟩ := if_some h
                                                      refine G_sld rfl rfl hg146 ?_
                                                      refine G_aload rfl rfl ?_
                                                      refine G_iload rfl rfl ?_
                                                      refine G_iconst (3 : Int32) rfl (by decide) ?_
                                                      refine G_iadd rfl ?_
                                                      obtain ⟨hg147, h⟩ := if_some h
                                                      refine G_sld rfl rfl hg147 ?_
                                                      obtain ⟨y148, hy148, h⟩ := Option.bind_eq_some_iff.mp h
                                                      refine G_callvI 4 (t_Box_sheet _ _ _ _ _  _ hy148) rfl rfl rfl rfl rfl rfl rfl rfl rfl rfl rfl ?_
                                                      refine G_aload rfl rfl ?_
                                                      refine G_aload rfl rfl ?_
                                                      refine G_iload rfl rfl ?_
                                                      refine G_iconst (1 : Int32) rfl (by decide) ?_
                                                      refine G_iadd rfl ?_
                                                      obtain ⟨hg149, h⟩ := if_some h
                                                      refine G_sld rfl rfl hg149 ?_
                                                      refine G_aload rfl rfl ?_
                                                      refine G_iload rfl rfl ?_
                                                      refine G_iconst (2 : Int32) rfl (by decide) ?_
                                                      refine G_iadd rfl ?_
                                                      obtain ⟨hg150, h⟩ := if_some h
                                                      refine G_sld rfl rfl hg150 ?_
                                                      refine G_aload rfl rfl ?_
                                                      refine G_iload rfl rfl ?_
                                                      refine G_iconst (3 : Int32) rfl (by decide) ?_
                                                      refine G_iadd rfl ?_
                                                      obtain ⟨hg151, h⟩ := if_some h
                                                      refine G_sld rfl rfl hg151 ?_
                                                      obtain ⟨y152, hy152, h⟩ := Option.bind_eq_some_iff.mp h
                                                      refine G_callvI 4 (t_Mod_sheet _ _ _ _ _  _ hy152) rfl rfl rfl rfl rfl rfl rfl rfl rfl rfl rfl ?_
                                                      refine G_ic_eq 1246 rfl rfl (fun hc => ?_) (fun hc => ?_)
                                                      · rw [if_pos hc] at h
                                                        exact Go.weak' (t_Law_law_1246 d ih _ _  _ h) ⟨rfl, rfl, rfl, rfl, trivial⟩
                                                      · rw [if_neg hc] at h
                                                        refine G_iconst (0 : Int32) rfl (by decide) ?_
                                                        obtain rfl := Option.some.inj h
                                                        exact G_iret rfl rfl
                                                    · rw [if_neg hc2_23] at h
                                                      by_cases hc2_24 : ((xs (x3).toNatClampNeg) &&& (31 : Int32)) = (24 : Int32)
                                                      · rw [if_pos hc2_24] at h
                                                        refine G_tsw (t := 994) 994 rfl (by rw [hc2_24]; decide) (by rw [hc2_24]; rfl) rfl ?_
                                                        refine G_aload rfl rfl ?_
                                                        refine G_aload rfl rfl ?_
                                                        refine G_iload rfl rfl ?_
                                                        refine G_iconst (1 : Int32) rfl (by decide) ?_
                                                        refine G_iadd rfl ?_
                                                        obtain ⟨hg153, h⟩ := if_some h
                                                        refine G_sld rfl rfl hg153 ?_
                                                        obtain ⟨y154, hy154, h⟩ := Option.bind_eq_some_iff.mp h
                                                        refine G_callvI 2 (t_Box_lose _ _ _  _ hy154) rfl rfl rfl rfl rfl rfl rfl rfl rfl rfl rfl ?_
                                                        refine G_aload rfl rfl ?_
                                                        refine G_aload rfl rfl ?_
                                                        refine G_iload rfl rfl ?_
                                                        refine G_iconst (1 : Int32) rfl (by decide) ?_
                                                        refine G_iadd rfl ?_
                                                        obtain ⟨hg155, h⟩ := if_some h
                                                        refine G_sld rfl rfl hg155 ?_
                                                        obtain ⟨y156, hy156, h⟩ := Option.bind_eq_some_iff.mp h
                                                        refine G_callvI 2 (t_Mod_lose _ _ _  _ hy156) rfl rfl rfl rfl rfl rfl rfl rfl rfl rfl rfl ?_
                                                        refine G_ic_eq 1246 rfl rfl (fun hc => ?_) (fun hc => ?_)
                                                        · rw [if_pos hc] at h
                                                          exact Go.weak' (t_Law_law_1246 d ih _ _  _ h) ⟨rfl, rfl, rfl, rfl, trivial⟩
                                                        · rw [if_neg hc] at h
                                                          refine G_iconst (0 : Int32) rfl (by decide) ?_
                                                          obtain rfl := Option.some.inj h
                                                          exact G_iret rfl rfl
                                                      · rw [if_neg hc2_24] at h
                                                        by_cases hc2_25 : ((xs (x3).toNatClampNeg) &&& (31 : Int32)) = (25 : Int32)
                                                        · rw [if_pos hc2_25] at h
                                                          refine G_tsw (t := 1017) 1017 rfl (by rw [hc2_25]; decide) (by rw [hc2_25]; rfl) rfl ?_
                                                          refine G_aload rfl rfl ?_
                                                          refine G_aload rfl rfl ?_
                                                          refine G_iload rfl rfl ?_
                                                          refine G_iconst (1 : Int32) rfl (by decide) ?_
                                                          refine G_iadd rfl ?_
                                                          obtain ⟨hg157, h⟩ := if_some h
                                                          refine G_sld rfl rfl hg157 ?_
                                                          refine G_aload rfl rfl ?_
                                                          refine G_iload rfl rfl ?_
                                                          refine G_iconst (2 : Int32) rfl (by decide) ?_
                                                          refine G_iadd rfl ?_
                                                          obtain ⟨hg158, h⟩ := if_some h
                                                          refine G_sld rfl rfl hg158 ?_
                                                          refine G_aload rfl rfl ?_
                                                          refine G_iload rfl rfl ?_
                                                          refine G_iconst (3 : Int32) rfl (by decide) ?_
                                                          refine G_iadd rfl ?_
                                                          obtain ⟨hg159, h⟩ := if_some h
                                                          refine G_sld rfl rfl hg159 ?_
                                                          refine G_aload rfl rfl ?_
                                                          refine G_iload rfl rfl ?_
                                                          refine G_iconst (4 : Int32) rfl (by decide) ?_
                                                          refine G_iadd rfl ?_
                                                          obtain ⟨hg160, h⟩ := if_some h
                                                          refine G_sld rfl rfl hg160 ?_
                                                          obtain ⟨y161, hy161, h⟩ := Option.bind_eq_some_iff.mp h
                                                          refine G_callvI 5 (t_Box_lay _ _ _ _ _ _  _ hy161) rfl rfl rfl rfl rfl rfl rfl rfl rfl rfl rfl ?_
                                                          refine G_aload rfl rfl ?_
                                                          refine G_aload rfl rfl ?_
                                                          refine G_iload rfl rfl ?_
                                                          refine G_iconst (1 : Int32) rfl (by decide) ?_
                                                          refine G_iadd rfl ?_
                                                          obtain ⟨hg162, h⟩ := if_some h
                                                          refine G_sld rfl rfl hg162 ?_
                                                          refine G_aload rfl rfl ?_
                                                          refine G_iload rfl rfl ?_
                                                          refine G_iconst (2 : Int32) rfl (by decide) ?_
                                                          refine G_iadd rfl ?_
                                                          obtain ⟨hg163, h⟩ := if_some h
                                                          refine G_sld rfl rfl hg163 ?_
                                                          refine G_aload rfl rfl ?_
                                                          refine G_iload rfl rfl ?_
                                                          refine G_iconst (3 : Int32) rfl (by decide) ?_
                                                          refine G_iadd rfl ?_
                                                          obtain ⟨hg164, h⟩ := if_some h
                                                          refine G_sld rfl rfl hg164 ?_
                                                          refine G_aload rfl rfl ?_
                                                          refine G_iload rfl rfl ?_
                                                          refine G_iconst (4 : Int32) rfl (by decide) ?_
                                                          refine G_iadd rfl ?_
                                                          obtain ⟨hg165, h⟩ := if_some h
                                                          refine G_sld rfl rfl hg165 ?_
                                                          obtain ⟨y166, hy166, h⟩ := Option.bind_eq_some_iff.mp h
                                                          refine G_callvI 5 (t_Mod_lay _ _ _ _ _ _  _ hy166) rfl rfl rfl rfl rfl rfl rfl rfl rfl rfl rfl ?_
                                                          refine G_ic_eq 1246 rfl rfl (fun hc => ?_) (fun hc => ?_)
                                                          · rw [if_pos hc] at h
                                                            exact Go.weak' (t_Law_law_1246 d ih _ _  _ h) ⟨rfl, rfl, rfl, rfl, trivial⟩
                                                          · rw [if_neg hc] at h
                                                            refine G_iconst (0 : Int32) rfl (by decide) ?_
                                                            obtain rfl := Option.some.inj h
                                                            exact G_iret rfl rfl
                                                        · rw [if_neg hc2_25] at h
                                                          by_cases hc2_26 : ((xs (x3).toNatClampNeg) &&& (31 : Int32)) = (26 : Int32)
                                                          · rw [if_pos hc2_26] at h
                                                            refine G_tsw (t := 1070) 1070 rfl (by rw [hc2_26]; decide) (by rw [hc2_26]; rfl) rfl ?_
                                                            refine G_aload rfl rfl ?_
                                                            refine G_aload rfl rfl ?_
                                                            refine G_iload rfl rfl ?_
                                                            refine G_iconst (1 : Int32) rfl (by decide) ?_
                                                            refine G_iadd rfl ?_
                                                            obtain ⟨hg167, h⟩ := if_some h
                                                            refine G_sld rfl rfl hg167 ?_
                                                            refine G_aload rfl rfl ?_
                                                            refine G_iload rfl rfl ?_
                                                            refine G_iconst (2 : Int32) rfl (by decide) ?_
                                                            refine G_iadd rfl ?_
                                                            obtain ⟨hg168, h⟩ := if_some h
                                                            refine G_sld rfl rfl hg168 ?_
                                                            refine G_aload rfl rfl ?_
                                                            refine G_iload rfl rfl ?_
                                                            refine G_iconst (3 : Int32) rfl (by decide) ?_
                                                            refine G_iadd rfl ?_
                                                            obtain ⟨hg169, h⟩ := if_some h
                                                            refine G_sld rfl rfl hg169 ?_
                                                            obtain ⟨y170, hy170, h⟩ := Option.bind_eq_some_iff.mp h
                                                            refine G_callvI 4 (t_Box_get _ _ _ _ _  _ hy170) rfl rfl rfl rfl rfl rfl rfl rfl rfl rfl rfl ?_
                                                            refine G_aload rfl rfl ?_
                                                            refine G_aload rfl rfl ?_
                                                            refine G_iload rfl rfl ?_
                                                            refine G_iconst (1 : Int32) rfl (by decide) ?_
                                                            refine G_iadd rfl ?_
                                                            obtain ⟨hg171, h⟩ := if_some h
                                                            refine G_sld rfl rfl hg171 ?_
                                                            refine G_aload rfl rfl ?_
                                                            refine G_iload rfl rfl ?_
                                                            refine G_iconst (2 : Int32) rfl (by decide) ?_
                                                            refine G_iadd rfl ?_
                                                            obtain ⟨hg172, h⟩ := if_some h
                                                            refine G_sld rfl rfl hg172 ?_
                                                            refine G_aload rfl rfl ?_
                                                            refine G_iload rfl rfl ?_
                                                            refine G_iconst (3 : Int32) rfl (by decide) ?_
                                                            refine G_iadd rfl ?_
                                                            obtain ⟨hg173, h⟩ := if_some h
                                                            refine G_sld rfl rfl hg173 ?_
                                                            obtain ⟨y174, hy174, h⟩ := Option.bind_eq_some_iff.mp h
                                                            refine G_callvI 4 (t_Mod_get _ _ _ _ _  _ hy174) rfl rfl rfl rfl rfl rfl rfl rfl rfl rfl rfl ?_
                                                            refine G_ic_eq 1246 rfl rfl (fun hc => ?_) (fun hc => ?_)
                                                            · rw [if_pos hc] at h
                                                              exact Go.weak' (t_Law_law_1246 d ih _ _  _ h) ⟨rfl, rfl, rfl, rfl, trivial⟩
                                                            · rw [if_neg hc] at h
                                                              refine G_iconst (0 : Int32) rfl (by decide) ?_
                                                              obtain rfl := Option.some.inj h
                                                              exact G_iret rfl rfl
                                                          · rw [if_neg hc2_26] at h
                                                            by_cases hc2_27 : ((xs (x3).toNatClampNeg) &&& (31 : Int32)) = (27 : Int32)
                                                            · rw [if_pos hc2_27] at h
                                                              refine G_tsw (t := 1113) 1113 rfl (by rw [hc2_27]; decide) (by rw [hc2_27]; rfl) rfl ?_
                                                              refine G_aload rfl rfl ?_
                                                              refine G_aload rfl rfl ?_
                                                              refine G_iload rfl rfl ?_
                                                              refine G_iconst (1 : Int32) rfl (by decide) ?_
                                                              refine G_iadd rfl ?_
                                                              obtain ⟨hg175, h⟩ := if_some h
                                                              refine G_sld rfl rfl hg175 ?_
                                                              refine G_aload rfl rfl ?_
                                                              refine G_iload rfl rfl ?_
                                                              refine G_iconst (2 : Int32) rfl (by decide) ?_
                                                              refine G_iadd rfl ?_
                                                              obtain ⟨hg176, h⟩ := if_some h
                                                              refine G_sld rfl rfl hg176 ?_
                                                              refine G_aload rfl rfl ?_
                                                              refine G_iload rfl rfl ?_
                                                              refine G_iconst (3 : Int32) rfl (by decide) ?_
                                                              refine G_iadd rfl ?_
                                                              obtain ⟨hg177, h⟩ := if_some h
                                                              refine G_sld rfl rfl hg177 ?_
                                                              refine G_aload rfl rfl ?_
                                                              refine G_iload rfl rfl ?_
                                                              refine G_iconst (4 : Int32) rfl (by decide) ?_
                                                              refine G_iadd rfl ?_
                                                              obtain ⟨hg178, h⟩ := if_some h
                                                              refine G_sld rfl rfl hg178 ?_
                                                              refine G_aload rfl rfl ?_
                                                              refine G_iload rfl rfl ?_
                                                              refine G_iconst (5 : Int32) rfl (by decide) ?_
                                                              refine G_iadd rfl ?_
                                                              obtain ⟨hg179, h⟩ := if_some h
                                                              refine G_sld rfl rfl hg179 ?_
                                                              obtain ⟨y180, hy180, h⟩ := Option.bind_eq_some_iff.mp h
                                                              refine G_callvI 6 (t_Box_copy _ _ _ _ _ _ _  _ hy180) rfl rfl rfl rfl rfl rfl rfl rfl rfl rfl rfl ?_
                                                              refine G_aload rfl rfl ?_
                                                              refine G_aload rfl rfl ?_
                                                              refine G_iload rfl rfl ?_
                                                              refine G_iconst (1 : Int32) rfl (by decide) ?_
                                                              refine G_iadd rfl ?_
                                                              obtain ⟨hg181, h⟩ := if_some h
                                                              refine G_sld rfl rfl hg181 ?_
                                                              refine G_aload rfl rfl ?_
                                                              refine G_iload rfl rfl ?_
                                                              refine G_iconst (2 : Int32) rfl (by decide) ?_
                                                              refine G_iadd rfl ?_
                                                              obtain ⟨hg182, h⟩ := if_some h
                                                              refine G_sld rfl rfl hg182 ?_
                                                              refine G_aload rfl rfl ?_
                                                              refine G_iload rfl rfl ?_
                                                              refine G_iconst (3 : Int32) rfl (by decide) ?_
                                                              refine G_iadd rfl ?_
                                                              obtain ⟨hg183, h⟩ := if_some h
                                                              refine G_sld rfl rfl hg183 ?_
                                                              refine G_aload rfl rfl ?_
                                                              refine G_iload rfl rfl ?_
                                                              refine G_iconst (4 : Int32) rfl (by decide) ?_
                                                              refine G_iadd rfl ?_
                                                              obtain ⟨hg184, h⟩ := if_some h
                                                              refine G_sld rfl rfl hg184 ?_
                                                              refine G_aload rfl rfl ?_
                                                              refine G_iload rfl rfl ?_
                                                              refine G_iconst (5 : Int32) rfl (by decide) ?_
                                                              refine G_iadd rfl ?_
                                                              obtain ⟨hg185, h⟩ := if_some h
                                                              refine G_sld rfl rfl hg185 ?_
                                                              obtain ⟨y186, hy186, h⟩ := Option.bind_eq_some_iff.mp h
                                                              refine G_callvI 6 (t_Mod_copy _ _ _ _ _ _ _  _ hy186) rfl rfl rfl rfl rfl rfl rfl rfl rfl rfl rfl ?_
                                                              refine G_ic_eq 1246 rfl rfl (fun hc => ?_) (fun hc => ?_)
                                                              · rw [if_pos hc] at h
                                                                exact Go.weak' (t_Law_law_1246 d ih _ _  _ h) ⟨rfl, rfl, rfl, rfl, trivial⟩
                                                              · rw [if_neg hc] at h
                                                                refine G_iconst (0 : Int32) rfl (by decide) ?_
                                                                obtain rfl := Option.some.inj h
                                                                exact G_iret rfl rfl
                                                            · rw [if_neg hc2_27] at h
                                                              by_cases hc2_28 : ((xs (x3).toNatClampNeg) &&& (31 : Int32)) = (28 : Int32)
                                                              · rw [if_pos hc2_28] at h
                                                                refine G_tsw (t := 1176) 1176 rfl (by rw [hc2_28]; decide) (by rw [hc2_28]; rfl) rfl ?_
                                                                refine G_aload rfl rfl ?_
                                                                refine G_aload rfl rfl ?_
                                                                refine G_iload rfl rfl ?_
                                                                refine G_iconst (1 : Int32) rfl (by decide) ?_
                                                                refine G_iadd rfl ?_
                                                                obtain ⟨hg187, h⟩ := if_some h
                                                                refine G_sld rfl rfl hg187 ?_
                                                                refine G_aload rfl rfl ?_
                                                                refine G_iload rfl rfl ?_
                                                                refine G_iconst (2 : Int32) rfl (by decide) ?_
                                                                refine G_iadd rfl ?_
                                                                obtain ⟨hg188, h⟩ := if_some h
                                                                refine G_sld rfl rfl hg188 ?_
                                                                obtain ⟨y189, hy189, h⟩ := Option.bind_eq_some_iff.mp h
                                                                refine G_callvI 3 (t_Box_write _ _ _ _  _ hy189) rfl rfl rfl rfl rfl rfl rfl rfl rfl rfl rfl ?_
                                                                refine G_aload rfl rfl ?_
                                                                refine G_aload rfl rfl ?_
                                                                refine G_iload rfl rfl ?_
                                                                refine G_iconst (1 : Int32) rfl (by decide) ?_
                                                                refine G_iadd rfl ?_
                                                                obtain ⟨hg190, h⟩ := if_some h
                                                                refine G_sld rfl rfl hg190 ?_
                                                                refine G_aload rfl rfl ?_
                                                                refine G_iload rfl rfl ?_
                                                                refine G_iconst (2 : Int32) rfl (by decide) ?_
                                                                refine G_iadd rfl ?_
                                                                obtain ⟨hg191, h⟩ := if_some h
                                                                refine G_sld rfl rfl hg191 ?_
                                                                obtain ⟨y192, hy192, h⟩ := Option.bind_eq_some_iff.mp h
                                                                refine G_callvI 3 (t_Mod_write _ _ _ _  _ hy192) rfl rfl rfl rfl rfl rfl rfl rfl rfl rfl rfl ?_
                                                                refine G_ic_eq 1246 rfl rfl (fun hc => ?_) (fun hc => ?_)
                                                                · rw [if_pos hc] at h
                                                                  exact Go.weak' (t_Law_law_1246 d ih _ _  _ h) ⟨rfl, rfl, rfl, rfl, trivial⟩
                                                                · rw [if_neg hc] at h
                                                                  refine G_iconst (0 : Int32) rfl (by decide) ?_
                                                                  obtain rfl := Option.some.inj h
                                                                  exact G_iret rfl rfl
                                                              · rw [if_neg hc2_28] at h
                                                                by_cases hc2_29 : ((xs (x3).toNatClampNeg) &&& (31 : Int32)) = (29 : Int32)
                                                                · rw [if_pos hc2_29] at h
                                                                  refine G_tsw (t := 1209) 1209 rfl (by rw [hc2_29]; decide) (by rw [hc2_29]; rfl) rfl ?_
                                                                  refine G_aload rfl rfl ?_
                                                                  refine G_aload rfl rfl ?_
                                                                  refine G_iload rfl rfl ?_
                                                                  refine G_iconst (1 : Int32) rfl (by decide) ?_
                                                                  refine G_iadd rfl ?_
                                                                  obtain ⟨hg193, h⟩ := if_some h
                                                                  refine G_sld rfl rfl hg193 ?_
                                                                  obtain ⟨y194, hy194, h⟩ := Option.bind_eq_some_iff.mp h
                                                                  refine G_callvI 2 (t_Box_count _ _ _  _ hy194) rfl rfl rfl rfl rfl rfl rfl rfl rfl rfl rfl ?_
                                                                  refine G_aload rfl rfl ?_
                                                                  refine G_aload rfl rfl ?_
                                                                  refine G_iload rfl rfl ?_
                                                                  refine G_iconst (1 : Int32) rfl (by decide) ?_
                                                                  refine G_iadd rfl ?_
                                                                  obtain ⟨hg195, h⟩ := if_some h
                                                                  refine G_sld rfl rfl hg195 ?_
                                                                  obtain ⟨y196, hy196, h⟩ := Option.bind_eq_some_iff.mp h
                                                                  refine G_callvI 2 (t_Mod_count _ _ _  _ hy196) rfl rfl rfl rfl rfl rfl rfl rfl rfl rfl rfl ?_
                                                                  refine G_ic_eq 1246 rfl rfl (fun hc => ?_) (fun hc => ?_)
                                                                  · rw [if_pos hc] at h
                                                                    exact Go.weak' (t_Law_law_1246 d ih _ _  _ h) ⟨rfl, rfl, rfl, rfl, trivial⟩
                                                                  · rw [if_neg hc] at h
                                                                    refine G_iconst (0 : Int32) rfl (by decide) ?_
                                                                    obtain rfl := Option.some.inj h
                                                                    exact G_iret rfl rfl
                                                                · rw [if_neg hc2_29] at h
                                                                  by_cases hc2_30 : ((xs (x3).toNatClampNeg) &&& (31 : Int32)) = (30 : Int32)
                                                                  · rw [if_pos hc2_30] at h
                                                                    refine G_tsw (t := 1232) 1232 rfl (by rw [hc2_30]; decide) (by rw [hc2_30]; rfl) rfl ?_
                                                                    refine G_aload rfl rfl ?_
                                                                    obtain ⟨y197, hy197, h⟩ := Option.bind_eq_some_iff.mp h
                                                                    refine G_callvJ 1 (t_Box_digest _ _   _ hy197) rfl rfl rfl rfl rfl rfl rfl rfl rfl rfl rfl ?_
                                                                    refine G_aload rfl rfl ?_
                                                                    obtain ⟨y198, hy198, h⟩ := Option.bind_eq_some_iff.mp h
                                                                    refine G_callvJ 1 (t_Mod_digest _ _   _ hy198) rfl rfl rfl rfl rfl rfl rfl rfl rfl rfl rfl ?_
                                                                    refine G_lcmp rfl ?_
                                                                    refine G_if_eq 1246 rfl rfl (fun hc => ?_) (fun hc => ?_)
                                                                    · rw [if_pos hc] at h
                                                                      exact Go.weak' (t_Law_law_1246 d ih _ _  _ h) ⟨rfl, rfl, rfl, rfl, trivial⟩
                                                                    · rw [if_neg hc] at h
                                                                      refine G_iconst (0 : Int32) rfl (by decide) ?_
                                                                      obtain rfl := Option.some.inj h
                                                                      exact G_iret rfl rfl
                                                                  · rw [if_neg hc2_30] at h
                                                                    have q2_0 := ti_ne hc2_0 (n := 0) rfl
                                                                    have q2_1 := ti_ne hc2_1 (n := 1) rfl
                                                                    have q2_2 := ti_ne hc2_2 (n := 2) rfl
                                                                    have q2_3 := ti_ne hc2_3 (n := 3) rfl
                                                                    have q2_4 := ti_ne hc2_4 (n := 4) rfl
                                                                    have q2_5 := ti_ne hc2_5 (n := 5) rfl
                                                                    have q2_6 := ti_ne hc2_6 (n := 6) rfl
                                                                    have q2_7 := ti_ne hc2_7 (n := 7) rfl
                                                                    have q2_8 := ti_ne hc2_8 (n := 8) rfl
                                                                    have q2_9 := ti_ne hc2_9 (n := 9) rfl
                                                                    have q2_10 := ti_ne hc2_10 (n := 10) rfl
                                                                    have q2_11 := ti_ne hc2_11 (n := 11) rfl
                                                                    have q2_12 := ti_ne hc2_12 (n := 12) rfl
                                                                    have q2_13 := ti_ne hc2_13 (n := 13) rfl
                                                                    have q2_14 := ti_ne hc2_14 (n := 14) rfl
                                                                    have q2_15 := ti_ne hc2_15 (n := 15) rfl
                                                                    have q2_16 := ti_ne hc2_16 (n := 16) rfl
                                                                    have q2_17 := ti_ne hc2_17 (n := 17) rfl
                                                                    have q2_18 := ti_ne hc2_18 (n := 18) rfl
                                                                    have q2_19 := ti_ne hc2_19 (n := 19) rfl
                                                                    have q2_20 := ti_ne hc2_20 (n := 20) rfl
                                                                    have q2_21 := ti_ne hc2_21 (n := 21) rfl
                                                                    have q2_22 := ti_ne hc2_22 (n := 22) rfl
                                                                    have q2_23 := ti_ne hc2_23 (n := 23) rfl
                                                                    have q2_24 := ti_ne hc2_24 (n := 24) rfl
                                                                    have q2_25 := ti_ne hc2_25 (n := 25) rfl
                                                                    have q2_26 := ti_ne hc2_26 (n := 26) rfl
                                                                    have q2_27 := ti_ne hc2_27 (n := 27) rfl
                                                                    have q2_28 := ti_ne hc2_28 (n := 28) rfl
                                                                    have q2_29 := ti_ne hc2_29 (n := 29) rfl
                                                                    have q2_30 := ti_ne hc2_30 (n := 30) rfl
                                                                    refine G_tswD 1246 rfl (by omega) rfl ?_
                                                                    exact Go.weak' (t_Law_law_1246 d ih _ _  _ h) ⟨rfl, rfl, rfl, rfl, trivial⟩
