set_option maxRecDepth 100000 in
set_option maxHeartbeats 4000000 in
theorem t_Stand_roll (d : Nat) (sg : Hp) (a0 : Nat) (x1 : Int32) (h0 : clsOf a0 = 6) (y : Hp) (h : f_Stand_roll sg a0 x1 = some y) : Sm (d + 0) 41 [.ref a0, .int x1] sg none y := by
  unfold f_Stand_roll at h
  refine Sm.of (lv := [(0, .ref a0), (1, .int x1)]) rfl ?_
  refine G_aload rfl rfl ?_
  refine G_getI (ci := 6) 0 rfl h0 rfl rfl rfl ?_
  refine G_istore rfl rfl ?_
  refine G_aload rfl rfl ?_
  refine G_getI (ci := 6) 7 rfl h0 rfl rfl rfl ?_
  refine G_istore rfl rfl ?_
  refine G_iload rfl rfl ?_
  refine G_iconst (1 : Int32) rfl (by decide) ?_
  refine G_ic_ne 59 rfl rfl (fun hc => ?_) (fun hc => ?_)
  · rw [if_neg hc] at h
    refine G_iload rfl rfl ?_
    refine G_iconst (2 : Int32) rfl (by decide) ?_
    refine G_ic_ne 108 rfl rfl (fun hc => ?_) (fun hc => ?_)
    · rw [if_neg hc] at h
      refine G_iload rfl rfl ?_
      refine G_iconst (3 : Int32) rfl (by decide) ?_
      refine G_ic_ne 157 rfl rfl (fun hc => ?_) (fun hc => ?_)
      · rw [if_neg hc] at h
        refine G_iload rfl rfl ?_
        refine G_iconst (4 : Int32) rfl (by decide) ?_
        refine G_ic_ne 203 rfl rfl (fun hc => ?_) (fun hc => ?_)
        · rw [if_neg hc] at h
          obtain rfl := Option.some.inj h
          exact G_vret rfl rfl
        · rw [if_pos hc] at h
          refine G_aload rfl rfl ?_
          refine G_aload rfl rfl ?_
          refine G_getI (ci := 6) 2 rfl h0 rfl rfl rfl ?_
          refine G_iconst (1 : Int32) rfl (by decide) ?_
          refine G_ixor rfl ?_
          obtain ⟨s1, hs1, h⟩ := Option.bind_eq_some_iff.mp h
          refine G_putI (ci := 6) 0 rfl h0 rfl rfl rfl (Option.some.inj hs1) ?_
          refine G_aload rfl rfl ?_
          refine G_iload rfl rfl ?_
          obtain ⟨s2, hs2, h⟩ := Option.bind_eq_some_iff.mp h
          refine G_putI (ci := 6) 2 rfl h0 rfl rfl rfl (Option.some.inj hs2) ?_
          refine G_aload rfl rfl ?_
          refine G_dupr rfl ?_
          refine G_getI (ci := 6) 4 rfl h0 rfl rfl rfl ?_
          refine G_aload rfl rfl ?_
          refine G_getI (ci := 6) 7 rfl h0 rfl rfl rfl ?_
          refine G_isub rfl ?_
          obtain ⟨s3, hs3, h⟩ := Option.bind_eq_some_iff.mp h
          refine G_putI (ci := 6) 4 rfl h0 rfl rfl rfl (Option.some.inj hs3) ?_
          refine G_aload rfl rfl ?_
          refine G_aload rfl rfl ?_
          refine G_getI (ci := 6) 6 rfl h0 rfl rfl rfl ?_
          obtain ⟨s4, hs4, h⟩ := Option.bind_eq_some_iff.mp h
          refine G_putI (ci := 6) 7 rfl h0 rfl rfl rfl (Option.some.inj hs4) ?_
          refine G_aload rfl rfl ?_
          refine G_iload rfl rfl ?_
          obtain ⟨s5, hs5, h⟩ := Option.bind_eq_some_iff.mp h
          refine G_putI (ci := 6) 6 rfl h0 rfl rfl rfl (Option.some.inj hs5) ?_
          obtain rfl := Option.some.inj h
          exact G_vret rfl rfl
      · rw [if_pos hc] at h
        refine G_aload rfl rfl ?_
        refine G_aload rfl rfl ?_
        refine G_getI (ci := 6) 2 rfl h0 rfl rfl rfl ?_
        obtain ⟨s6, hs6, h⟩ := Option.bind_eq_some_iff.mp h
        refine G_putI (ci := 6) 0 rfl h0 rfl rfl rfl (Option.some.inj hs6) ?_
        refine G_aload rfl rfl ?_
        refine G_iload rfl rfl ?_
        refine G_iconst (1 : Int32) rfl (by decide) ?_
        refine G_ixor rfl ?_
        obtain ⟨s7, hs7, h⟩ := Option.bind_eq_some_iff.mp h
        refine G_putI (ci := 6) 2 rfl h0 rfl rfl rfl (Option.some.inj hs7) ?_
        refine G_aload rfl rfl ?_
        refine G_dupr rfl ?_
        refine G_getI (ci := 6) 4 rfl h0 rfl rfl rfl ?_
        refine G_aload rfl rfl ?_
        refine G_getI (ci := 6) 6 rfl h0 rfl rfl rfl ?_
        refine G_iadd rfl ?_
        obtain ⟨s8, hs8, h⟩ := Option.bind_eq_some_iff.mp h
        refine G_putI (ci := 6) 4 rfl h0 rfl rfl rfl (Option.some.inj hs8) ?_
        refine G_aload rfl rfl ?_
        refine G_aload rfl rfl ?_
        refine G_getI (ci := 6) 6 rfl h0 rfl rfl rfl ?_
        obtain ⟨s9, hs9, h⟩ := Option.bind_eq_some_iff.mp h
        refine G_putI (ci := 6) 7 rfl h0 rfl rfl rfl (Option.some.inj hs9) ?_
        refine G_aload rfl rfl ?_
        refine G_iload rfl rfl ?_
        obtain ⟨s10, hs10, h⟩ := Option.bind_eq_some_iff.mp h
        refine G_putI (ci := 6) 6 rfl h0 rfl rfl rfl (Option.some.inj hs10) ?_
        refine G_goto 203 rfl rfl ?_
        obtain rfl := Option.some.inj h
        exact G_vret rfl rfl
    · rw [if_pos hc] at h
      refine G_aload rfl rfl ?_
      refine G_aload rfl rfl ?_
      refine G_getI (ci := 6) 1 rfl h0 rfl rfl rfl ?_
      refine G_iconst (1 : Int32) rfl (by decide) ?_
      refine G_ixor rfl ?_
      obtain ⟨s11, hs11, h⟩ := Option.bind_eq_some_iff.mp h
      refine G_putI (ci := 6) 0 rfl h0 rfl rfl rfl (Option.some.inj hs11) ?_
      refine G_aload rfl rfl ?_
      refine G_iload rfl rfl ?_
      obtain ⟨s12, hs12, h⟩ := Option.bind_eq_some_iff.mp h
      refine G_putI (ci := 6) 1 rfl h0 rfl rfl rfl (Option.some.inj hs12) ?_
      refine G_aload rfl rfl ?_
      refine G_dupr rfl ?_
      refine G_getI (ci := 6) 3 rfl h0 rfl rfl rfl ?_
      refine G_aload rfl rfl ?_
      refine G_getI (ci := 6) 7 rfl h0 rfl rfl rfl ?_
      refine G_isub rfl ?_
      obtain ⟨s13, hs13, h⟩ := Option.bind_eq_some_iff.mp h
      refine G_putI (ci := 6) 3 rfl h0 rfl rfl rfl (Option.some.inj hs13) ?_
      refine G_aload rfl rfl ?_
      refine G_aload rfl rfl ?_
      refine G_getI (ci := 6) 5 rfl h0 rfl rfl rfl ?_
      obtain ⟨s14, hs14, h⟩ := Option.bind_eq_some_iff.mp h
      refine G_putI (ci := 6) 7 rfl h0 rfl rfl rfl (Option.some.inj hs14) ?_
      refine G_aload rfl rfl ?_
      refine G_iload rfl rfl ?_
      obtain ⟨s15, hs15, h⟩ := Option.bind_eq_some_iff.mp h
      refine G_putI (ci := 6) 5 rfl h0 rfl rfl rfl (Option.some.inj hs15) ?_
      refine G_goto 203 rfl rfl ?_
      obtain rfl := Option.some.inj h
      exact G_vret rfl rfl
  · rw [if_pos hc] at h
    refine G_aload rfl rfl ?_
    refine G_aload rfl rfl ?_
    refine G_getI (ci := 6) 1 rfl h0 rfl rfl rfl ?_
    obtain ⟨s16, hs16, h⟩ := Option.bind_eq_some_iff.mp h
    refine G_putI (ci := 6) 0 rfl h0 rfl rfl rfl (Option.some.inj hs16) ?_
    refine G_aload rfl rfl ?_
    refine G_iload rfl rfl ?_
    refine G_iconst (1 : Int32) rfl (by decide) ?_
    refine G_ixor rfl ?_
    obtain ⟨s17, hs17, h⟩ := Option.bind_eq_some_iff.mp h
    refine G_putI (ci := 6) 1 rfl h0 rfl rfl rfl (Option.some.inj hs17) ?_
    refine G_aload rfl rfl ?_
    refine G_dupr rfl ?_
    refine G_getI (ci := 6) 3 rfl h0 rfl rfl rfl ?_
    refine G_aload rfl rfl ?_
    refine G_getI (ci := 6) 5 rfl h0 rfl rfl rfl ?_
    refine G_iadd rfl ?_
    obtain ⟨s18, hs18, h⟩ := Option.bind_eq_some_iff.mp h
    refine G_putI (ci := 6) 3 rfl h0 rfl rfl rfl (Option.some.inj hs18) ?_
    refine G_aload rfl rfl ?_
    refine G_aload rfl rfl ?_
    refine G_getI (ci := 6) 5 rfl h0 rfl rfl rfl ?_
    obtain ⟨s19, hs19, h⟩ := Option.bind_eq_some_iff.mp h
    refine G_putI (ci := 6) 7 rfl h0 rfl rfl rfl (Option.some.inj hs19) ?_
    refine G_aload rfl rfl ?_
    refine G_iload rfl rfl ?_
    obtain ⟨s20, hs20, h⟩ := Option.bind_eq_some_iff.mp h
    refine G_putI (ci := 6) 5 rfl h0 rfl rfl rfl (Option.some.inj hs20) ?_
    refine G_goto 203 rfl rfl ?_
    obtain rfl := Option.some.inj h
    exact G_vret rfl rfl
set_option maxRecDepth 100000 in
set_option maxHeartbeats 4000000 in
theorem t_Box_standBehind_17 (d : Nat)   : ∀ (n : Nat) (sg : Hp) (x1 : Int32) (x2 : Int32)  (y : Hp), f_Box_standBehind_17  n sg x1 x2 = some y → Go (d + 1) none 39 17 [(0, .ref 0), (1, .int x1), (2, .int x2)] [] sg none y := by
  intro n
  induction n with
  | zero =>
    intro sg x1 x2 y h
    rw [f_Box_standBehind_17] at h
    cases h
  | succ n ih =>
    intro sg x1 x2 y h
    rw [f_Box_standBehind_17] at h
    refine G_iload rfl rfl ?_
    refine G_iload rfl rfl ?_
    refine G_ic_ge 58 rfl rfl (fun hc => ?_) (fun hc => ?_)
    · rw [if_pos hc] at h
      obtain rfl := Option.some.inj h
      exact G_vret rfl rfl
    · rw [if_neg hc] at h
      refine G_iload rfl rfl ?_
      refine G_aload rfl rfl ?_
      refine G_getR (ci := 9) 9 rfl rfl rfl rfl rfl ?_
      refine G_getI (ci := 1) 1 rfl rfl rfl rfl rfl ?_
      refine G_ic_ge 58 rfl rfl (fun hc => ?_) (fun hc => ?_)
      · rw [if_pos hc] at h
        obtain rfl := Option.some.inj h
        exact G_vret rfl rfl
      · rw [if_neg hc] at h
        refine G_aload rfl rfl ?_
        refine G_getR (ci := 9) 33 rfl rfl rfl rfl rfl ?_
        refine G_aload rfl rfl ?_
        refine G_getR (ci := 9) 9 rfl rfl rfl rfl rfl ?_
        refine G_getR (ci := 1) 10 rfl rfl rfl rfl rfl ?_
        refine G_iload rfl rfl ?_
        obtain ⟨hg2, h⟩ := if_some h
        refine G_iald rfl rfl rfl hg2 ?_
        obtain ⟨y3, hy3, h⟩ := Option.bind_eq_some_iff.mp h
        refine G_callsI 1 (t_Rolls_rollOf _ _ _  _ hy3) rfl rfl rfl rfl rfl rfl rfl rfl rfl ?_
        obtain ⟨y4, hy4, h⟩ := Option.bind_eq_some_iff.mp h
        refine G_callvV 2 (t_Stand_roll _ _ _ _ rfl _ hy4) rfl rfl rfl rfl rfl rfl rfl rfl rfl rfl rfl ?_
        refine G_iinc (1 : Int32) rfl (by decide) rfl rfl ?_
        refine G_goto 17 rfl rfl ?_
        exact Go.weak' (ih _ _ _  _ h) ⟨rfl, rfl, rfl, trivial⟩
set_option maxRecDepth 100000 in
set_option maxHeartbeats 4000000 in
theorem t_Box_standBehind (d : Nat) (sg : Hp) (x1 : Int32)  (y : Hp) (h : f_Box_standBehind sg x1 = some y) : Sm (d + 1) 39 [.ref 0, .int x1] sg none y := by
  unfold f_Box_standBehind at h
  refine Sm.of (lv := [(0, .ref 0), (1, .int x1)]) rfl ?_
  refine G_aload rfl rfl ?_
  refine G_getR (ci := 9) 33 rfl rfl rfl rfl rfl ?_
  refine G_iconst (0 : Int32) rfl (by decide) ?_
  refine G_aload rfl rfl ?_
  refine G_getR (ci := 9) 1 rfl rfl rfl rfl rfl ?_
  refine G_getR (ci := 2) 2 rfl rfl rfl rfl rfl ?_
  obtain ⟨y1, hy1, h⟩ := Option.bind_eq_some_iff.mp h
  refine G_callvV 3 (t_Stand_start _ _ _ _ _ rfl rfl rfl _ hy1) rfl rfl rfl rfl rfl rfl rfl rfl rfl rfl rfl ?_
  refine G_iconst (0 : Int32) rfl (by decide) ?_
  refine G_istore rfl rfl ?_
  exact Go.weak' (t_Box_standBehind_17 d  _ _ _ _  _ h) ⟨rfl, rfl, rfl, trivial⟩
set_option maxRecDepth 100000 in
set_option maxHeartbeats 4000000 in
theorem t_Box_laidOut (d : Nat) (sg : Hp) (x1 : Int32) (x2 : Int32)  (y : Int32 × Hp) (h : f_Box_laidOut sg x1 x2 = some y) : Sm (d + 3) 37 [.ref 0, .int x1, .int x2] sg (some (.int y.1)) y.2 := by
  unfold f_Box_laidOut at h
  refine Sm.of (lv := [(0, .ref 0), (1, .int x1), (2, .int x2)]) rfl ?_
  refine G_iload rfl rfl ?_
  refine G_if_lt 24 rfl rfl (fun hc => ?_) (fun hc => ?_)
  · rw [if_pos hc] at h
    refine G_iconst (-10002 : Int32) rfl (by decide) ?_
    obtain rfl := Option.some.inj h
    exact G_iret rfl rfl
  · rw [if_neg hc] at h
    refine G_iload rfl rfl ?_
    refine G_aload rfl rfl ?_
    refine G_getR (ci := 9) 9 rfl rfl rfl rfl rfl ?_
    obtain ⟨y1, hy1, h⟩ := Option.bind_eq_some_iff.mp h
    refine G_callvI 1 (t_Rolls_valid _ _   _ hy1) rfl rfl rfl rfl rfl rfl rfl rfl rfl rfl rfl ?_
    refine G_ic_gt 24 rfl rfl (fun hc => ?_) (fun hc => ?_)
    · rw [if_pos hc] at h
      refine G_iconst (-10002 : Int32) rfl (by decide) ?_
      obtain rfl := Option.some.inj h
      exact G_iret rfl rfl
    · rw [if_neg hc] at h
      refine G_iload rfl rfl ?_
      refine G_if_lt 24 rfl rfl (fun hc => ?_) (fun hc => ?_)
      · rw [if_pos hc] at h
        refine G_iconst (-10002 : Int32) rfl (by decide) ?_
        obtain rfl := Option.some.inj h
        exact G_iret rfl rfl
      · rw [if_neg hc] at h
        refine G_iload rfl rfl ?_
        refine G_iconst (4 : Int32) rfl (by decide) ?_
        refine G_ic_le 28 rfl rfl (fun hc => ?_) (fun hc => ?_)
        · rw [if_pos hc] at h
          refine G_aload rfl rfl ?_
          refine G_iload rfl rfl ?_
          obtain ⟨y2, hy2, h⟩ := Option.bind_eq_some_iff.mp h
          refine G_callvV 2 (t_Box_standBehind _ _ _  _ hy2) rfl rfl rfl rfl rfl rfl rfl rfl rfl rfl rfl ?_
          refine G_iload rfl rfl ?_
          by_cases hc3_0 : x2 = (0 : Int32)
          · rw [if_pos hc3_0] at h
            refine G_tsw (t := 64) 64 rfl (by rw [hc3_0]; decide) (by rw [hc3_0]; rfl) rfl ?_
            refine G_aload rfl rfl ?_
            refine G_getR (ci := 9) 33 rfl rfl rfl rfl rfl ?_
            refine G_getI (ci := 6) 0 rfl rfl rfl rfl rfl ?_
            obtain rfl := Option.some.inj h
            exact G_iret rfl rfl
          · rw [if_neg hc3_0] at h
            by_cases hc3_1 : x2 = (1 : Int32)
            · rw [if_pos hc3_1] at h
              refine G_tsw (t := 72) 72 rfl (by rw [hc3_1]; decide) (by rw [hc3_1]; rfl) rfl ?_
              refine G_aload rfl rfl ?_
              refine G_getR (ci := 9) 33 rfl rfl rfl rfl rfl ?_
              refine G_getI (ci := 6) 3 rfl rfl rfl rfl rfl ?_
              obtain rfl := Option.some.inj h
              exact G_iret rfl rfl
            · rw [if_neg hc3_1] at h
              by_cases hc3_2 : x2 = (2 : Int32)
              · rw [if_pos hc3_2] at h
                refine G_tsw (t := 80) 80 rfl (by rw [hc3_2]; decide) (by rw [hc3_2]; rfl) rfl ?_
                refine G_aload rfl rfl ?_
                refine G_getR (ci := 9) 33 rfl rfl rfl rfl rfl ?_
                refine G_getI (ci := 6) 4 rfl rfl rfl rfl rfl ?_
                obtain rfl := Option.some.inj h
                exact G_iret rfl rfl
              · rw [if_neg hc3_2] at h
                by_cases hc3_3 : x2 = (3 : Int32)
                · rw [if_pos hc3_3] at h
                  refine G_tsw (t := 88) 88 rfl (by rw [hc3_3]; decide) (by rw [hc3_3]; rfl) rfl ?_
                  refine G_aload rfl rfl ?_
                  refine G_getR (ci := 9) 33 rfl rfl rfl rfl rfl ?_
                  refine G_getI (ci := 6) 5 rfl rfl rfl rfl rfl ?_
                  obtain rfl := Option.some.inj h
                  exact G_iret rfl rfl
                · rw [if_neg hc3_3] at h
                  have q3_0 := ti_ne hc3_0 (n := 0) rfl
                  have q3_1 := ti_ne hc3_1 (n := 1) rfl
                  have q3_2 := ti_ne hc3_2 (n := 2) rfl
                  have q3_3 := ti_ne hc3_3 (n := 3) rfl
                  refine G_tswD 96 rfl (by omega) rfl ?_
                  refine G_aload rfl rfl ?_
                  refine G_getR (ci := 9) 33 rfl rfl rfl rfl rfl ?_
                  refine G_getI (ci := 6) 6 rfl rfl rfl rfl rfl ?_
                  obtain rfl := Option.some.inj h
                  exact G_iret rfl rfl
        · rw [if_neg hc] at h
          refine G_iconst (-10002 : Int32) rfl (by decide) ?_
          obtain rfl := Option.some.inj h
          exact G_iret rfl rfl
set_option maxRecDepth 100000 in
set_option maxHeartbeats 4000000 in
theorem t_Mod_rolls (d : Nat) (sg : Hp)   (y : Int32 × Hp) (h : f_Mod_rolls sg  = some y) : Sm (d + 2) 131 [.ref 46] sg (some (.int y.1)) y.2 := by
  unfold f_Mod_rolls at h
  refine Sm.of (lv := [(0, .ref 46)]) rfl ?_
  refine G_aload rfl rfl ?_
  obtain ⟨y1, hy1, h⟩ := Option.bind_eq_some_iff.mp h
  refine G_callvI 1 (t_Mod_fault _ _   _ hy1) rfl rfl rfl rfl rfl rfl rfl rfl rfl rfl rfl ?_
  refine G_iconst (-1 : Int32) rfl (by decide) ?_
  refine G_ic_ne 15 rfl rfl (fun hc => ?_) (fun hc => ?_)
  · rw [if_neg hc] at h
    refine G_iconst (0 : Int32) rfl (by decide) ?_
    obtain rfl := Option.some.inj h
    exact G_iret rfl rfl
  · rw [if_pos hc] at h
    refine G_aload rfl rfl ?_
    refine G_getI (ci := 10) 9 rfl rfl rfl rfl rfl ?_
    refine G_goto 16 rfl rfl ?_
    obtain rfl := Option.some.inj h
    exact G_iret rfl rfl
set_option maxRecDepth 100000 in
set_option maxHeartbeats 4000000 in
theorem t_Mod_begins_33 (d : Nat) {k2 : Hp → Int32 → Option (Hp)} (hk2 : ∀ (sg : Hp) (x1 : Int32)  (y : Hp), k2 sg x1 = some y → Go (d + 0) none 134 2 [(0, .ref 46), (1, .int x1)] [] sg none y) (sg : Hp) (x1 : Int32) (xs1 : Int32) (xs2 : Int32)  (y : Hp) (h : f_Mod_begins_33 k2 sg x1 xs1 xs2 = some y) : Go (d + 0) none 134 33 [(0, .ref 46), (1, .int x1)] [.int xs2, .int xs1, .ref 55] sg none y := by
  unfold f_Mod_begins_33 at h
  obtain ⟨hg1, h⟩ := if_some h
  obtain ⟨s2, hs2, h⟩ := Option.bind_eq_some_iff.mp h
  refine G_iast rfl rfl rfl hg1 (Option.some.inj hs2) ?_
  refine G_iinc (1 : Int32) rfl (by decide) rfl rfl ?_
  refine G_goto 2 rfl rfl ?_
  exact Go.weak' (hk2 _ _  _ h) ⟨rfl, rfl, trivial⟩
set_option maxRecDepth 100000 in
set_option maxHeartbeats 4000000 in
theorem t_Mod_begins_28 (d : Nat) {k2 : Hp → Int32 → Option (Hp)} (hk2 : ∀ (sg : Hp) (x1 : Int32)  (y : Hp), k2 sg x1 = some y → Go (d + 0) none 134 2 [(0, .ref 46), (1, .int x1)] [] sg none y) (sg : Hp) (x1 : Int32) (xs1 : Int32)  (y : Hp) (h : f_Mod_begins_28 k2 sg x1 xs1 = some y) : Go (d + 0) none 134 28 [(0, .ref 46), (1, .int x1)] [.int xs1, .ref 55] sg none y := by
  unfold f_Mod_begins_28 at h
  refine G_iconst (1 : Int32) rfl (by decide) ?_
  refine G_goto 33 rfl rfl ?_
  exact Go.weak' (t_Mod_begins_33 d hk2 _ _ _ _  _ h) ⟨rfl, rfl, trivial⟩
set_option maxRecDepth 100000 in
set_option maxHeartbeats 4000000 in
theorem t_Mod_begins_2 (d : Nat)   : ∀ (n : Nat) (sg : Hp) (x1 : Int32)  (y : Hp), f_Mod_begins_2  n sg x1 = some y → Go (d + 0) none 134 2 [(0, .ref 46), (1, .int x1)] [] sg none y := by
  intro n
  induction n with
  | zero =>
    intro sg x1 y h
    rw [f_Mod_begins_2] at h
    cases h
  | succ n ih =>
    intro sg x1 y h
    rw [f_Mod_begins_2] at h
    refine G_iload rfl rfl ?_
    refine G_iconst (14 : Int32) rfl (by decide) ?_
    refine G_ic_ge 40 rfl rfl (fun hc => ?_) (fun hc => ?_)
    · rw [if_pos hc] at h
      obtain rfl := Option.some.inj h
      exact G_vret rfl rfl
    · rw [if_neg hc] at h
      refine G_aload rfl rfl ?_
      refine G_getR (ci := 10) 55 rfl rfl rfl rfl rfl ?_
      refine G_iload rfl rfl ?_
      refine G_iload rfl rfl ?_
      refine G_if_eq 28 rfl rfl (fun hc => ?_) (fun hc => ?_)
      · rw [if_pos hc] at h
        exact Go.weak' (t_Mod_begins_28 d ih _ _ _  _ h) ⟨rfl, rfl, trivial⟩
      · rw [if_neg hc] at h
        refine G_iload rfl rfl ?_
        refine G_iconst (4 : Int32) rfl (by decide) ?_
        refine G_ic_eq 28 rfl rfl (fun hc => ?_) (fun hc => ?_)
        · rw [if_pos hc] at h
          exact Go.weak' (t_Mod_begins_28 d ih _ _ _  _ h) ⟨rfl, rfl, trivial⟩
        · rw [if_neg hc] at h
          refine G_iload rfl rfl ?_
          refine G_iconst (8 : Int32) rfl (by decide) ?_
          refine G_ic_ne 32 rfl rfl (fun hc => ?_) (fun hc => ?_)
          · rw [if_neg hc] at h
            refine G_iconst (0 : Int32) rfl (by decide) ?_
            exact Go.weak' (t_Mod_begins_33 d ih _ _ _ _  _ h) ⟨rfl, rfl, trivial⟩
          · rw [if_pos hc] at h
            exact Go.weak' (t_Mod_begins_28 d ih _ _ _  _ h) ⟨rfl, rfl, trivial⟩
set_option maxRecDepth 100000 in
set_option maxHeartbeats 4000000 in
theorem t_Mod_begins (d : Nat) (sg : Hp)   (y : Hp) (h : f_Mod_begins sg  = some y) : Sm (d + 0) 134 [.ref 46] sg none y := by
  unfold f_Mod_begins at h
  refine Sm.of (lv := [(0, .ref 46)]) rfl ?_
  refine G_iconst (0 : Int32) rfl (by decide) ?_
  refine G_istore rfl rfl ?_
  exact Go.weak' (t_Mod_begins_2 d  _ _ _  _ h) ⟨rfl, rfl, trivial⟩
set_option maxRecDepth 100000 in
set_option maxHeartbeats 4000000 in
theorem t_Mod_far (d : Nat) (sg : Hp) (x1 : Int32) (x2 : Int32)  (y : Int32 × Hp) (h : f_Mod_far sg x1 x2 = some y) : Sm (d + 0) 136 [.ref 46, .int x1, .int x2] sg (some (.int y.1)) y.2 := by
  unfold f_Mod_far at h
  refine Sm.of (lv := [(0, .ref 46), (1, .int x1), (2, .int x2)]) rfl ?_
  refine G_iconst (14 : Int32) rfl (by decide) ?_
  refine G_iload rfl rfl ?_
  refine G_imul rfl ?_
  refine G_iload rfl rfl ?_
  refine G_iadd rfl ?_
  refine G_istore rfl rfl ?_
  refine G_aload rfl rfl ?_
  refine G_getR (ci := 10) 55 rfl rfl rfl rfl rfl ?_
  refine G_iload rfl rfl ?_
  obtain ⟨hg1, h⟩ := if_some h
  refine G_iald rfl rfl rfl hg1 ?_
  refine G_if_eq 25 rfl rfl (fun hc => ?_) (fun hc => ?_)
  · rw [if_pos hc] at h
    refine G_aload rfl rfl ?_
    refine G_getR (ci := 10) 55 rfl rfl rfl rfl rfl ?_
    refine G_iload rfl rfl ?_
    refine G_iconst (1 : Int32) rfl (by decide) ?_
    refine G_iadd rfl ?_
    obtain ⟨hg2, h⟩ := if_some h
    refine G_iald rfl rfl rfl hg2 ?_
    refine G_if_eq 45 rfl rfl (fun hc => ?_) (fun hc => ?_)
    · rw [if_pos hc] at h
      refine G_aload rfl rfl ?_
      refine G_getR (ci := 10) 51 rfl rfl rfl rfl rfl ?_
      refine G_iconst (2 : Int32) rfl (by decide) ?_
      refine G_ialdL 2 rfl rfl rfl (by decide) (by decide) ?_
      obtain rfl := Option.some.inj h
      exact G_iret rfl rfl
    · rw [if_neg hc] at h
      refine G_aload rfl rfl ?_
      refine G_getR (ci := 10) 51 rfl rfl rfl rfl rfl ?_
      refine G_iconst (1 : Int32) rfl (by decide) ?_
      refine G_ialdL 1 rfl rfl rfl (by decide) (by decide) ?_
      refine G_goto 51 rfl rfl ?_
      obtain rfl := Option.some.inj h
      exact G_iret rfl rfl
  · rw [if_neg hc] at h
    refine G_aload rfl rfl ?_
    refine G_getR (ci := 10) 51 rfl rfl rfl rfl rfl ?_
    refine G_iconst (0 : Int32) rfl (by decide) ?_
    refine G_ialdL 0 rfl rfl rfl (by decide) (by decide) ?_
    refine G_goto 51 rfl rfl ?_
    obtain rfl := Option.some.inj h
    exact G_iret rfl rfl
set_option maxRecDepth 100000 in
set_option maxHeartbeats 4000000 in
theorem t_Mod_southWest (d : Nat) (sg : Hp) (x1 : Int32) (x2 : Int32)  (y : Int32 × Hp) (h : f_Mod_southWest sg x1 x2 = some y) : Sm (d + 0) 137 [.ref 46, .int x1, .int x2] sg (some (.int y.1)) y.2 := by
  unfold f_Mod_southWest at h
  refine Sm.of (lv := [(0, .ref 46), (1, .int x1), (2, .int x2)]) rfl ?_
  refine G_aload rfl rfl ?_
  refine G_getR (ci := 10) 55 rfl rfl rfl rfl rfl ?_
  refine G_iconst (14 : Int32) rfl (by decide) ?_
  refine G_iload rfl rfl ?_
  refine G_imul rfl ?_
  refine G_iconst (12 : Int32) rfl (by decide) ?_
  refine G_iadd rfl ?_
  refine G_iload rfl rfl ?_
  refine G_iadd rfl ?_
  obtain ⟨hg1, h⟩ := if_some h
  refine G_iald rfl rfl rfl hg1 ?_
  obtain rfl := Option.some.inj h
  exact G_iret rfl rfl
set_option maxRecDepth 100000 in
set_option maxHeartbeats 4000000 in
theorem t_Mod_turns_325 (d : Nat)   (sg : Hp) (x1 : Int32) (x6 : Int32) (x10 : Int32) (xs1 : Int32) (xs2 : Int32) (xs3 : Int32)  (y : Hp) (h : f_Mod_turns_325  sg x1 x6 x10 xs1 xs2 xs3 = some y) : Go (d + 1) none 135 325 [(0, .ref 46), (1, .int x1), (6, .int x6), (10, .int x10)] [.int xs3, .int xs2, .int xs1, .ref 56] sg none y := by
  unfold f_Mod_turns_325 at h
  refine G_iadd rfl ?_
  obtain ⟨hg12, h⟩ := if_some h
  obtain ⟨s13, hs13, h⟩ := Option.bind_eq_some_iff.mp h
  refine G_iast rfl rfl rfl hg12 (Option.some.inj hs13) ?_
  refine G_aload rfl rfl ?_
  refine G_getR (ci := 10) 56 rfl rfl rfl rfl rfl ?_
  refine G_iconst (4 : Int32) rfl (by decide) ?_
  refine G_iload rfl rfl ?_
  refine G_imul rfl ?_
  refine G_iconst (2 : Int32) rfl (by decide) ?_
  refine G_iadd rfl ?_
  refine G_aload rfl rfl ?_
  refine G_iload rfl rfl ?_
  refine G_iconst (1 : Int32) rfl (by decide) ?_
  refine G_iload rfl rfl ?_
  refine G_isub rfl ?_
  obtain ⟨y14, hy14, h⟩ := Option.bind_eq_some_iff.mp h
  refine G_callvI 3 (t_Mod_southWest _ _ _ _  _ hy14) rfl rfl rfl rfl rfl rfl rfl rfl rfl rfl rfl ?_
  obtain ⟨hg15, h⟩ := if_some h
  obtain ⟨s16, hs16, h⟩ := Option.bind_eq_some_iff.mp h
  refine G_iast rfl rfl rfl hg15 (Option.some.inj hs16) ?_
  refine G_aload rfl rfl ?_
  refine G_getR (ci := 10) 56 rfl rfl rfl rfl rfl ?_
  refine G_iconst (4 : Int32) rfl (by decide) ?_
  refine G_iload rfl rfl ?_
  refine G_imul rfl ?_
  refine G_iconst (3 : Int32) rfl (by decide) ?_
  refine G_iadd rfl ?_
  refine G_aload rfl rfl ?_
  refine G_iload rfl rfl ?_
  refine G_iconst (1 : Int32) rfl (by decide) ?_
  refine G_iload rfl rfl ?_
  refine G_isub rfl ?_
  obtain ⟨y17, hy17, h⟩ := Option.bind_eq_some_iff.mp h
  refine G_callvI 3 (t_Mod_southWest _ _ _ _  _ hy17) rfl rfl rfl rfl rfl rfl rfl rfl rfl rfl rfl ?_
  refine G_aload rfl rfl ?_
  refine G_iload rfl rfl ?_
  refine G_iload rfl rfl ?_
  obtain ⟨y18, hy18, h⟩ := Option.bind_eq_some_iff.mp h
  refine G_callvI 3 (t_Mod_far _ _ _ _  _ hy18) rfl rfl rfl rfl rfl rfl rfl rfl rfl rfl rfl ?_
  refine G_iadd rfl ?_
  obtain ⟨hg19, h⟩ := if_some h
  obtain ⟨s20, hs20, h⟩ := Option.bind_eq_some_iff.mp h
  refine G_iast rfl rfl rfl hg19 (Option.some.inj hs20) ?_
  obtain rfl := Option.some.inj h
  exact G_vret rfl rfl
set_option maxRecDepth 100000 in
set_option maxHeartbeats 4000000 in
theorem t_Mod_turns_262 (d : Nat)   (sg : Hp) (x1 : Int32) (x4 : Int32) (x6 : Int32) (x7 : Int32) (x8 : Int32) (x10 : Int32) (xs1 : Int32) (xs2 : Int32) (xs3 : Int32)  (y : Hp) (h : f_Mod_turns_262  sg x1 x4 x6 x7 x8 x10 xs1 xs2 xs3 = some y) : Go (d + 1) none 135 262 [(0, .ref 46), (1, .int x1), (4, .int x4), (6, .int x6), (7, .int x7), (8, .int x8), (10, .int x10)] [.int xs3, .int xs2, .int xs1, .ref 55] sg none y := by
  unfold f_Mod_turns_262 at h
  refine G_iadd rfl ?_
  obtain ⟨hg4, h⟩ := if_some h
  obtain ⟨s5, hs5, h⟩ := Option.bind_eq_some_iff.mp h
  refine G_iast rfl rfl rfl hg4 (Option.some.inj hs5) ?_
  refine G_aload rfl rfl ?_
  refine G_getR (ci := 10) 55 rfl rfl rfl rfl rfl ?_
  refine G_iload rfl rfl ?_
  refine G_iconst (13 : Int32) rfl (by decide) ?_
  refine G_iadd rfl ?_
  refine G_iload rfl rfl ?_
  refine G_isub rfl ?_
  refine G_aload rfl rfl ?_
  refine G_iload rfl rfl ?_
  refine G_iconst (1 : Int32) rfl (by decide) ?_
  refine G_iload rfl rfl ?_
  refine G_isub rfl ?_
  obtain ⟨y6, hy6, h⟩ := Option.bind_eq_some_iff.mp h
  refine G_callvI 3 (t_Mod_southWest _ _ _ _  _ hy6) rfl rfl rfl rfl rfl rfl rfl rfl rfl rfl rfl ?_
  obtain ⟨hg7, h⟩ := if_some h
  obtain ⟨s8, hs8, h⟩ := Option.bind_eq_some_iff.mp h
  refine G_iast rfl rfl rfl hg7 (Option.some.inj hs8) ?_
  refine G_aload rfl rfl ?_
  refine G_getR (ci := 10) 56 rfl rfl rfl rfl rfl ?_
  refine G_iconst (4 : Int32) rfl (by decide) ?_
  refine G_iload rfl rfl ?_
  refine G_imul rfl ?_
  refine G_iconst (1 : Int32) rfl (by decide) ?_
  refine G_iload rfl rfl ?_
  refine G_isub rfl ?_
  obtain ⟨hg9, h⟩ := if_some h
  obtain ⟨s10, hs10, h⟩ := Option.bind_eq_some_iff.mp h
  refine G_iast rfl rfl rfl hg9 (Option.some.inj hs10) ?_
  refine G_aload rfl rfl ?_
  refine G_getR (ci := 10) 56 rfl rfl rfl rfl rfl ?_
  refine G_iconst (4 : Int32) rfl (by decide) ?_
  refine G_iload rfl rfl ?_
  refine G_imul rfl ?_
  refine G_iconst (1 : Int32) rfl (by decide) ?_
  refine G_iadd rfl ?_
  refine G_aload rfl rfl ?_
  refine G_iload rfl rfl ?_
  refine G_iload rfl rfl ?_
  obtain ⟨y11, hy11, h⟩ := Option.bind_eq_some_iff.mp h
  refine G_callvI 3 (t_Mod_southWest _ _ _ _  _ hy11) rfl rfl rfl rfl rfl rfl rfl rfl rfl rfl rfl ?_
  refine G_iload rfl rfl ?_
  refine G_if_eq 324 rfl rfl (fun hc => ?_) (fun hc => ?_)
  · rw [if_pos hc] at h
    refine G_iconst (0 : Int32) rfl (by decide) ?_
    exact Go.weak' (t_Mod_turns_325 d  _ _ _ _ _ _ _  _ h) ⟨rfl, rfl, rfl, rfl, trivial⟩
  · rw [if_neg hc] at h
    refine G_iload rfl rfl ?_
    refine G_goto 325 rfl rfl ?_
    exact Go.weak' (t_Mod_turns_325 d  _ _ _ _ _ _ _  _ h) ⟨rfl, rfl, rfl, rfl, trivial⟩
set_option maxRecDepth 100000 in
set_option maxHeartbeats 4000000 in
theorem t_Mod_turns_216 (d : Nat) {k63 : Hp → Int32 → Int32 → Int32 → Int32 → Int32 → Int32 → Int32 → Int32 → Int32 → Option (Hp)} (hk63 : ∀ (sg : Hp) (x1 : Int32) (x3 : Int32) (x4 : Int32) (x5 : Int32) (x6 : Int32) (x7 : Int32) (x8 : Int32) (x9 : Int32) (x10 : Int32)  (y : Hp), k63 sg x1 x3 x4 x5 x6 x7 x8 x9 x10 = some y → Go (d + 1) none 135 63 [(0, .ref 46), (1, .int x1), (3, .int x3), (4, .int x4), (5, .int x5), (6, .int x6), (7, .int x7), (8, .int x8), (9, .int x9), (10, .int x10)] [] sg none y) (sg : Hp) (x1 : Int32) (x3 : Int32) (x4 : Int32) (x5 : Int32) (x6 : Int32) (x7 : Int32) (x8 : Int32) (x9 : Int32) (x10 : Int32) (xs1 : Int32) (xs2 : Int32) (xs3 : Int32)  (y : Hp) (h : f_Mod_turns_216 k63 sg x1 x3 x4 x5 x6 x7 x8 x9 x10 xs1 xs2 xs3 = some y) : Go (d + 1) none 135 216 [(0, .ref 46), (1, .int x1), (3, .int x3), (4, .int x4), (5, .int x5), (6, .int x6), (7, .int x7), (8, .int x8), (9, .int x9), (10, .int x10)] [.int xs3, .int xs2, .int xs1, .ref 55] sg none y := by
  unfold f_Mod_turns_216 at h
  refine G_iadd rfl ?_
  obtain ⟨hg31, h⟩ := if_some h
  obtain ⟨s32, hs32, h⟩ := Option.bind_eq_some_iff.mp h
  refine G_iast rfl rfl rfl hg31 (Option.some.inj hs32) ?_
  refine G_iinc (1 : Int32) rfl (by decide) rfl rfl ?_
  refine G_goto 63 rfl rfl ?_
  exact Go.weak' (hk63 _ _ _ _ _ _ _ _ _ _  _ h) ⟨rfl, rfl, rfl, rfl, rfl, rfl, rfl, rfl, rfl, rfl, trivial⟩
set_option maxRecDepth 100000 in
set_option maxHeartbeats 4000000 in
theorem t_Mod_turns_173 (d : Nat) {k63 : Hp → Int32 → Int32 → Int32 → Int32 → Int32 → Int32 → Int32 → Int32 → Int32 → Option (Hp)} (hk63 : ∀ (sg : Hp) (x1 : Int32) (x3 : Int32) (x4 : Int32) (x5 : Int32) (x6 : Int32) (x7 : Int32) (x8 : Int32) (x9 : Int32) (x10 : Int32)  (y : Hp), k63 sg x1 x3 x4 x5 x6 x7 x8 x9 x10 = some y → Go (d + 1) none 135 63 [(0, .ref 46), (1, .int x1), (3, .int x3), (4, .int x4), (5, .int x5), (6, .int x6), (7, .int x7), (8, .int x8), (9, .int x9), (10, .int x10)] [] sg none y) (sg : Hp) (x1 : Int32) (x3 : Int32) (x4 : Int32) (x5 : Int32) (x6 : Int32) (x7 : Int32) (x8 : Int32) (x9 : Int32) (x10 : Int32) (x11 : Int32) (x12 : Int32) (xs1 : Int32) (xs2 : Int32)  (y : Hp) (h : f_Mod_turns_173 k63 sg x1 x3 x4 x5 x6 x7 x8 x9 x10 x11 x12 xs1 xs2 = some y) : Go (d + 1) none 135 173 [(0, .ref 46), (1, .int x1), (3, .int x3), (4, .int x4), (5, .int x5), (6, .int x6), (7, .int x7), (8, .int x8), (9, .int x9), (10, .int x10), (11, .int x11), (12, .int x12)] [.int xs2, .int xs1, .ref 55] sg none y := by
  unfold f_Mod_turns_173 at h
  obtain ⟨hg28, h⟩ := if_some h
  obtain ⟨s29, hs29, h⟩ := Option.bind_eq_some_iff.mp h
  refine G_iast rfl rfl rfl hg28 (Option.some.inj hs29) ?_
  refine G_aload rfl rfl ?_
  refine G_getR (ci := 10) 55 rfl rfl rfl rfl rfl ?_
  refine G_iload rfl rfl ?_
  refine G_iconst (9 : Int32) rfl (by decide) ?_
  refine G_iadd rfl ?_
  refine G_iload rfl rfl ?_
  refine G_iadd rfl ?_
  refine G_aload rfl rfl ?_
  refine G_getR (ci := 10) 55 rfl rfl rfl rfl rfl ?_
  refine G_iload rfl rfl ?_
  refine G_iconst (9 : Int32) rfl (by decide) ?_
  refine G_iadd rfl ?_
  refine G_iload rfl rfl ?_
  refine G_iadd rfl ?_
  obtain ⟨hg30, h⟩ := if_some h
  refine G_iald rfl rfl rfl hg30 ?_
  refine G_iload rfl rfl ?_
  refine G_if_eq 211 rfl rfl (fun hc => ?_) (fun hc => ?_)
  · rw [if_pos hc] at h
    refine G_iload rfl rfl ?_
    refine G_iload rfl rfl ?_
    refine G_imul rfl ?_
    exact Go.weak' (t_Mod_turns_216 d hk63 _ _ _ _ _ _ _ _ _ _ _ _ _  _ h) ⟨rfl, rfl, rfl, rfl, rfl, rfl, rfl, rfl, rfl, rfl, trivial⟩
  · rw [if_neg hc] at h
    refine G_iload rfl rfl ?_
    refine G_iload rfl rfl ?_
    refine G_imul rfl ?_
    refine G_goto 216 rfl rfl ?_
    exact Go.weak' (t_Mod_turns_216 d hk63 _ _ _ _ _ _ _ _ _ _ _ _ _  _ h) ⟨rfl, rfl, rfl, rfl, rfl, rfl, rfl, rfl, rfl, rfl, trivial⟩
set_option maxRecDepth 100000 in
set_option maxHeartbeats 4000000 in
theorem t_Mod_turns_122 (d : Nat) {k63 : Hp → Int32 → Int32 → Int32 → Int32 → Int32 → Int32 → Int32 → Int32 → Int32 → Option (Hp)} (hk63 : ∀ (sg : Hp) (x1 : Int32) (x3 : Int32) (x4 : Int32) (x5 : Int32) (x6 : Int32) (x7 : Int32) (x8 : Int32) (x9 : Int32) (x10 : Int32)  (y : Hp), k63 sg x1 x3 x4 x5 x6 x7 x8 x9 x10 = some y → Go (d + 1) none 135 63 [(0, .ref 46), (1, .int x1), (3, .int x3), (4, .int x4), (5, .int x5), (6, .int x6), (7, .int x7), (8, .int x8), (9, .int x9), (10, .int x10)] [] sg none y) (sg : Hp) (x1 : Int32) (x3 : Int32) (x4 : Int32) (x5 : Int32) (x6 : Int32) (x7 : Int32) (x8 : Int32) (x9 : Int32) (x10 : Int32) (x11 : Int32) (x12 : Int32) (xs1 : Int32) (xs2 : Int32)  (y : Hp) (h : f_Mod_turns_122 k63 sg x1 x3 x4 x5 x6 x7 x8 x9 x10 x11 x12 xs1 xs2 = some y) : Go (d + 1) none 135 122 [(0, .ref 46), (1, .int x1), (3, .int x3), (4, .int x4), (5, .int x5), (6, .int x6), (7, .int x7), (8, .int x8), (9, .int x9), (10, .int x10), (11, .int x11), (12, .int x12)] [.int xs2, .int xs1, .ref 55] sg none y := by
  unfold f_Mod_turns_122 at h
  obtain ⟨hg23, h⟩ := if_some h
  obtain ⟨s24, hs24, h⟩ := Option.bind_eq_some_iff.mp h
  refine G_iast rfl rfl rfl hg23 (Option.some.inj hs24) ?_
  refine G_aload rfl rfl ?_
  refine G_getR (ci := 10) 55 rfl rfl rfl rfl rfl ?_
  refine G_iload rfl rfl ?_
  refine G_iload rfl rfl ?_
  refine G_iadd rfl ?_
  refine G_iload rfl rfl ?_
  refine G_iadd rfl ?_
  refine G_aload rfl rfl ?_
  refine G_getR (ci := 10) 55 rfl rfl rfl rfl rfl ?_
  refine G_iload rfl rfl ?_
  refine G_iload rfl rfl ?_
  refine G_iadd rfl ?_
  refine G_iload rfl rfl ?_
  refine G_iadd rfl ?_
  obtain ⟨hg25, h⟩ := if_some h
  refine G_iald rfl rfl rfl hg25 ?_
  obtain ⟨hg26, h⟩ := if_some h
  obtain ⟨s27, hs27, h⟩ := Option.bind_eq_some_iff.mp h
  refine G_iast rfl rfl rfl hg26 (Option.some.inj hs27) ?_
  refine G_aload rfl rfl ?_
  refine G_getR (ci := 10) 55 rfl rfl rfl rfl rfl ?_
  refine G_iload rfl rfl ?_
  refine G_iconst (6 : Int32) rfl (by decide) ?_
  refine G_iadd rfl ?_
  refine G_iload rfl rfl ?_
  refine G_iadd rfl ?_
  refine G_iload rfl rfl ?_
  refine G_if_eq 171 rfl rfl (fun hc => ?_) (fun hc => ?_)
  · rw [if_pos hc] at h
    refine G_iload rfl rfl ?_
    exact Go.weak' (t_Mod_turns_173 d hk63 _ _ _ _ _ _ _ _ _ _ _ _ _ _  _ h) ⟨rfl, rfl, rfl, rfl, rfl, rfl, rfl, rfl, rfl, rfl, rfl, rfl, trivial⟩
  · rw [if_neg hc] at h
    refine G_iload rfl rfl ?_
    refine G_ineg rfl ?_
    refine G_goto 173 rfl rfl ?_
    exact Go.weak' (t_Mod_turns_173 d hk63 _ _ _ _ _ _ _ _ _ _ _ _ _ _  _ h) ⟨rfl, rfl, rfl, rfl, rfl, rfl, rfl, rfl, rfl, rfl, rfl, rfl, trivial⟩
set_option maxRecDepth 100000 in
set_option maxHeartbeats 4000000 in
theorem t_Mod_turns_63 (d : Nat)   : ∀ (n : Nat) (sg : Hp) (x1 : Int32) (x3 : Int32) (x4 : Int32) (x5 : Int32) (x6 : Int32) (x7 : Int32) (x8 : Int32) (x9 : Int32) (x10 : Int32)  (y : Hp), f_Mod_turns_63  n sg x1 x3 x4 x5 x6 x7 x8 x9 x10 = some y → Go (d + 1) none 135 63 [(0, .ref 46), (1, .int x1), (3, .int x3), (4, .int x4), (5, .int x5), (6, .int x6), (7, .int x7), (8, .int x8), (9, .int x9), (10, .int x10)] [] sg none y := by
  intro n
  induction n with
  | zero =>
    intro sg x1 x3 x4 x5 x6 x7 x8 x9 x10 y h
    rw [f_Mod_turns_63] at h
    cases h
  | succ n ih =>
    intro sg x1 x3 x4 x5 x6 x7 x8 x9 x10 y h
    rw [f_Mod_turns_63] at h
    refine G_iload rfl rfl ?_
    refine G_iconst (3 : Int32) rfl (by decide) ?_
    refine G_ic_ge 224 rfl rfl (fun hc => ?_) (fun hc => ?_)
    · rw [if_pos hc] at h
      refine G_iload rfl rfl ?_
      refine G_iconst (3 : Int32) rfl (by decide) ?_
      refine G_idiv rfl (by decide) ?_
      refine G_istore rfl rfl ?_
      refine G_aload rfl rfl ?_
      refine G_getR (ci := 10) 55 rfl rfl rfl rfl rfl ?_
      refine G_iload rfl rfl ?_
      refine G_iconst (12 : Int32) rfl (by decide) ?_
      refine G_iadd rfl ?_
      refine G_iload rfl rfl ?_
      refine G_iadd rfl ?_
      refine G_aload rfl rfl ?_
      refine G_iload rfl rfl ?_
      refine G_iload rfl rfl ?_
      obtain ⟨y3, hy3, h⟩ := Option.bind_eq_some_iff.mp h
      refine G_callvI 3 (t_Mod_southWest _ _ _ _  _ hy3) rfl rfl rfl rfl rfl rfl rfl rfl rfl rfl rfl ?_
      refine G_iload rfl rfl ?_
      refine G_if_eq 259 rfl rfl (fun hc => ?_) (fun hc => ?_)
      · rw [if_pos hc] at h
        refine G_iload rfl rfl ?_
        refine G_ineg rfl ?_
        exact Go.weak' (t_Mod_turns_262 d  _ _ _ _ _ _ _ _ _ _  _ h) ⟨rfl, rfl, rfl, rfl, rfl, rfl, rfl, trivial⟩
      · rw [if_neg hc] at h
        refine G_iload rfl rfl ?_
        refine G_goto 262 rfl rfl ?_
        exact Go.weak' (t_Mod_turns_262 d  _ _ _ _ _ _ _ _ _ _  _ h) ⟨rfl, rfl, rfl, rfl, rfl, rfl, rfl, trivial⟩
    · rw [if_neg hc] at h
      refine G_aload rfl rfl ?_
      refine G_getR (ci := 10) 55 rfl rfl rfl rfl rfl ?_
      refine G_iload rfl rfl ?_
      refine G_iload rfl rfl ?_
      refine G_iadd rfl ?_
      refine G_iload rfl rfl ?_
      refine G_iadd rfl ?_
      obtain ⟨hg21, h⟩ := if_some h
      refine G_iald rfl rfl rfl hg21 ?_
      refine G_istore rfl rfl ?_
      refine G_aload rfl rfl ?_
      refine G_getR (ci := 10) 55 rfl rfl rfl rfl rfl ?_
      refine G_iload rfl rfl ?_
      refine G_iconst (6 : Int32) rfl (by decide) ?_
      refine G_iadd rfl ?_
      refine G_iload rfl rfl ?_
      refine G_iadd rfl ?_
      obtain ⟨hg22, h⟩ := if_some h
      refine G_iald rfl rfl rfl hg22 ?_
      refine G_istore rfl rfl ?_
      refine G_aload rfl rfl ?_
      refine G_getR (ci := 10) 55 rfl rfl rfl rfl rfl ?_
      refine G_iload rfl rfl ?_
      refine G_iload rfl rfl ?_
      refine G_iadd rfl ?_
      refine G_iload rfl rfl ?_
      refine G_iadd rfl ?_
      refine G_iload rfl rfl ?_
      refine G_if_eq 119 rfl rfl (fun hc => ?_) (fun hc => ?_)
      · rw [if_pos hc] at h
        refine G_iload rfl rfl ?_
        refine G_ineg rfl ?_
        exact Go.weak' (t_Mod_turns_122 d ih _ _ _ _ _ _ _ _ _ _ _ _ _ _  _ h) ⟨rfl, rfl, rfl, rfl, rfl, rfl, rfl, rfl, rfl, rfl, rfl, rfl, trivial⟩
      · rw [if_neg hc] at h
        refine G_iload rfl rfl ?_
        refine G_goto 122 rfl rfl ?_
        exact Go.weak' (t_Mod_turns_122 d ih _ _ _ _ _ _ _ _ _ _ _ _ _ _  _ h) ⟨rfl, rfl, rfl, rfl, rfl, rfl, rfl, rfl, rfl, rfl, rfl, rfl, trivial⟩
set_option maxRecDepth 100000 in
set_option maxHeartbeats 4000000 in
theorem t_Mod_turns_40 (d : Nat)   (sg : Hp) (x1 : Int32) (x3 : Int32) (x4 : Int32) (x5 : Int32) (x6 : Int32) (xs0 : Int32)  (y : Hp) (h : f_Mod_turns_40  sg x1 x3 x4 x5 x6 xs0 = some y) : Go (d + 1) none 135 40 [(0, .ref 46), (1, .int x1), (3, .int x3), (4, .int x4), (5, .int x5), (6, .int x6)] [.int xs0] sg none y := by
  unfold f_Mod_turns_40 at h
  refine G_istore rfl rfl ?_
  refine G_aload rfl rfl ?_
  refine G_iload rfl rfl ?_
  refine G_iload rfl rfl ?_
  obtain ⟨y1, hy1, h⟩ := Option.bind_eq_some_iff.mp h
  refine G_callvI 3 (t_Mod_far _ _ _ _  _ hy1) rfl rfl rfl rfl rfl rfl rfl rfl rfl rfl rfl ?_
  refine G_istore rfl rfl ?_
  refine G_aload rfl rfl ?_
  refine G_iload rfl rfl ?_
  refine G_iconst (6 : Int32) rfl (by decide) ?_
  obtain ⟨y2, hy2, h⟩ := Option.bind_eq_some_iff.mp h
  refine G_callvI 3 (t_Mod_far _ _ _ _  _ hy2) rfl rfl rfl rfl rfl rfl rfl rfl rfl rfl rfl ?_
  refine G_istore rfl rfl ?_
  refine G_iconst (0 : Int32) rfl (by decide) ?_
  refine G_istore rfl rfl ?_
  exact Go.weak' (t_Mod_turns_63 d  _ _ _ _ _ _ _ _ _ _ _  _ h) ⟨rfl, rfl, rfl, rfl, rfl, rfl, rfl, rfl, rfl, rfl, trivial⟩
set_option maxRecDepth 100000 in
set_option maxHeartbeats 4000000 in
theorem t_Mod_turns_21 (d : Nat)   (sg : Hp) (x1 : Int32) (x2 : Int32) (x3 : Int32) (x4 : Int32) (xs0 : Int32)  (y : Hp) (h : f_Mod_turns_21  sg x1 x2 x3 x4 xs0 = some y) : Go (d + 1) none 135 21 [(0, .ref 46), (1, .int x1), (2, .int x2), (3, .int x3), (4, .int x4)] [.int xs0] sg none y := by
  unfold f_Mod_turns_21 at h
  refine G_istore rfl rfl ?_
  refine G_iconst (3 : Int32) rfl (by decide) ?_
  refine G_iload rfl rfl ?_
  refine G_isub rfl ?_
  refine G_istore rfl rfl ?_
  refine G_iload rfl rfl ?_
  refine G_iconst (2 : Int32) rfl (by decide) ?_
  refine G_irem rfl (by decide) ?_
  refine G_if_ne 39 rfl rfl (fun hc => ?_) (fun hc => ?_)
  · rw [if_neg hc] at h
    refine G_iconst (0 : Int32) rfl (by decide) ?_
    exact Go.weak' (t_Mod_turns_40 d  _ _ _ _ _ _ _  _ h) ⟨rfl, rfl, rfl, rfl, rfl, rfl, trivial⟩
  · rw [if_pos hc] at h
    refine G_iconst (1 : Int32) rfl (by decide) ?_
    refine G_goto 40 rfl rfl ?_
    exact Go.weak' (t_Mod_turns_40 d  _ _ _ _ _ _ _  _ h) ⟨rfl, rfl, rfl, rfl, rfl, rfl, trivial⟩
set_option maxRecDepth 100000 in
set_option maxHeartbeats 4000000 in
theorem t_Mod_turns (d : Nat) (sg : Hp) (x1 : Int32) (x2 : Int32)  (y : Hp) (h : f_Mod_turns sg x1 x2 = some y) : Sm (d + 1) 135 [.ref 46, .int x1, .int x2] sg none y := by
  unfold f_Mod_turns at h
  refine Sm.of (lv := [(0, .ref 46), (1, .int x1), (2, .int x2)]) rfl ?_
  refine G_iconst (14 : Int32) rfl (by decide) ?_
  refine G_iload rfl rfl ?_
  refine G_imul rfl ?_
  refine G_istore rfl rfl ?_
  refine G_iload rfl rfl ?_
  refine G_iconst (14 : Int32) rfl (by decide) ?_
  refine G_iadd rfl ?_
  refine G_istore rfl rfl ?_
  refine G_iload rfl rfl ?_
  refine G_iconst (2 : Int32) rfl (by decide) ?_
  refine G_ic_ge 20 rfl rfl (fun hc => ?_) (fun hc => ?_)
  · rw [if_pos hc] at h
    refine G_iconst (3 : Int32) rfl (by decide) ?_
    exact Go.weak' (t_Mod_turns_21 d  _ _ _ _ _ _  _ h) ⟨rfl, rfl, rfl, rfl, rfl, trivial⟩
  · rw [if_neg hc] at h
    refine G_iconst (0 : Int32) rfl (by decide) ?_
    refine G_goto 21 rfl rfl ?_
    exact Go.weak' (t_Mod_turns_21 d  _ _ _ _ _ _  _ h) ⟨rfl, rfl, rfl, rfl, rfl, trivial⟩
set_option maxRecDepth 100000 in
set_option maxHeartbeats 4000000 in
theorem t_Mod_goesTo_6 (d : Nat)   : ∀ (n : Nat) (sg : Hp) (x1 : Int32) (x2 : Int32)  (y : Hp), f_Mod_goesTo_6  n sg x1 x2 = some y → Go (d + 2) none 133 6 [(0, .ref 46), (1, .int x1), (2, .int x2)] [] sg none y := by
  intro n
  induction n with
  | zero =>
    intro sg x1 x2 y h
    rw [f_Mod_goesTo_6] at h
    cases h
  | succ n ih =>
    intro sg x1 x2 y h
    rw [f_Mod_goesTo_6] at h
    refine G_iload rfl rfl ?_
    refine G_iload rfl rfl ?_
    refine G_ic_ge 31 rfl rfl (fun hc => ?_) (fun hc => ?_)
    · rw [if_pos hc] at h
      obtain rfl := Option.some.inj h
      exact G_vret rfl rfl
    · rw [if_neg hc] at h
      refine G_aload rfl rfl ?_
      refine G_iload rfl rfl ?_
      refine G_aload rfl rfl ?_
      refine G_getR (ci := 10) 54 rfl rfl rfl rfl rfl ?_
      refine G_iload rfl rfl ?_
      obtain ⟨hg2, h⟩ := if_some h
      refine G_iald rfl rfl rfl hg2 ?_
      obtain ⟨y3, hy3, h⟩ := Option.bind_eq_some_iff.mp h
      refine G_callsI 1 (t_Mod_rollOf _ _ _  _ hy3) rfl rfl rfl rfl rfl rfl rfl rfl rfl ?_
      obtain ⟨y4, hy4, h⟩ := Option.bind_eq_some_iff.mp h
      refine G_callvV 3 (t_Mod_turns _ _ _ _  _ hy4) rfl rfl rfl rfl rfl rfl rfl rfl rfl rfl rfl ?_
      refine G_iinc (1 : Int32) rfl (by decide) rfl rfl ?_
      refine G_goto 6 rfl rfl ?_
      exact Go.weak' (ih _ _ _  _ h) ⟨rfl, rfl, rfl, trivial⟩
set_option maxRecDepth 100000 in
set_option maxHeartbeats 4000000 in
theorem t_Mod_goesTo (d : Nat) (sg : Hp) (x1 : Int32)  (y : Hp) (h : f_Mod_goesTo sg x1 = some y) : Sm (d + 2) 133 [.ref 46, .int x1] sg none y := by
  unfold f_Mod_goesTo at h
  refine Sm.of (lv := [(0, .ref 46), (1, .int x1)]) rfl ?_
  refine G_aload rfl rfl ?_
  obtain ⟨y1, hy1, h⟩ := Option.bind_eq_some_iff.mp h
  refine G_callvV 1 (t_Mod_begins _ _   _ hy1) rfl rfl rfl rfl rfl rfl rfl rfl rfl rfl rfl ?_
  refine G_iconst (0 : Int32) rfl (by decide) ?_
  refine G_istore rfl rfl ?_
  exact Go.weak' (t_Mod_goesTo_6 d  _ _ _ _  _ h) ⟨rfl, rfl, rfl, trivial⟩
set_option maxRecDepth 100000 in
set_option maxHeartbeats 4000000 in
theorem t_Mod_faceAt_56 (d : Nat)   (sg : Hp) (x2 : Int32) (x3 : Int32) (xs0 : Int32)  (y : Int32 × Hp) (h : f_Mod_faceAt_56  sg x2 x3 xs0 = some y) : Go (d + 0) none 138 56 [(0, .ref 46), (2, .int x2), (3, .int x3)] [.int xs0] sg (some (.int y.1)) y.2 := by
  unfold f_Mod_faceAt_56 at h
  refine G_istore rfl rfl ?_
  refine G_aload rfl rfl ?_
  refine G_getR (ci := 10) 55 rfl rfl rfl rfl rfl ?_
  refine G_iload rfl rfl ?_
  refine G_iload rfl rfl ?_
  refine G_iadd rfl ?_
  obtain ⟨hg3, h⟩ := if_some h
  refine G_iald rfl rfl rfl hg3 ?_
  refine G_if_le 74 rfl rfl (fun hc => ?_) (fun hc => ?_)
  · rw [if_pos hc] at h
    refine G_iload rfl rfl ?_
    refine G_iconst (1 : Int32) rfl (by decide) ?_
    refine G_iadd rfl ?_
    obtain rfl := Option.some.inj h
    exact G_iret rfl rfl
  · rw [if_neg hc] at h
    refine G_iload rfl rfl ?_
    refine G_goto 78 rfl rfl ?_
    obtain rfl := Option.some.inj h
    exact G_iret rfl rfl
set_option maxRecDepth 100000 in
set_option maxHeartbeats 4000000 in
theorem t_Mod_faceAt_37 (d : Nat)   (sg : Hp) (x2 : Int32) (xs0 : Int32)  (y : Int32 × Hp) (h : f_Mod_faceAt_37  sg x2 xs0 = some y) : Go (d + 0) none 138 37 [(0, .ref 46), (2, .int x2)] [.int xs0] sg (some (.int y.1)) y.2 := by
  unfold f_Mod_faceAt_37 at h
  refine G_istore rfl rfl ?_
  refine G_iload rfl rfl ?_
  refine G_iconst (2 : Int32) rfl (by decide) ?_
  refine G_ic_ne 47 rfl rfl (fun hc => ?_) (fun hc => ?_)
  · rw [if_neg hc] at h
    refine G_iload rfl rfl ?_
    refine G_if_ne 55 rfl rfl (fun hc => ?_) (fun hc => ?_)
    · rw [if_neg hc] at h
      refine G_iconst (4 : Int32) rfl (by decide) ?_
      exact Go.weak' (t_Mod_faceAt_56 d  _ _ _ _  _ h) ⟨rfl, rfl, rfl, trivial⟩
    · rw [if_pos hc] at h
      refine G_iconst (2 : Int32) rfl (by decide) ?_
      refine G_goto 56 rfl rfl ?_
      exact Go.weak' (t_Mod_faceAt_56 d  _ _ _ _  _ h) ⟨rfl, rfl, rfl, trivial⟩
  · rw [if_pos hc] at h
    refine G_iconst (0 : Int32) rfl (by decide) ?_
    refine G_goto 56 rfl rfl ?_
    exact Go.weak' (t_Mod_faceAt_56 d  _ _ _ _  _ h) ⟨rfl, rfl, rfl, trivial⟩
set_option maxRecDepth 100000 in
set_option maxHeartbeats 4000000 in
theorem t_Mod_faceAt (d : Nat) (sg : Hp) (x1 : Int32)  (y : Int32 × Hp) (h : f_Mod_faceAt sg x1 = some y) : Sm (d + 0) 138 [.ref 46, .int x1] sg (some (.int y.1)) y.2 := by
  unfold f_Mod_faceAt at h
  refine Sm.of (lv := [(0, .ref 46), (1, .int x1)]) rfl ?_
  refine G_iconst (14 : Int32) rfl (by decide) ?_
  refine G_iload rfl rfl ?_
  refine G_imul rfl ?_
  refine G_iconst (6 : Int32) rfl (by decide) ?_
  refine G_iadd rfl ?_
  refine G_istore rfl rfl ?_
  refine G_aload rfl rfl ?_
  refine G_getR (ci := 10) 55 rfl rfl rfl rfl rfl ?_
  refine G_iload rfl rfl ?_
  obtain ⟨hg1, h⟩ := if_some h
  refine G_iald rfl rfl rfl hg1 ?_
  refine G_if_eq 21 rfl rfl (fun hc => ?_) (fun hc => ?_)
  · rw [if_pos hc] at h
    refine G_aload rfl rfl ?_
    refine G_getR (ci := 10) 55 rfl rfl rfl rfl rfl ?_
    refine G_iload rfl rfl ?_
    refine G_iconst (1 : Int32) rfl (by decide) ?_
    refine G_iadd rfl ?_
    obtain ⟨hg2, h⟩ := if_some h
    refine G_iald rfl rfl rfl hg2 ?_
    refine G_if_eq 36 rfl rfl (fun hc => ?_) (fun hc => ?_)
    · rw [if_pos hc] at h
      refine G_iconst (2 : Int32) rfl (by decide) ?_
      exact Go.weak' (t_Mod_faceAt_37 d  _ _ _  _ h) ⟨rfl, rfl, trivial⟩
    · rw [if_neg hc] at h
      refine G_iconst (1 : Int32) rfl (by decide) ?_
      refine G_goto 37 rfl rfl ?_
      exact Go.weak' (t_Mod_faceAt_37 d  _ _ _  _ h) ⟨rfl, rfl, trivial⟩
  · rw [if_neg hc] at h
    refine G_iconst (0 : Int32) rfl (by decide) ?_
    refine G_goto 37 rfl rfl ?_
    exact Go.weak' (t_Mod_faceAt_37 d  _ _ _  _ h) ⟨rfl, rfl, trivial⟩
set_option maxRecDepth 100000 in
set_option maxHeartbeats 4000000 in
theorem t_Mod_laidOf (d : Nat) (sg : Hp) (x1 : Int32) (x2 : Int32)  (y : Int32 × Hp) (h : f_Mod_laidOf sg x1 x2 = some y) : Sm (d + 3) 132 [.ref 46, .int x1, .int x2] sg (some (.int y.1)) y.2 := by
  unfold f_Mod_laidOf at h
  refine Sm.of (lv := [(0, .ref 46), (1, .int x1), (2, .int x2)]) rfl ?_
  refine G_aload rfl rfl ?_
  refine G_iload rfl rfl ?_
  obtain ⟨y1, hy1, h⟩ := Option.bind_eq_some_iff.mp h
  refine G_callvV 2 (t_Mod_goesTo _ _ _  _ hy1) rfl rfl rfl rfl rfl rfl rfl rfl rfl rfl rfl ?_
  refine G_iload rfl rfl ?_
  refine G_if_ne 17 rfl rfl (fun hc => ?_) (fun hc => ?_)
  · rw [if_neg hc] at h
    refine G_iload rfl rfl ?_
    refine G_iconst (3 : Int32) rfl (by decide) ?_
    refine G_ic_ge 33 rfl rfl (fun hc => ?_) (fun hc => ?_)
    · rw [if_pos hc] at h
      refine G_aload rfl rfl ?_
      refine G_iload rfl rfl ?_
      refine G_iconst (3 : Int32) rfl (by decide) ?_
      refine G_iload rfl rfl ?_
      refine G_iconst (3 : Int32) rfl (by decide) ?_
      refine G_isub rfl ?_
      refine G_imul rfl ?_
      obtain ⟨y2, hy2, h⟩ := Option.bind_eq_some_iff.mp h
      refine G_callvI 3 (t_Mod_far _ _ _ _  _ hy2) rfl rfl rfl rfl rfl rfl rfl rfl rfl rfl rfl ?_
      obtain rfl := Option.some.inj h
      exact G_iret rfl rfl
    · rw [if_neg hc] at h
      refine G_aload rfl rfl ?_
      refine G_iload rfl rfl ?_
      refine G_iload rfl rfl ?_
      refine G_iconst (1 : Int32) rfl (by decide) ?_
      refine G_isub rfl ?_
      obtain ⟨y3, hy3, h⟩ := Option.bind_eq_some_iff.mp h
      refine G_callvI 3 (t_Mod_southWest _ _ _ _  _ hy3) rfl rfl rfl rfl rfl rfl rfl rfl rfl rfl rfl ?_
      refine G_goto 43 rfl rfl ?_
      obtain rfl := Option.some.inj h
      exact G_iret rfl rfl
  · rw [if_pos hc] at h
    refine G_aload rfl rfl ?_
    refine G_iload rfl rfl ?_
    obtain ⟨y4, hy4, h⟩ := Option.bind_eq_some_iff.mp h
    refine G_callvI 2 (t_Mod_faceAt _ _ _  _ hy4) rfl rfl rfl rfl rfl rfl rfl rfl rfl rfl rfl ?_
    refine G_goto 43 rfl rfl ?_
    obtain rfl := Option.some.inj h
    exact G_iret rfl rfl
set_option maxRecDepth 100000 in
set_option maxHeartbeats 4000000 in
theorem t_Mod_laidOut (d : Nat) (sg : Hp) (x1 : Int32) (x2 : Int32)  (y : Int32 × Hp) (h : f_Mod_laidOut sg x1 x2 = some y) : Sm (d + 4) 130 [.ref 46, .int x1, .int x2] sg (some (.int y.1)) y.2 := by
  unfold f_Mod_laidOut at h
  refine Sm.of (lv := [(0, .ref 46), (1, .int x1), (2, .int x2)]) rfl ?_
  refine G_iload rfl rfl ?_
  refine G_i2l rfl ?_
  refine G_lconst (0 : Int64) rfl (by decide) ?_
  refine G_aload rfl rfl ?_
  obtain ⟨y1, hy1, h⟩ := Option.bind_eq_some_iff.mp h
  refine G_callvI 1 (t_Mod_rolls _ _   _ hy1) rfl rfl rfl rfl rfl rfl rfl rfl rfl rfl rfl ?_
  refine G_i2l rfl ?_
  obtain ⟨y2, hy2, h⟩ := Option.bind_eq_some_iff.mp h
  refine G_callsI 3 (t_Mod_in _ _ _ _ _  _ hy2) rfl rfl rfl rfl rfl rfl rfl rfl rfl ?_
  refine G_if_eq 35 rfl rfl (fun hc => ?_) (fun hc => ?_)
  · rw [if_pos hc] at h
    refine G_iconst (-10002 : Int32) rfl (by decide) ?_
    obtain rfl := Option.some.inj h
    exact G_iret rfl rfl
  · rw [if_neg hc] at h
    refine G_iload rfl rfl ?_
    refine G_i2l rfl ?_
    refine G_lconst (0 : Int64) rfl (by decide) ?_
    refine G_ldc2 (4 : Int64) rfl (by decide) ?_
    obtain ⟨y3, hy3, h⟩ := Option.bind_eq_some_iff.mp h
    refine G_callsI 3 (t_Mod_in _ _ _ _ _  _ hy3) rfl rfl rfl rfl rfl rfl rfl rfl rfl ?_
    refine G_if_eq 35 rfl rfl (fun hc => ?_) (fun hc => ?_)
    · rw [if_pos hc] at h
      refine G_iconst (-10002 : Int32) rfl (by decide) ?_
      obtain rfl := Option.some.inj h
      exact G_iret rfl rfl
    · rw [if_neg hc] at h
      refine G_aload rfl rfl ?_
      refine G_iload rfl rfl ?_
      refine G_iload rfl rfl ?_
      obtain ⟨y4, hy4, h⟩ := Option.bind_eq_some_iff.mp h
      refine G_callvI 3 (t_Mod_laidOf _ _ _ _  _ hy4) rfl rfl rfl rfl rfl rfl rfl rfl rfl rfl rfl ?_
      refine G_goto 38 rfl rfl ?_
      obtain rfl := Option.some.inj h
      exact G_iret rfl rfl
set_option maxRecDepth 100000 in
set_option maxHeartbeats 4000000 in
theorem t_Spot_isOn (d : Nat) (sg : Hp) (a0 : Nat) (x1 : Int32) (h0 : clsOf a0 = 5) (y : Int32 × Hp) (h : f_Spot_isOn sg a0 x1 = some y) : Sm (d + 0) 43 [.ref a0, .int x1] sg (some (.int y.1)) y.2 := by
  unfold f_Spot_isOn at h
  refine Sm.of (lv := [(0, .ref a0), (1, .int x1)]) rfl ?_
  refine G_aload rfl rfl ?_
  refine G_getR (ci := 5) (rt a0 0) rfl h0 rfl rfl rfl ?_
  refine G_iload rfl rfl ?_
  obtain ⟨hg1, h⟩ := if_some h
  refine G_iald rfl (rt_cls h0 0 rfl).1 (rt_cls h0 0 rfl).2 hg1 ?_
  refine G_if_ne 13 rfl rfl (fun hc => ?_) (fun hc => ?_)
  · rw [if_neg hc] at h
    refine G_iconst (0 : Int32) rfl (by decide) ?_
    obtain rfl := Option.some.inj h
    exact G_iret rfl rfl
  · rw [if_pos hc] at h
    refine G_iconst (1 : Int32) rfl (by decide) ?_
    refine G_goto 14 rfl rfl ?_
    obtain rfl := Option.some.inj h
    exact G_iret rfl rfl
set_option maxRecDepth 100000 in
set_option maxHeartbeats 4000000 in
theorem t_Stand_planeX (d : Nat) (sg : Hp) (a0 : Nat) (a1 : Nat) (h0 : clsOf a0 = 6) (h1 : clsOf a1 = 5) (y : Int32 × Hp) (h : f_Stand_planeX sg a0 a1 = some y) : Sm (d + 0) 44 [.ref a0, .ref a1] sg (some (.int y.1)) y.2 := by
  unfold f_Stand_planeX at h
  refine Sm.of (lv := [(0, .ref a0), (1, .ref a1)]) rfl ?_
  refine G_aload rfl rfl ?_
  refine G_getI (ci := 6) 3 rfl h0 rfl rfl rfl ?_
  refine G_aload rfl rfl ?_
  refine G_getR (ci := 5) (rt a1 0) rfl h1 rfl rfl rfl ?_
  refine G_aload rfl rfl ?_
  refine G_getI (ci := 6) 1 rfl h0 rfl rfl rfl ?_
  refine G_iconst (1 : Int32) rfl (by decide) ?_
  refine G_ixor rfl ?_
  obtain ⟨hg1, h⟩ := if_some h
  refine G_iald rfl (rt_cls h1 0 rfl).1 (rt_cls h1 0 rfl).2 hg1 ?_
  refine G_iadd rfl ?_
  obtain rfl := Option.some.inj h
  exact G_iret rfl rfl
set_option maxRecDepth 100000 in
set_option maxHeartbeats 4000000 in
theorem t_Stand_planeY (d : Nat) (sg : Hp) (a0 : Nat) (a1 : Nat) (h0 : clsOf a0 = 6) (h1 : clsOf a1 = 5) (y : Int32 × Hp) (h : f_Stand_planeY sg a0 a1 = some y) : Sm (d + 0) 45 [.ref a0, .ref a1] sg (some (.int y.1)) y.2 := by
  unfold f_Stand_planeY at h
  refine Sm.of (lv := [(0, .ref a0), (1, .ref a1)]) rfl ?_
  refine G_aload rfl rfl ?_
  refine G_getI (ci := 6) 4 rfl h0 rfl rfl rfl ?_
  refine G_aload rfl rfl ?_
  refine G_getR (ci := 5) (rt a1 0) rfl h1 rfl rfl rfl ?_
  refine G_aload rfl rfl ?_
  refine G_getI (ci := 6) 2 rfl h0 rfl rfl rfl ?_
  refine G_iconst (1 : Int32) rfl (by decide) ?_
  refine G_ixor rfl ?_
  obtain ⟨hg1, h⟩ := if_some h
  refine G_iald rfl (rt_cls h1 0 rfl).1 (rt_cls h1 0 rfl).2 hg1 ?_
  refine G_iadd rfl ?_
  obtain rfl := Option.some.inj h
  exact G_iret rfl rfl
set_option maxRecDepth 100000 in
set_option maxHeartbeats 4000000 in
theorem t_Box_lies (d : Nat) (sg : Hp) (x1 : Int32) (x2 : Int32) (x3 : Int32)  (y : Int32 × Hp) (h : f_Box_lies sg x1 x2 x3 = some y) : Sm (d + 3) 42 [.ref 0, .int x1, .int x2, .int x3] sg (some (.int y.1)) y.2 := by
  unfold f_Box_lies at h
  refine Sm.of (lv := [(0, .ref 0), (1, .int x1), (2, .int x2), (3, .int x3)]) rfl ?_
  refine G_iload rfl rfl ?_
  obtain ⟨y1, hy1, h⟩ := Option.bind_eq_some_iff.mp h
  refine G_callsI 1 (t_Box_isPlace _ _ _  _ hy1) rfl rfl rfl rfl rfl rfl rfl rfl rfl ?_
  refine G_if_eq 31 rfl rfl (fun hc => ?_) (fun hc => ?_)
  · rw [if_pos hc] at h
    refine G_iconst (-10002 : Int32) rfl (by decide) ?_
    obtain rfl := Option.some.inj h
    exact G_iret rfl rfl
  · rw [if_neg hc] at h
    refine G_iload rfl rfl ?_
    refine G_if_lt 31 rfl rfl (fun hc => ?_) (fun hc => ?_)
    · rw [if_pos hc] at h
      refine G_iconst (-10002 : Int32) rfl (by decide) ?_
      obtain rfl := Option.some.inj h
      exact G_iret rfl rfl
    · rw [if_neg hc] at h
      refine G_iload rfl rfl ?_
      refine G_aload rfl rfl ?_
      refine G_getR (ci := 9) 9 rfl rfl rfl rfl rfl ?_
      obtain ⟨y2, hy2, h⟩ := Option.bind_eq_some_iff.mp h
      refine G_callvI 1 (t_Rolls_valid _ _   _ hy2) rfl rfl rfl rfl rfl rfl rfl rfl rfl rfl rfl ?_
      refine G_ic_gt 31 rfl rfl (fun hc => ?_) (fun hc => ?_)
      · rw [if_pos hc] at h
        refine G_iconst (-10002 : Int32) rfl (by decide) ?_
        obtain rfl := Option.some.inj h
        exact G_iret rfl rfl
      · rw [if_neg hc] at h
        refine G_iload rfl rfl ?_
        refine G_if_lt 31 rfl rfl (fun hc => ?_) (fun hc => ?_)
        · rw [if_pos hc] at h
          refine G_iconst (-10002 : Int32) rfl (by decide) ?_
          obtain rfl := Option.some.inj h
          exact G_iret rfl rfl
        · rw [if_neg hc] at h
          refine G_iload rfl rfl ?_
          refine G_iconst (1 : Int32) rfl (by decide) ?_
          refine G_ic_le 35 rfl rfl (fun hc => ?_) (fun hc => ?_)
          · rw [if_pos hc] at h
            refine G_aload rfl rfl ?_
            refine G_iload rfl rfl ?_
            obtain ⟨y3, hy3, h⟩ := Option.bind_eq_some_iff.mp h
            refine G_callvV 2 (t_Box_standBehind _ _ _  _ hy3) rfl rfl rfl rfl rfl rfl rfl rfl rfl rfl rfl ?_
            refine G_aload rfl rfl ?_
            refine G_getR (ci := 9) 1 rfl rfl rfl rfl rfl ?_
            refine G_iload rfl rfl ?_
            refine G_aload rfl rfl ?_
            refine G_getR (ci := 9) 35 rfl rfl rfl rfl rfl ?_
            obtain ⟨y4, hy4, h⟩ := Option.bind_eq_some_iff.mp h
            refine G_callvV 3 (t_Room_spotOf _ _ _ _ rfl _ hy4) rfl rfl rfl rfl rfl rfl rfl rfl rfl rfl rfl ?_
            refine G_aload rfl rfl ?_
            refine G_getR (ci := 9) 35 rfl rfl rfl rfl rfl ?_
            refine G_aload rfl rfl ?_
            refine G_getR (ci := 9) 33 rfl rfl rfl rfl rfl ?_
            refine G_getI (ci := 6) 0 rfl rfl rfl rfl rfl ?_
            obtain ⟨y5, hy5, h⟩ := Option.bind_eq_some_iff.mp h
            refine G_callvI 2 (t_Spot_isOn _ _ _ _ rfl _ hy5) rfl rfl rfl rfl rfl rfl rfl rfl rfl rfl rfl ?_
            refine G_if_ne 73 rfl rfl (fun hc => ?_) (fun hc => ?_)
            · rw [if_neg hc] at h
              refine G_iload rfl rfl ?_
              refine G_if_ne 91 rfl rfl (fun hc => ?_) (fun hc => ?_)
              · rw [if_neg hc] at h
                refine G_aload rfl rfl ?_
                refine G_getR (ci := 9) 33 rfl rfl rfl rfl rfl ?_
                refine G_aload rfl rfl ?_
                refine G_getR (ci := 9) 35 rfl rfl rfl rfl rfl ?_
                obtain ⟨y6, hy6, h⟩ := Option.bind_eq_some_iff.mp h
                refine G_callvI 2 (t_Stand_planeY _ _ _ _ rfl rfl _ hy6) rfl rfl rfl rfl rfl rfl rfl rfl rfl rfl rfl ?_
                obtain rfl := Option.some.inj h
                exact G_iret rfl rfl
              · rw [if_pos hc] at h
                refine G_aload rfl rfl ?_
                refine G_getR (ci := 9) 33 rfl rfl rfl rfl rfl ?_
                refine G_aload rfl rfl ?_
                refine G_getR (ci := 9) 35 rfl rfl rfl rfl rfl ?_
                obtain ⟨y7, hy7, h⟩ := Option.bind_eq_some_iff.mp h
                refine G_callvI 2 (t_Stand_planeX _ _ _ _ rfl rfl _ hy7) rfl rfl rfl rfl rfl rfl rfl rfl rfl rfl rfl ?_
                refine G_goto 102 rfl rfl ?_
                obtain rfl := Option.some.inj h
                exact G_iret rfl rfl
            · rw [if_pos hc] at h
              refine G_iconst (-10003 : Int32) rfl (by decide) ?_
              obtain rfl := Option.some.inj h
              exact G_iret rfl rfl
          · rw [if_neg hc] at h
            refine G_iconst (-10002 : Int32) rfl (by decide) ?_
            obtain rfl := Option.some.inj h
            exact G_iret rfl rfl
set_option maxRecDepth 100000 in
set_option maxHeartbeats 4000000 in
theorem t_Mod_imageOf_17 (d : Nat)   : ∀ (n : Nat) (sg : Hp) (x1 : Int32) (x4 : Int32) (x5 : Int32) (x6 : Int32) (x7 : Int32)  (y : Int32 × Hp), f_Mod_imageOf_17  n sg x1 x4 x5 x6 x7 = some y → Go (d + 1) none 142 17 [(0, .ref 46), (1, .int x1), (4, .int x4), (5, .int x5), (6, .int x6), (7, .int x7)] [] sg (some (.int y.1)) y.2 := by
  intro n
  induction n with
  | zero =>
    intro sg x1 x4 x5 x6 x7 y h
    rw [f_Mod_imageOf_17] at h
    cases h
  | succ n ih =>
    intro sg x1 x4 x5 x6 x7 y h
    rw [f_Mod_imageOf_17] at h
    refine G_iload rfl rfl ?_
    refine G_iconst (3 : Int32) rfl (by decide) ?_
    refine G_ic_ge 73 rfl rfl (fun hc => ?_) (fun hc => ?_)
    · rw [if_pos hc] at h
      refine G_iload rfl rfl ?_
      obtain rfl := Option.some.inj h
      exact G_iret rfl rfl
    · rw [if_neg hc] at h
      refine G_iload rfl rfl ?_
      refine G_aload rfl rfl ?_
      refine G_getR (ci := 10) 52 rfl rfl rfl rfl rfl ?_
      refine G_iconst (3 : Int32) rfl (by decide) ?_
      refine G_iload rfl rfl ?_
      refine G_imul rfl ?_
      refine G_iload rfl rfl ?_
      refine G_iadd rfl ?_
      obtain ⟨hg2, h⟩ := if_some h
      refine G_iald rfl rfl rfl hg2 ?_
      refine G_aload rfl rfl ?_
      refine G_getR (ci := 10) 55 rfl rfl rfl rfl rfl ?_
      refine G_iload rfl rfl ?_
      refine G_iconst (9 : Int32) rfl (by decide) ?_
      refine G_iadd rfl ?_
      refine G_iload rfl rfl ?_
      refine G_iadd rfl ?_
      obtain ⟨hg3, h⟩ := if_some h
      refine G_iald rfl rfl rfl hg3 ?_
      refine G_isub rfl ?_
      refine G_aload rfl rfl ?_
      refine G_getR (ci := 10) 55 rfl rfl rfl rfl rfl ?_
      refine G_iload rfl rfl ?_
      refine G_iload rfl rfl ?_
      refine G_iadd rfl ?_
      refine G_iload rfl rfl ?_
      refine G_iadd rfl ?_
      obtain ⟨hg4, h⟩ := if_some h
      refine G_iald rfl rfl rfl hg4 ?_
      refine G_imul rfl ?_
      refine G_iadd rfl ?_
      refine G_istore rfl rfl ?_
      refine G_iinc (1 : Int32) rfl (by decide) rfl rfl ?_
      refine G_goto 17 rfl rfl ?_
      exact Go.weak' (ih _ _ _ _ _ _  _ h) ⟨rfl, rfl, rfl, rfl, rfl, rfl, trivial⟩
set_option maxRecDepth 100000 in
set_option maxHeartbeats 4000000 in
theorem t_Mod_imageOf (d : Nat) (sg : Hp) (x1 : Int32) (x2 : Int32) (x3 : Int32) (x4 : Int32)  (y : Int32 × Hp) (h : f_Mod_imageOf sg x1 x2 x3 x4 = some y) : Sm (d + 1) 142 [.ref 46, .int x1, .int x2, .int x3, .int x4] sg (some (.int y.1)) y.2 := by
  unfold f_Mod_imageOf at h
  refine Sm.of (lv := [(0, .ref 46), (1, .int x1), (2, .int x2), (3, .int x3), (4, .int x4)]) rfl ?_
  refine G_iconst (14 : Int32) rfl (by decide) ?_
  refine G_iload rfl rfl ?_
  refine G_imul rfl ?_
  refine G_istore rfl rfl ?_
  refine G_aload rfl rfl ?_
  refine G_iload rfl rfl ?_
  refine G_iload rfl rfl ?_
  obtain ⟨y1, hy1, h⟩ := Option.bind_eq_some_iff.mp h
  refine G_callvI 3 (t_Mod_southWest _ _ _ _  _ hy1) rfl rfl rfl rfl rfl rfl rfl rfl rfl rfl rfl ?_
  refine G_istore rfl rfl ?_
  refine G_iconst (0 : Int32) rfl (by decide) ?_
  refine G_istore rfl rfl ?_
  exact Go.weak' (t_Mod_imageOf_17 d  _ _ _ _ _ _ _  _ h) ⟨rfl, rfl, rfl, rfl, rfl, rfl, trivial⟩
set_option maxRecDepth 100000 in
set_option maxHeartbeats 4000000 in
theorem t_Mod_liesAt (d : Nat) (sg : Hp) (x1 : Int32) (x2 : Int32) (x3 : Int32)  (y : Int32 × Hp) (h : f_Mod_liesAt sg x1 x2 x3 = some y) : Sm (d + 2) 141 [.ref 46, .int x1, .int x2, .int x3] sg (some (.int y.1)) y.2 := by
  unfold f_Mod_liesAt at h
  refine Sm.of (lv := [(0, .ref 46), (1, .int x1), (2, .int x2), (3, .int x3)]) rfl ?_
  refine G_aload rfl rfl ?_
  refine G_iload rfl rfl ?_
  refine G_iload rfl rfl ?_
  refine G_iload rfl rfl ?_
  refine G_iconst (3 : Int32) rfl (by decide) ?_
  refine G_iload rfl rfl ?_
  refine G_imul rfl ?_
  obtain ⟨y1, hy1, h⟩ := Option.bind_eq_some_iff.mp h
  refine G_callvI 5 (t_Mod_imageOf _ _ _ _ _ _  _ hy1) rfl rfl rfl rfl rfl rfl rfl rfl rfl rfl rfl ?_
  obtain rfl := Option.some.inj h
  exact G_iret rfl rfl
set_option maxRecDepth 100000 in
set_option maxHeartbeats 4000000 in
theorem t_Mod_liesOf (d : Nat) (sg : Hp) (x1 : Int32) (x2 : Int32) (x3 : Int32)  (y : Int32 × Hp) (h : f_Mod_liesOf sg x1 x2 x3 = some y) : Sm (d + 3) 140 [.ref 46, .int x1, .int x2, .int x3] sg (some (.int y.1)) y.2 := by
  unfold f_Mod_liesOf at h
  refine Sm.of (lv := [(0, .ref 46), (1, .int x1), (2, .int x2), (3, .int x3)]) rfl ?_
  refine G_aload rfl rfl ?_
  refine G_iload rfl rfl ?_
  obtain ⟨y1, hy1, h⟩ := Option.bind_eq_some_iff.mp h
  refine G_callvV 2 (t_Mod_goesTo _ _ _  _ hy1) rfl rfl rfl rfl rfl rfl rfl rfl rfl rfl rfl ?_
  refine G_aload rfl rfl ?_
  refine G_aload rfl rfl ?_
  refine G_iload rfl rfl ?_
  obtain ⟨y2, hy2, h⟩ := Option.bind_eq_some_iff.mp h
  refine G_callvI 2 (t_Mod_faceAt _ _ _  _ hy2) rfl rfl rfl rfl rfl rfl rfl rfl rfl rfl rfl ?_
  refine G_iload rfl rfl ?_
  obtain ⟨y3, hy3, h⟩ := Option.bind_eq_some_iff.mp h
  refine G_callvI 3 (t_Mod_isOn _ _ _ _  _ hy3) rfl rfl rfl rfl rfl rfl rfl rfl rfl rfl rfl ?_
  refine G_if_eq 28 rfl rfl (fun hc => ?_) (fun hc => ?_)
  · rw [if_pos hc] at h
    refine G_iconst (-10003 : Int32) rfl (by decide) ?_
    obtain rfl := Option.some.inj h
    exact G_iret rfl rfl
  · rw [if_neg hc] at h
    refine G_aload rfl rfl ?_
    refine G_iload rfl rfl ?_
    refine G_iload rfl rfl ?_
    refine G_iload rfl rfl ?_
    obtain ⟨y4, hy4, h⟩ := Option.bind_eq_some_iff.mp h
    refine G_callvI 4 (t_Mod_liesAt _ _ _ _ _  _ hy4) rfl rfl rfl rfl rfl rfl rfl rfl rfl rfl rfl ?_
    refine G_goto 31 rfl rfl ?_
    obtain rfl := Option.some.inj h
    exact G_iret rfl rfl
set_option maxRecDepth 100000 in
set_option maxHeartbeats 4000000 in
theorem t_Mod_lies (d : Nat) (sg : Hp) (x1 : Int32) (x2 : Int32) (x3 : Int32)  (y : Int32 × Hp) (h : f_Mod_lies sg x1 x2 x3 = some y) : Sm (d + 4) 139 [.ref 46, .int x1, .int x2, .int x3] sg (some (.int y.1)) y.2 := by
  unfold f_Mod_lies at h
  refine Sm.of (lv := [(0, .ref 46), (1, .int x1), (2, .int x2), (3, .int x3)]) rfl ?_
  refine G_iload rfl rfl ?_
  obtain ⟨y1, hy1, h⟩ := Option.bind_eq_some_iff.mp h
  refine G_callsI 1 (t_Mod_isPlace _ _ _  _ hy1) rfl rfl rfl rfl rfl rfl rfl rfl rfl ?_
  refine G_if_eq 38 rfl rfl (fun hc => ?_) (fun hc => ?_)
  · rw [if_pos hc] at h
    refine G_iconst (-10002 : Int32) rfl (by decide) ?_
    obtain rfl := Option.some.inj h
    exact G_iret rfl rfl
  · rw [if_neg hc] at h
    refine G_iload rfl rfl ?_
    refine G_i2l rfl ?_
    refine G_lconst (0 : Int64) rfl (by decide) ?_
    refine G_aload rfl rfl ?_
    obtain ⟨y2, hy2, h⟩ := Option.bind_eq_some_iff.mp h
    refine G_callvI 1 (t_Mod_rolls _ _   _ hy2) rfl rfl rfl rfl rfl rfl rfl rfl rfl rfl rfl ?_
    refine G_i2l rfl ?_
    obtain ⟨y3, hy3, h⟩ := Option.bind_eq_some_iff.mp h
    refine G_callsI 3 (t_Mod_in _ _ _ _ _  _ hy3) rfl rfl rfl rfl rfl rfl rfl rfl rfl ?_
    refine G_if_eq 38 rfl rfl (fun hc => ?_) (fun hc => ?_)
    · rw [if_pos hc] at h
      refine G_iconst (-10002 : Int32) rfl (by decide) ?_
      obtain rfl := Option.some.inj h
      exact G_iret rfl rfl
    · rw [if_neg hc] at h
      refine G_iload rfl rfl ?_
      obtain ⟨y4, hy4, h⟩ := Option.bind_eq_some_iff.mp h
      refine G_callsI 1 (t_Mod_isTwo _ _ _  _ hy4) rfl rfl rfl rfl rfl rfl rfl rfl rfl ?_
      refine G_if_eq 38 rfl rfl (fun hc => ?_) (fun hc => ?_)
      · rw [if_pos hc] at h
        refine G_iconst (-10002 : Int32) rfl (by decide) ?_
        obtain rfl := Option.some.inj h
        exact G_iret rfl rfl
      · rw [if_neg hc] at h
        refine G_aload rfl rfl ?_
        refine G_iload rfl rfl ?_
        refine G_iload rfl rfl ?_
        refine G_iload rfl rfl ?_
        obtain ⟨y5, hy5, h⟩ := Option.bind_eq_some_iff.mp h
        refine G_callvI 4 (t_Mod_liesOf _ _ _ _ _  _ hy5) rfl rfl rfl rfl rfl rfl rfl rfl rfl rfl rfl ?_
        refine G_goto 41 rfl rfl ?_
        obtain rfl := Option.some.inj h
        exact G_iret rfl rfl
set_option maxRecDepth 100000 in
set_option maxHeartbeats 4000000 in
theorem t_Line_begin (d : Nat) (sg : Hp) (a0 : Nat) (x1 : Int32) (x2 : Int32) (h0 : clsOf a0 = 0) (y : Hp) (h : f_Line_begin sg a0 x1 x2 = some y) : Sm (d + 0) 51 [.ref a0, .int x1, .int x2] sg none y := by
  unfold f_Line_begin at h
  refine Sm.of (lv := [(0, .ref a0), (1, .int x1), (2, .int x2)]) rfl ?_
  refine G_aload rfl rfl ?_
  refine G_iload rfl rfl ?_
  obtain ⟨s1, hs1, h⟩ := Option.bind_eq_some_iff.mp h
  refine G_putI (ci := 0) 0 rfl h0 rfl rfl rfl (Option.some.inj hs1) ?_
  refine G_aload rfl rfl ?_
  refine G_iload rfl rfl ?_
  obtain ⟨s2, hs2, h⟩ := Option.bind_eq_some_iff.mp h
  refine G_putI (ci := 0) 1 rfl h0 rfl rfl rfl (Option.some.inj hs2) ?_
  obtain rfl := Option.some.inj h
  exact G_vret rfl rfl
set_option maxRecDepth 100000 in
set_option maxHeartbeats 4000000 in
theorem t_Line_end (d : Nat) (sg : Hp) (a0 : Nat) (x1 : Int32) (x2 : Int32) (h0 : clsOf a0 = 0) (y : Hp) (h : f_Line_end sg a0 x1 x2 = some y) : Sm (d + 0) 52 [.ref a0, .int x1, .int x2] sg none y := by
  unfold f_Line_end at h
  refine Sm.of (lv := [(0, .ref a0), (1, .int x1), (2, .int x2)]) rfl ?_
  refine G_aload rfl rfl ?_
  refine G_iload rfl rfl ?_
  obtain ⟨s1, hs1, h⟩ := Option.bind_eq_some_iff.mp h
  refine G_putI (ci := 0) 2 rfl h0 rfl rfl rfl (Option.some.inj hs1) ?_
  refine G_aload rfl rfl ?_
  refine G_iload rfl rfl ?_
  obtain ⟨s2, hs2, h⟩ := Option.bind_eq_some_iff.mp h
  refine G_putI (ci := 0) 3 rfl h0 rfl rfl rfl (Option.some.inj hs2) ?_
  obtain rfl := Option.some.inj h
  exact G_vret rfl rfl
set_option maxRecDepth 100000 in
set_option maxHeartbeats 4000000 in
theorem t_Line_square (d : Nat) (sg : Hp) (a0 : Nat) (h0 : clsOf a0 = 0) (y : Int32 × Hp) (h : f_Line_square sg a0 = some y) : Sm (d + 0) 53 [.ref a0] sg (some (.int y.1)) y.2 := by
  unfold f_Line_square at h
  refine Sm.of (lv := [(0, .ref a0)]) rfl ?_
  refine G_aload rfl rfl ?_
  refine G_getI (ci := 0) 2 rfl h0 rfl rfl rfl ?_
  refine G_aload rfl rfl ?_
  refine G_getI (ci := 0) 0 rfl h0 rfl rfl rfl ?_
  refine G_isub rfl ?_
  refine G_aload rfl rfl ?_
  refine G_getI (ci := 0) 2 rfl h0 rfl rfl rfl ?_
  refine G_aload rfl rfl ?_
  refine G_getI (ci := 0) 0 rfl h0 rfl rfl rfl ?_
  refine G_isub rfl ?_
  refine G_imul rfl ?_
  refine G_aload rfl rfl ?_
  refine G_getI (ci := 0) 3 rfl h0 rfl rfl rfl ?_
  refine G_aload rfl rfl ?_
  refine G_getI (ci := 0) 1 rfl h0 rfl rfl rfl ?_
  refine G_isub rfl ?_
  refine G_aload rfl rfl ?_
  refine G_getI (ci := 0) 3 rfl h0 rfl rfl rfl ?_
  refine G_aload rfl rfl ?_
  refine G_getI (ci := 0) 1 rfl h0 rfl rfl rfl ?_
  refine G_isub rfl ?_
  refine G_imul rfl ?_
  refine G_iadd rfl ?_
  obtain rfl := Option.some.inj h
  exact G_iret rfl rfl
set_option maxRecDepth 100000 in
set_option maxHeartbeats 4000000 in
theorem t_Line_meets_230 (d : Nat)   (sg : Hp) (x4 : Int32) (x5 : Int32) (x6 : Int32) (x7 : Int32) (x8 : Int32)  (y : Int32 × Hp) (h : f_Line_meets_230  sg x4 x5 x6 x7 x8 = some y) : Go (d + 0) none 54 230 [(4, .int x4), (5, .int x5), (6, .int x6), (7, .int x7), (8, .int x8)] [] sg (some (.int y.1)) y.2 := by
  unfold f_Line_meets_230 at h
  refine G_iload rfl rfl ?_
  refine G_iload rfl rfl ?_
  refine G_imul rfl ?_
  refine G_istore rfl rfl ?_
  refine G_iload rfl rfl ?_
  refine G_if_lt 273 rfl rfl (fun hc => ?_) (fun hc => ?_)
  · rw [if_pos hc] at h
    refine G_iconst (0 : Int32) rfl (by decide) ?_
    obtain rfl := Option.some.inj h
    exact G_iret rfl rfl
  · rw [if_neg hc] at h
    refine G_iload rfl rfl ?_
    refine G_iload rfl rfl ?_
    refine G_ic_gt 273 rfl rfl (fun hc => ?_) (fun hc => ?_)
    · rw [if_pos hc] at h
      refine G_iconst (0 : Int32) rfl (by decide) ?_
      obtain rfl := Option.some.inj h
      exact G_iret rfl rfl
    · rw [if_neg hc] at h
      refine G_iload rfl rfl ?_
      refine G_iload rfl rfl ?_
      refine G_imul rfl ?_
      refine G_iload rfl rfl ?_
      refine G_ic_gt 273 rfl rfl (fun hc => ?_) (fun hc => ?_)
      · rw [if_pos hc] at h
        refine G_iconst (0 : Int32) rfl (by decide) ?_
        obtain rfl := Option.some.inj h
        exact G_iret rfl rfl
      · rw [if_neg hc] at h
        refine G_iload rfl rfl ?_
        refine G_iload rfl rfl ?_
        refine G_iload rfl rfl ?_
        refine G_imul rfl ?_
        refine G_ic_gt 273 rfl rfl (fun hc => ?_) (fun hc => ?_)
        · rw [if_pos hc] at h
          refine G_iconst (0 : Int32) rfl (by decide) ?_
          obtain rfl := Option.some.inj h
          exact G_iret rfl rfl
        · rw [if_neg hc] at h
          refine G_iconst (1 : Int32) rfl (by decide) ?_
          refine G_goto 274 rfl rfl ?_
          obtain rfl := Option.some.inj h
          exact G_iret rfl rfl
set_option maxRecDepth 100000 in
set_option maxHeartbeats 4000000 in
theorem t_Line_meets_209 (d : Nat)   (sg : Hp)   (y : Int32 × Hp) (h : f_Line_meets_209  sg  = some y) : Go (d + 0) none 54 209 [] [] sg (some (.int y.1)) y.2 := by
  unfold f_Line_meets_209 at h
  refine G_iconst (1 : Int32) rfl (by decide) ?_
  refine G_goto 214 rfl rfl ?_
  obtain rfl := Option.some.inj h
  exact G_iret rfl rfl
set_option maxRecDepth 100000 in
set_option maxHeartbeats 4000000 in
theorem t_Line_meets_197 (d : Nat)   (sg : Hp) (x5 : Int32) (x8 : Int32)  (y : Int32 × Hp) (h : f_Line_meets_197  sg x5 x8 = some y) : Go (d + 0) none 54 197 [(5, .int x5), (8, .int x8)] [] sg (some (.int y.1)) y.2 := by
  unfold f_Line_meets_197 at h
  refine G_iload rfl rfl ?_
  refine G_if_ge 209 rfl rfl (fun hc => ?_) (fun hc => ?_)
  · rw [if_pos hc] at h
    exact Go.weak' (t_Line_meets_209 d  _   _ h) trivial
  · rw [if_neg hc] at h
    refine G_iload rfl rfl ?_
    refine G_iload rfl rfl ?_
    refine G_ic_lt 213 rfl rfl (fun hc => ?_) (fun hc => ?_)
    · rw [if_pos hc] at h
      refine G_iconst (0 : Int32) rfl (by decide) ?_
      obtain rfl := Option.some.inj h
      exact G_iret rfl rfl
    · rw [if_neg hc] at h
      exact Go.weak' (t_Line_meets_209 d  _   _ h) trivial
set_option maxRecDepth 100000 in
set_option maxHeartbeats 4000000 in
theorem t_Line_meets_175 (d : Nat)   (sg : Hp) (x4 : Int32) (x5 : Int32) (x6 : Int32) (x7 : Int32) (x8 : Int32)  (y : Int32 × Hp) (h : f_Line_meets_175  sg x4 x5 x6 x7 x8 = some y) : Go (d + 0) none 54 175 [(4, .int x4), (5, .int x5), (6, .int x6), (7, .int x7), (8, .int x8)] [] sg (some (.int y.1)) y.2 := by
  unfold f_Line_meets_175 at h
  refine G_iload rfl rfl ?_
  refine G_if_ne 215 rfl rfl (fun hc => ?_) (fun hc => ?_)
  · rw [if_neg hc] at h
    refine G_iload rfl rfl ?_
    refine G_if_ge 230 rfl rfl (fun hc => ?_) (fun hc => ?_)
    · rw [if_pos hc] at h
      exact Go.weak' (t_Line_meets_230 d  _ _ _ _ _ _  _ h) ⟨rfl, rfl, rfl, rfl, rfl, trivial⟩
    · rw [if_neg hc] at h
      refine G_iload rfl rfl ?_
      refine G_ineg rfl ?_
      refine G_istore rfl rfl ?_
      refine G_iload rfl rfl ?_
      refine G_ineg rfl ?_
      refine G_istore rfl rfl ?_
      exact Go.weak' (t_Line_meets_230 d  _ _ _ _ _ _  _ h) ⟨rfl, rfl, rfl, rfl, rfl, trivial⟩
  · rw [if_pos hc] at h
    refine G_iload rfl rfl ?_
    refine G_if_ne 213 rfl rfl (fun hc => ?_) (fun hc => ?_)
    · rw [if_neg hc] at h
      refine G_iconst (0 : Int32) rfl (by decide) ?_
      obtain rfl := Option.some.inj h
      exact G_iret rfl rfl
    · rw [if_pos hc] at h
      refine G_iload rfl rfl ?_
      refine G_if_le 197 rfl rfl (fun hc => ?_) (fun hc => ?_)
      · rw [if_pos hc] at h
        exact Go.weak' (t_Line_meets_197 d  _ _ _  _ h) ⟨rfl, rfl, trivial⟩
      · rw [if_neg hc] at h
        refine G_iload rfl rfl ?_
        refine G_iload rfl rfl ?_
        refine G_ic_gt 213 rfl rfl (fun hc => ?_) (fun hc => ?_)
        · rw [if_pos hc] at h
          refine G_iconst (0 : Int32) rfl (by decide) ?_
          obtain rfl := Option.some.inj h
          exact G_iret rfl rfl
        · rw [if_neg hc] at h
          exact Go.weak' (t_Line_meets_197 d  _ _ _  _ h) ⟨rfl, rfl, trivial⟩
set_option maxRecDepth 100000 in
set_option maxHeartbeats 4000000 in
theorem t_Line_meets_141 (d : Nat)   (sg : Hp) (a1 : Nat) (x2 : Int32) (x4 : Int32) (x5 : Int32) (x6 : Int32) (x7 : Int32) (xs0 : Int32) (xs1 : Int32) (h1 : clsOf a1 = 6) (y : Int32 × Hp) (h : f_Line_meets_141  sg a1 x2 x4 x5 x6 x7 xs0 xs1 = some y) : Go (d + 0) none 54 141 [(1, .ref a1), (2, .int x2), (4, .int x4), (5, .int x5), (6, .int x6), (7, .int x7)] [.int xs1, .int xs0] sg (some (.int y.1)) y.2 := by
  unfold f_Line_meets_141 at h
  refine G_iadd rfl ?_
  refine G_istore rfl rfl ?_
  refine G_iload rfl rfl ?_
  refine G_iconst (1 : Int32) rfl (by decide) ?_
  refine G_ic_ne 161 rfl rfl (fun hc => ?_) (fun hc => ?_)
  · rw [if_neg hc] at h
    refine G_iload rfl rfl ?_
    refine G_iconst (3 : Int32) rfl (by decide) ?_
    refine G_ic_ne 175 rfl rfl (fun hc => ?_) (fun hc => ?_)
    · rw [if_neg hc] at h
      exact Go.weak' (t_Line_meets_175 d  _ _ _ _ _ _  _ h) ⟨rfl, rfl, rfl, rfl, rfl, trivial⟩
    · rw [if_pos hc] at h
      refine G_iload rfl rfl ?_
      refine G_aload rfl rfl ?_
      refine G_getI (ci := 6) 6 rfl h1 rfl rfl rfl ?_
      refine G_iadd rfl ?_
      refine G_istore rfl rfl ?_
      exact Go.weak' (t_Line_meets_175 d  _ _ _ _ _ _  _ h) ⟨rfl, rfl, rfl, rfl, rfl, trivial⟩
  · rw [if_pos hc] at h
    refine G_iload rfl rfl ?_
    refine G_aload rfl rfl ?_
    refine G_getI (ci := 6) 5 rfl h1 rfl rfl rfl ?_
    refine G_iadd rfl ?_
    refine G_istore rfl rfl ?_
    refine G_goto 175 rfl rfl ?_
    exact Go.weak' (t_Line_meets_175 d  _ _ _ _ _ _  _ h) ⟨rfl, rfl, rfl, rfl, rfl, trivial⟩
set_option maxRecDepth 100000 in
set_option maxHeartbeats 4000000 in
theorem t_Line_meets_122 (d : Nat)   (sg : Hp) (a1 : Nat) (x2 : Int32) (x3 : Int32) (x4 : Int32) (x5 : Int32) (x6 : Int32) (xs0 : Int32) (h1 : clsOf a1 = 6) (y : Int32 × Hp) (h : f_Line_meets_122  sg a1 x2 x3 x4 x5 x6 xs0 = some y) : Go (d + 0) none 54 122 [(1, .ref a1), (2, .int x2), (3, .int x3), (4, .int x4), (5, .int x5), (6, .int x6)] [.int xs0] sg (some (.int y.1)) y.2 := by
  unfold f_Line_meets_122 at h
  refine G_istore rfl rfl ?_
  refine G_iload rfl rfl ?_
  refine G_iload rfl rfl ?_
  refine G_if_eq 137 rfl rfl (fun hc => ?_) (fun hc => ?_)
  · rw [if_pos hc] at h
    refine G_aload rfl rfl ?_
    refine G_getI (ci := 6) 5 rfl h1 rfl rfl rfl ?_
    exact Go.weak' (t_Line_meets_141 d  _ _ _ _ _ _ _ _ _ h1 _ h) ⟨rfl, rfl, rfl, rfl, rfl, rfl, trivial⟩
  · rw [if_neg hc] at h
    refine G_aload rfl rfl ?_
    refine G_getI (ci := 6) 6 rfl h1 rfl rfl rfl ?_
    refine G_goto 141 rfl rfl ?_
    exact Go.weak' (t_Line_meets_141 d  _ _ _ _ _ _ _ _ _ h1 _ h) ⟨rfl, rfl, rfl, rfl, rfl, rfl, trivial⟩
set_option maxRecDepth 100000 in
set_option maxHeartbeats 4000000 in
theorem t_Line_meets_95 (d : Nat)   (sg : Hp) (a0 : Nat) (a1 : Nat) (x2 : Int32) (x3 : Int32) (x4 : Int32) (x5 : Int32) (xs0 : Int32) (h0 : clsOf a0 = 0) (h1 : clsOf a1 = 6) (y : Int32 × Hp) (h : f_Line_meets_95  sg a0 a1 x2 x3 x4 x5 xs0 = some y) : Go (d + 0) none 54 95 [(0, .ref a0), (1, .ref a1), (2, .int x2), (3, .int x3), (4, .int x4), (5, .int x5)] [.int xs0] sg (some (.int y.1)) y.2 := by
  unfold f_Line_meets_95 at h
  refine G_istore rfl rfl ?_
  refine G_iload rfl rfl ?_
  refine G_if_eq 113 rfl rfl (fun hc => ?_) (fun hc => ?_)
  · rw [if_pos hc] at h
    refine G_aload rfl rfl ?_
    refine G_getI (ci := 6) 3 rfl h1 rfl rfl rfl ?_
    refine G_aload rfl rfl ?_
    refine G_getI (ci := 0) 0 rfl h0 rfl rfl rfl ?_
    refine G_isub rfl ?_
    exact Go.weak' (t_Line_meets_122 d  _ _ _ _ _ _ _ _ h1 _ h) ⟨rfl, rfl, rfl, rfl, rfl, rfl, trivial⟩
  · rw [if_neg hc] at h
    refine G_aload rfl rfl ?_
    refine G_getI (ci := 6) 4 rfl h1 rfl rfl rfl ?_
    refine G_aload rfl rfl ?_
    refine G_getI (ci := 0) 1 rfl h0 rfl rfl rfl ?_
    refine G_isub rfl ?_
    refine G_goto 122 rfl rfl ?_
    exact Go.weak' (t_Line_meets_122 d  _ _ _ _ _ _ _ _ h1 _ h) ⟨rfl, rfl, rfl, rfl, rfl, rfl, trivial⟩
set_option maxRecDepth 100000 in
set_option maxHeartbeats 4000000 in
theorem t_Line_meets_68 (d : Nat)   (sg : Hp) (a0 : Nat) (a1 : Nat) (x2 : Int32) (x3 : Int32) (x4 : Int32) (xs0 : Int32) (h0 : clsOf a0 = 0) (h1 : clsOf a1 = 6) (y : Int32 × Hp) (h : f_Line_meets_68  sg a0 a1 x2 x3 x4 xs0 = some y) : Go (d + 0) none 54 68 [(0, .ref a0), (1, .ref a1), (2, .int x2), (3, .int x3), (4, .int x4)] [.int xs0] sg (some (.int y.1)) y.2 := by
  unfold f_Line_meets_68 at h
  refine G_istore rfl rfl ?_
  refine G_iload rfl rfl ?_
  refine G_if_eq 86 rfl rfl (fun hc => ?_) (fun hc => ?_)
  · rw [if_pos hc] at h
    refine G_aload rfl rfl ?_
    refine G_getI (ci := 6) 4 rfl h1 rfl rfl rfl ?_
    refine G_aload rfl rfl ?_
    refine G_getI (ci := 0) 1 rfl h0 rfl rfl rfl ?_
    refine G_isub rfl ?_
    exact Go.weak' (t_Line_meets_95 d  _ _ _ _ _ _ _ _ h0 h1 _ h) ⟨rfl, rfl, rfl, rfl, rfl, rfl, trivial⟩
  · rw [if_neg hc] at h
    refine G_aload rfl rfl ?_
    refine G_getI (ci := 6) 3 rfl h1 rfl rfl rfl ?_
    refine G_aload rfl rfl ?_
    refine G_getI (ci := 0) 0 rfl h0 rfl rfl rfl ?_
    refine G_isub rfl ?_
    refine G_goto 95 rfl rfl ?_
    exact Go.weak' (t_Line_meets_95 d  _ _ _ _ _ _ _ _ h0 h1 _ h) ⟨rfl, rfl, rfl, rfl, rfl, rfl, trivial⟩
set_option maxRecDepth 100000 in
set_option maxHeartbeats 4000000 in
theorem t_Line_meets_41 (d : Nat)   (sg : Hp) (a0 : Nat) (a1 : Nat) (x2 : Int32) (x3 : Int32) (xs0 : Int32) (h0 : clsOf a0 = 0) (h1 : clsOf a1 = 6) (y : Int32 × Hp) (h : f_Line_meets_41  sg a0 a1 x2 x3 xs0 = some y) : Go (d + 0) none 54 41 [(0, .ref a0), (1, .ref a1), (2, .int x2), (3, .int x3)] [.int xs0] sg (some (.int y.1)) y.2 := by
  unfold f_Line_meets_41 at h
  refine G_istore rfl rfl ?_
  refine G_iload rfl rfl ?_
  refine G_if_eq 59 rfl rfl (fun hc => ?_) (fun hc => ?_)
  · rw [if_pos hc] at h
    refine G_aload rfl rfl ?_
    refine G_getI (ci := 0) 2 rfl h0 rfl rfl rfl ?_
    refine G_aload rfl rfl ?_
    refine G_getI (ci := 0) 0 rfl h0 rfl rfl rfl ?_
    refine G_isub rfl ?_
    exact Go.weak' (t_Line_meets_68 d  _ _ _ _ _ _ _ h0 h1 _ h) ⟨rfl, rfl, rfl, rfl, rfl, trivial⟩
  · rw [if_neg hc] at h
    refine G_aload rfl rfl ?_
    refine G_getI (ci := 0) 3 rfl h0 rfl rfl rfl ?_
    refine G_aload rfl rfl ?_
    refine G_getI (ci := 0) 1 rfl h0 rfl rfl rfl ?_
    refine G_isub rfl ?_
    refine G_goto 68 rfl rfl ?_
    exact Go.weak' (t_Line_meets_68 d  _ _ _ _ _ _ _ h0 h1 _ h) ⟨rfl, rfl, rfl, rfl, rfl, trivial⟩
set_option maxRecDepth 100000 in
set_option maxHeartbeats 4000000 in
theorem t_Line_meets_15 (d : Nat)   (sg : Hp) (a0 : Nat) (a1 : Nat) (x2 : Int32) (xs0 : Int32) (h0 : clsOf a0 = 0) (h1 : clsOf a1 = 6) (y : Int32 × Hp) (h : f_Line_meets_15  sg a0 a1 x2 xs0 = some y) : Go (d + 0) none 54 15 [(0, .ref a0), (1, .ref a1), (2, .int x2)] [.int xs0] sg (some (.int y.1)) y.2 := by
  unfold f_Line_meets_15 at h
  refine G_istore rfl rfl ?_
  refine G_iload rfl rfl ?_
  refine G_if_eq 32 rfl rfl (fun hc => ?_) (fun hc => ?_)
  · rw [if_pos hc] at h
    refine G_aload rfl rfl ?_
    refine G_getI (ci := 0) 3 rfl h0 rfl rfl rfl ?_
    refine G_aload rfl rfl ?_
    refine G_getI (ci := 0) 1 rfl h0 rfl rfl rfl ?_
    refine G_isub rfl ?_
    exact Go.weak' (t_Line_meets_41 d  _ _ _ _ _ _ h0 h1 _ h) ⟨rfl, rfl, rfl, rfl, trivial⟩
  · rw [if_neg hc] at h
    refine G_aload rfl rfl ?_
    refine G_getI (ci := 0) 2 rfl h0 rfl rfl rfl ?_
    refine G_aload rfl rfl ?_
    refine G_getI (ci := 0) 0 rfl h0 rfl rfl rfl ?_
    refine G_isub rfl ?_
    refine G_goto 41 rfl rfl ?_
    exact Go.weak' (t_Line_meets_41 d  _ _ _ _ _ _ h0 h1 _ h) ⟨rfl, rfl, rfl, rfl, trivial⟩
set_option maxRecDepth 100000 in
set_option maxHeartbeats 4000000 in
theorem t_Line_meets_10 (d : Nat)   (sg : Hp) (a0 : Nat) (a1 : Nat) (x2 : Int32) (h0 : clsOf a0 = 0) (h1 : clsOf a1 = 6) (y : Int32 × Hp) (h : f_Line_meets_10  sg a0 a1 x2 = some y) : Go (d + 0) none 54 10 [(0, .ref a0), (1, .ref a1), (2, .int x2)] [] sg (some (.int y.1)) y.2 := by
  unfold f_Line_meets_10 at h
  refine G_iconst (1 : Int32) rfl (by decide) ?_
  refine G_goto 15 rfl rfl ?_
  exact Go.weak' (t_Line_meets_15 d  _ _ _ _ _ h0 h1 _ h) ⟨rfl, rfl, rfl, trivial⟩
set_option maxRecDepth 100000 in
set_option maxHeartbeats 4000000 in
theorem t_Line_meets (d : Nat) (sg : Hp) (a0 : Nat) (a1 : Nat) (x2 : Int32) (h0 : clsOf a0 = 0) (h1 : clsOf a1 = 6) (y : Int32 × Hp) (h : f_Line_meets sg a0 a1 x2 = some y) : Sm (d + 0) 54 [.ref a0, .ref a1, .int x2] sg (some (.int y.1)) y.2 := by
  unfold f_Line_meets at h
  refine Sm.of (lv := [(0, .ref a0), (1, .ref a1), (2, .int x2)]) rfl ?_
  refine G_iload rfl rfl ?_
  refine G_iconst (1 : Int32) rfl (by decide) ?_
  refine G_ic_eq 10 rfl rfl (fun hc => ?_) (fun hc => ?_)
  · rw [if_pos hc] at h
    exact Go.weak' (t_Line_meets_10 d  _ _ _ _ h0 h1 _ h) ⟨rfl, rfl, rfl, trivial⟩
  · rw [if_neg hc] at h
    refine G_iload rfl rfl ?_
    refine G_iconst (2 : Int32) rfl (by decide) ?_
    refine G_ic_ne 14 rfl rfl (fun hc => ?_) (fun hc => ?_)
    · rw [if_neg hc] at h
      refine G_iconst (0 : Int32) rfl (by decide) ?_
      exact Go.weak' (t_Line_meets_15 d  _ _ _ _ _ h0 h1 _ h) ⟨rfl, rfl, rfl, trivial⟩
    · rw [if_pos hc] at h
      exact Go.weak' (t_Line_meets_10 d  _ _ _ _ h0 h1 _ h) ⟨rfl, rfl, rfl, trivial⟩
set_option maxRecDepth 100000 in
set_option maxHeartbeats 4000000 in
theorem t_Search_packedRow_4 (d : Nat)   : ∀ (n : Nat) (sg : Hp) (x1 : Int32) (x2 : Int32) (x3 : Int32)  (y : Int32 × Hp), f_Search_packedRow_4  n sg x1 x2 x3 = some y → Go (d + 0) none 55 4 [(0, .ref 11), (1, .int x1), (2, .int x2), (3, .int x3)] [] sg (some (.int y.1)) y.2 := by
  intro n
  induction n with
  | zero =>
    intro sg x1 x2 x3 y h
    rw [f_Search_packedRow_4] at h
    cases h
  | succ n ih =>
    intro sg x1 x2 x3 y h
    rw [f_Search_packedRow_4] at h
    refine G_iload rfl rfl ?_
    refine G_iload rfl rfl ?_
    refine G_ic_gt 33 rfl rfl (fun hc => ?_) (fun hc => ?_)
    · rw [if_pos hc] at h
      refine G_iload rfl rfl ?_
      obtain rfl := Option.some.inj h
      exact G_iret rfl rfl
    · rw [if_neg hc] at h
      refine G_iload rfl rfl ?_
      refine G_aload rfl rfl ?_
      refine G_getR (ci := 3) 17 rfl rfl rfl rfl rfl ?_
      refine G_iload rfl rfl ?_
      obtain ⟨hg1, h⟩ := if_some h
      refine G_aald (t := 21) rfl rfl (Or.inl rfl) rfl hg1 ?_
      refine G_getI (ci := 6) 0 rfl (rt_el21 (a := 17) rfl (inb_lt hg1)) rfl rfl rfl ?_
      refine G_iconst (1 : Int32) rfl (by decide) ?_
      refine G_iadd rfl ?_
      refine G_iconst (3 : Int32) rfl (by decide) ?_
      refine G_iload rfl rfl ?_
      refine G_imul rfl ?_
      refine G_ishl rfl ?_
      refine G_ior rfl ?_
      refine G_istore rfl rfl ?_
      refine G_iinc (1 : Int32) rfl (by decide) rfl rfl ?_
      refine G_goto 4 rfl rfl ?_
      exact Go.weak' (ih _ _ _ _  _ h) ⟨rfl, rfl, rfl, rfl, trivial⟩
set_option maxRecDepth 100000 in
set_option maxHeartbeats 4000000 in
theorem t_Search_packedRow (d : Nat) (sg : Hp) (x1 : Int32)  (y : Int32 × Hp) (h : f_Search_packedRow sg x1 = some y) : Sm (d + 0) 55 [.ref 11, .int x1] sg (some (.int y.1)) y.2 := by
  unfold f_Search_packedRow at h
  refine Sm.of (lv := [(0, .ref 11), (1, .int x1)]) rfl ?_
  refine G_iconst (0 : Int32) rfl (by decide) ?_
  refine G_istore rfl rfl ?_
  refine G_iconst (0 : Int32) rfl (by decide) ?_
  refine G_istore rfl rfl ?_
  exact Go.weak' (t_Search_packedRow_4 d  _ _ _ _ _  _ h) ⟨rfl, rfl, rfl, rfl, trivial⟩
set_option maxRecDepth 100000 in
set_option maxHeartbeats 4000000 in
theorem t_Search_weigh_181 (d : Nat)   (sg : Hp) (x1 : Int32) (x2 : Int32)  (y : Hp) (h : f_Search_weigh_181  sg x1 x2 = some y) : Go (d + 1) none 50 181 [(0, .ref 11), (1, .int x1), (2, .int x2)] [] sg none y := by
  unfold f_Search_weigh_181 at h
  refine G_aload rfl rfl ?_
  refine G_iload rfl rfl ?_
  obtain ⟨s11, hs11, h⟩ := Option.bind_eq_some_iff.mp h
  refine G_putI (ci := 3) 7 rfl rfl rfl rfl rfl (Option.some.inj hs11) ?_
  refine G_aload rfl rfl ?_
  refine G_iload rfl rfl ?_
  refine G_iconst (1 : Int32) rfl (by decide) ?_
  refine G_iadd rfl ?_
  obtain ⟨s12, hs12, h⟩ := Option.bind_eq_some_iff.mp h
  refine G_putI (ci := 3) 10 rfl rfl rfl rfl rfl (Option.some.inj hs12) ?_
  refine G_aload rfl rfl ?_
  refine G_aload rfl rfl ?_
  refine G_iload rfl rfl ?_
  obtain ⟨y13, hy13, h⟩ := Option.bind_eq_some_iff.mp h
  refine G_callvI 2 (t_Search_packedRow _ _ _  _ hy13) rfl rfl rfl rfl rfl rfl rfl rfl rfl rfl rfl ?_
  obtain ⟨s14, hs14, h⟩ := Option.bind_eq_some_iff.mp h
  refine G_putI (ci := 3) 9 rfl rfl rfl rfl rfl (Option.some.inj hs14) ?_
  obtain rfl := Option.some.inj h
  exact G_vret rfl rfl
set_option maxRecDepth 100000 in
set_option maxHeartbeats 4000000 in
theorem t_Search_weigh_164 (d : Nat)   (sg : Hp) (x1 : Int32) (x2 : Int32) (x3 : Int32) (xs1 : Int32)  (y : Hp) (h : f_Search_weigh_164  sg x1 x2 x3 xs1 = some y) : Go (d + 1) none 50 164 [(0, .ref 11), (1, .int x1), (2, .int x2), (3, .int x3)] [.int xs1, .ref 11] sg none y := by
  unfold f_Search_weigh_164 at h
  obtain ⟨s10, hs10, h⟩ := Option.bind_eq_some_iff.mp h
  refine G_putI (ci := 3) 8 rfl rfl rfl rfl rfl (Option.some.inj hs10) ?_
  refine G_iload rfl rfl ?_
  refine G_if_ne 181 rfl rfl (fun hc => ?_) (fun hc => ?_)
  · rw [if_neg hc] at h
    exact Go.weak' (t_Search_weigh_181 d  _ _ _  _ h) ⟨rfl, rfl, rfl, trivial⟩
  · rw [if_pos hc] at h
    refine G_iload rfl rfl ?_
    refine G_iconst (1 : Int32) rfl (by decide) ?_
    refine G_iadd rfl ?_
    refine G_aload rfl rfl ?_
    refine G_getI (ci := 3) 10 rfl rfl rfl rfl rfl ?_
    refine G_ic_ge 202 rfl rfl (fun hc => ?_) (fun hc => ?_)
    · rw [if_pos hc] at h
      obtain rfl := Option.some.inj h
      exact G_vret rfl rfl
    · rw [if_neg hc] at h
      exact Go.weak' (t_Search_weigh_181 d  _ _ _  _ h) ⟨rfl, rfl, rfl, trivial⟩
set_option maxRecDepth 100000 in
set_option maxHeartbeats 4000000 in
theorem t_Search_weigh_148 (d : Nat)   (sg : Hp) (x1 : Int32) (x2 : Int32) (xs0 : Int32)  (y : Hp) (h : f_Search_weigh_148  sg x1 x2 xs0 = some y) : Go (d + 1) none 50 148 [(0, .ref 11), (1, .int x1), (2, .int x2)] [.int xs0] sg none y := by
  unfold f_Search_weigh_148 at h
  refine G_istore rfl rfl ?_
  refine G_aload rfl rfl ?_
  refine G_iload rfl rfl ?_
  refine G_if_eq 158 rfl rfl (fun hc => ?_) (fun hc => ?_)
  · rw [if_pos hc] at h
    refine G_aload rfl rfl ?_
    refine G_getI (ci := 3) 8 rfl rfl rfl rfl rfl ?_
    refine G_iconst (1 : Int32) rfl (by decide) ?_
    refine G_iadd rfl ?_
    exact Go.weak' (t_Search_weigh_164 d  _ _ _ _ _  _ h) ⟨rfl, rfl, rfl, rfl, trivial⟩
  · rw [if_neg hc] at h
    refine G_iconst (1 : Int32) rfl (by decide) ?_
    refine G_goto 164 rfl rfl ?_
    exact Go.weak' (t_Search_weigh_164 d  _ _ _ _ _  _ h) ⟨rfl, rfl, rfl, rfl, trivial⟩
set_option maxRecDepth 100000 in
set_option maxHeartbeats 4000000 in
theorem t_Search_weigh_143 (d : Nat)   (sg : Hp) (x1 : Int32) (x2 : Int32)  (y : Hp) (h : f_Search_weigh_143  sg x1 x2 = some y) : Go (d + 1) none 50 143 [(0, .ref 11), (1, .int x1), (2, .int x2)] [] sg none y := by
  unfold f_Search_weigh_143 at h
  refine G_iconst (1 : Int32) rfl (by decide) ?_
  refine G_goto 148 rfl rfl ?_
  exact Go.weak' (t_Search_weigh_148 d  _ _ _ _  _ h) ⟨rfl, rfl, rfl, trivial⟩
set_option maxRecDepth 100000 in
set_option maxHeartbeats 4000000 in
theorem t_Search_weigh_93 (d : Nat)   : ∀ (n : Nat) (sg : Hp) (x1 : Int32) (x2 : Int32) (x3 : Int32)  (y : Hp), f_Search_weigh_93  n sg x1 x2 x3 = some y → Go (d + 1) none 50 93 [(0, .ref 11), (1, .int x1), (2, .int x2), (3, .int x3)] [] sg none y := by
  intro n
  induction n with
  | zero =>
    intro sg x1 x2 x3 y h
    rw [f_Search_weigh_93] at h
    cases h
  | succ n ih =>
    intro sg x1 x2 x3 y h
    rw [f_Search_weigh_93] at h
    refine G_iload rfl rfl ?_
    refine G_iload rfl rfl ?_
    refine G_ic_ge 127 rfl rfl (fun hc => ?_) (fun hc => ?_)
    · rw [if_pos hc] at h
      refine G_aload rfl rfl ?_
      refine G_getI (ci := 3) 7 rfl rfl rfl rfl rfl ?_
      refine G_iconst (-1 : Int32) rfl (by decide) ?_
      refine G_ic_eq 143 rfl rfl (fun hc => ?_) (fun hc => ?_)
      · rw [if_pos hc] at h
        exact Go.weak' (t_Search_weigh_143 d  _ _ _  _ h) ⟨rfl, rfl, rfl, trivial⟩
      · rw [if_neg hc] at h
        refine G_iload rfl rfl ?_
        refine G_aload rfl rfl ?_
        refine G_getI (ci := 3) 7 rfl rfl rfl rfl rfl ?_
        refine G_ic_ge 147 rfl rfl (fun hc => ?_) (fun hc => ?_)
        · rw [if_pos hc] at h
          refine G_iconst (0 : Int32) rfl (by decide) ?_
          exact Go.weak' (t_Search_weigh_148 d  _ _ _ _  _ h) ⟨rfl, rfl, rfl, trivial⟩
        · rw [if_neg hc] at h
          exact Go.weak' (t_Search_weigh_143 d  _ _ _  _ h) ⟨rfl, rfl, rfl, trivial⟩
    · rw [if_neg hc] at h
      refine G_aload rfl rfl ?_
      refine G_getR (ci := 3) 16 rfl rfl rfl rfl rfl ?_
      refine G_aload rfl rfl ?_
      refine G_getR (ci := 3) 17 rfl rfl rfl rfl rfl ?_
      refine G_iload rfl rfl ?_
      obtain ⟨hg15, h⟩ := if_some h
      refine G_aald (t := 21) rfl rfl (Or.inl rfl) rfl hg15 ?_
      refine G_aload rfl rfl ?_
      refine G_getR (ci := 3) 18 rfl rfl rfl rfl rfl ?_
      refine G_iload rfl rfl ?_
      obtain ⟨hg16, h⟩ := if_some h
      refine G_iald rfl rfl rfl hg16 ?_
      obtain ⟨y17, hy17, h⟩ := Option.bind_eq_some_iff.mp h
      refine G_callvI 3 (t_Line_meets _ _ _ _ _ rfl (rt_el21 (a := 17) rfl (inb_lt hg15)) _ hy17) rfl rfl rfl rfl rfl rfl rfl rfl rfl rfl rfl ?_
      refine G_if_ne 121 rfl rfl (fun hc => ?_) (fun hc => ?_)
      · rw [if_neg hc] at h
        refine G_iinc (1 : Int32) rfl (by decide) rfl rfl ?_
        refine G_goto 93 rfl rfl ?_
        exact Go.weak' (ih _ _ _ _  _ h) ⟨rfl, rfl, rfl, rfl, trivial⟩
      · rw [if_pos hc] at h
        obtain rfl := Option.some.inj h
        exact G_vret rfl rfl
set_option maxRecDepth 100000 in
set_option maxHeartbeats 4000000 in
theorem t_Search_weigh_91 (d : Nat)   (sg : Hp) (x1 : Int32) (x2 : Int32)  (y : Hp) (h : f_Search_weigh_91  sg x1 x2 = some y) : Go (d + 1) none 50 91 [(0, .ref 11), (1, .int x1), (2, .int x2)] [] sg none y := by
  unfold f_Search_weigh_91 at h
  refine G_iconst (0 : Int32) rfl (by decide) ?_
  refine G_istore rfl rfl ?_
  exact Go.weak' (t_Search_weigh_93 d  _ _ _ _ _  _ h) ⟨rfl, rfl, rfl, rfl, trivial⟩
set_option maxRecDepth 100000 in
set_option maxHeartbeats 4000000 in
theorem t_Search_weigh (d : Nat) (sg : Hp) (x1 : Int32)  (y : Hp) (h : f_Search_weigh sg x1 = some y) : Sm (d + 1) 50 [.ref 11, .int x1] sg none y := by
  unfold f_Search_weigh at h
  refine Sm.of (lv := [(0, .ref 11), (1, .int x1)]) rfl ?_
  refine G_aload rfl rfl ?_
  refine G_getR (ci := 3) 16 rfl rfl rfl rfl rfl ?_
  refine G_aload rfl rfl ?_
  refine G_getR (ci := 3) 17 rfl rfl rfl rfl rfl ?_
  refine G_iconst (0 : Int32) rfl (by decide) ?_
  refine G_aaldL 19 rfl rfl (Or.inl rfl) rfl (by decide) rfl ?_
  refine G_aload rfl rfl ?_
  refine G_getR (ci := 3) 12 rfl rfl rfl rfl rfl ?_
  obtain ⟨y1, hy1, h⟩ := Option.bind_eq_some_iff.mp h
  refine G_callvI 2 (t_Stand_planeX _ _ _ _ rfl rfl _ hy1) rfl rfl rfl rfl rfl rfl rfl rfl rfl rfl rfl ?_
  refine G_aload rfl rfl ?_
  refine G_getR (ci := 3) 17 rfl rfl rfl rfl rfl ?_
  refine G_iconst (0 : Int32) rfl (by decide) ?_
  refine G_aaldL 19 rfl rfl (Or.inl rfl) rfl (by decide) rfl ?_
  refine G_aload rfl rfl ?_
  refine G_getR (ci := 3) 12 rfl rfl rfl rfl rfl ?_
  obtain ⟨y2, hy2, h⟩ := Option.bind_eq_some_iff.mp h
  refine G_callvI 2 (t_Stand_planeY _ _ _ _ rfl rfl _ hy2) rfl rfl rfl rfl rfl rfl rfl rfl rfl rfl rfl ?_
  obtain ⟨y3, hy3, h⟩ := Option.bind_eq_some_iff.mp h
  refine G_callvV 3 (t_Line_begin _ _ _ _ _ rfl _ hy3) rfl rfl rfl rfl rfl rfl rfl rfl rfl rfl rfl ?_
  refine G_aload rfl rfl ?_
  refine G_getR (ci := 3) 16 rfl rfl rfl rfl rfl ?_
  refine G_aload rfl rfl ?_
  refine G_getR (ci := 3) 17 rfl rfl rfl rfl rfl ?_
  refine G_iload rfl rfl ?_
  obtain ⟨hg4, h⟩ := if_some h
  refine G_aald (t := 21) rfl rfl (Or.inl rfl) rfl hg4 ?_
  refine G_aload rfl rfl ?_
  refine G_getR (ci := 3) 14 rfl rfl rfl rfl rfl ?_
  obtain ⟨y5, hy5, h⟩ := Option.bind_eq_some_iff.mp h
  refine G_callvI 2 (t_Stand_planeX _ _ _ _ (rt_el21 (a := 17) rfl (inb_lt hg4)) rfl _ hy5) rfl rfl rfl rfl rfl rfl rfl rfl rfl (rt_el21 (a := 17) rfl (inb_lt hg4)) rfl ?_
  refine G_aload rfl rfl ?_
  refine G_getR (ci := 3) 17 rfl rfl rfl rfl rfl ?_
  refine G_iload rfl rfl ?_
  obtain ⟨hg6, h⟩ := if_some h
  refine G_aald (t := 21) rfl rfl (Or.inl rfl) rfl hg6 ?_
  refine G_aload rfl rfl ?_
  refine G_getR (ci := 3) 14 rfl rfl rfl rfl rfl ?_
  obtain ⟨y7, hy7, h⟩ := Option.bind_eq_some_iff.mp h
  refine G_callvI 2 (t_Stand_planeY _ _ _ _ (rt_el21 (a := 17) rfl (inb_lt hg6)) rfl _ hy7) rfl rfl rfl rfl rfl rfl rfl rfl rfl (rt_el21 (a := 17) rfl (inb_lt hg6)) rfl ?_
  obtain ⟨y8, hy8, h⟩ := Option.bind_eq_some_iff.mp h
  refine G_callvV 3 (t_Line_end _ _ _ _ _ rfl _ hy8) rfl rfl rfl rfl rfl rfl rfl rfl rfl rfl rfl ?_
  refine G_aload rfl rfl ?_
  refine G_getR (ci := 3) 16 rfl rfl rfl rfl rfl ?_
  obtain ⟨y9, hy9, h⟩ := Option.bind_eq_some_iff.mp h
  refine G_callvI 1 (t_Line_square _ _ _ rfl _ hy9) rfl rfl rfl rfl rfl rfl rfl rfl rfl rfl rfl ?_
  refine G_istore rfl rfl ?_
  refine G_aload rfl rfl ?_
  refine G_getI (ci := 3) 7 rfl rfl rfl rfl rfl ?_
  refine G_iconst (-1 : Int32) rfl (by decide) ?_
  refine G_ic_eq 91 rfl rfl (fun hc => ?_) (fun hc => ?_)
  · rw [if_pos hc] at h
    exact Go.weak' (t_Search_weigh_91 d  _ _ _  _ h) ⟨rfl, rfl, rfl, trivial⟩
  · rw [if_neg hc] at h
    refine G_iload rfl rfl ?_
    refine G_aload rfl rfl ?_
    refine G_getI (ci := 3) 7 rfl rfl rfl rfl rfl ?_
    refine G_ic_le 91 rfl rfl (fun hc => ?_) (fun hc => ?_)
    · rw [if_pos hc] at h
      exact Go.weak' (t_Search_weigh_91 d  _ _ _  _ h) ⟨rfl, rfl, rfl, trivial⟩
    · rw [if_neg hc] at h
      obtain rfl := Option.some.inj h
      exact G_vret rfl rfl
set_option maxRecDepth 100000 in
set_option maxHeartbeats 4000000 in
theorem t_Stand_rollTo (d : Nat) (sg : Hp) (a0 : Nat) (x1 : Int32) (h0 : clsOf a0 = 6) (y : Int32 × Hp) (h : f_Stand_rollTo sg a0 x1 = some y) : Sm (d + 0) 56 [.ref a0, .int x1] sg (some (.int y.1)) y.2 := by
  unfold f_Stand_rollTo at h
  refine Sm.of (lv := [(0, .ref a0), (1, .int x1)]) rfl ?_
  refine G_iload rfl rfl ?_
  refine G_aload rfl rfl ?_
  refine G_getI (ci := 6) 1 rfl h0 rfl rfl rfl ?_
  refine G_ic_ne 10 rfl rfl (fun hc => ?_) (fun hc => ?_)
  · rw [if_neg hc] at h
    refine G_iload rfl rfl ?_
    refine G_aload rfl rfl ?_
    refine G_getI (ci := 6) 1 rfl h0 rfl rfl rfl ?_
    refine G_iconst (1 : Int32) rfl (by decide) ?_
    refine G_ixor rfl ?_
    refine G_ic_ne 22 rfl rfl (fun hc => ?_) (fun hc => ?_)
    · rw [if_neg hc] at h
      refine G_iload rfl rfl ?_
      refine G_aload rfl rfl ?_
      refine G_getI (ci := 6) 2 rfl h0 rfl rfl rfl ?_
      refine G_ic_ne 32 rfl rfl (fun hc => ?_) (fun hc => ?_)
      · rw [if_neg hc] at h
        refine G_iload rfl rfl ?_
        refine G_aload rfl rfl ?_
        refine G_getI (ci := 6) 2 rfl h0 rfl rfl rfl ?_
        refine G_iconst (1 : Int32) rfl (by decide) ?_
        refine G_ixor rfl ?_
        refine G_ic_ne 46 rfl rfl (fun hc => ?_) (fun hc => ?_)
        · rw [if_neg hc] at h
          refine G_iconst (0 : Int32) rfl (by decide) ?_
          obtain rfl := Option.some.inj h
          exact G_iret rfl rfl
        · rw [if_pos hc] at h
          refine G_iconst (4 : Int32) rfl (by decide) ?_
          refine G_goto 47 rfl rfl ?_
          obtain rfl := Option.some.inj h
          exact G_iret rfl rfl
      · rw [if_pos hc] at h
        refine G_iconst (3 : Int32) rfl (by decide) ?_
        obtain rfl := Option.some.inj h
        exact G_iret rfl rfl
    · rw [if_pos hc] at h
      refine G_iconst (2 : Int32) rfl (by decide) ?_
      obtain rfl := Option.some.inj h
      exact G_iret rfl rfl
  · rw [if_pos hc] at h
    refine G_iconst (1 : Int32) rfl (by decide) ?_
    obtain rfl := Option.some.inj h
    exact G_iret rfl rfl
set_option maxRecDepth 100000 in
set_option maxHeartbeats 4000000 in
theorem t_Stand_follow (d : Nat) (sg : Hp) (a0 : Nat) (a1 : Nat) (x2 : Int32) (h0 : clsOf a0 = 6) (h1 : clsOf a1 = 6) (y : Hp) (h : f_Stand_follow sg a0 a1 x2 = some y) : Sm (d + 1) 57 [.ref a0, .ref a1, .int x2] sg none y := by
  unfold f_Stand_follow at h
  refine Sm.of (lv := [(0, .ref a0), (1, .ref a1), (2, .int x2)]) rfl ?_
  refine G_aload rfl rfl ?_
  refine G_aload rfl rfl ?_
  refine G_getI (ci := 6) 0 rfl h1 rfl rfl rfl ?_
  obtain ⟨s1, hs1, h⟩ := Option.bind_eq_some_iff.mp h
  refine G_putI (ci := 6) 0 rfl h0 rfl rfl rfl (Option.some.inj hs1) ?_
  refine G_aload rfl rfl ?_
  refine G_aload rfl rfl ?_
  refine G_getI (ci := 6) 1 rfl h1 rfl rfl rfl ?_
  obtain ⟨s2, hs2, h⟩ := Option.bind_eq_some_iff.mp h
  refine G_putI (ci := 6) 1 rfl h0 rfl rfl rfl (Option.some.inj hs2) ?_
  refine G_aload rfl rfl ?_
  refine G_aload rfl rfl ?_
  refine G_getI (ci := 6) 2 rfl h1 rfl rfl rfl ?_
  obtain ⟨s3, hs3, h⟩ := Option.bind_eq_some_iff.mp h
  refine G_putI (ci := 6) 2 rfl h0 rfl rfl rfl (Option.some.inj hs3) ?_
  refine G_aload rfl rfl ?_
  refine G_aload rfl rfl ?_
  refine G_getI (ci := 6) 3 rfl h1 rfl rfl rfl ?_
  obtain ⟨s4, hs4, h⟩ := Option.bind_eq_some_iff.mp h
  refine G_putI (ci := 6) 3 rfl h0 rfl rfl rfl (Option.some.inj hs4) ?_
  refine G_aload rfl rfl ?_
  refine G_aload rfl rfl ?_
  refine G_getI (ci := 6) 4 rfl h1 rfl rfl rfl ?_
  obtain ⟨s5, hs5, h⟩ := Option.bind_eq_some_iff.mp h
  refine G_putI (ci := 6) 4 rfl h0 rfl rfl rfl (Option.some.inj hs5) ?_
  refine G_aload rfl rfl ?_
  refine G_aload rfl rfl ?_
  refine G_getI (ci := 6) 5 rfl h1 rfl rfl rfl ?_
  obtain ⟨s6, hs6, h⟩ := Option.bind_eq_some_iff.mp h
  refine G_putI (ci := 6) 5 rfl h0 rfl rfl rfl (Option.some.inj hs6) ?_
  refine G_aload rfl rfl ?_
  refine G_aload rfl rfl ?_
  refine G_getI (ci := 6) 6 rfl h1 rfl rfl rfl ?_
  obtain ⟨s7, hs7, h⟩ := Option.bind_eq_some_iff.mp h
  refine G_putI (ci := 6) 6 rfl h0 rfl rfl rfl (Option.some.inj hs7) ?_
  refine G_aload rfl rfl ?_
  refine G_aload rfl rfl ?_
  refine G_getI (ci := 6) 7 rfl h1 rfl rfl rfl ?_
  obtain ⟨s8, hs8, h⟩ := Option.bind_eq_some_iff.mp h
  refine G_putI (ci := 6) 7 rfl h0 rfl rfl rfl (Option.some.inj hs8) ?_
  refine G_aload rfl rfl ?_
  refine G_iload rfl rfl ?_
  obtain ⟨y9, hy9, h⟩ := Option.bind_eq_some_iff.mp h
  refine G_callvV 2 (t_Stand_roll _ _ _ _ h0 _ hy9) rfl rfl rfl rfl rfl rfl rfl rfl rfl h0 rfl ?_
  obtain rfl := Option.some.inj h
  exact G_vret rfl rfl
set_option maxRecDepth 100000 in
set_option maxHeartbeats 4000000 in
theorem t_Search_extend_144 (d : Nat) {r : Nat} {rc : Hp → Int32 → Int32 → Option (Hp)} {k86 : Hp → Int32 → Int32 → Nat → Int32 → Int32 → Int32 → Option (Hp)} (hrc : ∀ (sg : Hp) (x1 : Int32) (x2 : Int32)  (y : Hp), rc sg x1 x2 = some y → Sm (d + r + 2) 49 [.ref 11, .int x1, .int x2] sg none y) (hk86 : ∀ (sg : Hp) (x1 : Int32) (x2 : Int32) (a3 : Nat) (x4 : Int32) (x5 : Int32) (x6 : Int32) (h3 : clsOf a3 = 6) (y : Hp), k86 sg x1 x2 a3 x4 x5 x6 = some y → Go (d + r + 3) none 49 86 [(0, .ref 11), (1, .int x1), (2, .int x2), (3, .ref a3), (4, .int x4), (5, .int x5), (6, .int x6)] [] sg none y) (sg : Hp) (x1 : Int32) (x2 : Int32) (a3 : Nat) (x4 : Int32) (x5 : Int32) (x6 : Int32) (h3 : clsOf a3 = 6) (y : Hp) (h : f_Search_extend_144 rc k86 sg x1 x2 a3 x4 x5 x6 = some y) : Go (d + r + 3) none 49 144 [(0, .ref 11), (1, .int x1), (2, .int x2), (3, .ref a3), (4, .int x4), (5, .int x5), (6, .int x6)] [] sg none y := by
  unfold f_Search_extend_144 at h
  refine G_iinc (1 : Int32) rfl (by decide) rfl rfl ?_
  refine G_goto 86 rfl rfl ?_
  exact Go.weak' (hk86 _ _ _ _ _ _ _ h3 _ h) ⟨rfl, rfl, rfl, rfl, rfl, rfl, rfl, trivial⟩
set_option maxRecDepth 100000 in
set_option maxHeartbeats 4000000 in
theorem t_Search_extend_86 (d : Nat) {r : Nat} {rc : Hp → Int32 → Int32 → Option (Hp)} (hrc : ∀ (sg : Hp) (x1 : Int32) (x2 : Int32)  (y : Hp), rc sg x1 x2 = some y → Sm (d + r + 2) 49 [.ref 11, .int x1, .int x2] sg none y) : ∀ (n : Nat) (sg : Hp) (x1 : Int32) (x2 : Int32) (a3 : Nat) (x4 : Int32) (x5 : Int32) (x6 : Int32) (h3 : clsOf a3 = 6) (y : Hp), f_Search_extend_86 rc n sg x1 x2 a3 x4 x5 x6 = some y → Go (d + r + 3) none 49 86 [(0, .ref 11), (1, .int x1), (2, .int x2), (3, .ref a3), (4, .int x4), (5, .int x5), (6, .int x6)] [] sg none y := by
  intro n
  induction n with
  | zero =>
    intro sg x1 x2 a3 x4 x5 x6 h3 y h
    rw [f_Search_extend_86] at h
    cases h
  | succ n ih =>
    intro sg x1 x2 a3 x4 x5 x6 h3 y h
    rw [f_Search_extend_86] at h
    refine G_iload rfl rfl ?_
    refine G_iconst (6 : Int32) rfl (by decide) ?_
    refine G_ic_ge 150 rfl rfl (fun hc => ?_) (fun hc => ?_)
    · rw [if_pos hc] at h
      obtain rfl := Option.some.inj h
      exact G_vret rfl rfl
    · rw [if_neg hc] at h
      refine G_iload rfl rfl ?_
      refine G_iload rfl rfl ?_
      refine G_ishr rfl ?_
      refine G_iconst (1 : Int32) rfl (by decide) ?_
      refine G_iand rfl ?_
      refine G_if_ne 144 rfl rfl (fun hc => ?_) (fun hc => ?_)
      · rw [if_neg hc] at h
        exact Go.weak' (t_Search_extend_144 d hrc ih _ _ _ _ _ _ _ h3 _ h) ⟨rfl, rfl, rfl, rfl, rfl, rfl, rfl, trivial⟩
      · rw [if_pos hc] at h
        refine G_aload rfl rfl ?_
        refine G_getR (ci := 3) 18 rfl rfl rfl rfl rfl ?_
        refine G_iload rfl rfl ?_
        refine G_aload rfl rfl ?_
        refine G_iload rfl rfl ?_
        obtain ⟨y3, hy3, h⟩ := Option.bind_eq_some_iff.mp h
        refine G_callvI 2 (t_Stand_rollTo _ _ _ _ h3 _ hy3) rfl rfl rfl rfl rfl rfl rfl rfl rfl h3 rfl ?_
        obtain ⟨hg4, h⟩ := if_some h
        obtain ⟨s5, hs5, h⟩ := Option.bind_eq_some_iff.mp h
        refine G_iast rfl rfl rfl hg4 (Option.some.inj hs5) ?_
        refine G_aload rfl rfl ?_
        refine G_getR (ci := 3) 17 rfl rfl rfl rfl rfl ?_
        refine G_iload rfl rfl ?_
        obtain ⟨hg6, h⟩ := if_some h
        refine G_aald (t := 21) rfl rfl (Or.inl rfl) rfl hg6 ?_
        refine G_aload rfl rfl ?_
        refine G_aload rfl rfl ?_
        refine G_getR (ci := 3) 18 rfl rfl rfl rfl rfl ?_
        refine G_iload rfl rfl ?_
        obtain ⟨hg7, h⟩ := if_some h
        refine G_iald rfl rfl rfl hg7 ?_
        obtain ⟨y8, hy8, h⟩ := Option.bind_eq_some_iff.mp h
        refine G_callvV 3 (t_Stand_follow _ _ _ _ _ (rt_el21 (a := 17) rfl (inb_lt hg6)) h3 _ hy8) rfl rfl rfl rfl rfl rfl rfl rfl rfl (rt_el21 (a := 17) rfl (inb_lt hg6)) rfl ?_
        refine G_aload rfl rfl ?_
        refine G_iload rfl rfl ?_
        refine G_iload rfl rfl ?_
        refine G_iconst (1 : Int32) rfl (by decide) ?_
        refine G_iload rfl rfl ?_
        refine G_ishl rfl ?_
        refine G_ior rfl ?_
        obtain ⟨y9, hy9, h⟩ := Option.bind_eq_some_iff.mp h
        refine G_callvV 3 (hrc _ _ _  _ hy9) rfl rfl rfl rfl rfl rfl rfl rfl rfl rfl rfl ?_
        exact Go.weak' (t_Search_extend_144 d hrc ih _ _ _ _ _ _ _ h3 _ h) ⟨rfl, rfl, rfl, rfl, rfl, rfl, rfl, trivial⟩
set_option maxRecDepth 100000 in
set_option maxHeartbeats 4000000 in
theorem t_Search_extend_83 (d : Nat) {r : Nat} {rc : Hp → Int32 → Int32 → Option (Hp)} (hrc : ∀ (sg : Hp) (x1 : Int32) (x2 : Int32)  (y : Hp), rc sg x1 x2 = some y → Sm (d + r + 2) 49 [.ref 11, .int x1, .int x2] sg none y) (sg : Hp) (x1 : Int32) (x2 : Int32) (a3 : Nat) (x4 : Int32) (x5 : Int32) (h3 : clsOf a3 = 6) (y : Hp) (h : f_Search_extend_83 rc sg x1 x2 a3 x4 x5 = some y) : Go (d + r + 3) none 49 83 [(0, .ref 11), (1, .int x1), (2, .int x2), (3, .ref a3), (4, .int x4), (5, .int x5)] [] sg none y := by
  unfold f_Search_extend_83 at h
  refine G_iconst (0 : Int32) rfl (by decide) ?_
  refine G_istore rfl rfl ?_
  exact Go.weak' (t_Search_extend_86 d hrc _ _ _ _ _ _ _ _ h3 _ h) ⟨rfl, rfl, rfl, rfl, rfl, rfl, rfl, trivial⟩
set_option maxRecDepth 100000 in
set_option maxHeartbeats 4000000 in
theorem t_Search_extend_27 (d : Nat) {r : Nat} {rc : Hp → Int32 → Int32 → Option (Hp)} (hrc : ∀ (sg : Hp) (x1 : Int32) (x2 : Int32)  (y : Hp), rc sg x1 x2 = some y → Sm (d + r + 2) 49 [.ref 11, .int x1, .int x2] sg none y) (sg : Hp) (x1 : Int32) (x2 : Int32) (a3 : Nat) (h3 : clsOf a3 = 6) (y : Hp) (h : f_Search_extend_27 rc sg x1 x2 a3 = some y) : Go (d + r + 3) none 49 27 [(0, .ref 11), (1, .int x1), (2, .int x2), (3, .ref a3)] [] sg none y := by
  unfold f_Search_extend_27 at h
  refine G_iload rfl rfl ?_
  refine G_iconst (1 : Int32) rfl (by decide) ?_
  refine G_iadd rfl ?_
  refine G_istore rfl rfl ?_
  refine G_iload rfl rfl ?_
  refine G_iconst (5 : Int32) rfl (by decide) ?_
  refine G_ic_lt 39 rfl rfl (fun hc => ?_) (fun hc => ?_)
  · rw [if_pos hc] at h
    refine G_iload rfl rfl ?_
    refine G_aload rfl rfl ?_
    refine G_getR (ci := 3) 1 rfl rfl rfl rfl rfl ?_
    refine G_getR (ci := 2) 6 rfl rfl rfl rfl rfl ?_
    refine G_aload rfl rfl ?_
    refine G_getI (ci := 6) 0 rfl h3 rfl rfl rfl ?_
    obtain ⟨hg2, h⟩ := if_some h
    refine G_iald rfl rfl rfl hg2 ?_
    refine G_ior rfl ?_
    refine G_iconst (1 : Int32) rfl (by decide) ?_
    refine G_aload rfl rfl ?_
    refine G_getI (ci := 6) 0 rfl h3 rfl rfl rfl ?_
    refine G_iconst (1 : Int32) rfl (by decide) ?_
    refine G_ixor rfl ?_
    refine G_ishl rfl ?_
    refine G_ior rfl ?_
    refine G_istore rfl rfl ?_
    refine G_iload rfl rfl ?_
    refine G_iconst (1 : Int32) rfl (by decide) ?_
    refine G_iadd rfl ?_
    refine G_iconst (5 : Int32) rfl (by decide) ?_
    refine G_ic_ne 83 rfl rfl (fun hc => ?_) (fun hc => ?_)
    · rw [if_neg hc] at h
      exact Go.weak' (t_Search_extend_83 d hrc _ _ _ _ _ _ h3 _ h) ⟨rfl, rfl, rfl, rfl, rfl, rfl, trivial⟩
    · rw [if_pos hc] at h
      refine G_iload rfl rfl ?_
      refine G_aload rfl rfl ?_
      refine G_getI (ci := 3) 6 rfl rfl rfl rfl rfl ?_
      refine G_iconst (-1 : Int32) rfl (by decide) ?_
      refine G_ixor rfl ?_
      refine G_ior rfl ?_
      refine G_istore rfl rfl ?_
      exact Go.weak' (t_Search_extend_83 d hrc _ _ _ _ _ _ h3 _ h) ⟨rfl, rfl, rfl, rfl, rfl, rfl, trivial⟩
  · rw [if_neg hc] at h
    obtain rfl := Option.some.inj h
    exact G_vret rfl rfl
set_option maxRecDepth 100000 in
set_option maxHeartbeats 4000000 in
theorem t_Search_extend (d : Nat) : ∀ (r : Nat) (sg : Hp) (x1 : Int32) (x2 : Int32)  (y : Hp), f_Search_extend r sg x1 x2 = some y → Sm (d + r + 2) 49 [.ref 11, .int x1, .int x2] sg none y := by
  intro r
  induction r with
  | zero =>
    intro sg x1 x2 y h
    rw [f_Search_extend] at h
    cases h
  | succ r hrc =>
    intro sg x1 x2 y h
    rw [f_Search_extend] at h
    try dsimp only at h
    have hd : d + (r + 1) + 2 = d + r + 3 := by omega
    rw [hd]
    refine Sm.of (lv := [(0, .ref 11), (1, .int x1), (2, .int x2)]) rfl ?_
    refine G_aload rfl rfl ?_
    refine G_getR (ci := 3) 17 rfl rfl rfl rfl rfl ?_
    refine G_iload rfl rfl ?_
    obtain ⟨hg1, h⟩ := if_some h
    refine G_aald (t := 21) rfl rfl (Or.inl rfl) rfl hg1 ?_
    refine G_astore rfl rfl ?_
    refine G_aload rfl rfl ?_
    refine G_getI (ci := 3) 6 rfl rfl rfl rfl rfl ?_
    refine G_aload rfl rfl ?_
    refine G_getI (ci := 6) 0 rfl (rt_el21 (a := 17) rfl (inb_lt hg1)) rfl rfl rfl ?_
    refine G_ishr rfl ?_
    refine G_iconst (1 : Int32) rfl (by decide) ?_
    refine G_iand rfl ?_
    refine G_iconst (1 : Int32) rfl (by decide) ?_
    refine G_ic_ne 27 rfl rfl (fun hc => ?_) (fun hc => ?_)
    · rw [if_neg hc] at h
      exact Go.weak' (t_Search_extend_27 d hrc _ _ _ _ (rt_el21 (a := 17) rfl (inb_lt hg1)) _ h) ⟨rfl, rfl, rfl, rfl, trivial⟩
    · rw [if_pos hc] at h
      refine G_aload rfl rfl ?_
      refine G_iload rfl rfl ?_
      obtain ⟨y10, hy10, h⟩ := Option.bind_eq_some_iff.mp h
      refine G_callvV 2 (t_Search_weigh _ _ _  _ hy10) rfl rfl rfl rfl rfl rfl rfl rfl rfl rfl rfl ?_
      exact Go.weak' (t_Search_extend_27 d hrc _ _ _ _ (rt_el21 (a := 17) rfl (inb_lt hg1)) _ h) ⟨rfl, rfl, rfl, rfl, trivial⟩
