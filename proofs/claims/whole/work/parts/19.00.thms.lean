set_option maxRecDepth 100000 in
set_option maxHeartbeats 4000000 in
theorem t_Box_axisOf (d : Nat) (sg : Hp) (x0 : Int32)  (y : Int32 × Hp) (h : f_Box_axisOf sg x0 = some y) : Sm (d + 0) 11 [.int x0] sg (some (.int y.1)) y.2 := by
  unfold f_Box_axisOf at h
  refine Sm.of (lv := [(0, .int x0)]) rfl ?_
  refine G_iload rfl rfl ?_
  refine G_iconst (1 : Int32) rfl (by decide) ?_
  refine G_iadd rfl ?_
  refine G_iconst (3 : Int32) rfl (by decide) ?_
  refine G_irem rfl (by decide) ?_
  obtain rfl := Option.some.inj h
  exact G_iret rfl rfl
set_option maxRecDepth 100000 in
set_option maxHeartbeats 4000000 in
theorem t_Spot_set (d : Nat) (sg : Hp) (a0 : Nat) (a1 : Nat) (x2 : Int32) (x3 : Int32) (x4 : Int32) (h0 : clsOf a0 = 5) (h1 : clsOf a1 = 20) (g1 : lenOf a1 = 3) (y : Hp) (h : f_Spot_set sg a0 a1 x2 x3 x4 = some y) : Sm (d + 0) 14 [.ref a0, .ref a1, .int x2, .int x3, .int x4] sg none y := by
  unfold f_Spot_set at h
  refine Sm.of (lv := [(0, .ref a0), (1, .ref a1), (2, .int x2), (3, .int x3), (4, .int x4)]) rfl ?_
  refine G_aload rfl rfl ?_
  refine G_getR (ci := 5) (rt a0 0) rfl h0 rfl rfl rfl ?_
  refine G_iconst (0 : Int32) rfl (by decide) ?_
  refine G_iload rfl rfl ?_
  obtain ⟨s1, hs1, h⟩ := Option.bind_eq_some_iff.mp h
  refine G_iastL 0 rfl (rt_cls h0 0 rfl).1 (rt_cls h0 0 rfl).2 (by decide) (by decide) (Option.some.inj hs1) ?_
  refine G_aload rfl rfl ?_
  refine G_getR (ci := 5) (rt a0 0) rfl h0 rfl rfl rfl ?_
  refine G_iconst (1 : Int32) rfl (by decide) ?_
  refine G_aload rfl rfl ?_
  refine G_iconst (0 : Int32) rfl (by decide) ?_
  refine G_ialdL 0 rfl h1 g1 (by decide) (by decide) ?_
  refine G_iload rfl rfl ?_
  refine G_isub rfl ?_
  obtain ⟨s2, hs2, h⟩ := Option.bind_eq_some_iff.mp h
  refine G_iastL 1 rfl (rt_cls h0 0 rfl).1 (rt_cls h0 0 rfl).2 (by decide) (by decide) (Option.some.inj hs2) ?_
  refine G_aload rfl rfl ?_
  refine G_getR (ci := 5) (rt a0 0) rfl h0 rfl rfl rfl ?_
  refine G_iconst (2 : Int32) rfl (by decide) ?_
  refine G_iload rfl rfl ?_
  obtain ⟨s3, hs3, h⟩ := Option.bind_eq_some_iff.mp h
  refine G_iastL 2 rfl (rt_cls h0 0 rfl).1 (rt_cls h0 0 rfl).2 (by decide) (by decide) (Option.some.inj hs3) ?_
  refine G_aload rfl rfl ?_
  refine G_getR (ci := 5) (rt a0 0) rfl h0 rfl rfl rfl ?_
  refine G_iconst (3 : Int32) rfl (by decide) ?_
  refine G_aload rfl rfl ?_
  refine G_iconst (1 : Int32) rfl (by decide) ?_
  refine G_ialdL 1 rfl h1 g1 (by decide) (by decide) ?_
  refine G_iload rfl rfl ?_
  refine G_isub rfl ?_
  obtain ⟨s4, hs4, h⟩ := Option.bind_eq_some_iff.mp h
  refine G_iastL 3 rfl (rt_cls h0 0 rfl).1 (rt_cls h0 0 rfl).2 (by decide) (by decide) (Option.some.inj hs4) ?_
  refine G_aload rfl rfl ?_
  refine G_getR (ci := 5) (rt a0 0) rfl h0 rfl rfl rfl ?_
  refine G_iconst (4 : Int32) rfl (by decide) ?_
  refine G_iload rfl rfl ?_
  obtain ⟨s5, hs5, h⟩ := Option.bind_eq_some_iff.mp h
  refine G_iastL 4 rfl (rt_cls h0 0 rfl).1 (rt_cls h0 0 rfl).2 (by decide) (by decide) (Option.some.inj hs5) ?_
  refine G_aload rfl rfl ?_
  refine G_getR (ci := 5) (rt a0 0) rfl h0 rfl rfl rfl ?_
  refine G_iconst (5 : Int32) rfl (by decide) ?_
  refine G_aload rfl rfl ?_
  refine G_iconst (2 : Int32) rfl (by decide) ?_
  refine G_ialdL 2 rfl h1 g1 (by decide) (by decide) ?_
  refine G_iload rfl rfl ?_
  refine G_isub rfl ?_
  obtain ⟨s6, hs6, h⟩ := Option.bind_eq_some_iff.mp h
  refine G_iastL 5 rfl (rt_cls h0 0 rfl).1 (rt_cls h0 0 rfl).2 (by decide) (by decide) (Option.some.inj hs6) ?_
  obtain rfl := Option.some.inj h
  exact G_vret rfl rfl
set_option maxRecDepth 100000 in
set_option maxHeartbeats 4000000 in
theorem t_Spot_isOnBox_36 (d : Nat) {k4 : Hp → Nat → Int32 → Int32 → Option (Int32 × Hp)} (hk4 : ∀ (sg : Hp) (a0 : Nat) (x1 : Int32) (x2 : Int32) (h0 : clsOf a0 = 5) (y : Int32 × Hp), k4 sg a0 x1 x2 = some y → Go (d + 0) none 15 4 [(0, .ref a0), (1, .int x1), (2, .int x2)] [] sg (some (.int y.1)) y.2) (sg : Hp) (a0 : Nat) (x2 : Int32) (xs0 : Int32) (xs1 : Int32) (h0 : clsOf a0 = 5) (y : Int32 × Hp) (h : f_Spot_isOnBox_36 k4 sg a0 x2 xs0 xs1 = some y) : Go (d + 0) none 15 36 [(0, .ref a0), (2, .int x2)] [.int xs1, .int xs0] sg (some (.int y.1)) y.2 := by
  unfold f_Spot_isOnBox_36 at h
  refine G_ior rfl ?_
  refine G_istore rfl rfl ?_
  refine G_iinc (1 : Int32) rfl (by decide) rfl rfl ?_
  refine G_goto 4 rfl rfl ?_
  exact Go.weak' (hk4 _ _ _ _ h0 _ h) ⟨rfl, rfl, rfl, trivial⟩
set_option maxRecDepth 100000 in
set_option maxHeartbeats 4000000 in
theorem t_Spot_isOnBox_4 (d : Nat)   : ∀ (n : Nat) (sg : Hp) (a0 : Nat) (x1 : Int32) (x2 : Int32) (h0 : clsOf a0 = 5) (y : Int32 × Hp), f_Spot_isOnBox_4  n sg a0 x1 x2 = some y → Go (d + 0) none 15 4 [(0, .ref a0), (1, .int x1), (2, .int x2)] [] sg (some (.int y.1)) y.2 := by
  intro n
  induction n with
  | zero =>
    intro sg a0 x1 x2 h0 y h
    rw [f_Spot_isOnBox_4] at h
    cases h
  | succ n ih =>
    intro sg a0 x1 x2 h0 y h
    rw [f_Spot_isOnBox_4] at h
    refine G_iload rfl rfl ?_
    refine G_iconst (6 : Int32) rfl (by decide) ?_
    refine G_ic_ge 44 rfl rfl (fun hc => ?_) (fun hc => ?_)
    · rw [if_pos hc] at h
      refine G_iload rfl rfl ?_
      obtain ⟨hz, h⟩ := if_some h
      obtain rfl := Option.some.inj h
      exact G_iret rfl (retZ_b rfl hz)
    · rw [if_neg hc] at h
      refine G_aload rfl rfl ?_
      refine G_getR (ci := 5) (rt a0 0) rfl h0 rfl rfl rfl ?_
      refine G_iload rfl rfl ?_
      obtain ⟨hg1, h⟩ := if_some h
      refine G_iald rfl (rt_cls h0 0 rfl).1 (rt_cls h0 0 rfl).2 hg1 ?_
      refine G_if_ge 21 rfl rfl (fun hc => ?_) (fun hc => ?_)
      · rw [if_pos hc] at h
        refine G_iload rfl rfl ?_
        refine G_aload rfl rfl ?_
        refine G_getR (ci := 5) (rt a0 0) rfl h0 rfl rfl rfl ?_
        refine G_iload rfl rfl ?_
        obtain ⟨hg2, h⟩ := if_some h
        refine G_iald rfl (rt_cls h0 0 rfl).1 (rt_cls h0 0 rfl).2 hg2 ?_
        refine G_if_ne 35 rfl rfl (fun hc => ?_) (fun hc => ?_)
        · rw [if_neg hc] at h
          refine G_iconst (0 : Int32) rfl (by decide) ?_
          exact Go.weak' (t_Spot_isOnBox_36 d ih _ _ _ _ _ h0 _ h) ⟨rfl, rfl, trivial⟩
        · rw [if_pos hc] at h
          refine G_iconst (1 : Int32) rfl (by decide) ?_
          refine G_goto 36 rfl rfl ?_
          exact Go.weak' (t_Spot_isOnBox_36 d ih _ _ _ _ _ h0 _ h) ⟨rfl, rfl, trivial⟩
      · rw [if_neg hc] at h
        refine G_iconst (0 : Int32) rfl (by decide) ?_
        obtain rfl := Option.some.inj h
        exact G_iret rfl rfl
set_option maxRecDepth 100000 in
set_option maxHeartbeats 4000000 in
theorem t_Spot_isOnBox (d : Nat) (sg : Hp) (a0 : Nat) (h0 : clsOf a0 = 5) (y : Int32 × Hp) (h : f_Spot_isOnBox sg a0 = some y) : Sm (d + 0) 15 [.ref a0] sg (some (.int y.1)) y.2 := by
  unfold f_Spot_isOnBox at h
  refine Sm.of (lv := [(0, .ref a0)]) rfl ?_
  refine G_iconst (0 : Int32) rfl (by decide) ?_
  refine G_istore rfl rfl ?_
  refine G_iconst (0 : Int32) rfl (by decide) ?_
  refine G_istore rfl rfl ?_
  exact Go.weak' (t_Spot_isOnBox_4 d  _ _ _ _ _ h0 _ h) ⟨rfl, rfl, rfl, trivial⟩
set_option maxRecDepth 100000 in
set_option maxHeartbeats 4000000 in
theorem t_Room_holds (d : Nat) (sg : Hp) (x1 : Int32) (x2 : Int32) (x3 : Int32)  (y : Int32 × Hp) (h : f_Room_holds sg x1 x2 x3 = some y) : Sm (d + 1) 13 [.ref 1, .int x1, .int x2, .int x3] sg (some (.int y.1)) y.2 := by
  unfold f_Room_holds at h
  refine Sm.of (lv := [(0, .ref 1), (1, .int x1), (2, .int x2), (3, .int x3)]) rfl ?_
  refine G_aload rfl rfl ?_
  refine G_getR (ci := 2) 7 rfl rfl rfl rfl rfl ?_
  refine G_aload rfl rfl ?_
  refine G_getR (ci := 2) 2 rfl rfl rfl rfl rfl ?_
  refine G_iload rfl rfl ?_
  refine G_iload rfl rfl ?_
  refine G_iload rfl rfl ?_
  obtain ⟨y1, hy1, h⟩ := Option.bind_eq_some_iff.mp h
  refine G_callvV 5 (t_Spot_set _ _ _ _ _ _ _ rfl rfl rfl _ hy1) rfl rfl rfl rfl rfl rfl rfl rfl rfl rfl rfl ?_
  refine G_aload rfl rfl ?_
  refine G_getR (ci := 2) 7 rfl rfl rfl rfl rfl ?_
  obtain ⟨y2, hy2, h⟩ := Option.bind_eq_some_iff.mp h
  refine G_callvI 1 (t_Spot_isOnBox _ _ _ rfl _ hy2) rfl rfl rfl rfl rfl rfl rfl rfl rfl rfl rfl ?_
  obtain ⟨hz, h⟩ := if_some h
  obtain rfl := Option.some.inj h
  exact G_iret rfl (retZ_b rfl hz)
set_option maxRecDepth 100000 in
set_option maxHeartbeats 4000000 in
theorem t_Room_move (d : Nat) (sg : Hp) (x1 : Int32) (x2 : Int32) (x3 : Int32) (x4 : Int32)  (y : Hp) (h : f_Room_move sg x1 x2 x3 x4 = some y) : Sm (d + 0) 16 [.ref 1, .int x1, .int x2, .int x3, .int x4] sg none y := by
  unfold f_Room_move at h
  refine Sm.of (lv := [(0, .ref 1), (1, .int x1), (2, .int x2), (3, .int x3), (4, .int x4)]) rfl ?_
  refine G_aload rfl rfl ?_
  refine G_getR (ci := 2) 3 rfl rfl rfl rfl rfl ?_
  refine G_iload rfl rfl ?_
  refine G_iload rfl rfl ?_
  obtain ⟨hg1, h⟩ := if_some h
  obtain ⟨s2, hs2, h⟩ := Option.bind_eq_some_iff.mp h
  refine G_iast rfl rfl rfl hg1 (Option.some.inj hs2) ?_
  refine G_aload rfl rfl ?_
  refine G_getR (ci := 2) 4 rfl rfl rfl rfl rfl ?_
  refine G_iload rfl rfl ?_
  refine G_iload rfl rfl ?_
  obtain ⟨hg3, h⟩ := if_some h
  obtain ⟨s4, hs4, h⟩ := Option.bind_eq_some_iff.mp h
  refine G_iast rfl rfl rfl hg3 (Option.some.inj hs4) ?_
  refine G_aload rfl rfl ?_
  refine G_getR (ci := 2) 5 rfl rfl rfl rfl rfl ?_
  refine G_iload rfl rfl ?_
  refine G_iload rfl rfl ?_
  obtain ⟨hg5, h⟩ := if_some h
  obtain ⟨s6, hs6, h⟩ := Option.bind_eq_some_iff.mp h
  refine G_iast rfl rfl rfl hg5 (Option.some.inj hs6) ?_
  refine G_aload rfl rfl ?_
  refine G_dupr rfl ?_
  refine G_getI (ci := 2) 6 rfl rfl rfl rfl rfl ?_
  refine G_iconst (1 : Int32) rfl (by decide) ?_
  refine G_iadd rfl ?_
  obtain ⟨s7, hs7, h⟩ := Option.bind_eq_some_iff.mp h
  refine G_putI (ci := 2) 6 rfl rfl rfl rfl rfl (Option.some.inj hs7) ?_
  obtain rfl := Option.some.inj h
  exact G_vret rfl rfl
set_option maxRecDepth 100000 in
set_option maxHeartbeats 4000000 in
theorem t_Room_stretch_61 (d : Nat) {k17 : Hp → Int32 → Int32 → Option (Int32 × Hp)} (hk17 : ∀ (sg : Hp) (x3 : Int32) (x4 : Int32)  (y : Int32 × Hp), k17 sg x3 x4 = some y → Go (d + 2) none 12 17 [(0, .ref 1), (3, .int x3), (4, .int x4)] [] sg (some (.int y.1)) y.2) (sg : Hp) (x3 : Int32) (x4 : Int32)  (y : Int32 × Hp) (h : f_Room_stretch_61 k17 sg x3 x4 = some y) : Go (d + 2) none 12 61 [(0, .ref 1), (3, .int x3), (4, .int x4)] [] sg (some (.int y.1)) y.2 := by
  unfold f_Room_stretch_61 at h
  refine G_iinc (1 : Int32) rfl (by decide) rfl rfl ?_
  refine G_goto 17 rfl rfl ?_
  exact Go.weak' (hk17 _ _ _  _ h) ⟨rfl, rfl, rfl, trivial⟩
set_option maxRecDepth 100000 in
set_option maxHeartbeats 4000000 in
theorem t_Room_stretch_17 (d : Nat)   : ∀ (n : Nat) (sg : Hp) (x3 : Int32) (x4 : Int32)  (y : Int32 × Hp), f_Room_stretch_17  n sg x3 x4 = some y → Go (d + 2) none 12 17 [(0, .ref 1), (3, .int x3), (4, .int x4)] [] sg (some (.int y.1)) y.2 := by
  intro n
  induction n with
  | zero =>
    intro sg x3 x4 y h
    rw [f_Room_stretch_17] at h
    cases h
  | succ n ih =>
    intro sg x3 x4 y h
    rw [f_Room_stretch_17] at h
    refine G_iload rfl rfl ?_
    refine G_iconst (8 : Int32) rfl (by decide) ?_
    refine G_ic_ge 67 rfl rfl (fun hc => ?_) (fun hc => ?_)
    · rw [if_pos hc] at h
      refine G_aload rfl rfl ?_
      refine G_dupr rfl ?_
      refine G_getI (ci := 2) 6 rfl rfl rfl rfl rfl ?_
      refine G_iconst (1 : Int32) rfl (by decide) ?_
      refine G_iadd rfl ?_
      obtain ⟨s4, hs4, h⟩ := Option.bind_eq_some_iff.mp h
      refine G_putI (ci := 2) 6 rfl rfl rfl rfl rfl (Option.some.inj hs4) ?_
      refine G_iload rfl rfl ?_
      obtain rfl := Option.some.inj h
      exact G_iret rfl rfl
    · rw [if_neg hc] at h
      refine G_aload rfl rfl ?_
      refine G_aload rfl rfl ?_
      refine G_getR (ci := 2) 3 rfl rfl rfl rfl rfl ?_
      refine G_iload rfl rfl ?_
      obtain ⟨hg5, h⟩ := if_some h
      refine G_iald rfl rfl rfl hg5 ?_
      refine G_aload rfl rfl ?_
      refine G_getR (ci := 2) 4 rfl rfl rfl rfl rfl ?_
      refine G_iload rfl rfl ?_
      obtain ⟨hg6, h⟩ := if_some h
      refine G_iald rfl rfl rfl hg6 ?_
      refine G_aload rfl rfl ?_
      refine G_getR (ci := 2) 5 rfl rfl rfl rfl rfl ?_
      refine G_iload rfl rfl ?_
      obtain ⟨hg7, h⟩ := if_some h
      refine G_iald rfl rfl rfl hg7 ?_
      obtain ⟨y8, hy8, h⟩ := Option.bind_eq_some_iff.mp h
      refine G_callvI 4 (t_Room_holds _ _ _ _ _  _ hy8) rfl rfl rfl rfl rfl rfl rfl rfl rfl rfl rfl ?_
      refine G_if_ne 61 rfl rfl (fun hc => ?_) (fun hc => ?_)
      · rw [if_neg hc] at h
        exact Go.weak' (t_Room_stretch_61 d ih _ _ _  _ h) ⟨rfl, rfl, rfl, trivial⟩
      · rw [if_pos hc] at h
        refine G_aload rfl rfl ?_
        refine G_iload rfl rfl ?_
        refine G_iconst (0 : Int32) rfl (by decide) ?_
        refine G_iconst (0 : Int32) rfl (by decide) ?_
        refine G_iconst (0 : Int32) rfl (by decide) ?_
        obtain ⟨y9, hy9, h⟩ := Option.bind_eq_some_iff.mp h
        refine G_callvV 5 (t_Room_move _ _ _ _ _ _  _ hy9) rfl rfl rfl rfl rfl rfl rfl rfl rfl rfl rfl ?_
        exact Go.weak' (t_Room_stretch_61 d ih _ _ _  _ h) ⟨rfl, rfl, rfl, trivial⟩
set_option maxRecDepth 100000 in
set_option maxHeartbeats 4000000 in
theorem t_Room_stretch (d : Nat) (sg : Hp) (x1 : Int32) (x2 : Int32)  (y : Int32 × Hp) (h : f_Room_stretch sg x1 x2 = some y) : Sm (d + 2) 12 [.ref 1, .int x1, .int x2] sg (some (.int y.1)) y.2 := by
  unfold f_Room_stretch at h
  refine Sm.of (lv := [(0, .ref 1), (1, .int x1), (2, .int x2)]) rfl ?_
  refine G_aload rfl rfl ?_
  refine G_getR (ci := 2) 2 rfl rfl rfl rfl rfl ?_
  refine G_iload rfl rfl ?_
  obtain ⟨hg1, h⟩ := if_some h
  refine G_iald rfl rfl rfl hg1 ?_
  refine G_istore rfl rfl ?_
  refine G_aload rfl rfl ?_
  refine G_getR (ci := 2) 2 rfl rfl rfl rfl rfl ?_
  refine G_iload rfl rfl ?_
  refine G_iload rfl rfl ?_
  obtain ⟨hg2, h⟩ := if_some h
  obtain ⟨s3, hs3, h⟩ := Option.bind_eq_some_iff.mp h
  refine G_iast rfl rfl rfl hg2 (Option.some.inj hs3) ?_
  refine G_iconst (0 : Int32) rfl (by decide) ?_
  refine G_istore rfl rfl ?_
  exact Go.weak' (t_Room_stretch_17 d  _ _ _ _  _ h) ⟨rfl, rfl, rfl, trivial⟩
set_option maxRecDepth 100000 in
set_option maxHeartbeats 4000000 in
theorem t_Box_side (d : Nat) (sg : Hp) (x1 : Int32) (x2 : Int32)  (y : Int32 × Hp) (h : f_Box_side sg x1 x2 = some y) : Sm (d + 3) 10 [.ref 0, .int x1, .int x2] sg (some (.int y.1)) y.2 := by
  unfold f_Box_side at h
  refine Sm.of (lv := [(0, .ref 0), (1, .int x1), (2, .int x2)]) rfl ?_
  refine G_iload rfl rfl ?_
  refine G_if_lt 20 rfl rfl (fun hc => ?_) (fun hc => ?_)
  · rw [if_pos hc] at h
    refine G_iconst (-2 : Int32) rfl (by decide) ?_
    obtain rfl := Option.some.inj h
    exact G_iret rfl rfl
  · rw [if_neg hc] at h
    refine G_iload rfl rfl ?_
    refine G_iconst (3 : Int32) rfl (by decide) ?_
    refine G_ic_ge 20 rfl rfl (fun hc => ?_) (fun hc => ?_)
    · rw [if_pos hc] at h
      refine G_iconst (-2 : Int32) rfl (by decide) ?_
      obtain rfl := Option.some.inj h
      exact G_iret rfl rfl
    · rw [if_neg hc] at h
      refine G_iload rfl rfl ?_
      refine G_iconst (1 : Int32) rfl (by decide) ?_
      refine G_ic_lt 20 rfl rfl (fun hc => ?_) (fun hc => ?_)
      · rw [if_pos hc] at h
        refine G_iconst (-2 : Int32) rfl (by decide) ?_
        obtain rfl := Option.some.inj h
        exact G_iret rfl rfl
      · rw [if_neg hc] at h
        refine G_iload rfl rfl ?_
        refine G_iconst (30 : Int32) rfl (by decide) ?_
        refine G_ic_le 23 rfl rfl (fun hc => ?_) (fun hc => ?_)
        · rw [if_pos hc] at h
          refine G_aload rfl rfl ?_
          refine G_getR (ci := 9) 1 rfl rfl rfl rfl rfl ?_
          refine G_iload rfl rfl ?_
          obtain ⟨y1, hy1, h⟩ := Option.bind_eq_some_iff.mp h
          refine G_callsI 1 (t_Box_axisOf _ _ _  _ hy1) rfl rfl rfl rfl rfl rfl rfl rfl rfl ?_
          refine G_iload rfl rfl ?_
          obtain ⟨y2, hy2, h⟩ := Option.bind_eq_some_iff.mp h
          refine G_callvI 3 (t_Room_stretch _ _ _ _  _ hy2) rfl rfl rfl rfl rfl rfl rfl rfl rfl rfl rfl ?_
          obtain rfl := Option.some.inj h
          exact G_iret rfl rfl
        · rw [if_neg hc] at h
          refine G_iconst (-2 : Int32) rfl (by decide) ?_
          obtain rfl := Option.some.inj h
          exact G_iret rfl rfl
set_option maxRecDepth 100000 in
set_option maxHeartbeats 4000000 in
theorem t_Mod_in (d : Nat) (sg : Hp) (l0 : Int64) (l2 : Int64) (l4 : Int64)  (y : Int32 × Hp) (h : f_Mod_in sg l0 l2 l4 = some y) : Sm (d + 0) 101 [.long l0, .long l2, .long l4] sg (some (.int y.1)) y.2 := by
  unfold f_Mod_in at h
  refine Sm.of (lv := [(0, .long l0), (2, .long l2), (4, .long l4)]) rfl ?_
  refine G_lload rfl rfl ?_
  refine G_lload rfl rfl ?_
  refine G_lcmp rfl ?_
  refine G_if_lt 17 rfl rfl (fun hc => ?_) (fun hc => ?_)
  · rw [if_pos hc] at h
    refine G_iconst (0 : Int32) rfl (by decide) ?_
    obtain rfl := Option.some.inj h
    exact G_iret rfl rfl
  · rw [if_neg hc] at h
    refine G_lload rfl rfl ?_
    refine G_lload rfl rfl ?_
    refine G_lcmp rfl ?_
    refine G_if_gt 17 rfl rfl (fun hc => ?_) (fun hc => ?_)
    · rw [if_pos hc] at h
      refine G_iconst (0 : Int32) rfl (by decide) ?_
      obtain rfl := Option.some.inj h
      exact G_iret rfl rfl
    · rw [if_neg hc] at h
      refine G_iconst (1 : Int32) rfl (by decide) ?_
      refine G_goto 18 rfl rfl ?_
      obtain rfl := Option.some.inj h
      exact G_iret rfl rfl
set_option maxRecDepth 100000 in
set_option maxHeartbeats 4000000 in
theorem t_Mod_axisOf (d : Nat) (sg : Hp) (x0 : Int32)  (y : Int32 × Hp) (h : f_Mod_axisOf sg x0 = some y) : Sm (d + 0) 113 [.int x0] sg (some (.int y.1)) y.2 := by
  unfold f_Mod_axisOf at h
  refine Sm.of (lv := [(0, .int x0)]) rfl ?_
  refine G_iload rfl rfl ?_
  refine G_iconst (2 : Int32) rfl (by decide) ?_
  refine G_ic_ge 9 rfl rfl (fun hc => ?_) (fun hc => ?_)
  · rw [if_pos hc] at h
    refine G_iload rfl rfl ?_
    refine G_iconst (4 : Int32) rfl (by decide) ?_
    refine G_ic_ge 18 rfl rfl (fun hc => ?_) (fun hc => ?_)
    · rw [if_pos hc] at h
      refine G_iconst (1 : Int32) rfl (by decide) ?_
      obtain rfl := Option.some.inj h
      exact G_iret rfl rfl
    · rw [if_neg hc] at h
      refine G_iconst (0 : Int32) rfl (by decide) ?_
      refine G_goto 19 rfl rfl ?_
      obtain rfl := Option.some.inj h
      exact G_iret rfl rfl
  · rw [if_neg hc] at h
    refine G_iconst (2 : Int32) rfl (by decide) ?_
    refine G_goto 19 rfl rfl ?_
    obtain rfl := Option.some.inj h
    exact G_iret rfl rfl
set_option maxRecDepth 100000 in
set_option maxHeartbeats 4000000 in
theorem t_Mod_liesOn_48 (d : Nat)   (sg : Hp) (xs0 : Int32) (xs1 : Int32)  (y : Int32 × Hp) (h : f_Mod_liesOn_48  sg xs0 xs1 = some y) : Go (d + 1) none 112 48 [] [.int xs1, .int xs0] sg (some (.int y.1)) y.2 := by
  unfold f_Mod_liesOn_48 at h
  refine G_ic_ne 55 rfl rfl (fun hc => ?_) (fun hc => ?_)
  · rw [if_neg hc] at h
    refine G_iconst (0 : Int32) rfl (by decide) ?_
    obtain rfl := Option.some.inj h
    exact G_iret rfl rfl
  · rw [if_pos hc] at h
    refine G_iconst (1 : Int32) rfl (by decide) ?_
    refine G_goto 56 rfl rfl ?_
    obtain rfl := Option.some.inj h
    exact G_iret rfl rfl
set_option maxRecDepth 100000 in
set_option maxHeartbeats 4000000 in
theorem t_Mod_liesOn_27 (d : Nat)   (sg : Hp) (x1 : Int32) (x5 : Int32) (xs0 : Int32)  (y : Int32 × Hp) (h : f_Mod_liesOn_27  sg x1 x5 xs0 = some y) : Go (d + 1) none 112 27 [(0, .ref 46), (1, .int x1), (5, .int x5)] [.int xs0] sg (some (.int y.1)) y.2 := by
  unfold f_Mod_liesOn_27 at h
  refine G_istore rfl rfl ?_
  refine G_iload rfl rfl ?_
  refine G_iload rfl rfl ?_
  refine G_iconst (2 : Int32) rfl (by decide) ?_
  refine G_irem rfl (by decide) ?_
  refine G_if_ne 41 rfl rfl (fun hc => ?_) (fun hc => ?_)
  · rw [if_neg hc] at h
    refine G_aload rfl rfl ?_
    refine G_getR (ci := 10) 51 rfl rfl rfl rfl rfl ?_
    refine G_iload rfl rfl ?_
    obtain ⟨hg2, h⟩ := if_some h
    refine G_iald rfl rfl rfl hg2 ?_
    exact Go.weak' (t_Mod_liesOn_48 d  _ _ _  _ h) trivial
  · rw [if_pos hc] at h
    refine G_iconst (0 : Int32) rfl (by decide) ?_
    refine G_goto 48 rfl rfl ?_
    exact Go.weak' (t_Mod_liesOn_48 d  _ _ _  _ h) trivial
set_option maxRecDepth 100000 in
set_option maxHeartbeats 4000000 in
theorem t_Mod_liesOn (d : Nat) (sg : Hp) (x1 : Int32) (x2 : Int32) (x3 : Int32) (x4 : Int32)  (y : Int32 × Hp) (h : f_Mod_liesOn sg x1 x2 x3 x4 = some y) : Sm (d + 1) 112 [.ref 46, .int x1, .int x2, .int x3, .int x4] sg (some (.int y.1)) y.2 := by
  unfold f_Mod_liesOn at h
  refine Sm.of (lv := [(0, .ref 46), (1, .int x1), (2, .int x2), (3, .int x3), (4, .int x4)]) rfl ?_
  refine G_iload rfl rfl ?_
  obtain ⟨y1, hy1, h⟩ := Option.bind_eq_some_iff.mp h
  refine G_callsI 1 (t_Mod_axisOf _ _ _  _ hy1) rfl rfl rfl rfl rfl rfl rfl rfl rfl ?_
  refine G_istore rfl rfl ?_
  refine G_iload rfl rfl ?_
  refine G_if_ne 15 rfl rfl (fun hc => ?_) (fun hc => ?_)
  · rw [if_neg hc] at h
    refine G_iload rfl rfl ?_
    refine G_iconst (1 : Int32) rfl (by decide) ?_
    refine G_ic_ne 25 rfl rfl (fun hc => ?_) (fun hc => ?_)
    · rw [if_neg hc] at h
      refine G_iload rfl rfl ?_
      exact Go.weak' (t_Mod_liesOn_27 d  _ _ _ _  _ h) ⟨rfl, rfl, rfl, trivial⟩
    · rw [if_pos hc] at h
      refine G_iload rfl rfl ?_
      refine G_goto 27 rfl rfl ?_
      exact Go.weak' (t_Mod_liesOn_27 d  _ _ _ _  _ h) ⟨rfl, rfl, rfl, trivial⟩
  · rw [if_pos hc] at h
    refine G_iload rfl rfl ?_
    refine G_goto 27 rfl rfl ?_
    exact Go.weak' (t_Mod_liesOn_27 d  _ _ _ _  _ h) ⟨rfl, rfl, rfl, trivial⟩
set_option maxRecDepth 100000 in
set_option maxHeartbeats 4000000 in
theorem t_Mod_isOnBox_90 (d : Nat) {k61 : Hp → Int32 → Int32 → Int32 → Int32 → Int32 → Int32 → Option (Int32 × Hp)} (hk61 : ∀ (sg : Hp) (x1 : Int32) (x2 : Int32) (x3 : Int32) (x4 : Int32) (x5 : Int32) (x6 : Int32)  (y : Int32 × Hp), k61 sg x1 x2 x3 x4 x5 x6 = some y → Go (d + 2) none 111 61 [(0, .ref 46), (1, .int x1), (2, .int x2), (3, .int x3), (4, .int x4), (5, .int x5), (6, .int x6)] [] sg (some (.int y.1)) y.2) (sg : Hp) (x1 : Int32) (x2 : Int32) (x3 : Int32) (x4 : Int32) (x6 : Int32) (xs0 : Int32)  (y : Int32 × Hp) (h : f_Mod_isOnBox_90 k61 sg x1 x2 x3 x4 x6 xs0 = some y) : Go (d + 2) none 111 90 [(0, .ref 46), (1, .int x1), (2, .int x2), (3, .int x3), (4, .int x4), (6, .int x6)] [.int xs0] sg (some (.int y.1)) y.2 := by
  unfold f_Mod_isOnBox_90 at h
  refine G_istore rfl rfl ?_
  refine G_iinc (1 : Int32) rfl (by decide) rfl rfl ?_
  refine G_goto 61 rfl rfl ?_
  exact Go.weak' (hk61 _ _ _ _ _ _ _  _ h) ⟨rfl, rfl, rfl, rfl, rfl, rfl, rfl, trivial⟩
set_option maxRecDepth 100000 in
set_option maxHeartbeats 4000000 in
theorem t_Mod_isOnBox_85 (d : Nat) {k61 : Hp → Int32 → Int32 → Int32 → Int32 → Int32 → Int32 → Option (Int32 × Hp)} (hk61 : ∀ (sg : Hp) (x1 : Int32) (x2 : Int32) (x3 : Int32) (x4 : Int32) (x5 : Int32) (x6 : Int32)  (y : Int32 × Hp), k61 sg x1 x2 x3 x4 x5 x6 = some y → Go (d + 2) none 111 61 [(0, .ref 46), (1, .int x1), (2, .int x2), (3, .int x3), (4, .int x4), (5, .int x5), (6, .int x6)] [] sg (some (.int y.1)) y.2) (sg : Hp) (x1 : Int32) (x2 : Int32) (x3 : Int32) (x4 : Int32) (x6 : Int32)  (y : Int32 × Hp) (h : f_Mod_isOnBox_85 k61 sg x1 x2 x3 x4 x6 = some y) : Go (d + 2) none 111 85 [(0, .ref 46), (1, .int x1), (2, .int x2), (3, .int x3), (4, .int x4), (6, .int x6)] [] sg (some (.int y.1)) y.2 := by
  unfold f_Mod_isOnBox_85 at h
  refine G_iconst (1 : Int32) rfl (by decide) ?_
  refine G_goto 90 rfl rfl ?_
  exact Go.weak' (t_Mod_isOnBox_90 d hk61 _ _ _ _ _ _ _  _ h) ⟨rfl, rfl, rfl, rfl, rfl, rfl, trivial⟩
set_option maxRecDepth 100000 in
set_option maxHeartbeats 4000000 in
theorem t_Mod_isOnBox_61 (d : Nat)   : ∀ (n : Nat) (sg : Hp) (x1 : Int32) (x2 : Int32) (x3 : Int32) (x4 : Int32) (x5 : Int32) (x6 : Int32)  (y : Int32 × Hp), f_Mod_isOnBox_61  n sg x1 x2 x3 x4 x5 x6 = some y → Go (d + 2) none 111 61 [(0, .ref 46), (1, .int x1), (2, .int x2), (3, .int x3), (4, .int x4), (5, .int x5), (6, .int x6)] [] sg (some (.int y.1)) y.2 := by
  intro n
  induction n with
  | zero =>
    intro sg x1 x2 x3 x4 x5 x6 y h
    rw [f_Mod_isOnBox_61] at h
    cases h
  | succ n ih =>
    intro sg x1 x2 x3 x4 x5 x6 y h
    rw [f_Mod_isOnBox_61] at h
    refine G_iload rfl rfl ?_
    refine G_iconst (6 : Int32) rfl (by decide) ?_
    refine G_ic_ge 98 rfl rfl (fun hc => ?_) (fun hc => ?_)
    · rw [if_pos hc] at h
      refine G_iload rfl rfl ?_
      refine G_if_eq 112 rfl rfl (fun hc => ?_) (fun hc => ?_)
      · rw [if_pos hc] at h
        refine G_iconst (0 : Int32) rfl (by decide) ?_
        obtain rfl := Option.some.inj h
        exact G_iret rfl rfl
      · rw [if_neg hc] at h
        refine G_iload rfl rfl ?_
        refine G_if_eq 112 rfl rfl (fun hc => ?_) (fun hc => ?_)
        · rw [if_pos hc] at h
          refine G_iconst (0 : Int32) rfl (by decide) ?_
          obtain rfl := Option.some.inj h
          exact G_iret rfl rfl
        · rw [if_neg hc] at h
          refine G_iconst (1 : Int32) rfl (by decide) ?_
          refine G_goto 113 rfl rfl ?_
          obtain rfl := Option.some.inj h
          exact G_iret rfl rfl
    · rw [if_neg hc] at h
      refine G_iload rfl rfl ?_
      refine G_if_ne 85 rfl rfl (fun hc => ?_) (fun hc => ?_)
      · rw [if_neg hc] at h
        exact Go.weak' (t_Mod_isOnBox_85 d ih _ _ _ _ _ _  _ h) ⟨rfl, rfl, rfl, rfl, rfl, rfl, trivial⟩
      · rw [if_pos hc] at h
        refine G_aload rfl rfl ?_
        refine G_iload rfl rfl ?_
        refine G_iload rfl rfl ?_
        refine G_iload rfl rfl ?_
        refine G_iload rfl rfl ?_
        obtain ⟨y2, hy2, h⟩ := Option.bind_eq_some_iff.mp h
        refine G_callvI 5 (t_Mod_liesOn _ _ _ _ _ _  _ hy2) rfl rfl rfl rfl rfl rfl rfl rfl rfl rfl rfl ?_
        refine G_if_eq 89 rfl rfl (fun hc => ?_) (fun hc => ?_)
        · rw [if_pos hc] at h
          refine G_iconst (0 : Int32) rfl (by decide) ?_
          exact Go.weak' (t_Mod_isOnBox_90 d ih _ _ _ _ _ _ _  _ h) ⟨rfl, rfl, rfl, rfl, rfl, rfl, trivial⟩
        · rw [if_neg hc] at h
          exact Go.weak' (t_Mod_isOnBox_85 d ih _ _ _ _ _ _  _ h) ⟨rfl, rfl, rfl, rfl, rfl, rfl, trivial⟩
set_option maxRecDepth 100000 in
set_option maxHeartbeats 4000000 in
theorem t_Mod_isOnBox_53 (d : Nat)   (sg : Hp) (x1 : Int32) (x2 : Int32) (x3 : Int32) (xs0 : Int32)  (y : Int32 × Hp) (h : f_Mod_isOnBox_53  sg x1 x2 x3 xs0 = some y) : Go (d + 2) none 111 53 [(0, .ref 46), (1, .int x1), (2, .int x2), (3, .int x3)] [.int xs0] sg (some (.int y.1)) y.2 := by
  unfold f_Mod_isOnBox_53 at h
  refine G_istore rfl rfl ?_
  refine G_iconst (0 : Int32) rfl (by decide) ?_
  refine G_istore rfl rfl ?_
  refine G_iconst (0 : Int32) rfl (by decide) ?_
  refine G_istore rfl rfl ?_
  exact Go.weak' (t_Mod_isOnBox_61 d  _ _ _ _ _ _ _ _  _ h) ⟨rfl, rfl, rfl, rfl, rfl, rfl, rfl, trivial⟩
set_option maxRecDepth 100000 in
set_option maxHeartbeats 4000000 in
theorem t_Mod_isOnBox_52 (d : Nat)   (sg : Hp) (x1 : Int32) (x2 : Int32) (x3 : Int32)  (y : Int32 × Hp) (h : f_Mod_isOnBox_52  sg x1 x2 x3 = some y) : Go (d + 2) none 111 52 [(0, .ref 46), (1, .int x1), (2, .int x2), (3, .int x3)] [] sg (some (.int y.1)) y.2 := by
  unfold f_Mod_isOnBox_52 at h
  refine G_iconst (0 : Int32) rfl (by decide) ?_
  exact Go.weak' (t_Mod_isOnBox_53 d  _ _ _ _ _  _ h) ⟨rfl, rfl, rfl, rfl, trivial⟩
set_option maxRecDepth 100000 in
set_option maxHeartbeats 4000000 in
theorem t_Mod_isOnBox (d : Nat) (sg : Hp) (x1 : Int32) (x2 : Int32) (x3 : Int32)  (y : Int32 × Hp) (h : f_Mod_isOnBox sg x1 x2 x3 = some y) : Sm (d + 2) 111 [.ref 46, .int x1, .int x2, .int x3] sg (some (.int y.1)) y.2 := by
  unfold f_Mod_isOnBox at h
  refine Sm.of (lv := [(0, .ref 46), (1, .int x1), (2, .int x2), (3, .int x3)]) rfl ?_
  refine G_iload rfl rfl ?_
  refine G_i2l rfl ?_
  refine G_lconst (0 : Int64) rfl (by decide) ?_
  refine G_aload rfl rfl ?_
  refine G_getR (ci := 10) 51 rfl rfl rfl rfl rfl ?_
  refine G_iconst (0 : Int32) rfl (by decide) ?_
  refine G_ialdL 0 rfl rfl rfl (by decide) (by decide) ?_
  refine G_i2l rfl ?_
  obtain ⟨y1, hy1, h⟩ := Option.bind_eq_some_iff.mp h
  refine G_callsI 3 (t_Mod_in _ _ _ _ _  _ hy1) rfl rfl rfl rfl rfl rfl rfl rfl rfl ?_
  refine G_if_eq 52 rfl rfl (fun hc => ?_) (fun hc => ?_)
  · rw [if_pos hc] at h
    exact Go.weak' (t_Mod_isOnBox_52 d  _ _ _ _  _ h) ⟨rfl, rfl, rfl, rfl, trivial⟩
  · rw [if_neg hc] at h
    refine G_iload rfl rfl ?_
    refine G_i2l rfl ?_
    refine G_lconst (0 : Int64) rfl (by decide) ?_
    refine G_aload rfl rfl ?_
    refine G_getR (ci := 10) 51 rfl rfl rfl rfl rfl ?_
    refine G_iconst (1 : Int32) rfl (by decide) ?_
    refine G_ialdL 1 rfl rfl rfl (by decide) (by decide) ?_
    refine G_i2l rfl ?_
    obtain ⟨y3, hy3, h⟩ := Option.bind_eq_some_iff.mp h
    refine G_callsI 3 (t_Mod_in _ _ _ _ _  _ hy3) rfl rfl rfl rfl rfl rfl rfl rfl rfl ?_
    refine G_if_eq 52 rfl rfl (fun hc => ?_) (fun hc => ?_)
    · rw [if_pos hc] at h
      exact Go.weak' (t_Mod_isOnBox_52 d  _ _ _ _  _ h) ⟨rfl, rfl, rfl, rfl, trivial⟩
    · rw [if_neg hc] at h
      refine G_iload rfl rfl ?_
      refine G_i2l rfl ?_
      refine G_lconst (0 : Int64) rfl (by decide) ?_
      refine G_aload rfl rfl ?_
      refine G_getR (ci := 10) 51 rfl rfl rfl rfl rfl ?_
      refine G_iconst (2 : Int32) rfl (by decide) ?_
      refine G_ialdL 2 rfl rfl rfl (by decide) (by decide) ?_
      refine G_i2l rfl ?_
      obtain ⟨y4, hy4, h⟩ := Option.bind_eq_some_iff.mp h
      refine G_callsI 3 (t_Mod_in _ _ _ _ _  _ hy4) rfl rfl rfl rfl rfl rfl rfl rfl rfl ?_
      refine G_if_eq 52 rfl rfl (fun hc => ?_) (fun hc => ?_)
      · rw [if_pos hc] at h
        exact Go.weak' (t_Mod_isOnBox_52 d  _ _ _ _  _ h) ⟨rfl, rfl, rfl, rfl, trivial⟩
      · rw [if_neg hc] at h
        refine G_iconst (1 : Int32) rfl (by decide) ?_
        refine G_goto 53 rfl rfl ?_
        exact Go.weak' (t_Mod_isOnBox_53 d  _ _ _ _ _  _ h) ⟨rfl, rfl, rfl, rfl, trivial⟩
set_option maxRecDepth 100000 in
set_option maxHeartbeats 4000000 in
theorem t_Mod_isThere (d : Nat) (sg : Hp) (x1 : Int32)  (y : Int32 × Hp) (h : f_Mod_isThere sg x1 = some y) : Sm (d + 3) 110 [.ref 46, .int x1] sg (some (.int y.1)) y.2 := by
  unfold f_Mod_isThere at h
  refine Sm.of (lv := [(0, .ref 46), (1, .int x1)]) rfl ?_
  refine G_aload rfl rfl ?_
  refine G_aload rfl rfl ?_
  refine G_getR (ci := 10) 52 rfl rfl rfl rfl rfl ?_
  refine G_iconst (3 : Int32) rfl (by decide) ?_
  refine G_iload rfl rfl ?_
  refine G_imul rfl ?_
  obtain ⟨hg1, h⟩ := if_some h
  refine G_iald rfl rfl rfl hg1 ?_
  refine G_aload rfl rfl ?_
  refine G_getR (ci := 10) 52 rfl rfl rfl rfl rfl ?_
  refine G_iconst (3 : Int32) rfl (by decide) ?_
  refine G_iload rfl rfl ?_
  refine G_imul rfl ?_
  refine G_iconst (1 : Int32) rfl (by decide) ?_
  refine G_iadd rfl ?_
  obtain ⟨hg2, h⟩ := if_some h
  refine G_iald rfl rfl rfl hg2 ?_
  refine G_aload rfl rfl ?_
  refine G_getR (ci := 10) 52 rfl rfl rfl rfl rfl ?_
  refine G_iconst (3 : Int32) rfl (by decide) ?_
  refine G_iload rfl rfl ?_
  refine G_imul rfl ?_
  refine G_iconst (2 : Int32) rfl (by decide) ?_
  refine G_iadd rfl ?_
  obtain ⟨hg3, h⟩ := if_some h
  refine G_iald rfl rfl rfl hg3 ?_
  obtain ⟨y4, hy4, h⟩ := Option.bind_eq_some_iff.mp h
  refine G_callvI 4 (t_Mod_isOnBox _ _ _ _ _  _ hy4) rfl rfl rfl rfl rfl rfl rfl rfl rfl rfl rfl ?_
  obtain ⟨hz, h⟩ := if_some h
  obtain rfl := Option.some.inj h
  exact G_iret rfl (retZ_b rfl hz)
set_option maxRecDepth 100000 in
set_option maxHeartbeats 4000000 in
theorem t_Mod_puts (d : Nat) (sg : Hp) (x1 : Int32) (x2 : Int32) (x3 : Int32) (x4 : Int32)  (y : Hp) (h : f_Mod_puts sg x1 x2 x3 x4 = some y) : Sm (d + 0) 114 [.ref 46, .int x1, .int x2, .int x3, .int x4] sg none y := by
  unfold f_Mod_puts at h
  refine Sm.of (lv := [(0, .ref 46), (1, .int x1), (2, .int x2), (3, .int x3), (4, .int x4)]) rfl ?_
  refine G_aload rfl rfl ?_
  refine G_getR (ci := 10) 52 rfl rfl rfl rfl rfl ?_
  refine G_iconst (3 : Int32) rfl (by decide) ?_
  refine G_iload rfl rfl ?_
  refine G_imul rfl ?_
  refine G_iload rfl rfl ?_
  obtain ⟨hg1, h⟩ := if_some h
  obtain ⟨s2, hs2, h⟩ := Option.bind_eq_some_iff.mp h
  refine G_iast rfl rfl rfl hg1 (Option.some.inj hs2) ?_
  refine G_aload rfl rfl ?_
  refine G_getR (ci := 10) 52 rfl rfl rfl rfl rfl ?_
  refine G_iconst (3 : Int32) rfl (by decide) ?_
  refine G_iload rfl rfl ?_
  refine G_imul rfl ?_
  refine G_iconst (1 : Int32) rfl (by decide) ?_
  refine G_iadd rfl ?_
  refine G_iload rfl rfl ?_
  obtain ⟨hg3, h⟩ := if_some h
  obtain ⟨s4, hs4, h⟩ := Option.bind_eq_some_iff.mp h
  refine G_iast rfl rfl rfl hg3 (Option.some.inj hs4) ?_
  refine G_aload rfl rfl ?_
  refine G_getR (ci := 10) 52 rfl rfl rfl rfl rfl ?_
  refine G_iconst (3 : Int32) rfl (by decide) ?_
  refine G_iload rfl rfl ?_
  refine G_imul rfl ?_
  refine G_iconst (2 : Int32) rfl (by decide) ?_
  refine G_iadd rfl ?_
  refine G_iload rfl rfl ?_
  obtain ⟨hg5, h⟩ := if_some h
  obtain ⟨s6, hs6, h⟩ := Option.bind_eq_some_iff.mp h
  refine G_iast rfl rfl rfl hg5 (Option.some.inj hs6) ?_
  obtain rfl := Option.some.inj h
  exact G_vret rfl rfl
set_option maxRecDepth 100000 in
set_option maxHeartbeats 4000000 in
theorem t_Mod_side_69 (d : Nat) {k44 : Hp → Int32 → Int32 → Option (Int32 × Hp)} (hk44 : ∀ (sg : Hp) (x3 : Int32) (x4 : Int32)  (y : Int32 × Hp), k44 sg x3 x4 = some y → Go (d + 4) none 109 44 [(0, .ref 46), (3, .int x3), (4, .int x4)] [] sg (some (.int y.1)) y.2) (sg : Hp) (x3 : Int32) (x4 : Int32)  (y : Int32 × Hp) (h : f_Mod_side_69 k44 sg x3 x4 = some y) : Go (d + 4) none 109 69 [(0, .ref 46), (3, .int x3), (4, .int x4)] [] sg (some (.int y.1)) y.2 := by
  unfold f_Mod_side_69 at h
  refine G_iinc (1 : Int32) rfl (by decide) rfl rfl ?_
  refine G_goto 44 rfl rfl ?_
  exact Go.weak' (hk44 _ _ _  _ h) ⟨rfl, rfl, rfl, trivial⟩
set_option maxRecDepth 100000 in
set_option maxHeartbeats 4000000 in
theorem t_Mod_side_44 (d : Nat)   : ∀ (n : Nat) (sg : Hp) (x3 : Int32) (x4 : Int32)  (y : Int32 × Hp), f_Mod_side_44  n sg x3 x4 = some y → Go (d + 4) none 109 44 [(0, .ref 46), (3, .int x3), (4, .int x4)] [] sg (some (.int y.1)) y.2 := by
  intro n
  induction n with
  | zero =>
    intro sg x3 x4 y h
    rw [f_Mod_side_44] at h
    cases h
  | succ n ih =>
    intro sg x3 x4 y h
    rw [f_Mod_side_44] at h
    refine G_iload rfl rfl ?_
    refine G_iconst (8 : Int32) rfl (by decide) ?_
    refine G_ic_ge 75 rfl rfl (fun hc => ?_) (fun hc => ?_)
    · rw [if_pos hc] at h
      refine G_iload rfl rfl ?_
      obtain rfl := Option.some.inj h
      exact G_iret rfl rfl
    · rw [if_neg hc] at h
      refine G_aload rfl rfl ?_
      refine G_iload rfl rfl ?_
      obtain ⟨y6, hy6, h⟩ := Option.bind_eq_some_iff.mp h
      refine G_callvI 2 (t_Mod_isThere _ _ _  _ hy6) rfl rfl rfl rfl rfl rfl rfl rfl rfl rfl rfl ?_
      refine G_if_ne 69 rfl rfl (fun hc => ?_) (fun hc => ?_)
      · rw [if_neg hc] at h
        exact Go.weak' (t_Mod_side_69 d ih _ _ _  _ h) ⟨rfl, rfl, rfl, trivial⟩
      · rw [if_pos hc] at h
        refine G_aload rfl rfl ?_
        refine G_iload rfl rfl ?_
        refine G_iconst (0 : Int32) rfl (by decide) ?_
        refine G_iconst (0 : Int32) rfl (by decide) ?_
        refine G_iconst (0 : Int32) rfl (by decide) ?_
        obtain ⟨y7, hy7, h⟩ := Option.bind_eq_some_iff.mp h
        refine G_callvV 5 (t_Mod_puts _ _ _ _ _ _  _ hy7) rfl rfl rfl rfl rfl rfl rfl rfl rfl rfl rfl ?_
        exact Go.weak' (t_Mod_side_69 d ih _ _ _  _ h) ⟨rfl, rfl, rfl, trivial⟩
set_option maxRecDepth 100000 in
set_option maxHeartbeats 4000000 in
theorem t_Mod_side (d : Nat) (sg : Hp) (x1 : Int32) (x2 : Int32)  (y : Int32 × Hp) (h : f_Mod_side sg x1 x2 = some y) : Sm (d + 4) 109 [.ref 46, .int x1, .int x2] sg (some (.int y.1)) y.2 := by
  unfold f_Mod_side at h
  refine Sm.of (lv := [(0, .ref 46), (1, .int x1), (2, .int x2)]) rfl ?_
  refine G_iload rfl rfl ?_
  refine G_i2l rfl ?_
  refine G_lconst (0 : Int64) rfl (by decide) ?_
  refine G_ldc2 (2 : Int64) rfl (by decide) ?_
  obtain ⟨y1, hy1, h⟩ := Option.bind_eq_some_iff.mp h
  refine G_callsI 3 (t_Mod_in _ _ _ _ _  _ hy1) rfl rfl rfl rfl rfl rfl rfl rfl rfl ?_
  refine G_if_eq 24 rfl rfl (fun hc => ?_) (fun hc => ?_)
  · rw [if_pos hc] at h
    refine G_iconst (-2 : Int32) rfl (by decide) ?_
    obtain rfl := Option.some.inj h
    exact G_iret rfl rfl
  · rw [if_neg hc] at h
    refine G_iload rfl rfl ?_
    refine G_i2l rfl ?_
    refine G_lconst (1 : Int64) rfl (by decide) ?_
    refine G_ldc2 (30 : Int64) rfl (by decide) ?_
    obtain ⟨y2, hy2, h⟩ := Option.bind_eq_some_iff.mp h
    refine G_callsI 3 (t_Mod_in _ _ _ _ _  _ hy2) rfl rfl rfl rfl rfl rfl rfl rfl rfl ?_
    refine G_if_ne 27 rfl rfl (fun hc => ?_) (fun hc => ?_)
    · rw [if_neg hc] at h
      refine G_aload rfl rfl ?_
      refine G_getR (ci := 10) 51 rfl rfl rfl rfl rfl ?_
      refine G_iload rfl rfl ?_
      obtain ⟨hg3, h⟩ := if_some h
      refine G_iald rfl rfl rfl hg3 ?_
      refine G_istore rfl rfl ?_
      refine G_aload rfl rfl ?_
      refine G_getR (ci := 10) 51 rfl rfl rfl rfl rfl ?_
      refine G_iload rfl rfl ?_
      refine G_iload rfl rfl ?_
      obtain ⟨hg4, h⟩ := if_some h
      obtain ⟨s5, hs5, h⟩ := Option.bind_eq_some_iff.mp h
      refine G_iast rfl rfl rfl hg4 (Option.some.inj hs5) ?_
      refine G_iconst (0 : Int32) rfl (by decide) ?_
      refine G_istore rfl rfl ?_
      exact Go.weak' (t_Mod_side_44 d  _ _ _ _  _ h) ⟨rfl, rfl, rfl, trivial⟩
    · rw [if_pos hc] at h
      refine G_iconst (-2 : Int32) rfl (by decide) ?_
      obtain rfl := Option.some.inj h
      exact G_iret rfl rfl
set_option maxRecDepth 100000 in
set_option maxHeartbeats 4000000 in
theorem t_Box_isPlace (d : Nat) (sg : Hp) (x0 : Int32)  (y : Int32 × Hp) (h : f_Box_isPlace sg x0 = some y) : Sm (d + 0) 18 [.int x0] sg (some (.int y.1)) y.2 := by
  unfold f_Box_isPlace at h
  refine Sm.of (lv := [(0, .int x0)]) rfl ?_
  refine G_iload rfl rfl ?_
  refine G_if_lt 14 rfl rfl (fun hc => ?_) (fun hc => ?_)
  · rw [if_pos hc] at h
    refine G_iconst (0 : Int32) rfl (by decide) ?_
    obtain rfl := Option.some.inj h
    exact G_iret rfl rfl
  · rw [if_neg hc] at h
    refine G_iload rfl rfl ?_
    refine G_iconst (8 : Int32) rfl (by decide) ?_
    refine G_ic_ge 14 rfl rfl (fun hc => ?_) (fun hc => ?_)
    · rw [if_pos hc] at h
      refine G_iconst (0 : Int32) rfl (by decide) ?_
      obtain rfl := Option.some.inj h
      exact G_iret rfl rfl
    · rw [if_neg hc] at h
      refine G_iconst (1 : Int32) rfl (by decide) ?_
      refine G_goto 15 rfl rfl ?_
      obtain rfl := Option.some.inj h
      exact G_iret rfl rfl
set_option maxRecDepth 100000 in
set_option maxHeartbeats 4000000 in
theorem t_Box_place (d : Nat) (sg : Hp) (x1 : Int32) (x2 : Int32) (x3 : Int32) (x4 : Int32)  (y : Int32 × Hp) (h : f_Box_place sg x1 x2 x3 x4 = some y) : Sm (d + 2) 17 [.ref 0, .int x1, .int x2, .int x3, .int x4] sg (some (.int y.1)) y.2 := by
  unfold f_Box_place at h
  refine Sm.of (lv := [(0, .ref 0), (1, .int x1), (2, .int x2), (3, .int x3), (4, .int x4)]) rfl ?_
  refine G_iload rfl rfl ?_
  obtain ⟨y1, hy1, h⟩ := Option.bind_eq_some_iff.mp h
  refine G_callsI 1 (t_Box_isPlace _ _ _  _ hy1) rfl rfl rfl rfl rfl rfl rfl rfl rfl ?_
  refine G_if_eq 21 rfl rfl (fun hc => ?_) (fun hc => ?_)
  · rw [if_pos hc] at h
    refine G_iconst (-2 : Int32) rfl (by decide) ?_
    obtain rfl := Option.some.inj h
    exact G_iret rfl rfl
  · rw [if_neg hc] at h
    refine G_aload rfl rfl ?_
    refine G_getR (ci := 9) 1 rfl rfl rfl rfl rfl ?_
    refine G_iload rfl rfl ?_
    refine G_iload rfl rfl ?_
    refine G_iload rfl rfl ?_
    obtain ⟨y2, hy2, h⟩ := Option.bind_eq_some_iff.mp h
    refine G_callvI 4 (t_Room_holds _ _ _ _ _  _ hy2) rfl rfl rfl rfl rfl rfl rfl rfl rfl rfl rfl ?_
    refine G_if_ne 24 rfl rfl (fun hc => ?_) (fun hc => ?_)
    · rw [if_neg hc] at h
      refine G_aload rfl rfl ?_
      refine G_getR (ci := 9) 1 rfl rfl rfl rfl rfl ?_
      refine G_iload rfl rfl ?_
      refine G_iload rfl rfl ?_
      refine G_iload rfl rfl ?_
      refine G_iload rfl rfl ?_
      obtain ⟨y3, hy3, h⟩ := Option.bind_eq_some_iff.mp h
      refine G_callvV 5 (t_Room_move _ _ _ _ _ _  _ hy3) rfl rfl rfl rfl rfl rfl rfl rfl rfl rfl rfl ?_
      refine G_iconst (1 : Int32) rfl (by decide) ?_
      obtain rfl := Option.some.inj h
      exact G_iret rfl rfl
    · rw [if_pos hc] at h
      refine G_iconst (-2 : Int32) rfl (by decide) ?_
      obtain rfl := Option.some.inj h
      exact G_iret rfl rfl
set_option maxRecDepth 100000 in
set_option maxHeartbeats 4000000 in
theorem t_Mod_isPlace (d : Nat) (sg : Hp) (x0 : Int32)  (y : Int32 × Hp) (h : f_Mod_isPlace sg x0 = some y) : Sm (d + 1) 116 [.int x0] sg (some (.int y.1)) y.2 := by
  unfold f_Mod_isPlace at h
  refine Sm.of (lv := [(0, .int x0)]) rfl ?_
  refine G_iload rfl rfl ?_
  refine G_i2l rfl ?_
  refine G_lconst (0 : Int64) rfl (by decide) ?_
  refine G_ldc2 (7 : Int64) rfl (by decide) ?_
  obtain ⟨y1, hy1, h⟩ := Option.bind_eq_some_iff.mp h
  refine G_callsI 3 (t_Mod_in _ _ _ _ _  _ hy1) rfl rfl rfl rfl rfl rfl rfl rfl rfl ?_
  obtain ⟨hz, h⟩ := if_some h
  obtain rfl := Option.some.inj h
  exact G_iret rfl (retZ_b rfl hz)
set_option maxRecDepth 100000 in
set_option maxHeartbeats 4000000 in
theorem t_Mod_place (d : Nat) (sg : Hp) (x1 : Int32) (x2 : Int32) (x3 : Int32) (x4 : Int32)  (y : Int32 × Hp) (h : f_Mod_place sg x1 x2 x3 x4 = some y) : Sm (d + 3) 115 [.ref 46, .int x1, .int x2, .int x3, .int x4] sg (some (.int y.1)) y.2 := by
  unfold f_Mod_place at h
  refine Sm.of (lv := [(0, .ref 46), (1, .int x1), (2, .int x2), (3, .int x3), (4, .int x4)]) rfl ?_
  refine G_iload rfl rfl ?_
  obtain ⟨y1, hy1, h⟩ := Option.bind_eq_some_iff.mp h
  refine G_callsI 1 (t_Mod_isPlace _ _ _  _ hy1) rfl rfl rfl rfl rfl rfl rfl rfl rfl ?_
  refine G_if_eq 18 rfl rfl (fun hc => ?_) (fun hc => ?_)
  · rw [if_pos hc] at h
    refine G_iconst (-2 : Int32) rfl (by decide) ?_
    obtain rfl := Option.some.inj h
    exact G_iret rfl rfl
  · rw [if_neg hc] at h
    refine G_aload rfl rfl ?_
    refine G_iload rfl rfl ?_
    refine G_iload rfl rfl ?_
    refine G_iload rfl rfl ?_
    obtain ⟨y2, hy2, h⟩ := Option.bind_eq_some_iff.mp h
    refine G_callvI 4 (t_Mod_isOnBox _ _ _ _ _  _ hy2) rfl rfl rfl rfl rfl rfl rfl rfl rfl rfl rfl ?_
    refine G_if_ne 21 rfl rfl (fun hc => ?_) (fun hc => ?_)
    · rw [if_neg hc] at h
      refine G_aload rfl rfl ?_
      refine G_iload rfl rfl ?_
      refine G_iload rfl rfl ?_
      refine G_iload rfl rfl ?_
      refine G_iload rfl rfl ?_
      obtain ⟨y3, hy3, h⟩ := Option.bind_eq_some_iff.mp h
      refine G_callvV 5 (t_Mod_puts _ _ _ _ _ _  _ hy3) rfl rfl rfl rfl rfl rfl rfl rfl rfl rfl rfl ?_
      refine G_iconst (1 : Int32) rfl (by decide) ?_
      obtain rfl := Option.some.inj h
      exact G_iret rfl rfl
    · rw [if_pos hc] at h
      refine G_iconst (-2 : Int32) rfl (by decide) ?_
      obtain rfl := Option.some.inj h
      exact G_iret rfl rfl
set_option maxRecDepth 100000 in
set_option maxHeartbeats 4000000 in
theorem t_Room_spotOf (d : Nat) (sg : Hp) (x1 : Int32) (a2 : Nat) (h2 : clsOf a2 = 5) (y : Hp) (h : f_Room_spotOf sg x1 a2 = some y) : Sm (d + 1) 20 [.ref 1, .int x1, .ref a2] sg none y := by
  unfold f_Room_spotOf at h
  refine Sm.of (lv := [(0, .ref 1), (1, .int x1), (2, .ref a2)]) rfl ?_
  refine G_aload rfl rfl ?_
  refine G_aload rfl rfl ?_
  refine G_getR (ci := 2) 2 rfl rfl rfl rfl rfl ?_
  refine G_aload rfl rfl ?_
  refine G_getR (ci := 2) 3 rfl rfl rfl rfl rfl ?_
  refine G_iload rfl rfl ?_
  obtain ⟨hg1, h⟩ := if_some h
  refine G_iald rfl rfl rfl hg1 ?_
  refine G_aload rfl rfl ?_
  refine G_getR (ci := 2) 4 rfl rfl rfl rfl rfl ?_
  refine G_iload rfl rfl ?_
  obtain ⟨hg2, h⟩ := if_some h
  refine G_iald rfl rfl rfl hg2 ?_
  refine G_aload rfl rfl ?_
  refine G_getR (ci := 2) 5 rfl rfl rfl rfl rfl ?_
  refine G_iload rfl rfl ?_
  obtain ⟨hg3, h⟩ := if_some h
  refine G_iald rfl rfl rfl hg3 ?_
  obtain ⟨y4, hy4, h⟩ := Option.bind_eq_some_iff.mp h
  refine G_callvV 5 (t_Spot_set _ _ _ _ _ _ _ h2 rfl rfl _ hy4) rfl rfl rfl rfl rfl rfl rfl rfl rfl h2 rfl ?_
  obtain rfl := Option.some.inj h
  exact G_vret rfl rfl
set_option maxRecDepth 100000 in
set_option maxHeartbeats 4000000 in
theorem t_Spot_wallBits_25 (d : Nat) {k4 : Hp → Nat → Int32 → Int32 → Option (Int32 × Hp)} (hk4 : ∀ (sg : Hp) (a0 : Nat) (x1 : Int32) (x2 : Int32) (h0 : clsOf a0 = 5) (y : Int32 × Hp), k4 sg a0 x1 x2 = some y → Go (d + 0) none 21 4 [(0, .ref a0), (1, .int x1), (2, .int x2)] [] sg (some (.int y.1)) y.2) (sg : Hp) (a0 : Nat) (x1 : Int32) (x2 : Int32) (h0 : clsOf a0 = 5) (y : Int32 × Hp) (h : f_Spot_wallBits_25 k4 sg a0 x1 x2 = some y) : Go (d + 0) none 21 25 [(0, .ref a0), (1, .int x1), (2, .int x2)] [] sg (some (.int y.1)) y.2 := by
  unfold f_Spot_wallBits_25 at h
  refine G_iinc (1 : Int32) rfl (by decide) rfl rfl ?_
  refine G_goto 4 rfl rfl ?_
  exact Go.weak' (hk4 _ _ _ _ h0 _ h) ⟨rfl, rfl, rfl, trivial⟩
set_option maxRecDepth 100000 in
set_option maxHeartbeats 4000000 in
theorem t_Spot_wallBits_4 (d : Nat)   : ∀ (n : Nat) (sg : Hp) (a0 : Nat) (x1 : Int32) (x2 : Int32) (h0 : clsOf a0 = 5) (y : Int32 × Hp), f_Spot_wallBits_4  n sg a0 x1 x2 = some y → Go (d + 0) none 21 4 [(0, .ref a0), (1, .int x1), (2, .int x2)] [] sg (some (.int y.1)) y.2 := by
  intro n
  induction n with
  | zero =>
    intro sg a0 x1 x2 h0 y h
    rw [f_Spot_wallBits_4] at h
    cases h
  | succ n ih =>
    intro sg a0 x1 x2 h0 y h
    rw [f_Spot_wallBits_4] at h
    refine G_iload rfl rfl ?_
    refine G_iconst (6 : Int32) rfl (by decide) ?_
    refine G_ic_ge 31 rfl rfl (fun hc => ?_) (fun hc => ?_)
    · rw [if_pos hc] at h
      refine G_iload rfl rfl ?_
      obtain rfl := Option.some.inj h
      exact G_iret rfl rfl
    · rw [if_neg hc] at h
      refine G_aload rfl rfl ?_
      refine G_getR (ci := 5) (rt a0 0) rfl h0 rfl rfl rfl ?_
      refine G_iload rfl rfl ?_
      obtain ⟨hg1, h⟩ := if_some h
      refine G_iald rfl (rt_cls h0 0 rfl).1 (rt_cls h0 0 rfl).2 hg1 ?_
      refine G_if_ne 25 rfl rfl (fun hc => ?_) (fun hc => ?_)
      · rw [if_neg hc] at h
        exact Go.weak' (t_Spot_wallBits_25 d ih _ _ _ _ h0 _ h) ⟨rfl, rfl, rfl, trivial⟩
      · rw [if_pos hc] at h
        refine G_iload rfl rfl ?_
        refine G_iconst (1 : Int32) rfl (by decide) ?_
        refine G_iload rfl rfl ?_
        refine G_ishl rfl ?_
        refine G_ior rfl ?_
        refine G_istore rfl rfl ?_
        exact Go.weak' (t_Spot_wallBits_25 d ih _ _ _ _ h0 _ h) ⟨rfl, rfl, rfl, trivial⟩
set_option maxRecDepth 100000 in
set_option maxHeartbeats 4000000 in
theorem t_Spot_wallBits (d : Nat) (sg : Hp) (a0 : Nat) (h0 : clsOf a0 = 5) (y : Int32 × Hp) (h : f_Spot_wallBits sg a0 = some y) : Sm (d + 0) 21 [.ref a0] sg (some (.int y.1)) y.2 := by
  unfold f_Spot_wallBits at h
  refine Sm.of (lv := [(0, .ref a0)]) rfl ?_
  refine G_iconst (0 : Int32) rfl (by decide) ?_
  refine G_istore rfl rfl ?_
  refine G_iconst (0 : Int32) rfl (by decide) ?_
  refine G_istore rfl rfl ?_
  exact Go.weak' (t_Spot_wallBits_4 d  _ _ _ _ _ h0 _ h) ⟨rfl, rfl, rfl, trivial⟩
set_option maxRecDepth 100000 in
set_option maxHeartbeats 4000000 in
theorem t_Box_at (d : Nat) (sg : Hp) (x1 : Int32) (x2 : Int32)  (y : Int32 × Hp) (h : f_Box_at sg x1 x2 = some y) : Sm (d + 2) 19 [.ref 0, .int x1, .int x2] sg (some (.int y.1)) y.2 := by
  unfold f_Box_at at h
  refine Sm.of (lv := [(0, .ref 0), (1, .int x1), (2, .int x2)]) rfl ?_
  refine G_iload rfl rfl ?_
  obtain ⟨y1, hy1, h⟩ := Option.bind_eq_some_iff.mp h
  refine G_callsI 1 (t_Box_isPlace _ _ _  _ hy1) rfl rfl rfl rfl rfl rfl rfl rfl rfl ?_
  refine G_if_eq 16 rfl rfl (fun hc => ?_) (fun hc => ?_)
  · rw [if_pos hc] at h
    refine G_iconst (-2 : Int32) rfl (by decide) ?_
    obtain rfl := Option.some.inj h
    exact G_iret rfl rfl
  · rw [if_neg hc] at h
    refine G_iload rfl rfl ?_
    refine G_if_lt 16 rfl rfl (fun hc => ?_) (fun hc => ?_)
    · rw [if_pos hc] at h
      refine G_iconst (-2 : Int32) rfl (by decide) ?_
      obtain rfl := Option.some.inj h
      exact G_iret rfl rfl
    · rw [if_neg hc] at h
      refine G_iload rfl rfl ?_
      refine G_iconst (3 : Int32) rfl (by decide) ?_
      refine G_ic_le 19 rfl rfl (fun hc => ?_) (fun hc => ?_)
      · rw [if_pos hc] at h
        refine G_iload rfl rfl ?_
        by_cases hc2_0 : x2 = (0 : Int32)
        · rw [if_pos hc2_0] at h
          refine G_tsw (t := 48) 48 rfl (by rw [hc2_0]; decide) (by rw [hc2_0]; rfl) rfl ?_
          refine G_aload rfl rfl ?_
          refine G_getR (ci := 9) 1 rfl rfl rfl rfl rfl ?_
          refine G_getR (ci := 2) 3 rfl rfl rfl rfl rfl ?_
          refine G_iload rfl rfl ?_
          obtain ⟨hg3, h⟩ := if_some h
          refine G_iald rfl rfl rfl hg3 ?_
          obtain rfl := Option.some.inj h
          exact G_iret rfl rfl
        · rw [if_neg hc2_0] at h
          by_cases hc2_1 : x2 = (1 : Int32)
          · rw [if_pos hc2_1] at h
            refine G_tsw (t := 58) 58 rfl (by rw [hc2_1]; decide) (by rw [hc2_1]; rfl) rfl ?_
            refine G_aload rfl rfl ?_
            refine G_getR (ci := 9) 1 rfl rfl rfl rfl rfl ?_
            refine G_getR (ci := 2) 4 rfl rfl rfl rfl rfl ?_
            refine G_iload rfl rfl ?_
            obtain ⟨hg4, h⟩ := if_some h
            refine G_iald rfl rfl rfl hg4 ?_
            obtain rfl := Option.some.inj h
            exact G_iret rfl rfl
          · rw [if_neg hc2_1] at h
            by_cases hc2_2 : x2 = (2 : Int32)
            · rw [if_pos hc2_2] at h
              refine G_tsw (t := 68) 68 rfl (by rw [hc2_2]; decide) (by rw [hc2_2]; rfl) rfl ?_
              refine G_aload rfl rfl ?_
              refine G_getR (ci := 9) 1 rfl rfl rfl rfl rfl ?_
              refine G_getR (ci := 2) 5 rfl rfl rfl rfl rfl ?_
              refine G_iload rfl rfl ?_
              obtain ⟨hg5, h⟩ := if_some h
              refine G_iald rfl rfl rfl hg5 ?_
              obtain rfl := Option.some.inj h
              exact G_iret rfl rfl
            · rw [if_neg hc2_2] at h
              have q2_0 := ti_ne hc2_0 (n := 0) rfl
              have q2_1 := ti_ne hc2_1 (n := 1) rfl
              have q2_2 := ti_ne hc2_2 (n := 2) rfl
              refine G_tswD 78 rfl (by omega) rfl ?_
              refine G_aload rfl rfl ?_
              refine G_getR (ci := 9) 1 rfl rfl rfl rfl rfl ?_
              refine G_iload rfl rfl ?_
              refine G_aload rfl rfl ?_
              refine G_getR (ci := 9) 35 rfl rfl rfl rfl rfl ?_
              obtain ⟨y6, hy6, h⟩ := Option.bind_eq_some_iff.mp h
              refine G_callvV 3 (t_Room_spotOf _ _ _ _ rfl _ hy6) rfl rfl rfl rfl rfl rfl rfl rfl rfl rfl rfl ?_
              refine G_aload rfl rfl ?_
              refine G_getR (ci := 9) 35 rfl rfl rfl rfl rfl ?_
              obtain ⟨y7, hy7, h⟩ := Option.bind_eq_some_iff.mp h
              refine G_callvI 1 (t_Spot_wallBits _ _ _ rfl _ hy7) rfl rfl rfl rfl rfl rfl rfl rfl rfl rfl rfl ?_
              obtain rfl := Option.some.inj h
              exact G_iret rfl rfl
      · rw [if_neg hc] at h
        refine G_iconst (-2 : Int32) rfl (by decide) ?_
        obtain rfl := Option.some.inj h
        exact G_iret rfl rfl
set_option maxRecDepth 100000 in
set_option maxHeartbeats 4000000 in
theorem t_Mod_isOn (d : Nat) (sg : Hp) (x1 : Int32) (x2 : Int32)  (y : Int32 × Hp) (h : f_Mod_isOn sg x1 x2 = some y) : Sm (d + 2) 120 [.ref 46, .int x1, .int x2] sg (some (.int y.1)) y.2 := by
  unfold f_Mod_isOn at h
  refine Sm.of (lv := [(0, .ref 46), (1, .int x1), (2, .int x2)]) rfl ?_
  refine G_aload rfl rfl ?_
  refine G_iload rfl rfl ?_
  refine G_aload rfl rfl ?_
  refine G_getR (ci := 10) 52 rfl rfl rfl rfl rfl ?_
  refine G_iconst (3 : Int32) rfl (by decide) ?_
  refine G_iload rfl rfl ?_
  refine G_imul rfl ?_
  obtain ⟨hg1, h⟩ := if_some h
  refine G_iald rfl rfl rfl hg1 ?_
  refine G_aload rfl rfl ?_
  refine G_getR (ci := 10) 52 rfl rfl rfl rfl rfl ?_
  refine G_iconst (3 : Int32) rfl (by decide) ?_
  refine G_iload rfl rfl ?_
  refine G_imul rfl ?_
  refine G_iconst (1 : Int32) rfl (by decide) ?_
  refine G_iadd rfl ?_
  obtain ⟨hg2, h⟩ := if_some h
  refine G_iald rfl rfl rfl hg2 ?_
  refine G_aload rfl rfl ?_
  refine G_getR (ci := 10) 52 rfl rfl rfl rfl rfl ?_
  refine G_iconst (3 : Int32) rfl (by decide) ?_
  refine G_iload rfl rfl ?_
  refine G_imul rfl ?_
  refine G_iconst (2 : Int32) rfl (by decide) ?_
  refine G_iadd rfl ?_
  obtain ⟨hg3, h⟩ := if_some h
  refine G_iald rfl rfl rfl hg3 ?_
  obtain ⟨y4, hy4, h⟩ := Option.bind_eq_some_iff.mp h
  refine G_callvI 5 (t_Mod_liesOn _ _ _ _ _ _  _ hy4) rfl rfl rfl rfl rfl rfl rfl rfl rfl rfl rfl ?_
  obtain ⟨hz, h⟩ := if_some h
  obtain rfl := Option.some.inj h
  exact G_iret rfl (retZ_b rfl hz)
set_option maxRecDepth 100000 in
set_option maxHeartbeats 4000000 in
theorem t_Mod_facesOf_27 (d : Nat) {k4 : Hp → Int32 → Int32 → Int32 → Option (Int32 × Hp)} (hk4 : ∀ (sg : Hp) (x1 : Int32) (x2 : Int32) (x3 : Int32)  (y : Int32 × Hp), k4 sg x1 x2 x3 = some y → Go (d + 3) none 119 4 [(0, .ref 46), (1, .int x1), (2, .int x2), (3, .int x3)] [] sg (some (.int y.1)) y.2) (sg : Hp) (x1 : Int32) (x3 : Int32) (xs0 : Int32) (xs1 : Int32)  (y : Int32 × Hp) (h : f_Mod_facesOf_27 k4 sg x1 x3 xs0 xs1 = some y) : Go (d + 3) none 119 27 [(0, .ref 46), (1, .int x1), (3, .int x3)] [.int xs1, .int xs0] sg (some (.int y.1)) y.2 := by
  unfold f_Mod_facesOf_27 at h
  refine G_ior rfl ?_
  refine G_istore rfl rfl ?_
  refine G_iinc (1 : Int32) rfl (by decide) rfl rfl ?_
  refine G_goto 4 rfl rfl ?_
  exact Go.weak' (hk4 _ _ _ _  _ h) ⟨rfl, rfl, rfl, rfl, trivial⟩
set_option maxRecDepth 100000 in
set_option maxHeartbeats 4000000 in
theorem t_Mod_facesOf_4 (d : Nat)   : ∀ (n : Nat) (sg : Hp) (x1 : Int32) (x2 : Int32) (x3 : Int32)  (y : Int32 × Hp), f_Mod_facesOf_4  n sg x1 x2 x3 = some y → Go (d + 3) none 119 4 [(0, .ref 46), (1, .int x1), (2, .int x2), (3, .int x3)] [] sg (some (.int y.1)) y.2 := by
  intro n
  induction n with
  | zero =>
    intro sg x1 x2 x3 y h
    rw [f_Mod_facesOf_4] at h
    cases h
  | succ n ih =>
    intro sg x1 x2 x3 y h
    rw [f_Mod_facesOf_4] at h
    refine G_iload rfl rfl ?_
    refine G_iconst (6 : Int32) rfl (by decide) ?_
    refine G_ic_ge 35 rfl rfl (fun hc => ?_) (fun hc => ?_)
    · rw [if_pos hc] at h
      refine G_iload rfl rfl ?_
      obtain rfl := Option.some.inj h
      exact G_iret rfl rfl
    · rw [if_neg hc] at h
      refine G_iload rfl rfl ?_
      refine G_aload rfl rfl ?_
      refine G_iload rfl rfl ?_
      refine G_iload rfl rfl ?_
      obtain ⟨y1, hy1, h⟩ := Option.bind_eq_some_iff.mp h
      refine G_callvI 3 (t_Mod_isOn _ _ _ _  _ hy1) rfl rfl rfl rfl rfl rfl rfl rfl rfl rfl rfl ?_
      refine G_if_eq 26 rfl rfl (fun hc => ?_) (fun hc => ?_)
      · rw [if_pos hc] at h
        refine G_iconst (0 : Int32) rfl (by decide) ?_
        exact Go.weak' (t_Mod_facesOf_27 d ih _ _ _ _ _  _ h) ⟨rfl, rfl, rfl, trivial⟩
      · rw [if_neg hc] at h
        refine G_iconst (1 : Int32) rfl (by decide) ?_
        refine G_iload rfl rfl ?_
        refine G_ishl rfl ?_
        refine G_goto 27 rfl rfl ?_
        exact Go.weak' (t_Mod_facesOf_27 d ih _ _ _ _ _  _ h) ⟨rfl, rfl, rfl, trivial⟩
set_option maxRecDepth 100000 in
set_option maxHeartbeats 4000000 in
theorem t_Mod_facesOf (d : Nat) (sg : Hp) (x1 : Int32)  (y : Int32 × Hp) (h : f_Mod_facesOf sg x1 = some y) : Sm (d + 3) 119 [.ref 46, .int x1] sg (some (.int y.1)) y.2 := by
  unfold f_Mod_facesOf at h
  refine Sm.of (lv := [(0, .ref 46), (1, .int x1)]) rfl ?_
  refine G_iconst (0 : Int32) rfl (by decide) ?_
  refine G_istore rfl rfl ?_
  refine G_iconst (0 : Int32) rfl (by decide) ?_
  refine G_istore rfl rfl ?_
  exact Go.weak' (t_Mod_facesOf_4 d  _ _ _ _ _  _ h) ⟨rfl, rfl, rfl, rfl, trivial⟩
set_option maxRecDepth 100000 in
set_option maxHeartbeats 4000000 in
theorem t_Mod_atOf (d : Nat) (sg : Hp) (x1 : Int32) (x2 : Int32)  (y : Int32 × Hp) (h : f_Mod_atOf sg x1 x2 = some y) : Sm (d + 4) 118 [.ref 46, .int x1, .int x2] sg (some (.int y.1)) y.2 := by
  unfold f_Mod_atOf at h
  refine Sm.of (lv := [(0, .ref 46), (1, .int x1), (2, .int x2)]) rfl ?_
  refine G_iload rfl rfl ?_
  refine G_iconst (3 : Int32) rfl (by decide) ?_
  refine G_ic_ge 18 rfl rfl (fun hc => ?_) (fun hc => ?_)
  · rw [if_pos hc] at h
    refine G_aload rfl rfl ?_
    refine G_iload rfl rfl ?_
    obtain ⟨y1, hy1, h⟩ := Option.bind_eq_some_iff.mp h
    refine G_callvI 2 (t_Mod_facesOf _ _ _  _ hy1) rfl rfl rfl rfl rfl rfl rfl rfl rfl rfl rfl ?_
    obtain rfl := Option.some.inj h
    exact G_iret rfl rfl
  · rw [if_neg hc] at h
    refine G_aload rfl rfl ?_
    refine G_getR (ci := 10) 52 rfl rfl rfl rfl rfl ?_
    refine G_iconst (3 : Int32) rfl (by decide) ?_
    refine G_iload rfl rfl ?_
    refine G_imul rfl ?_
    refine G_iload rfl rfl ?_
    refine G_iadd rfl ?_
    obtain ⟨hg2, h⟩ := if_some h
    refine G_iald rfl rfl rfl hg2 ?_
    refine G_goto 23 rfl rfl ?_
    obtain rfl := Option.some.inj h
    exact G_iret rfl rfl
set_option maxRecDepth 100000 in
set_option maxHeartbeats 4000000 in
theorem t_Mod_at (d : Nat) (sg : Hp) (x1 : Int32) (x2 : Int32)  (y : Int32 × Hp) (h : f_Mod_at sg x1 x2 = some y) : Sm (d + 5) 117 [.ref 46, .int x1, .int x2] sg (some (.int y.1)) y.2 := by
  unfold f_Mod_at at h
  refine Sm.of (lv := [(0, .ref 46), (1, .int x1), (2, .int x2)]) rfl ?_
  refine G_iload rfl rfl ?_
  obtain ⟨y1, hy1, h⟩ := Option.bind_eq_some_iff.mp h
  refine G_callsI 1 (t_Mod_isPlace _ _ _  _ hy1) rfl rfl rfl rfl rfl rfl rfl rfl rfl ?_
  refine G_if_eq 28 rfl rfl (fun hc => ?_) (fun hc => ?_)
  · rw [if_pos hc] at h
    refine G_iconst (-2 : Int32) rfl (by decide) ?_
    obtain rfl := Option.some.inj h
    exact G_iret rfl rfl
  · rw [if_neg hc] at h
    refine G_iload rfl rfl ?_
    refine G_i2l rfl ?_
    refine G_lconst (0 : Int64) rfl (by decide) ?_
    refine G_ldc2 (3 : Int64) rfl (by decide) ?_
    obtain ⟨y2, hy2, h⟩ := Option.bind_eq_some_iff.mp h
    refine G_callsI 3 (t_Mod_in _ _ _ _ _  _ hy2) rfl rfl rfl rfl rfl rfl rfl rfl rfl ?_
    refine G_if_eq 28 rfl rfl (fun hc => ?_) (fun hc => ?_)
    · rw [if_pos hc] at h
      refine G_iconst (-2 : Int32) rfl (by decide) ?_
      obtain rfl := Option.some.inj h
      exact G_iret rfl rfl
    · rw [if_neg hc] at h
      refine G_aload rfl rfl ?_
      refine G_iload rfl rfl ?_
      refine G_iload rfl rfl ?_
      obtain ⟨y3, hy3, h⟩ := Option.bind_eq_some_iff.mp h
      refine G_callvI 3 (t_Mod_atOf _ _ _ _  _ hy3) rfl rfl rfl rfl rfl rfl rfl rfl rfl rfl rfl ?_
      refine G_goto 30 rfl rfl ?_
      obtain rfl := Option.some.inj h
      exact G_iret rfl rfl
set_option maxRecDepth 100000 in
set_option maxHeartbeats 4000000 in
theorem t_Box_isSheet (d : Nat) (sg : Hp) (x0 : Int32)  (y : Int32 × Hp) (h : f_Box_isSheet sg x0 = some y) : Sm (d + 0) 23 [.int x0] sg (some (.int y.1)) y.2 := by
  unfold f_Box_isSheet at h
  refine Sm.of (lv := [(0, .int x0)]) rfl ?_
  refine G_iload rfl rfl ?_
  refine G_if_lt 13 rfl rfl (fun hc => ?_) (fun hc => ?_)
  · rw [if_pos hc] at h
    refine G_iconst (0 : Int32) rfl (by decide) ?_
    obtain rfl := Option.some.inj h
    exact G_iret rfl rfl
  · rw [if_neg hc] at h
    refine G_iload rfl rfl ?_
    refine G_iconst (4 : Int32) rfl (by decide) ?_
    refine G_ic_ge 13 rfl rfl (fun hc => ?_) (fun hc => ?_)
    · rw [if_pos hc] at h
      refine G_iconst (0 : Int32) rfl (by decide) ?_
      obtain rfl := Option.some.inj h
      exact G_iret rfl rfl
    · rw [if_neg hc] at h
      refine G_iconst (1 : Int32) rfl (by decide) ?_
      refine G_goto 14 rfl rfl ?_
      obtain rfl := Option.some.inj h
      exact G_iret rfl rfl
set_option maxRecDepth 100000 in
set_option maxHeartbeats 4000000 in
theorem t_Sheet_isLost (d : Nat) (sg : Hp) (a0 : Nat) (h0 : clsOf a0 = 4) (y : Int32 × Hp) (h : f_Sheet_isLost sg a0 = some y) : Sm (d + 0) 24 [.ref a0] sg (some (.int y.1)) y.2 := by
  unfold f_Sheet_isLost at h
  refine Sm.of (lv := [(0, .ref a0)]) rfl ?_
  refine G_aload rfl rfl ?_
  refine G_getI (ci := 4) 1 rfl h0 rfl rfl rfl ?_
  refine G_iconst (-1 : Int32) rfl (by decide) ?_
  refine G_ic_ne 12 rfl rfl (fun hc => ?_) (fun hc => ?_)
  · rw [if_neg hc] at h
    refine G_iconst (0 : Int32) rfl (by decide) ?_
    obtain rfl := Option.some.inj h
    exact G_iret rfl rfl
  · rw [if_pos hc] at h
    refine G_iconst (1 : Int32) rfl (by decide) ?_
    refine G_goto 13 rfl rfl ?_
    obtain rfl := Option.some.inj h
    exact G_iret rfl rfl
set_option maxRecDepth 100000 in
set_option maxHeartbeats 4000000 in
theorem t_Box_found (d : Nat) (sg : Hp) (x1 : Int32)  (y : Int32 × Hp) (h : f_Box_found sg x1 = some y) : Sm (d + 0) 25 [.ref 0, .int x1] sg (some (.int y.1)) y.2 := by
  unfold f_Box_found at h
  refine Sm.of (lv := [(0, .ref 0), (1, .int x1)]) rfl ?_
  refine G_aload rfl rfl ?_
  refine G_iload rfl rfl ?_
  obtain ⟨s1, hs1, h⟩ := Option.bind_eq_some_iff.mp h
  refine G_putI (ci := 9) 10 rfl rfl rfl rfl rfl (Option.some.inj hs1) ?_
  refine G_iconst (-10 : Int32) rfl (by decide) ?_
  refine G_iload rfl rfl ?_
  refine G_isub rfl ?_
  obtain rfl := Option.some.inj h
  exact G_iret rfl rfl
set_option maxRecDepth 100000 in
set_option maxHeartbeats 4000000 in
theorem t_Box_read_45 (d : Nat)   : ∀ (n : Nat) (sg : Hp) (a2 : Nat) (x3 : Int32) (x4 : Int32) (h2 : clsOf a2 = 4) (y : Int32 × Hp), f_Box_read_45  n sg a2 x3 x4 = some y → Go (d + 2) none 22 45 [(0, .ref 0), (2, .ref a2), (3, .int x3), (4, .int x4)] [] sg (some (.int y.1)) y.2 := by
  intro n
  induction n with
  | zero =>
    intro sg a2 x3 x4 h2 y h
    rw [f_Box_read_45] at h
    cases h
  | succ n ih =>
    intro sg a2 x3 x4 h2 y h
    rw [f_Box_read_45] at h
    refine G_iload rfl rfl ?_
    refine G_iload rfl rfl ?_
    refine G_ic_ge 128 rfl rfl (fun hc => ?_) (fun hc => ?_)
    · rw [if_pos hc] at h
      refine G_iload rfl rfl ?_
      obtain rfl := Option.some.inj h
      exact G_iret rfl rfl
    · rw [if_neg hc] at h
      refine G_aload rfl rfl ?_
      refine G_getR (ci := 4) (rt a2 0) rfl h2 rfl rfl rfl ?_
      refine G_iconst (3 : Int32) rfl (by decide) ?_
      refine G_iload rfl rfl ?_
      refine G_imul rfl ?_
      obtain ⟨hg4, h⟩ := if_some h
      refine G_iald rfl (rt_cls h2 0 rfl).1 (rt_cls h2 0 rfl).2 hg4 ?_
      refine G_istore rfl rfl ?_
      refine G_aload rfl rfl ?_
      refine G_getR (ci := 4) (rt a2 0) rfl h2 rfl rfl rfl ?_
      refine G_iconst (3 : Int32) rfl (by decide) ?_
      refine G_iload rfl rfl ?_
      refine G_imul rfl ?_
      refine G_iconst (1 : Int32) rfl (by decide) ?_
      refine G_iadd rfl ?_
      obtain ⟨hg5, h⟩ := if_some h
      refine G_iald rfl (rt_cls h2 0 rfl).1 (rt_cls h2 0 rfl).2 hg5 ?_
      refine G_istore rfl rfl ?_
      refine G_aload rfl rfl ?_
      refine G_getR (ci := 4) (rt a2 0) rfl h2 rfl rfl rfl ?_
      refine G_iconst (3 : Int32) rfl (by decide) ?_
      refine G_iload rfl rfl ?_
      refine G_imul rfl ?_
      refine G_iconst (2 : Int32) rfl (by decide) ?_
      refine G_iadd rfl ?_
      obtain ⟨hg6, h⟩ := if_some h
      refine G_iald rfl (rt_cls h2 0 rfl).1 (rt_cls h2 0 rfl).2 hg6 ?_
      refine G_istore rfl rfl ?_
      refine G_aload rfl rfl ?_
      refine G_getR (ci := 9) 1 rfl rfl rfl rfl rfl ?_
      refine G_iload rfl rfl ?_
      refine G_iload rfl rfl ?_
      refine G_iload rfl rfl ?_
      obtain ⟨y7, hy7, h⟩ := Option.bind_eq_some_iff.mp h
      refine G_callvI 4 (t_Room_holds _ _ _ _ _  _ hy7) rfl rfl rfl rfl rfl rfl rfl rfl rfl rfl rfl ?_
      refine G_if_ne 107 rfl rfl (fun hc => ?_) (fun hc => ?_)
      · rw [if_neg hc] at h
        refine G_aload rfl rfl ?_
        refine G_getR (ci := 9) 1 rfl rfl rfl rfl rfl ?_
        refine G_iload rfl rfl ?_
        refine G_iload rfl rfl ?_
        refine G_iload rfl rfl ?_
        refine G_iload rfl rfl ?_
        obtain ⟨y8, hy8, h⟩ := Option.bind_eq_some_iff.mp h
        refine G_callvV 5 (t_Room_move _ _ _ _ _ _  _ hy8) rfl rfl rfl rfl rfl rfl rfl rfl rfl rfl rfl ?_
        refine G_iinc (1 : Int32) rfl (by decide) rfl rfl ?_
        refine G_goto 45 rfl rfl ?_
        exact Go.weak' (ih _ _ _ _ h2 _ h) ⟨rfl, rfl, rfl, rfl, trivial⟩
      · rw [if_pos hc] at h
        refine G_iload rfl rfl ?_
        obtain rfl := Option.some.inj h
        exact G_iret rfl rfl
set_option maxRecDepth 100000 in
set_option maxHeartbeats 4000000 in
theorem t_Box_read (d : Nat) (sg : Hp) (x1 : Int32)  (y : Int32 × Hp) (h : f_Box_read sg x1 = some y) : Sm (d + 2) 22 [.ref 0, .int x1] sg (some (.int y.1)) y.2 := by
  unfold f_Box_read at h
  refine Sm.of (lv := [(0, .ref 0), (1, .int x1)]) rfl ?_
  refine G_iload rfl rfl ?_
  obtain ⟨y1, hy1, h⟩ := Option.bind_eq_some_iff.mp h
  refine G_callsI 1 (t_Box_isSheet _ _ _  _ hy1) rfl rfl rfl rfl rfl rfl rfl rfl rfl ?_
  refine G_if_ne 10 rfl rfl (fun hc => ?_) (fun hc => ?_)
  · rw [if_neg hc] at h
    refine G_aload rfl rfl ?_
    refine G_getR (ci := 9) 32 rfl rfl rfl rfl rfl ?_
    refine G_iload rfl rfl ?_
    obtain ⟨hg2, h⟩ := if_some h
    refine G_aald (t := 22) rfl rfl (Or.inr rfl) rfl hg2 ?_
    refine G_astore rfl rfl ?_
    refine G_aload rfl rfl ?_
    obtain ⟨y3, hy3, h⟩ := Option.bind_eq_some_iff.mp h
    refine G_callvI 1 (t_Sheet_isLost _ _ _ (rt_el22 (a := 32) rfl (inb_lt hg2)) _ hy3) rfl rfl rfl rfl rfl rfl rfl rfl rfl (rt_el22 (a := 32) rfl (inb_lt hg2)) rfl ?_
    refine G_if_eq 30 rfl rfl (fun hc => ?_) (fun hc => ?_)
    · rw [if_pos hc] at h
      refine G_aload rfl rfl ?_
      refine G_getI (ci := 4) 2 rfl (rt_el22 (a := 32) rfl (inb_lt hg2)) rfl rfl rfl ?_
      refine G_iconst (3 : Int32) rfl (by decide) ?_
      refine G_idiv rfl (by decide) ?_
      refine G_iconst (8 : Int32) rfl (by decide) ?_
      refine G_min rfl rfl rfl ?_
      refine G_istore rfl rfl ?_
      refine G_iconst (0 : Int32) rfl (by decide) ?_
      refine G_istore rfl rfl ?_
      exact Go.weak' (t_Box_read_45 d  _ _ _ _ _ (rt_el22 (a := 32) rfl (inb_lt hg2)) _ h) ⟨rfl, rfl, rfl, rfl, trivial⟩
    · rw [if_neg hc] at h
      refine G_aload rfl rfl ?_
      refine G_iconst (1 : Int32) rfl (by decide) ?_
      obtain ⟨y9, hy9, h⟩ := Option.bind_eq_some_iff.mp h
      refine G_callvI 2 (t_Box_found _ _ _  _ hy9) rfl rfl rfl rfl rfl rfl rfl rfl rfl rfl rfl ?_
      obtain rfl := Option.some.inj h
      exact G_iret rfl rfl
  · rw [if_pos hc] at h
    refine G_iconst (-2 : Int32) rfl (by decide) ?_
    obtain rfl := Option.some.inj h
    exact G_iret rfl rfl
set_option maxRecDepth 100000 in
set_option maxHeartbeats 4000000 in
theorem t_Mod_isSheet (d : Nat) (sg : Hp) (x0 : Int32)  (y : Int32 × Hp) (h : f_Mod_isSheet sg x0 = some y) : Sm (d + 1) 100 [.int x0] sg (some (.int y.1)) y.2 := by
  unfold f_Mod_isSheet at h
  refine Sm.of (lv := [(0, .int x0)]) rfl ?_
  refine G_iload rfl rfl ?_
  refine G_i2l rfl ?_
  refine G_lconst (0 : Int64) rfl (by decide) ?_
  refine G_ldc2 (3 : Int64) rfl (by decide) ?_
  obtain ⟨y1, hy1, h⟩ := Option.bind_eq_some_iff.mp h
  refine G_callsI 3 (t_Mod_in _ _ _ _ _  _ hy1) rfl rfl rfl rfl rfl rfl rfl rfl rfl ?_
  obtain ⟨hz, h⟩ := if_some h
  obtain rfl := Option.some.inj h
  exact G_iret rfl (retZ_b rfl hz)
set_option maxRecDepth 100000 in
set_option maxHeartbeats 4000000 in
theorem t_Mod_met (d : Nat) (sg : Hp) (x1 : Int32)  (y : Int32 × Hp) (h : f_Mod_met sg x1 = some y) : Sm (d + 0) 102 [.ref 46, .int x1] sg (some (.int y.1)) y.2 := by
  unfold f_Mod_met at h
  refine Sm.of (lv := [(0, .ref 46), (1, .int x1)]) rfl ?_
  refine G_aload rfl rfl ?_
  refine G_iload rfl rfl ?_
  obtain ⟨s1, hs1, h⟩ := Option.bind_eq_some_iff.mp h
  refine G_putI (ci := 10) 4 rfl rfl rfl rfl rfl (Option.some.inj hs1) ?_
  refine G_iconst (-10 : Int32) rfl (by decide) ?_
  refine G_iload rfl rfl ?_
  refine G_isub rfl ?_
  obtain rfl := Option.some.inj h
  exact G_iret rfl rfl
set_option maxRecDepth 100000 in
set_option maxHeartbeats 4000000 in
theorem t_Mod_read_113 (d : Nat) {k29 : Hp → Int32 → Int32 → Int32 → Option (Int32 × Hp)} (hk29 : ∀ (sg : Hp) (x1 : Int32) (x2 : Int32) (x3 : Int32)  (y : Int32 × Hp), k29 sg x1 x2 x3 = some y → Go (d + 4) none 121 29 [(0, .ref 46), (1, .int x1), (2, .int x2), (3, .int x3)] [] sg (some (.int y.1)) y.2) (sg : Hp) (x1 : Int32) (x3 : Int32) (xs0 : Int32) (xs1 : Int32)  (y : Int32 × Hp) (h : f_Mod_read_113 k29 sg x1 x3 xs0 xs1 = some y) : Go (d + 4) none 121 113 [(0, .ref 46), (1, .int x1), (3, .int x3)] [.int xs1, .int xs0] sg (some (.int y.1)) y.2 := by
  unfold f_Mod_read_113 at h
  refine G_iadd rfl ?_
  refine G_istore rfl rfl ?_
  refine G_goto 29 rfl rfl ?_
  exact Go.weak' (hk29 _ _ _ _  _ h) ⟨rfl, rfl, rfl, rfl, trivial⟩
set_option maxRecDepth 100000 in
set_option maxHeartbeats 4000000 in
theorem t_Mod_read_102 (d : Nat) {k29 : Hp → Int32 → Int32 → Int32 → Option (Int32 × Hp)} (hk29 : ∀ (sg : Hp) (x1 : Int32) (x2 : Int32) (x3 : Int32)  (y : Int32 × Hp), k29 sg x1 x2 x3 = some y → Go (d + 4) none 121 29 [(0, .ref 46), (1, .int x1), (2, .int x2), (3, .int x3)] [] sg (some (.int y.1)) y.2) (sg : Hp) (x1 : Int32) (x2 : Int32) (xs0 : Int32)  (y : Int32 × Hp) (h : f_Mod_read_102 k29 sg x1 x2 xs0 = some y) : Go (d + 4) none 121 102 [(0, .ref 46), (1, .int x1), (2, .int x2)] [.int xs0] sg (some (.int y.1)) y.2 := by
  unfold f_Mod_read_102 at h
  refine G_istore rfl rfl ?_
  refine G_iload rfl rfl ?_
  refine G_iload rfl rfl ?_
  refine G_if_eq 112 rfl rfl (fun hc => ?_) (fun hc => ?_)
  · rw [if_pos hc] at h
    refine G_iconst (0 : Int32) rfl (by decide) ?_
    exact Go.weak' (t_Mod_read_113 d hk29 _ _ _ _ _  _ h) ⟨rfl, rfl, rfl, trivial⟩
  · rw [if_neg hc] at h
    refine G_iconst (1 : Int32) rfl (by decide) ?_
    refine G_goto 113 rfl rfl ?_
    exact Go.weak' (t_Mod_read_113 d hk29 _ _ _ _ _  _ h) ⟨rfl, rfl, rfl, trivial⟩
set_option maxRecDepth 100000 in
set_option maxHeartbeats 4000000 in
theorem t_Mod_read_29 (d : Nat)   : ∀ (n : Nat) (sg : Hp) (x1 : Int32) (x2 : Int32) (x3 : Int32)  (y : Int32 × Hp), f_Mod_read_29  n sg x1 x2 x3 = some y → Go (d + 4) none 121 29 [(0, .ref 46), (1, .int x1), (2, .int x2), (3, .int x3)] [] sg (some (.int y.1)) y.2 := by
  intro n
  induction n with
  | zero =>
    intro sg x1 x2 x3 y h
    rw [f_Mod_read_29] at h
    cases h
  | succ n ih =>
    intro sg x1 x2 x3 y h
    rw [f_Mod_read_29] at h
    refine G_iload rfl rfl ?_
    refine G_if_eq 118 rfl rfl (fun hc => ?_) (fun hc => ?_)
    · rw [if_pos hc] at h
      refine G_iload rfl rfl ?_
      obtain rfl := Option.some.inj h
      exact G_iret rfl rfl
    · rw [if_neg hc] at h
      refine G_iload rfl rfl ?_
      refine G_iconst (8 : Int32) rfl (by decide) ?_
      refine G_ic_ge 118 rfl rfl (fun hc => ?_) (fun hc => ?_)
      · rw [if_pos hc] at h
        refine G_iload rfl rfl ?_
        obtain rfl := Option.some.inj h
        exact G_iret rfl rfl
      · rw [if_neg hc] at h
        refine G_iconst (3 : Int32) rfl (by decide) ?_
        refine G_iload rfl rfl ?_
        refine G_imul rfl ?_
        refine G_iconst (3 : Int32) rfl (by decide) ?_
        refine G_iadd rfl ?_
        refine G_aload rfl rfl ?_
        refine G_getR (ci := 10) 48 rfl rfl rfl rfl rfl ?_
        refine G_iload rfl rfl ?_
        obtain ⟨hg3, h⟩ := if_some h
        refine G_iald rfl rfl rfl hg3 ?_
        refine G_ic_gt 118 rfl rfl (fun hc => ?_) (fun hc => ?_)
        · rw [if_pos hc] at h
          refine G_iload rfl rfl ?_
          obtain rfl := Option.some.inj h
          exact G_iret rfl rfl
        · rw [if_neg hc] at h
          refine G_iconst (60 : Int32) rfl (by decide) ?_
          refine G_iload rfl rfl ?_
          refine G_imul rfl ?_
          refine G_iconst (3 : Int32) rfl (by decide) ?_
          refine G_iload rfl rfl ?_
          refine G_imul rfl ?_
          refine G_iadd rfl ?_
          refine G_istore rfl rfl ?_
          refine G_aload rfl rfl ?_
          refine G_iload rfl rfl ?_
          refine G_aload rfl rfl ?_
          refine G_getR (ci := 10) 49 rfl rfl rfl rfl rfl ?_
          refine G_iload rfl rfl ?_
          obtain ⟨hg4, h⟩ := if_some h
          refine G_iald rfl rfl rfl hg4 ?_
          refine G_aload rfl rfl ?_
          refine G_getR (ci := 10) 49 rfl rfl rfl rfl rfl ?_
          refine G_iload rfl rfl ?_
          refine G_iconst (1 : Int32) rfl (by decide) ?_
          refine G_iadd rfl ?_
          obtain ⟨hg5, h⟩ := if_some h
          refine G_iald rfl rfl rfl hg5 ?_
          refine G_aload rfl rfl ?_
          refine G_getR (ci := 10) 49 rfl rfl rfl rfl rfl ?_
          refine G_iload rfl rfl ?_
          refine G_iconst (2 : Int32) rfl (by decide) ?_
          refine G_iadd rfl ?_
          obtain ⟨hg6, h⟩ := if_some h
          refine G_iald rfl rfl rfl hg6 ?_
          obtain ⟨y7, hy7, h⟩ := Option.bind_eq_some_iff.mp h
          refine G_callvI 5 (t_Mod_place _ _ _ _ _ _  _ hy7) rfl rfl rfl rfl rfl rfl rfl rfl rfl rfl rfl ?_
          refine G_iconst (1 : Int32) rfl (by decide) ?_
          refine G_ic_ne 101 rfl rfl (fun hc => ?_) (fun hc => ?_)
          · rw [if_neg hc] at h
            refine G_iconst (0 : Int32) rfl (by decide) ?_
            exact Go.weak' (t_Mod_read_102 d ih _ _ _ _  _ h) ⟨rfl, rfl, rfl, trivial⟩
          · rw [if_pos hc] at h
            refine G_iconst (1 : Int32) rfl (by decide) ?_
            refine G_goto 102 rfl rfl ?_
            exact Go.weak' (t_Mod_read_102 d ih _ _ _ _  _ h) ⟨rfl, rfl, rfl, trivial⟩
set_option maxRecDepth 100000 in
set_option maxHeartbeats 4000000 in
theorem t_Mod_read (d : Nat) (sg : Hp) (x1 : Int32)  (y : Int32 × Hp) (h : f_Mod_read sg x1 = some y) : Sm (d + 4) 121 [.ref 46, .int x1] sg (some (.int y.1)) y.2 := by
  unfold f_Mod_read at h
  refine Sm.of (lv := [(0, .ref 46), (1, .int x1)]) rfl ?_
  refine G_iload rfl rfl ?_
  obtain ⟨y1, hy1, h⟩ := Option.bind_eq_some_iff.mp h
  refine G_callsI 1 (t_Mod_isSheet _ _ _  _ hy1) rfl rfl rfl rfl rfl rfl rfl rfl rfl ?_
  refine G_if_ne 10 rfl rfl (fun hc => ?_) (fun hc => ?_)
  · rw [if_neg hc] at h
    refine G_aload rfl rfl ?_
    refine G_getR (ci := 10) 47 rfl rfl rfl rfl rfl ?_
    refine G_iload rfl rfl ?_
    obtain ⟨hg2, h⟩ := if_some h
    refine G_iald rfl rfl rfl hg2 ?_
    refine G_if_ge 25 rfl rfl (fun hc => ?_) (fun hc => ?_)
    · rw [if_pos hc] at h
      refine G_iconst (0 : Int32) rfl (by decide) ?_
      refine G_istore rfl rfl ?_
      refine G_iconst (1 : Int32) rfl (by decide) ?_
      refine G_istore rfl rfl ?_
      exact Go.weak' (t_Mod_read_29 d  _ _ _ _ _  _ h) ⟨rfl, rfl, rfl, rfl, trivial⟩
    · rw [if_neg hc] at h
      refine G_aload rfl rfl ?_
      refine G_iconst (1 : Int32) rfl (by decide) ?_
      obtain ⟨y8, hy8, h⟩ := Option.bind_eq_some_iff.mp h
      refine G_callvI 2 (t_Mod_met _ _ _  _ hy8) rfl rfl rfl rfl rfl rfl rfl rfl rfl rfl rfl ?_
      obtain rfl := Option.some.inj h
      exact G_iret rfl rfl
  · rw [if_pos hc] at h
    refine G_iconst (-2 : Int32) rfl (by decide) ?_
    obtain rfl := Option.some.inj h
    exact G_iret rfl rfl
set_option maxRecDepth 100000 in
set_option maxHeartbeats 4000000 in
theorem t_Rolls_append (d : Nat) (sg : Hp) (x1 : Int32)  (y : Hp) (h : f_Rolls_append sg x1 = some y) : Sm (d + 0) 27 [.ref 9, .int x1] sg none y := by
  unfold f_Rolls_append at h
  refine Sm.of (lv := [(0, .ref 9), (1, .int x1)]) rfl ?_
  refine G_aload rfl rfl ?_
  refine G_getI (ci := 1) 1 rfl rfl rfl rfl rfl ?_
  refine G_iconst (40 : Int32) rfl (by decide) ?_
  refine G_ic_ge 29 rfl rfl (fun hc => ?_) (fun hc => ?_)
  · rw [if_pos hc] at h
    obtain rfl := Option.some.inj h
    exact G_vret rfl rfl
  · rw [if_neg hc] at h
    refine G_aload rfl rfl ?_
    refine G_getR (ci := 1) 10 rfl rfl rfl rfl rfl ?_
    refine G_aload rfl rfl ?_
    refine G_getI (ci := 1) 1 rfl rfl rfl rfl rfl ?_
    refine G_iload rfl rfl ?_
    obtain ⟨hg1, h⟩ := if_some h
    obtain ⟨s2, hs2, h⟩ := Option.bind_eq_some_iff.mp h
    refine G_iast rfl rfl rfl hg1 (Option.some.inj hs2) ?_
    refine G_aload rfl rfl ?_
    refine G_dupr rfl ?_
    refine G_getI (ci := 1) 1 rfl rfl rfl rfl rfl ?_
    refine G_iconst (1 : Int32) rfl (by decide) ?_
    refine G_iadd rfl ?_
    obtain ⟨s3, hs3, h⟩ := Option.bind_eq_some_iff.mp h
    refine G_putI (ci := 1) 1 rfl rfl rfl rfl rfl (Option.some.inj hs3) ?_
    obtain rfl := Option.some.inj h
    exact G_vret rfl rfl
set_option maxRecDepth 100000 in
set_option maxHeartbeats 4000000 in
theorem t_Box_type (d : Nat) (sg : Hp) (x1 : Int32)  (y : Int32 × Hp) (h : f_Box_type sg x1 = some y) : Sm (d + 1) 26 [.ref 0, .int x1] sg (some (.int y.1)) y.2 := by
  unfold f_Box_type at h
  refine Sm.of (lv := [(0, .ref 0), (1, .int x1)]) rfl ?_
  refine G_iload rfl rfl ?_
  refine G_if_lt 11 rfl rfl (fun hc => ?_) (fun hc => ?_)
  · rw [if_pos hc] at h
    refine G_iconst (-2 : Int32) rfl (by decide) ?_
    obtain rfl := Option.some.inj h
    exact G_iret rfl rfl
  · rw [if_neg hc] at h
    refine G_iload rfl rfl ?_
    refine G_iconst (255 : Int32) rfl (by decide) ?_
    refine G_ic_le 14 rfl rfl (fun hc => ?_) (fun hc => ?_)
    · rw [if_pos hc] at h
      refine G_aload rfl rfl ?_
      refine G_getR (ci := 9) 9 rfl rfl rfl rfl rfl ?_
      refine G_getI (ci := 1) 1 rfl rfl rfl rfl rfl ?_
      refine G_iconst (40 : Int32) rfl (by decide) ?_
      refine G_ic_lt 29 rfl rfl (fun hc => ?_) (fun hc => ?_)
      · rw [if_pos hc] at h
        refine G_aload rfl rfl ?_
        refine G_getR (ci := 9) 9 rfl rfl rfl rfl rfl ?_
        refine G_iload rfl rfl ?_
        obtain ⟨y1, hy1, h⟩ := Option.bind_eq_some_iff.mp h
        refine G_callvV 2 (t_Rolls_append _ _ _  _ hy1) rfl rfl rfl rfl rfl rfl rfl rfl rfl rfl rfl ?_
        refine G_aload rfl rfl ?_
        refine G_getR (ci := 9) 9 rfl rfl rfl rfl rfl ?_
        refine G_getI (ci := 1) 1 rfl rfl rfl rfl rfl ?_
        obtain rfl := Option.some.inj h
        exact G_iret rfl rfl
      · rw [if_neg hc] at h
        refine G_iconst (-4 : Int32) rfl (by decide) ?_
        obtain rfl := Option.some.inj h
        exact G_iret rfl rfl
    · rw [if_neg hc] at h
      refine G_iconst (-2 : Int32) rfl (by decide) ?_
      obtain rfl := Option.some.inj h
      exact G_iret rfl rfl
set_option maxRecDepth 100000 in
set_option maxHeartbeats 4000000 in
theorem t_Mod_type (d : Nat) (sg : Hp) (x1 : Int32)  (y : Int32 × Hp) (h : f_Mod_type sg x1 = some y) : Sm (d + 1) 125 [.ref 46, .int x1] sg (some (.int y.1)) y.2 := by
  unfold f_Mod_type at h
  refine Sm.of (lv := [(0, .ref 46), (1, .int x1)]) rfl ?_
  refine G_iload rfl rfl ?_
  refine G_i2l rfl ?_
  refine G_lconst (0 : Int64) rfl (by decide) ?_
  refine G_ldc2 (255 : Int64) rfl (by decide) ?_
  obtain ⟨y1, hy1, h⟩ := Option.bind_eq_some_iff.mp h
  refine G_callsI 3 (t_Mod_in _ _ _ _ _  _ hy1) rfl rfl rfl rfl rfl rfl rfl rfl rfl ?_
  refine G_if_ne 15 rfl rfl (fun hc => ?_) (fun hc => ?_)
  · rw [if_neg hc] at h
    refine G_aload rfl rfl ?_
    refine G_getI (ci := 10) 9 rfl rfl rfl rfl rfl ?_
    refine G_iconst (40 : Int32) rfl (by decide) ?_
    refine G_ic_ne 27 rfl rfl (fun hc => ?_) (fun hc => ?_)
    · rw [if_neg hc] at h
      refine G_aload rfl rfl ?_
      refine G_getR (ci := 10) 54 rfl rfl rfl rfl rfl ?_
      refine G_aload rfl rfl ?_
      refine G_getI (ci := 10) 9 rfl rfl rfl rfl rfl ?_
      refine G_iload rfl rfl ?_
      obtain ⟨hg2, h⟩ := if_some h
      obtain ⟨s3, hs3, h⟩ := Option.bind_eq_some_iff.mp h
      refine G_iast rfl rfl rfl hg2 (Option.some.inj hs3) ?_
      refine G_aload rfl rfl ?_
      refine G_dupr rfl ?_
      refine G_getI (ci := 10) 9 rfl rfl rfl rfl rfl ?_
      refine G_iconst (1 : Int32) rfl (by decide) ?_
      refine G_iadd rfl ?_
      obtain ⟨s4, hs4, h⟩ := Option.bind_eq_some_iff.mp h
      refine G_putI (ci := 10) 9 rfl rfl rfl rfl rfl (Option.some.inj hs4) ?_
      refine G_aload rfl rfl ?_
      refine G_getI (ci := 10) 9 rfl rfl rfl rfl rfl ?_
      obtain rfl := Option.some.inj h
      exact G_iret rfl rfl
    · rw [if_pos hc] at h
      refine G_iconst (-4 : Int32) rfl (by decide) ?_
      obtain rfl := Option.some.inj h
      exact G_iret rfl rfl
  · rw [if_pos hc] at h
    refine G_iconst (-2 : Int32) rfl (by decide) ?_
    obtain rfl := Option.some.inj h
    exact G_iret rfl rfl
set_option maxRecDepth 100000 in
set_option maxHeartbeats 4000000 in
theorem t_Box_undo (d : Nat) (sg : Hp)   (y : Int32 × Hp) (h : f_Box_undo sg  = some y) : Sm (d + 0) 28 [.ref 0] sg (some (.int y.1)) y.2 := by
  unfold f_Box_undo at h
  refine Sm.of (lv := [(0, .ref 0)]) rfl ?_
  refine G_aload rfl rfl ?_
  refine G_getR (ci := 9) 9 rfl rfl rfl rfl rfl ?_
  refine G_getI (ci := 1) 1 rfl rfl rfl rfl rfl ?_
  refine G_if_ne 13 rfl rfl (fun hc => ?_) (fun hc => ?_)
  · rw [if_neg hc] at h
    refine G_aload rfl rfl ?_
    refine G_getR (ci := 9) 9 rfl rfl rfl rfl rfl ?_
    refine G_dupr rfl ?_
    refine G_getI (ci := 1) 1 rfl rfl rfl rfl rfl ?_
    refine G_iconst (1 : Int32) rfl (by decide) ?_
    refine G_isub rfl ?_
    obtain ⟨s1, hs1, h⟩ := Option.bind_eq_some_iff.mp h
    refine G_putI (ci := 1) 1 rfl rfl rfl rfl rfl (Option.some.inj hs1) ?_
    refine G_aload rfl rfl ?_
    refine G_getR (ci := 9) 9 rfl rfl rfl rfl rfl ?_
    refine G_getI (ci := 1) 1 rfl rfl rfl rfl rfl ?_
    obtain rfl := Option.some.inj h
    exact G_iret rfl rfl
  · rw [if_pos hc] at h
    refine G_iconst (-3 : Int32) rfl (by decide) ?_
    obtain rfl := Option.some.inj h
    exact G_iret rfl rfl
set_option maxRecDepth 100000 in
set_option maxHeartbeats 4000000 in
theorem t_Mod_undo (d : Nat) (sg : Hp)   (y : Int32 × Hp) (h : f_Mod_undo sg  = some y) : Sm (d + 0) 126 [.ref 46] sg (some (.int y.1)) y.2 := by
  unfold f_Mod_undo at h
  refine Sm.of (lv := [(0, .ref 46)]) rfl ?_
  refine G_aload rfl rfl ?_
  refine G_getI (ci := 10) 9 rfl rfl rfl rfl rfl ?_
  refine G_if_ne 10 rfl rfl (fun hc => ?_) (fun hc => ?_)
  · rw [if_neg hc] at h
    refine G_aload rfl rfl ?_
    refine G_dupr rfl ?_
    refine G_getI (ci := 10) 9 rfl rfl rfl rfl rfl ?_
    refine G_iconst (1 : Int32) rfl (by decide) ?_
    refine G_isub rfl ?_
    obtain ⟨s1, hs1, h⟩ := Option.bind_eq_some_iff.mp h
    refine G_putI (ci := 10) 9 rfl rfl rfl rfl rfl (Option.some.inj hs1) ?_
    refine G_aload rfl rfl ?_
    refine G_getI (ci := 10) 9 rfl rfl rfl rfl rfl ?_
    obtain rfl := Option.some.inj h
    exact G_iret rfl rfl
  · rw [if_pos hc] at h
    refine G_iconst (-3 : Int32) rfl (by decide) ?_
    obtain rfl := Option.some.inj h
    exact G_iret rfl rfl
set_option maxRecDepth 100000 in
set_option maxHeartbeats 4000000 in
theorem t_Box_wipe (d : Nat) (sg : Hp)   (y : Int32 × Hp) (h : f_Box_wipe sg  = some y) : Sm (d + 0) 29 [.ref 0] sg (some (.int y.1)) y.2 := by
  unfold f_Box_wipe at h
  refine Sm.of (lv := [(0, .ref 0)]) rfl ?_
  refine G_aload rfl rfl ?_
  refine G_getR (ci := 9) 9 rfl rfl rfl rfl rfl ?_
  refine G_getI (ci := 1) 1 rfl rfl rfl rfl rfl ?_
  refine G_istore rfl rfl ?_
  refine G_aload rfl rfl ?_
  refine G_getR (ci := 9) 9 rfl rfl rfl rfl rfl ?_
  refine G_iconst (0 : Int32) rfl (by decide) ?_
  obtain ⟨s1, hs1, h⟩ := Option.bind_eq_some_iff.mp h
  refine G_putI (ci := 1) 1 rfl rfl rfl rfl rfl (Option.some.inj hs1) ?_
  refine G_iload rfl rfl ?_
  obtain rfl := Option.some.inj h
  exact G_iret rfl rfl
set_option maxRecDepth 100000 in
set_option maxHeartbeats 4000000 in
theorem t_Mod_wipe (d : Nat) (sg : Hp)   (y : Int32 × Hp) (h : f_Mod_wipe sg  = some y) : Sm (d + 0) 127 [.ref 46] sg (some (.int y.1)) y.2 := by
  unfold f_Mod_wipe at h
  refine Sm.of (lv := [(0, .ref 46)]) rfl ?_
  refine G_aload rfl rfl ?_
  refine G_getI (ci := 10) 9 rfl rfl rfl rfl rfl ?_
  refine G_istore rfl rfl ?_
  refine G_aload rfl rfl ?_
  refine G_iconst (0 : Int32) rfl (by decide) ?_
  obtain ⟨s1, hs1, h⟩ := Option.bind_eq_some_iff.mp h
  refine G_putI (ci := 10) 9 rfl rfl rfl rfl rfl (Option.some.inj hs1) ?_
  refine G_iload rfl rfl ?_
  obtain rfl := Option.some.inj h
  exact G_iret rfl rfl
set_option maxRecDepth 100000 in
set_option maxHeartbeats 4000000 in
theorem t_Rolls_rollOf (d : Nat) (sg : Hp) (x0 : Int32)  (y : Int32 × Hp) (h : f_Rolls_rollOf sg x0 = some y) : Sm (d + 0) 32 [.int x0] sg (some (.int y.1)) y.2 := by
  unfold f_Rolls_rollOf at h
  refine Sm.of (lv := [(0, .int x0)]) rfl ?_
  refine G_iload rfl rfl ?_
  by_cases hc1_0 : x0 = (101 : Int32)
  · rw [if_pos hc1_0] at h
    refine G_lsw 44 rfl (by rw [hc1_0]; rfl) ?_
    refine G_iconst (1 : Int32) rfl (by decide) ?_
    obtain rfl := Option.some.inj h
    exact G_iret rfl rfl
  · rw [if_neg hc1_0] at h
    by_cases hc1_1 : x0 = (110 : Int32)
    · rw [if_pos hc1_1] at h
      refine G_lsw 48 rfl (by rw [hc1_1]; rfl) ?_
      refine G_iconst (3 : Int32) rfl (by decide) ?_
      obtain rfl := Option.some.inj h
      exact G_iret rfl rfl
    · rw [if_neg hc1_1] at h
      by_cases hc1_2 : x0 = (115 : Int32)
      · rw [if_pos hc1_2] at h
        refine G_lsw 50 rfl (by rw [hc1_2]; rfl) ?_
        refine G_iconst (4 : Int32) rfl (by decide) ?_
        obtain rfl := Option.some.inj h
        exact G_iret rfl rfl
      · rw [if_neg hc1_2] at h
        by_cases hc1_3 : x0 = (119 : Int32)
        · rw [if_pos hc1_3] at h
          refine G_lsw 46 rfl (by rw [hc1_3]; rfl) ?_
          refine G_iconst (2 : Int32) rfl (by decide) ?_
          obtain rfl := Option.some.inj h
          exact G_iret rfl rfl
        · rw [if_neg hc1_3] at h
          refine G_lsw 52 rfl (by show (swl [(101, 44), (110, 48), (115, 50), (119, 46)] 52 _).toNat = _; rw [swl_ne (fun q => ti_ne hc1_0 (n := 101) rfl q.symm), swl_ne (fun q => ti_ne hc1_1 (n := 110) rfl q.symm), swl_ne (fun q => ti_ne hc1_2 (n := 115) rfl q.symm), swl_ne (fun q => ti_ne hc1_3 (n := 119) rfl q.symm)]; rfl) ?_
          refine G_iconst (0 : Int32) rfl (by decide) ?_
          obtain rfl := Option.some.inj h
          exact G_iret rfl rfl
set_option maxRecDepth 100000 in
set_option maxHeartbeats 4000000 in
theorem t_Rolls_firstWrong_2 (d : Nat)   : ∀ (n : Nat) (sg : Hp) (x1 : Int32)  (y : Int32 × Hp), f_Rolls_firstWrong_2  n sg x1 = some y → Go (d + 1) none 31 2 [(0, .ref 9), (1, .int x1)] [] sg (some (.int y.1)) y.2 := by
  intro n
  induction n with
  | zero =>
    intro sg x1 y h
    rw [f_Rolls_firstWrong_2] at h
    cases h
  | succ n ih =>
    intro sg x1 y h
    rw [f_Rolls_firstWrong_2] at h
    refine G_iload rfl rfl ?_
    refine G_aload rfl rfl ?_
    refine G_getI (ci := 1) 1 rfl rfl rfl rfl rfl ?_
    refine G_ic_ge 36 rfl rfl (fun hc => ?_) (fun hc => ?_)
    · rw [if_pos hc] at h
      refine G_iconst (-1 : Int32) rfl (by decide) ?_
      obtain rfl := Option.some.inj h
      exact G_iret rfl rfl
    · rw [if_neg hc] at h
      refine G_iload rfl rfl ?_
      refine G_iconst (20 : Int32) rfl (by decide) ?_
      refine G_ic_ge 28 rfl rfl (fun hc => ?_) (fun hc => ?_)
      · rw [if_pos hc] at h
        refine G_iload rfl rfl ?_
        obtain rfl := Option.some.inj h
        exact G_iret rfl rfl
      · rw [if_neg hc] at h
        refine G_aload rfl rfl ?_
        refine G_getR (ci := 1) 10 rfl rfl rfl rfl rfl ?_
        refine G_iload rfl rfl ?_
        obtain ⟨hg1, h⟩ := if_some h
        refine G_iald rfl rfl rfl hg1 ?_
        obtain ⟨y2, hy2, h⟩ := Option.bind_eq_some_iff.mp h
        refine G_callsI 1 (t_Rolls_rollOf _ _ _  _ hy2) rfl rfl rfl rfl rfl rfl rfl rfl rfl ?_
        refine G_if_ne 30 rfl rfl (fun hc => ?_) (fun hc => ?_)
        · rw [if_neg hc] at h
          refine G_iinc (1 : Int32) rfl (by decide) rfl rfl ?_
          refine G_goto 2 rfl rfl ?_
          exact Go.weak' (ih _ _  _ h) ⟨rfl, rfl, trivial⟩
        · rw [if_pos hc] at h
          refine G_iload rfl rfl ?_
          obtain rfl := Option.some.inj h
          exact G_iret rfl rfl
set_option maxRecDepth 100000 in
set_option maxHeartbeats 4000000 in
theorem t_Rolls_firstWrong (d : Nat) (sg : Hp)   (y : Int32 × Hp) (h : f_Rolls_firstWrong sg  = some y) : Sm (d + 1) 31 [.ref 9] sg (some (.int y.1)) y.2 := by
  unfold f_Rolls_firstWrong at h
  refine Sm.of (lv := [(0, .ref 9)]) rfl ?_
  refine G_iconst (0 : Int32) rfl (by decide) ?_
  refine G_istore rfl rfl ?_
  exact Go.weak' (t_Rolls_firstWrong_2 d  _ _ _  _ h) ⟨rfl, rfl, trivial⟩
set_option maxRecDepth 100000 in
set_option maxHeartbeats 4000000 in
theorem t_Box_fault (d : Nat) (sg : Hp)   (y : Int32 × Hp) (h : f_Box_fault sg  = some y) : Sm (d + 2) 30 [.ref 0] sg (some (.int y.1)) y.2 := by
  unfold f_Box_fault at h
  refine Sm.of (lv := [(0, .ref 0)]) rfl ?_
  refine G_aload rfl rfl ?_
  refine G_getR (ci := 9) 9 rfl rfl rfl rfl rfl ?_
  obtain ⟨y1, hy1, h⟩ := Option.bind_eq_some_iff.mp h
  refine G_callvI 1 (t_Rolls_firstWrong _ _   _ hy1) rfl rfl rfl rfl rfl rfl rfl rfl rfl rfl rfl ?_
  obtain rfl := Option.some.inj h
  exact G_iret rfl rfl
set_option maxRecDepth 100000 in
set_option maxHeartbeats 4000000 in
theorem t_Mod_rollOf (d : Nat) (sg : Hp) (x0 : Int32)  (y : Int32 × Hp) (h : f_Mod_rollOf sg x0 = some y) : Sm (d + 0) 129 [.int x0] sg (some (.int y.1)) y.2 := by
  unfold f_Mod_rollOf at h
  refine Sm.of (lv := [(0, .int x0)]) rfl ?_
  refine G_iload rfl rfl ?_
  refine G_iconst (101 : Int32) rfl (by decide) ?_
  refine G_ic_ne 10 rfl rfl (fun hc => ?_) (fun hc => ?_)
  · rw [if_neg hc] at h
    refine G_iload rfl rfl ?_
    refine G_iconst (119 : Int32) rfl (by decide) ?_
    refine G_ic_ne 20 rfl rfl (fun hc => ?_) (fun hc => ?_)
    · rw [if_neg hc] at h
      refine G_iload rfl rfl ?_
      refine G_iconst (110 : Int32) rfl (by decide) ?_
      refine G_ic_ne 30 rfl rfl (fun hc => ?_) (fun hc => ?_)
      · rw [if_neg hc] at h
        refine G_iload rfl rfl ?_
        refine G_iconst (115 : Int32) rfl (by decide) ?_
        refine G_ic_ne 40 rfl rfl (fun hc => ?_) (fun hc => ?_)
        · rw [if_neg hc] at h
          refine G_iconst (-1 : Int32) rfl (by decide) ?_
          obtain rfl := Option.some.inj h
          exact G_iret rfl rfl
        · rw [if_pos hc] at h
          refine G_iconst (3 : Int32) rfl (by decide) ?_
          refine G_goto 41 rfl rfl ?_
          obtain rfl := Option.some.inj h
          exact G_iret rfl rfl
      · rw [if_pos hc] at h
        refine G_iconst (2 : Int32) rfl (by decide) ?_
        refine G_goto 41 rfl rfl ?_
        obtain rfl := Option.some.inj h
        exact G_iret rfl rfl
    · rw [if_pos hc] at h
      refine G_iconst (1 : Int32) rfl (by decide) ?_
      refine G_goto 41 rfl rfl ?_
      obtain rfl := Option.some.inj h
      exact G_iret rfl rfl
  · rw [if_pos hc] at h
    refine G_iconst (0 : Int32) rfl (by decide) ?_
    refine G_goto 41 rfl rfl ?_
    obtain rfl := Option.some.inj h
    exact G_iret rfl rfl
set_option maxRecDepth 100000 in
set_option maxHeartbeats 4000000 in
theorem t_Mod_fault_2 (d : Nat)   : ∀ (n : Nat) (sg : Hp) (x1 : Int32)  (y : Int32 × Hp), f_Mod_fault_2  n sg x1 = some y → Go (d + 1) none 128 2 [(0, .ref 46), (1, .int x1)] [] sg (some (.int y.1)) y.2 := by
  intro n
  induction n with
  | zero =>
    intro sg x1 y h
    rw [f_Mod_fault_2] at h
    cases h
  | succ n ih =>
    intro sg x1 y h
    rw [f_Mod_fault_2] at h
    refine G_iload rfl rfl ?_
    refine G_aload rfl rfl ?_
    refine G_getI (ci := 10) 9 rfl rfl rfl rfl rfl ?_
    refine G_ic_ge 37 rfl rfl (fun hc => ?_) (fun hc => ?_)
    · rw [if_pos hc] at h
      refine G_iconst (-1 : Int32) rfl (by decide) ?_
      obtain rfl := Option.some.inj h
      exact G_iret rfl rfl
    · rw [if_neg hc] at h
      refine G_iload rfl rfl ?_
      refine G_iconst (20 : Int32) rfl (by decide) ?_
      refine G_ic_eq 29 rfl rfl (fun hc => ?_) (fun hc => ?_)
      · rw [if_pos hc] at h
        refine G_iload rfl rfl ?_
        obtain rfl := Option.some.inj h
        exact G_iret rfl rfl
      · rw [if_neg hc] at h
        refine G_aload rfl rfl ?_
        refine G_getR (ci := 10) 54 rfl rfl rfl rfl rfl ?_
        refine G_iload rfl rfl ?_
        obtain ⟨hg1, h⟩ := if_some h
        refine G_iald rfl rfl rfl hg1 ?_
        obtain ⟨y2, hy2, h⟩ := Option.bind_eq_some_iff.mp h
        refine G_callsI 1 (t_Mod_rollOf _ _ _  _ hy2) rfl rfl rfl rfl rfl rfl rfl rfl rfl ?_
        refine G_iconst (-1 : Int32) rfl (by decide) ?_
        refine G_ic_ne 31 rfl rfl (fun hc => ?_) (fun hc => ?_)
        · rw [if_neg hc] at h
          refine G_iinc (1 : Int32) rfl (by decide) rfl rfl ?_
          refine G_goto 2 rfl rfl ?_
          exact Go.weak' (ih _ _  _ h) ⟨rfl, rfl, trivial⟩
        · rw [if_pos hc] at h
          refine G_iload rfl rfl ?_
          obtain rfl := Option.some.inj h
          exact G_iret rfl rfl
set_option maxRecDepth 100000 in
set_option maxHeartbeats 4000000 in
theorem t_Mod_fault (d : Nat) (sg : Hp)   (y : Int32 × Hp) (h : f_Mod_fault sg  = some y) : Sm (d + 1) 128 [.ref 46] sg (some (.int y.1)) y.2 := by
  unfold f_Mod_fault at h
  refine Sm.of (lv := [(0, .ref 46)]) rfl ?_
  refine G_iconst (0 : Int32) rfl (by decide) ?_
  refine G_istore rfl rfl ?_
  exact Go.weak' (t_Mod_fault_2 d  _ _ _  _ h) ⟨rfl, rfl, trivial⟩
set_option maxRecDepth 100000 in
set_option maxHeartbeats 4000000 in
theorem t_Box_isWall (d : Nat) (sg : Hp) (x0 : Int32)  (y : Int32 × Hp) (h : f_Box_isWall sg x0 = some y) : Sm (d + 0) 34 [.int x0] sg (some (.int y.1)) y.2 := by
  unfold f_Box_isWall at h
  refine Sm.of (lv := [(0, .int x0)]) rfl ?_
  refine G_iload rfl rfl ?_
  refine G_if_lt 14 rfl rfl (fun hc => ?_) (fun hc => ?_)
  · rw [if_pos hc] at h
    refine G_iconst (0 : Int32) rfl (by decide) ?_
    obtain rfl := Option.some.inj h
    exact G_iret rfl rfl
  · rw [if_neg hc] at h
    refine G_iload rfl rfl ?_
    refine G_iconst (6 : Int32) rfl (by decide) ?_
    refine G_ic_ge 14 rfl rfl (fun hc => ?_) (fun hc => ?_)
    · rw [if_pos hc] at h
      refine G_iconst (0 : Int32) rfl (by decide) ?_
      obtain rfl := Option.some.inj h
      exact G_iret rfl rfl
    · rw [if_neg hc] at h
      refine G_iconst (1 : Int32) rfl (by decide) ?_
      refine G_goto 15 rfl rfl ?_
      obtain rfl := Option.some.inj h
      exact G_iret rfl rfl
set_option maxRecDepth 100000 in
set_option maxHeartbeats 4000000 in
theorem t_Room_isBarred (d : Nat) (sg : Hp) (x1 : Int32) (x2 : Int32)  (y : Int32 × Hp) (h : f_Room_isBarred sg x1 x2 = some y) : Sm (d + 0) 35 [.ref 1, .int x1, .int x2] sg (some (.int y.1)) y.2 := by
  unfold f_Room_isBarred at h
  refine Sm.of (lv := [(0, .ref 1), (1, .int x1), (2, .int x2)]) rfl ?_
  refine G_aload rfl rfl ?_
  refine G_getR (ci := 2) 6 rfl rfl rfl rfl rfl ?_
  refine G_iload rfl rfl ?_
  obtain ⟨hg1, h⟩ := if_some h
  refine G_iald rfl rfl rfl hg1 ?_
  refine G_iload rfl rfl ?_
  refine G_ishr rfl ?_
  refine G_iconst (1 : Int32) rfl (by decide) ?_
  refine G_iand rfl ?_
  refine G_iconst (1 : Int32) rfl (by decide) ?_
  refine G_ic_ne 18 rfl rfl (fun hc => ?_) (fun hc => ?_)
  · rw [if_neg hc] at h
    refine G_iconst (0 : Int32) rfl (by decide) ?_
    obtain rfl := Option.some.inj h
    exact G_iret rfl rfl
  · rw [if_pos hc] at h
    refine G_iconst (1 : Int32) rfl (by decide) ?_
    refine G_goto 19 rfl rfl ?_
    obtain rfl := Option.some.inj h
    exact G_iret rfl rfl
set_option maxRecDepth 100000 in
set_option maxHeartbeats 4000000 in
theorem t_Room_setBar_59 (d : Nat)   (sg : Hp)   (y : Hp) (h : f_Room_setBar_59  sg  = some y) : Go (d + 0) none 36 59 [(0, .ref 1)] [] sg none y := by
  unfold f_Room_setBar_59 at h
  refine G_aload rfl rfl ?_
  refine G_dupr rfl ?_
  refine G_getI (ci := 2) 6 rfl rfl rfl rfl rfl ?_
  refine G_iconst (1 : Int32) rfl (by decide) ?_
  refine G_iadd rfl ?_
  obtain ⟨s7, hs7, h⟩ := Option.bind_eq_some_iff.mp h
  refine G_putI (ci := 2) 6 rfl rfl rfl rfl rfl (Option.some.inj hs7) ?_
  obtain rfl := Option.some.inj h
  exact G_vret rfl rfl
set_option maxRecDepth 100000 in
set_option maxHeartbeats 4000000 in
theorem t_Room_setBar (d : Nat) (sg : Hp) (x1 : Int32) (x2 : Int32) (x3 : Int32)  (y : Hp) (h : f_Room_setBar sg x1 x2 x3 = some y) : Sm (d + 0) 36 [.ref 1, .int x1, .int x2, .int x3] sg none y := by
  unfold f_Room_setBar at h
  refine Sm.of (lv := [(0, .ref 1), (1, .int x1), (2, .int x2), (3, .int x3)]) rfl ?_
  refine G_iload rfl rfl ?_
  refine G_if_eq 31 rfl rfl (fun hc => ?_) (fun hc => ?_)
  · rw [if_pos hc] at h
    refine G_aload rfl rfl ?_
    refine G_getR (ci := 2) 6 rfl rfl rfl rfl rfl ?_
    refine G_iload rfl rfl ?_
    refine G_dup2 rfl ?_
    obtain ⟨hg1, h⟩ := if_some h
    refine G_iald rfl rfl rfl hg1 ?_
    refine G_iconst (1 : Int32) rfl (by decide) ?_
    refine G_iload rfl rfl ?_
    refine G_ishl rfl ?_
    refine G_iconst (-1 : Int32) rfl (by decide) ?_
    refine G_ixor rfl ?_
    refine G_iand rfl ?_
    obtain ⟨hg2, h⟩ := if_some h
    obtain ⟨s3, hs3, h⟩ := Option.bind_eq_some_iff.mp h
    refine G_iast rfl rfl rfl hg2 (Option.some.inj hs3) ?_
    refine G_aload rfl rfl ?_
    refine G_getR (ci := 2) 6 rfl rfl rfl rfl rfl ?_
    refine G_iload rfl rfl ?_
    refine G_dup2 rfl ?_
    obtain ⟨hg4, h⟩ := if_some h
    refine G_iald rfl rfl rfl hg4 ?_
    refine G_iconst (1 : Int32) rfl (by decide) ?_
    refine G_iload rfl rfl ?_
    refine G_ishl rfl ?_
    refine G_iconst (-1 : Int32) rfl (by decide) ?_
    refine G_ixor rfl ?_
    refine G_iand rfl ?_
    obtain ⟨hg5, h⟩ := if_some h
    obtain ⟨s6, hs6, h⟩ := Option.bind_eq_some_iff.mp h
    refine G_iast rfl rfl rfl hg5 (Option.some.inj hs6) ?_
    exact Go.weak' (t_Room_setBar_59 d  _   _ h) ⟨rfl, trivial⟩
  · rw [if_neg hc] at h
    refine G_aload rfl rfl ?_
    refine G_getR (ci := 2) 6 rfl rfl rfl rfl rfl ?_
    refine G_iload rfl rfl ?_
    refine G_dup2 rfl ?_
    obtain ⟨hg8, h⟩ := if_some h
    refine G_iald rfl rfl rfl hg8 ?_
    refine G_iconst (1 : Int32) rfl (by decide) ?_
    refine G_iload rfl rfl ?_
    refine G_ishl rfl ?_
    refine G_ior rfl ?_
    obtain ⟨hg9, h⟩ := if_some h
    obtain ⟨s10, hs10, h⟩ := Option.bind_eq_some_iff.mp h
    refine G_iast rfl rfl rfl hg9 (Option.some.inj hs10) ?_
    refine G_aload rfl rfl ?_
    refine G_getR (ci := 2) 6 rfl rfl rfl rfl rfl ?_
    refine G_iload rfl rfl ?_
    refine G_dup2 rfl ?_
    obtain ⟨hg11, h⟩ := if_some h
    refine G_iald rfl rfl rfl hg11 ?_
    refine G_iconst (1 : Int32) rfl (by decide) ?_
    refine G_iload rfl rfl ?_
    refine G_ishl rfl ?_
    refine G_ior rfl ?_
    obtain ⟨hg12, h⟩ := if_some h
    obtain ⟨s13, hs13, h⟩ := Option.bind_eq_some_iff.mp h
    refine G_iast rfl rfl rfl hg12 (Option.some.inj hs13) ?_
    refine G_goto 59 rfl rfl ?_
    exact Go.weak' (t_Room_setBar_59 d  _   _ h) ⟨rfl, trivial⟩
set_option maxRecDepth 100000 in
set_option maxHeartbeats 4000000 in
theorem t_Box_bar_70 (d : Nat)   (sg : Hp) (x4 : Int32) (xs1 : Int32) (xs2 : Int32) (xs3 : Int32)  (y : Int32 × Hp) (h : f_Box_bar_70  sg x4 xs1 xs2 xs3 = some y) : Go (d + 1) none 33 70 [(4, .int x4)] [.int xs3, .int xs2, .int xs1, .ref 1] sg (some (.int y.1)) y.2 := by
  unfold f_Box_bar_70 at h
  obtain ⟨y4, hy4, h⟩ := Option.bind_eq_some_iff.mp h
  refine G_callvV 4 (t_Room_setBar _ _ _ _ _  _ hy4) rfl rfl rfl rfl rfl rfl rfl rfl rfl rfl rfl ?_
  refine G_iload rfl rfl ?_
  obtain rfl := Option.some.inj h
  exact G_iret rfl rfl
set_option maxRecDepth 100000 in
set_option maxHeartbeats 4000000 in
theorem t_Box_bar_52 (d : Nat)   (sg : Hp) (x1 : Int32) (x2 : Int32) (x3 : Int32) (xs0 : Int32)  (y : Int32 × Hp) (h : f_Box_bar_52  sg x1 x2 x3 xs0 = some y) : Go (d + 1) none 33 52 [(0, .ref 0), (1, .int x1), (2, .int x2), (3, .int x3)] [.int xs0] sg (some (.int y.1)) y.2 := by
  unfold f_Box_bar_52 at h
  refine G_istore rfl rfl ?_
  refine G_aload rfl rfl ?_
  refine G_getR (ci := 9) 1 rfl rfl rfl rfl rfl ?_
  refine G_iload rfl rfl ?_
  refine G_iload rfl rfl ?_
  refine G_iload rfl rfl ?_
  refine G_iconst (1 : Int32) rfl (by decide) ?_
  refine G_ic_ne 69 rfl rfl (fun hc => ?_) (fun hc => ?_)
  · rw [if_neg hc] at h
    refine G_iconst (0 : Int32) rfl (by decide) ?_
    exact Go.weak' (t_Box_bar_70 d  _ _ _ _ _  _ h) ⟨rfl, trivial⟩
  · rw [if_pos hc] at h
    refine G_iconst (1 : Int32) rfl (by decide) ?_
    refine G_goto 70 rfl rfl ?_
    exact Go.weak' (t_Box_bar_70 d  _ _ _ _ _  _ h) ⟨rfl, trivial⟩
set_option maxRecDepth 100000 in
set_option maxHeartbeats 4000000 in
theorem t_Box_bar (d : Nat) (sg : Hp) (x1 : Int32) (x2 : Int32) (x3 : Int32)  (y : Int32 × Hp) (h : f_Box_bar sg x1 x2 x3 = some y) : Sm (d + 1) 33 [.ref 0, .int x1, .int x2, .int x3] sg (some (.int y.1)) y.2 := by
  unfold f_Box_bar at h
  refine Sm.of (lv := [(0, .ref 0), (1, .int x1), (2, .int x2), (3, .int x3)]) rfl ?_
  refine G_iload rfl rfl ?_
  obtain ⟨y1, hy1, h⟩ := Option.bind_eq_some_iff.mp h
  refine G_callsI 1 (t_Box_isWall _ _ _  _ hy1) rfl rfl rfl rfl rfl rfl rfl rfl rfl ?_
  refine G_if_eq 32 rfl rfl (fun hc => ?_) (fun hc => ?_)
  · rw [if_pos hc] at h
    refine G_iconst (-2 : Int32) rfl (by decide) ?_
    obtain rfl := Option.some.inj h
    exact G_iret rfl rfl
  · rw [if_neg hc] at h
    refine G_iload rfl rfl ?_
    obtain ⟨y2, hy2, h⟩ := Option.bind_eq_some_iff.mp h
    refine G_callsI 1 (t_Box_isWall _ _ _  _ hy2) rfl rfl rfl rfl rfl rfl rfl rfl rfl ?_
    refine G_if_eq 32 rfl rfl (fun hc => ?_) (fun hc => ?_)
    · rw [if_pos hc] at h
      refine G_iconst (-2 : Int32) rfl (by decide) ?_
      obtain rfl := Option.some.inj h
      exact G_iret rfl rfl
    · rw [if_neg hc] at h
      refine G_iload rfl rfl ?_
      refine G_iconst (1 : Int32) rfl (by decide) ?_
      refine G_ishr rfl ?_
      refine G_iload rfl rfl ?_
      refine G_iconst (1 : Int32) rfl (by decide) ?_
      refine G_ishr rfl ?_
      refine G_ic_eq 32 rfl rfl (fun hc => ?_) (fun hc => ?_)
      · rw [if_pos hc] at h
        refine G_iconst (-2 : Int32) rfl (by decide) ?_
        obtain rfl := Option.some.inj h
        exact G_iret rfl rfl
      · rw [if_neg hc] at h
        refine G_iload rfl rfl ?_
        refine G_if_lt 32 rfl rfl (fun hc => ?_) (fun hc => ?_)
        · rw [if_pos hc] at h
          refine G_iconst (-2 : Int32) rfl (by decide) ?_
          obtain rfl := Option.some.inj h
          exact G_iret rfl rfl
        · rw [if_neg hc] at h
          refine G_iload rfl rfl ?_
          refine G_iconst (1 : Int32) rfl (by decide) ?_
          refine G_ic_le 35 rfl rfl (fun hc => ?_) (fun hc => ?_)
          · rw [if_pos hc] at h
            refine G_aload rfl rfl ?_
            refine G_getR (ci := 9) 1 rfl rfl rfl rfl rfl ?_
            refine G_iload rfl rfl ?_
            refine G_iload rfl rfl ?_
            obtain ⟨y3, hy3, h⟩ := Option.bind_eq_some_iff.mp h
            refine G_callvI 3 (t_Room_isBarred _ _ _ _  _ hy3) rfl rfl rfl rfl rfl rfl rfl rfl rfl rfl rfl ?_
            refine G_if_eq 51 rfl rfl (fun hc => ?_) (fun hc => ?_)
            · rw [if_pos hc] at h
              refine G_iconst (0 : Int32) rfl (by decide) ?_
              exact Go.weak' (t_Box_bar_52 d  _ _ _ _ _  _ h) ⟨rfl, rfl, rfl, rfl, trivial⟩
            · rw [if_neg hc] at h
              refine G_iconst (1 : Int32) rfl (by decide) ?_
              refine G_goto 52 rfl rfl ?_
              exact Go.weak' (t_Box_bar_52 d  _ _ _ _ _  _ h) ⟨rfl, rfl, rfl, rfl, trivial⟩
          · rw [if_neg hc] at h
            refine G_iconst (-2 : Int32) rfl (by decide) ?_
            obtain rfl := Option.some.inj h
            exact G_iret rfl rfl
set_option maxRecDepth 100000 in
set_option maxHeartbeats 4000000 in
theorem t_Mod_isFace (d : Nat) (sg : Hp) (x0 : Int32)  (y : Int32 × Hp) (h : f_Mod_isFace sg x0 = some y) : Sm (d + 1) 123 [.int x0] sg (some (.int y.1)) y.2 := by
  unfold f_Mod_isFace at h
  refine Sm.of (lv := [(0, .int x0)]) rfl ?_
  refine G_iload rfl rfl ?_
  refine G_i2l rfl ?_
  refine G_lconst (0 : Int64) rfl (by decide) ?_
  refine G_ldc2 (5 : Int64) rfl (by decide) ?_
  obtain ⟨y1, hy1, h⟩ := Option.bind_eq_some_iff.mp h
  refine G_callsI 3 (t_Mod_in _ _ _ _ _  _ hy1) rfl rfl rfl rfl rfl rfl rfl rfl rfl ?_
  obtain ⟨hz, h⟩ := if_some h
  obtain rfl := Option.some.inj h
  exact G_iret rfl (retZ_b rfl hz)
set_option maxRecDepth 100000 in
set_option maxHeartbeats 4000000 in
theorem t_Mod_isTwo (d : Nat) (sg : Hp) (x0 : Int32)  (y : Int32 × Hp) (h : f_Mod_isTwo sg x0 = some y) : Sm (d + 1) 124 [.int x0] sg (some (.int y.1)) y.2 := by
  unfold f_Mod_isTwo at h
  refine Sm.of (lv := [(0, .int x0)]) rfl ?_
  refine G_iload rfl rfl ?_
  refine G_i2l rfl ?_
  refine G_lconst (0 : Int64) rfl (by decide) ?_
  refine G_lconst (1 : Int64) rfl (by decide) ?_
  obtain ⟨y1, hy1, h⟩ := Option.bind_eq_some_iff.mp h
  refine G_callsI 3 (t_Mod_in _ _ _ _ _  _ hy1) rfl rfl rfl rfl rfl rfl rfl rfl rfl ?_
  obtain ⟨hz, h⟩ := if_some h
  obtain rfl := Option.some.inj h
  exact G_iret rfl (retZ_b rfl hz)
set_option maxRecDepth 100000 in
set_option maxHeartbeats 4000000 in
theorem t_Mod_bar (d : Nat) (sg : Hp) (x1 : Int32) (x2 : Int32) (x3 : Int32)  (y : Int32 × Hp) (h : f_Mod_bar sg x1 x2 x3 = some y) : Sm (d + 2) 122 [.ref 46, .int x1, .int x2, .int x3] sg (some (.int y.1)) y.2 := by
  unfold f_Mod_bar at h
  refine Sm.of (lv := [(0, .ref 46), (1, .int x1), (2, .int x2), (3, .int x3)]) rfl ?_
  refine G_iload rfl rfl ?_
  obtain ⟨y1, hy1, h⟩ := Option.bind_eq_some_iff.mp h
  refine G_callsI 1 (t_Mod_isFace _ _ _  _ hy1) rfl rfl rfl rfl rfl rfl rfl rfl rfl ?_
  refine G_if_eq 30 rfl rfl (fun hc => ?_) (fun hc => ?_)
  · rw [if_pos hc] at h
    refine G_iconst (-2 : Int32) rfl (by decide) ?_
    obtain rfl := Option.some.inj h
    exact G_iret rfl rfl
  · rw [if_neg hc] at h
    refine G_iload rfl rfl ?_
    obtain ⟨y2, hy2, h⟩ := Option.bind_eq_some_iff.mp h
    refine G_callsI 1 (t_Mod_isFace _ _ _  _ hy2) rfl rfl rfl rfl rfl rfl rfl rfl rfl ?_
    refine G_if_eq 30 rfl rfl (fun hc => ?_) (fun hc => ?_)
    · rw [if_pos hc] at h
      refine G_iconst (-2 : Int32) rfl (by decide) ?_
      obtain rfl := Option.some.inj h
      exact G_iret rfl rfl
    · rw [if_neg hc] at h
      refine G_iload rfl rfl ?_
      refine G_iconst (2 : Int32) rfl (by decide) ?_
      refine G_idiv rfl (by decide) ?_
      refine G_iload rfl rfl ?_
      refine G_iconst (2 : Int32) rfl (by decide) ?_
      refine G_idiv rfl (by decide) ?_
      refine G_ic_eq 30 rfl rfl (fun hc => ?_) (fun hc => ?_)
      · rw [if_pos hc] at h
        refine G_iconst (-2 : Int32) rfl (by decide) ?_
        obtain rfl := Option.some.inj h
        exact G_iret rfl rfl
      · rw [if_neg hc] at h
        refine G_iload rfl rfl ?_
        obtain ⟨y3, hy3, h⟩ := Option.bind_eq_some_iff.mp h
        refine G_callsI 1 (t_Mod_isTwo _ _ _  _ hy3) rfl rfl rfl rfl rfl rfl rfl rfl rfl ?_
        refine G_if_ne 33 rfl rfl (fun hc => ?_) (fun hc => ?_)
        · rw [if_neg hc] at h
          refine G_aload rfl rfl ?_
          refine G_getR (ci := 10) 53 rfl rfl rfl rfl rfl ?_
          refine G_iload rfl rfl ?_
          obtain ⟨hg4, h⟩ := if_some h
          refine G_iald rfl rfl rfl hg4 ?_
          refine G_iload rfl rfl ?_
          refine G_ishr rfl ?_
          refine G_iconst (1 : Int32) rfl (by decide) ?_
          refine G_iand rfl ?_
          refine G_istore rfl rfl ?_
          refine G_aload rfl rfl ?_
          refine G_getR (ci := 10) 53 rfl rfl rfl rfl rfl ?_
          refine G_iload rfl rfl ?_
          refine G_aload rfl rfl ?_
          refine G_getR (ci := 10) 53 rfl rfl rfl rfl rfl ?_
          refine G_iload rfl rfl ?_
          obtain ⟨hg5, h⟩ := if_some h
          refine G_iald rfl rfl rfl hg5 ?_
          refine G_iconst (1 : Int32) rfl (by decide) ?_
          refine G_iload rfl rfl ?_
          refine G_ishl rfl ?_
          refine G_iconst (-1 : Int32) rfl (by decide) ?_
          refine G_ixor rfl ?_
          refine G_iand rfl ?_
          refine G_iload rfl rfl ?_
          refine G_iload rfl rfl ?_
          refine G_ishl rfl ?_
          refine G_ior rfl ?_
          obtain ⟨hg6, h⟩ := if_some h
          obtain ⟨s7, hs7, h⟩ := Option.bind_eq_some_iff.mp h
          refine G_iast rfl rfl rfl hg6 (Option.some.inj hs7) ?_
          refine G_aload rfl rfl ?_
          refine G_getR (ci := 10) 53 rfl rfl rfl rfl rfl ?_
          refine G_iload rfl rfl ?_
          refine G_aload rfl rfl ?_
          refine G_getR (ci := 10) 53 rfl rfl rfl rfl rfl ?_
          refine G_iload rfl rfl ?_
          obtain ⟨hg8, h⟩ := if_some h
          refine G_iald rfl rfl rfl hg8 ?_
          refine G_iconst (1 : Int32) rfl (by decide) ?_
          refine G_iload rfl rfl ?_
          refine G_ishl rfl ?_
          refine G_iconst (-1 : Int32) rfl (by decide) ?_
          refine G_ixor rfl ?_
          refine G_iand rfl ?_
          refine G_iload rfl rfl ?_
          refine G_iload rfl rfl ?_
          refine G_ishl rfl ?_
          refine G_ior rfl ?_
          obtain ⟨hg9, h⟩ := if_some h
          obtain ⟨s10, hs10, h⟩ := Option.bind_eq_some_iff.mp h
          refine G_iast rfl rfl rfl hg9 (Option.some.inj hs10) ?_
          refine G_iload rfl rfl ?_
          obtain rfl := Option.some.inj h
          exact G_iret rfl rfl
        · rw [if_pos hc] at h
          refine G_iconst (-2 : Int32) rfl (by decide) ?_
          obtain rfl := Option.some.inj h
          exact G_iret rfl rfl
set_option maxRecDepth 100000 in
set_option maxHeartbeats 4000000 in
theorem t_Rolls_valid (d : Nat) (sg : Hp)   (y : Int32 × Hp) (h : f_Rolls_valid sg  = some y) : Sm (d + 2) 38 [.ref 9] sg (some (.int y.1)) y.2 := by
  unfold f_Rolls_valid at h
  refine Sm.of (lv := [(0, .ref 9)]) rfl ?_
  refine G_aload rfl rfl ?_
  obtain ⟨y1, hy1, h⟩ := Option.bind_eq_some_iff.mp h
  refine G_callvI 1 (t_Rolls_firstWrong _ _   _ hy1) rfl rfl rfl rfl rfl rfl rfl rfl rfl rfl rfl ?_
  refine G_iconst (-1 : Int32) rfl (by decide) ?_
  refine G_ic_ne 15 rfl rfl (fun hc => ?_) (fun hc => ?_)
  · rw [if_neg hc] at h
    refine G_iconst (0 : Int32) rfl (by decide) ?_
    obtain rfl := Option.some.inj h
    exact G_iret rfl rfl
  · rw [if_pos hc] at h
    refine G_aload rfl rfl ?_
    refine G_getI (ci := 1) 1 rfl rfl rfl rfl rfl ?_
    refine G_goto 16 rfl rfl ?_
    obtain rfl := Option.some.inj h
    exact G_iret rfl rfl
set_option maxRecDepth 100000 in
set_option maxHeartbeats 4000000 in
theorem t_Stand_start_33 (d : Nat)   (sg : Hp) (a0 : Nat) (a2 : Nat) (as0 : Nat) (xs1 : Int32) (h0 : clsOf a0 = 6) (h2 : clsOf a2 = 20) (g2 : lenOf a2 = 3) (hs0 : clsOf as0 = 6) (y : Hp) (h : f_Stand_start_33  sg a0 a2 as0 xs1 = some y) : Go (d + 0) none 40 33 [(0, .ref a0), (2, .ref a2)] [.int xs1, .ref as0] sg none y := by
  unfold f_Stand_start_33 at h
  obtain ⟨s3, hs3, h⟩ := Option.bind_eq_some_iff.mp h
  refine G_putI (ci := 6) 2 rfl hs0 rfl rfl rfl (Option.some.inj hs3) ?_
  refine G_aload rfl rfl ?_
  refine G_iconst (0 : Int32) rfl (by decide) ?_
  obtain ⟨s4, hs4, h⟩ := Option.bind_eq_some_iff.mp h
  refine G_putI (ci := 6) 3 rfl h0 rfl rfl rfl (Option.some.inj hs4) ?_
  refine G_aload rfl rfl ?_
  refine G_iconst (0 : Int32) rfl (by decide) ?_
  obtain ⟨s5, hs5, h⟩ := Option.bind_eq_some_iff.mp h
  refine G_putI (ci := 6) 4 rfl h0 rfl rfl rfl (Option.some.inj hs5) ?_
  refine G_aload rfl rfl ?_
  refine G_aload rfl rfl ?_
  refine G_aload rfl rfl ?_
  refine G_getI (ci := 6) 1 rfl h0 rfl rfl rfl ?_
  refine G_iconst (1 : Int32) rfl (by decide) ?_
  refine G_ishr rfl ?_
  obtain ⟨hg6, h⟩ := if_some h
  refine G_iald rfl h2 g2 hg6 ?_
  obtain ⟨s7, hs7, h⟩ := Option.bind_eq_some_iff.mp h
  refine G_putI (ci := 6) 5 rfl h0 rfl rfl rfl (Option.some.inj hs7) ?_
  refine G_aload rfl rfl ?_
  refine G_aload rfl rfl ?_
  refine G_aload rfl rfl ?_
  refine G_getI (ci := 6) 2 rfl h0 rfl rfl rfl ?_
  refine G_iconst (1 : Int32) rfl (by decide) ?_
  refine G_ishr rfl ?_
  obtain ⟨hg8, h⟩ := if_some h
  refine G_iald rfl h2 g2 hg8 ?_
  obtain ⟨s9, hs9, h⟩ := Option.bind_eq_some_iff.mp h
  refine G_putI (ci := 6) 6 rfl h0 rfl rfl rfl (Option.some.inj hs9) ?_
  refine G_aload rfl rfl ?_
  refine G_aload rfl rfl ?_
  refine G_aload rfl rfl ?_
  refine G_getI (ci := 6) 0 rfl h0 rfl rfl rfl ?_
  refine G_iconst (1 : Int32) rfl (by decide) ?_
  refine G_ishr rfl ?_
  obtain ⟨hg10, h⟩ := if_some h
  refine G_iald rfl h2 g2 hg10 ?_
  obtain ⟨s11, hs11, h⟩ := Option.bind_eq_some_iff.mp h
  refine G_putI (ci := 6) 7 rfl h0 rfl rfl rfl (Option.some.inj hs11) ?_
  obtain rfl := Option.some.inj h
  exact G_vret rfl rfl
set_option maxRecDepth 100000 in
set_option maxHeartbeats 4000000 in
theorem t_Stand_start_18 (d : Nat)   (sg : Hp) (a0 : Nat) (x1 : Int32) (a2 : Nat) (as0 : Nat) (xs1 : Int32) (h0 : clsOf a0 = 6) (h2 : clsOf a2 = 20) (g2 : lenOf a2 = 3) (hs0 : clsOf as0 = 6) (y : Hp) (h : f_Stand_start_18  sg a0 x1 a2 as0 xs1 = some y) : Go (d + 0) none 40 18 [(0, .ref a0), (1, .int x1), (2, .ref a2)] [.int xs1, .ref as0] sg none y := by
  unfold f_Stand_start_18 at h
  obtain ⟨s2, hs2, h⟩ := Option.bind_eq_some_iff.mp h
  refine G_putI (ci := 6) 1 rfl hs0 rfl rfl rfl (Option.some.inj hs2) ?_
  refine G_aload rfl rfl ?_
  refine G_iload rfl rfl ?_
  refine G_iconst (1 : Int32) rfl (by decide) ?_
  refine G_ishr rfl ?_
  refine G_if_ne 32 rfl rfl (fun hc => ?_) (fun hc => ?_)
  · rw [if_neg hc] at h
    refine G_iconst (1 : Int32) rfl (by decide) ?_
    exact Go.weak' (t_Stand_start_33 d  _ _ _ _ _ h0 h2 g2 h0 _ h) ⟨rfl, rfl, trivial⟩
  · rw [if_pos hc] at h
    refine G_iconst (5 : Int32) rfl (by decide) ?_
    refine G_goto 33 rfl rfl ?_
    exact Go.weak' (t_Stand_start_33 d  _ _ _ _ _ h0 h2 g2 h0 _ h) ⟨rfl, rfl, trivial⟩
set_option maxRecDepth 100000 in
set_option maxHeartbeats 4000000 in
theorem t_Stand_start (d : Nat) (sg : Hp) (a0 : Nat) (x1 : Int32) (a2 : Nat) (h0 : clsOf a0 = 6) (h2 : clsOf a2 = 20) (g2 : lenOf a2 = 3) (y : Hp) (h : f_Stand_start sg a0 x1 a2 = some y) : Sm (d + 0) 40 [.ref a0, .int x1, .ref a2] sg none y := by
  unfold f_Stand_start at h
  refine Sm.of (lv := [(0, .ref a0), (1, .int x1), (2, .ref a2)]) rfl ?_
  refine G_aload rfl rfl ?_
  refine G_iload rfl rfl ?_
  obtain ⟨s1, hs1, h⟩ := Option.bind_eq_some_iff.mp h
  refine G_putI (ci := 6) 0 rfl h0 rfl rfl rfl (Option.some.inj hs1) ?_
  refine G_aload rfl rfl ?_
  refine G_iload rfl rfl ?_
  refine G_iconst (1 : Int32) rfl (by decide) ?_
  refine G_ishr rfl ?_
  refine G_iconst (1 : Int32) rfl (by decide) ?_
  refine G_ic_ne 17 rfl rfl (fun hc => ?_) (fun hc => ?_)
  · rw [if_neg hc] at h
    refine G_iconst (3 : Int32) rfl (by decide) ?_
    exact Go.weak' (t_Stand_start_18 d  _ _ _ _ _ _ h0 h2 g2 h0 _ h) ⟨rfl, rfl, rfl, trivial⟩
  · rw [if_pos hc] at h
    refine G_iconst (5 : Int32) rfl (by decide) ?_
    refine G_goto 18 rfl rfl ?_
    exact Go.weak' (t_Stand_start_18 d  _ _ _ _ _ _ h0 h2 g2 h0 _ h) ⟨rfl, rfl, rfl, trivial⟩
