set_option maxRecDepth 100000 in
set_option maxHeartbeats 4000000 in
theorem t_Search_find_69 (d : Nat) {k33 : Hp → Nat → Int32 → Option (Hp)} (hk33 : ∀ (sg : Hp) (a1 : Nat) (x2 : Int32) (h1 : clsOf a1 = 20) (g1 : lenOf a1 = 3) (y : Hp), k33 sg a1 x2 = some y → Go (d + 9) none 48 33 [(0, .ref 11), (1, .ref a1), (2, .int x2)] [] sg none y) (sg : Hp) (a1 : Nat) (x2 : Int32) (h1 : clsOf a1 = 20) (g1 : lenOf a1 = 3) (y : Hp) (h : f_Search_find_69 k33 sg a1 x2 = some y) : Go (d + 9) none 48 69 [(0, .ref 11), (1, .ref a1), (2, .int x2)] [] sg none y := by
  unfold f_Search_find_69 at h
  refine G_iinc (1 : Int32) rfl (by decide) rfl rfl ?_
  refine G_goto 33 rfl rfl ?_
  exact Go.weak' (hk33 _ _ _ h1 g1 _ h) ⟨rfl, rfl, rfl, trivial⟩
set_option maxRecDepth 100000 in
set_option maxHeartbeats 4000000 in
theorem t_Search_find_33 (d : Nat)   : ∀ (n : Nat) (sg : Hp) (a1 : Nat) (x2 : Int32) (h1 : clsOf a1 = 20) (g1 : lenOf a1 = 3) (y : Hp), f_Search_find_33  n sg a1 x2 = some y → Go (d + 9) none 48 33 [(0, .ref 11), (1, .ref a1), (2, .int x2)] [] sg none y := by
  intro n
  induction n with
  | zero =>
    intro sg a1 x2 h1 g1 y h
    rw [f_Search_find_33] at h
    cases h
  | succ n ih =>
    intro sg a1 x2 h1 g1 y h
    rw [f_Search_find_33] at h
    refine G_iload rfl rfl ?_
    refine G_iconst (6 : Int32) rfl (by decide) ?_
    refine G_ic_ge 75 rfl rfl (fun hc => ?_) (fun hc => ?_)
    · rw [if_pos hc] at h
      obtain rfl := Option.some.inj h
      exact G_vret rfl rfl
    · rw [if_neg hc] at h
      refine G_aload rfl rfl ?_
      refine G_getR (ci := 3) 12 rfl rfl rfl rfl rfl ?_
      refine G_iload rfl rfl ?_
      obtain ⟨y7, hy7, h⟩ := Option.bind_eq_some_iff.mp h
      refine G_callvI 2 (t_Spot_isOn _ _ _ _ rfl _ hy7) rfl rfl rfl rfl rfl rfl rfl rfl rfl rfl rfl ?_
      refine G_if_eq 69 rfl rfl (fun hc => ?_) (fun hc => ?_)
      · rw [if_pos hc] at h
        exact Go.weak' (t_Search_find_69 d ih _ _ _ h1 g1 _ h) ⟨rfl, rfl, rfl, trivial⟩
      · rw [if_neg hc] at h
        refine G_aload rfl rfl ?_
        refine G_getR (ci := 3) 17 rfl rfl rfl rfl rfl ?_
        refine G_iconst (0 : Int32) rfl (by decide) ?_
        refine G_aaldL 19 rfl rfl (Or.inl rfl) rfl (by decide) rfl ?_
        refine G_iload rfl rfl ?_
        refine G_aload rfl rfl ?_
        obtain ⟨y8, hy8, h⟩ := Option.bind_eq_some_iff.mp h
        refine G_callvV 3 (t_Stand_start _ _ _ _ _ rfl h1 g1 _ hy8) rfl rfl rfl rfl rfl rfl rfl rfl rfl rfl rfl ?_
        refine G_aload rfl rfl ?_
        refine G_iconst (0 : Int32) rfl (by decide) ?_
        refine G_iconst (1 : Int32) rfl (by decide) ?_
        refine G_iload rfl rfl ?_
        refine G_ishl rfl ?_
        obtain ⟨y9, hy9, h⟩ := Option.bind_eq_some_iff.mp h
        refine G_callvV 3 (t_Search_extend _ _ _ _ _  _ hy9) rfl rfl rfl rfl rfl rfl rfl rfl rfl rfl rfl ?_
        exact Go.weak' (t_Search_find_69 d ih _ _ _ h1 g1 _ h) ⟨rfl, rfl, rfl, trivial⟩
set_option maxRecDepth 100000 in
set_option maxHeartbeats 4000000 in
theorem t_Search_find (d : Nat) (sg : Hp) (a1 : Nat) (h1 : clsOf a1 = 20) (g1 : lenOf a1 = 3) (y : Hp) (h : f_Search_find sg a1 = some y) : Sm (d + 9) 48 [.ref 11, .ref a1] sg none y := by
  unfold f_Search_find at h
  refine Sm.of (lv := [(0, .ref 11), (1, .ref a1)]) rfl ?_
  refine G_aload rfl rfl ?_
  refine G_aload rfl rfl ?_
  refine G_getR (ci := 3) 14 rfl rfl rfl rfl rfl ?_
  obtain ⟨y1, hy1, h⟩ := Option.bind_eq_some_iff.mp h
  refine G_callvI 1 (t_Spot_wallBits _ _ _ rfl _ hy1) rfl rfl rfl rfl rfl rfl rfl rfl rfl rfl rfl ?_
  obtain ⟨s2, hs2, h⟩ := Option.bind_eq_some_iff.mp h
  refine G_putI (ci := 3) 6 rfl rfl rfl rfl rfl (Option.some.inj hs2) ?_
  refine G_aload rfl rfl ?_
  refine G_iconst (-1 : Int32) rfl (by decide) ?_
  obtain ⟨s3, hs3, h⟩ := Option.bind_eq_some_iff.mp h
  refine G_putI (ci := 3) 7 rfl rfl rfl rfl rfl (Option.some.inj hs3) ?_
  refine G_aload rfl rfl ?_
  refine G_iconst (0 : Int32) rfl (by decide) ?_
  obtain ⟨s4, hs4, h⟩ := Option.bind_eq_some_iff.mp h
  refine G_putI (ci := 3) 8 rfl rfl rfl rfl rfl (Option.some.inj hs4) ?_
  refine G_aload rfl rfl ?_
  refine G_iconst (0 : Int32) rfl (by decide) ?_
  obtain ⟨s5, hs5, h⟩ := Option.bind_eq_some_iff.mp h
  refine G_putI (ci := 3) 9 rfl rfl rfl rfl rfl (Option.some.inj hs5) ?_
  refine G_aload rfl rfl ?_
  refine G_iconst (0 : Int32) rfl (by decide) ?_
  obtain ⟨s6, hs6, h⟩ := Option.bind_eq_some_iff.mp h
  refine G_putI (ci := 3) 10 rfl rfl rfl rfl rfl (Option.some.inj hs6) ?_
  refine G_iconst (0 : Int32) rfl (by decide) ?_
  refine G_istore rfl rfl ?_
  exact Go.weak' (t_Search_find_33 d  _ _ _ _ h1 g1 _ h) ⟨rfl, rfl, rfl, trivial⟩
set_option maxRecDepth 100000 in
set_option maxHeartbeats 4000000 in
theorem t_Table_look (d : Nat) (sg : Hp) (x1 : Int32) (x2 : Int32)  (y : Int32 × Hp) (h : f_Table_look sg x1 x2 = some y) : Sm (d + 10) 47 [.ref 24, .int x1, .int x2] sg (some (.int y.1)) y.2 := by
  unfold f_Table_look at h
  refine Sm.of (lv := [(0, .ref 24), (1, .int x1), (2, .int x2)]) rfl ?_
  refine G_iconst (8 : Int32) rfl (by decide) ?_
  refine G_iload rfl rfl ?_
  refine G_imul rfl ?_
  refine G_iload rfl rfl ?_
  refine G_iadd rfl ?_
  refine G_istore rfl rfl ?_
  refine G_aload rfl rfl ?_
  refine G_getR (ci := 7) 28 rfl rfl rfl rfl rfl ?_
  refine G_iload rfl rfl ?_
  obtain ⟨hg1, h⟩ := if_some h
  refine G_iald rfl rfl rfl hg1 ?_
  refine G_aload rfl rfl ?_
  refine G_getR (ci := 7) 1 rfl rfl rfl rfl rfl ?_
  refine G_getI (ci := 2) 6 rfl rfl rfl rfl rfl ?_
  refine G_ic_eq 119 rfl rfl (fun hc => ?_) (fun hc => ?_)
  · rw [if_pos hc] at h
    refine G_iload rfl rfl ?_
    obtain rfl := Option.some.inj h
    exact G_iret rfl rfl
  · rw [if_neg hc] at h
    refine G_aload rfl rfl ?_
    refine G_getR (ci := 7) 1 rfl rfl rfl rfl rfl ?_
    refine G_iload rfl rfl ?_
    refine G_aload rfl rfl ?_
    refine G_getR (ci := 7) 11 rfl rfl rfl rfl rfl ?_
    refine G_getR (ci := 3) 12 rfl rfl rfl rfl rfl ?_
    obtain ⟨y2, hy2, h⟩ := Option.bind_eq_some_iff.mp h
    refine G_callvV 3 (t_Room_spotOf _ _ _ _ rfl _ hy2) rfl rfl rfl rfl rfl rfl rfl rfl rfl rfl rfl ?_
    refine G_aload rfl rfl ?_
    refine G_getR (ci := 7) 1 rfl rfl rfl rfl rfl ?_
    refine G_iload rfl rfl ?_
    refine G_aload rfl rfl ?_
    refine G_getR (ci := 7) 11 rfl rfl rfl rfl rfl ?_
    refine G_getR (ci := 3) 14 rfl rfl rfl rfl rfl ?_
    obtain ⟨y3, hy3, h⟩ := Option.bind_eq_some_iff.mp h
    refine G_callvV 3 (t_Room_spotOf _ _ _ _ rfl _ hy3) rfl rfl rfl rfl rfl rfl rfl rfl rfl rfl rfl ?_
    refine G_aload rfl rfl ?_
    refine G_getR (ci := 7) 11 rfl rfl rfl rfl rfl ?_
    refine G_aload rfl rfl ?_
    refine G_getR (ci := 7) 1 rfl rfl rfl rfl rfl ?_
    refine G_getR (ci := 2) 2 rfl rfl rfl rfl rfl ?_
    obtain ⟨y4, hy4, h⟩ := Option.bind_eq_some_iff.mp h
    refine G_callvV 2 (t_Search_find _ _ _ rfl rfl _ hy4) rfl rfl rfl rfl rfl rfl rfl rfl rfl rfl rfl ?_
    refine G_aload rfl rfl ?_
    refine G_getR (ci := 7) 25 rfl rfl rfl rfl rfl ?_
    refine G_iload rfl rfl ?_
    refine G_aload rfl rfl ?_
    refine G_getR (ci := 7) 11 rfl rfl rfl rfl rfl ?_
    refine G_getI (ci := 3) 7 rfl rfl rfl rfl rfl ?_
    obtain ⟨hg5, h⟩ := if_some h
    obtain ⟨s6, hs6, h⟩ := Option.bind_eq_some_iff.mp h
    refine G_iast rfl rfl rfl hg5 (Option.some.inj hs6) ?_
    refine G_aload rfl rfl ?_
    refine G_getR (ci := 7) 26 rfl rfl rfl rfl rfl ?_
    refine G_iload rfl rfl ?_
    refine G_aload rfl rfl ?_
    refine G_getR (ci := 7) 11 rfl rfl rfl rfl rfl ?_
    refine G_getI (ci := 3) 8 rfl rfl rfl rfl rfl ?_
    obtain ⟨hg7, h⟩ := if_some h
    obtain ⟨s8, hs8, h⟩ := Option.bind_eq_some_iff.mp h
    refine G_iast rfl rfl rfl hg7 (Option.some.inj hs8) ?_
    refine G_aload rfl rfl ?_
    refine G_getR (ci := 7) 27 rfl rfl rfl rfl rfl ?_
    refine G_iload rfl rfl ?_
    refine G_aload rfl rfl ?_
    refine G_getR (ci := 7) 11 rfl rfl rfl rfl rfl ?_
    refine G_getI (ci := 3) 9 rfl rfl rfl rfl rfl ?_
    obtain ⟨hg9, h⟩ := if_some h
    obtain ⟨s10, hs10, h⟩ := Option.bind_eq_some_iff.mp h
    refine G_iast rfl rfl rfl hg9 (Option.some.inj hs10) ?_
    refine G_aload rfl rfl ?_
    refine G_getR (ci := 7) 28 rfl rfl rfl rfl rfl ?_
    refine G_iload rfl rfl ?_
    refine G_aload rfl rfl ?_
    refine G_getR (ci := 7) 1 rfl rfl rfl rfl rfl ?_
    refine G_getI (ci := 2) 6 rfl rfl rfl rfl rfl ?_
    obtain ⟨hg11, h⟩ := if_some h
    obtain ⟨s12, hs12, h⟩ := Option.bind_eq_some_iff.mp h
    refine G_iast rfl rfl rfl hg11 (Option.some.inj hs12) ?_
    refine G_iload rfl rfl ?_
    obtain rfl := Option.some.inj h
    exact G_iret rfl rfl
set_option maxRecDepth 100000 in
set_option maxHeartbeats 4000000 in
theorem t_Box_shortest (d : Nat) (sg : Hp) (x1 : Int32) (x2 : Int32)  (y : Int32 × Hp) (h : f_Box_shortest sg x1 x2 = some y) : Sm (d + 11) 46 [.ref 0, .int x1, .int x2] sg (some (.int y.1)) y.2 := by
  unfold f_Box_shortest at h
  refine Sm.of (lv := [(0, .ref 0), (1, .int x1), (2, .int x2)]) rfl ?_
  refine G_iload rfl rfl ?_
  obtain ⟨y1, hy1, h⟩ := Option.bind_eq_some_iff.mp h
  refine G_callsI 1 (t_Box_isPlace _ _ _  _ hy1) rfl rfl rfl rfl rfl rfl rfl rfl rfl ?_
  refine G_if_eq 14 rfl rfl (fun hc => ?_) (fun hc => ?_)
  · rw [if_pos hc] at h
    refine G_iconst (-2 : Int32) rfl (by decide) ?_
    obtain rfl := Option.some.inj h
    exact G_iret rfl rfl
  · rw [if_neg hc] at h
    refine G_iload rfl rfl ?_
    obtain ⟨y2, hy2, h⟩ := Option.bind_eq_some_iff.mp h
    refine G_callsI 1 (t_Box_isPlace _ _ _  _ hy2) rfl rfl rfl rfl rfl rfl rfl rfl rfl ?_
    refine G_if_ne 17 rfl rfl (fun hc => ?_) (fun hc => ?_)
    · rw [if_neg hc] at h
      refine G_aload rfl rfl ?_
      refine G_getR (ci := 9) 24 rfl rfl rfl rfl rfl ?_
      refine G_getR (ci := 7) 25 rfl rfl rfl rfl rfl ?_
      refine G_aload rfl rfl ?_
      refine G_getR (ci := 9) 24 rfl rfl rfl rfl rfl ?_
      refine G_iload rfl rfl ?_
      refine G_iload rfl rfl ?_
      obtain ⟨y3, hy3, h⟩ := Option.bind_eq_some_iff.mp h
      refine G_callvI 3 (t_Table_look _ _ _ _  _ hy3) rfl rfl rfl rfl rfl rfl rfl rfl rfl rfl rfl ?_
      obtain ⟨hg4, h⟩ := if_some h
      refine G_iald rfl rfl rfl hg4 ?_
      obtain rfl := Option.some.inj h
      exact G_iret rfl rfl
    · rw [if_pos hc] at h
      refine G_iconst (-2 : Int32) rfl (by decide) ?_
      obtain rfl := Option.some.inj h
      exact G_iret rfl rfl
set_option maxRecDepth 100000 in
set_option maxHeartbeats 4000000 in
theorem t_Mod_standsOn_75 (d : Nat) {k60 : Hp → Int32 → Int32 → Int32 → Option (Hp)} (hk60 : ∀ (sg : Hp) (x2 : Int32) (x3 : Int32) (x4 : Int32)  (y : Hp), k60 sg x2 x3 x4 = some y → Go (d + 2) none 146 60 [(0, .ref 46), (2, .int x2), (3, .int x3), (4, .int x4)] [] sg none y) : ∀ (n : Nat) (sg : Hp) (x2 : Int32) (x3 : Int32) (x4 : Int32) (x5 : Int32)  (y : Hp), f_Mod_standsOn_75 k60 n sg x2 x3 x4 x5 = some y → Go (d + 2) none 146 75 [(0, .ref 46), (2, .int x2), (3, .int x3), (4, .int x4), (5, .int x5)] [] sg none y := by
  intro n
  induction n with
  | zero =>
    intro sg x2 x3 x4 x5 y h
    rw [f_Mod_standsOn_75] at h
    cases h
  | succ n ih =>
    intro sg x2 x3 x4 x5 y h
    rw [f_Mod_standsOn_75] at h
    refine G_iload rfl rfl ?_
    refine G_iconst (14 : Int32) rfl (by decide) ?_
    refine G_ic_ge 105 rfl rfl (fun hc => ?_) (fun hc => ?_)
    · rw [if_pos hc] at h
      refine G_iinc (1 : Int32) rfl (by decide) rfl rfl ?_
      refine G_goto 60 rfl rfl ?_
      exact Go.weak' (hk60 _ _ _ _  _ h) ⟨rfl, rfl, rfl, rfl, trivial⟩
    · rw [if_neg hc] at h
      refine G_aload rfl rfl ?_
      refine G_getR (ci := 10) 55 rfl rfl rfl rfl rfl ?_
      refine G_iload rfl rfl ?_
      refine G_aload rfl rfl ?_
      refine G_getR (ci := 10) 55 rfl rfl rfl rfl rfl ?_
      refine G_iconst (14 : Int32) rfl (by decide) ?_
      refine G_iload rfl rfl ?_
      refine G_iadd rfl ?_
      obtain ⟨hg3, h⟩ := if_some h
      refine G_iald rfl rfl rfl hg3 ?_
      obtain ⟨hg4, h⟩ := if_some h
      obtain ⟨s5, hs5, h⟩ := Option.bind_eq_some_iff.mp h
      refine G_iast rfl rfl rfl hg4 (Option.some.inj hs5) ?_
      refine G_iinc (1 : Int32) rfl (by decide) rfl rfl ?_
      refine G_goto 75 rfl rfl ?_
      exact Go.weak' (ih _ _ _ _ _  _ h) ⟨rfl, rfl, rfl, rfl, rfl, trivial⟩
set_option maxRecDepth 100000 in
set_option maxHeartbeats 4000000 in
theorem t_Mod_standsOn_60 (d : Nat)   : ∀ (n : Nat) (sg : Hp) (x2 : Int32) (x3 : Int32) (x4 : Int32)  (y : Hp), f_Mod_standsOn_60  n sg x2 x3 x4 = some y → Go (d + 2) none 146 60 [(0, .ref 46), (2, .int x2), (3, .int x3), (4, .int x4)] [] sg none y := by
  intro n
  induction n with
  | zero =>
    intro sg x2 x3 x4 y h
    rw [f_Mod_standsOn_60] at h
    cases h
  | succ n ih =>
    intro sg x2 x3 x4 y h
    rw [f_Mod_standsOn_60] at h
    refine G_iload rfl rfl ?_
    refine G_iload rfl rfl ?_
    refine G_ic_ge 111 rfl rfl (fun hc => ?_) (fun hc => ?_)
    · rw [if_pos hc] at h
      obtain rfl := Option.some.inj h
      exact G_vret rfl rfl
    · rw [if_neg hc] at h
      refine G_aload rfl rfl ?_
      refine G_iconst (0 : Int32) rfl (by decide) ?_
      refine G_iload rfl rfl ?_
      obtain ⟨y2, hy2, h⟩ := Option.bind_eq_some_iff.mp h
      refine G_callvV 3 (t_Mod_turns _ _ _ _  _ hy2) rfl rfl rfl rfl rfl rfl rfl rfl rfl rfl rfl ?_
      refine G_iconst (0 : Int32) rfl (by decide) ?_
      refine G_istore rfl rfl ?_
      exact Go.weak' (t_Mod_standsOn_75 d ih _ _ _ _ _ _  _ h) ⟨rfl, rfl, rfl, rfl, rfl, trivial⟩
set_option maxRecDepth 100000 in
set_option maxHeartbeats 4000000 in
theorem t_Mod_standsOn_56 (d : Nat)   (sg : Hp) (x2 : Int32) (xs0 : Int32)  (y : Hp) (h : f_Mod_standsOn_56  sg x2 xs0 = some y) : Go (d + 2) none 146 56 [(0, .ref 46), (2, .int x2)] [.int xs0] sg none y := by
  unfold f_Mod_standsOn_56 at h
  refine G_istore rfl rfl ?_
  refine G_iconst (0 : Int32) rfl (by decide) ?_
  refine G_istore rfl rfl ?_
  exact Go.weak' (t_Mod_standsOn_60 d  _ _ _ _ _  _ h) ⟨rfl, rfl, rfl, rfl, trivial⟩
set_option maxRecDepth 100000 in
set_option maxHeartbeats 4000000 in
theorem t_Mod_standsOn_37 (d : Nat)   (sg : Hp) (x1 : Int32) (xs0 : Int32)  (y : Hp) (h : f_Mod_standsOn_37  sg x1 xs0 = some y) : Go (d + 2) none 146 37 [(0, .ref 46), (1, .int x1)] [.int xs0] sg none y := by
  unfold f_Mod_standsOn_37 at h
  refine G_istore rfl rfl ?_
  refine G_iload rfl rfl ?_
  refine G_if_ne 46 rfl rfl (fun hc => ?_) (fun hc => ?_)
  · rw [if_neg hc] at h
    refine G_iload rfl rfl ?_
    refine G_iconst (1 : Int32) rfl (by decide) ?_
    refine G_ic_ne 55 rfl rfl (fun hc => ?_) (fun hc => ?_)
    · rw [if_neg hc] at h
      refine G_iconst (1 : Int32) rfl (by decide) ?_
      exact Go.weak' (t_Mod_standsOn_56 d  _ _ _  _ h) ⟨rfl, rfl, trivial⟩
    · rw [if_pos hc] at h
      refine G_iconst (2 : Int32) rfl (by decide) ?_
      refine G_goto 56 rfl rfl ?_
      exact Go.weak' (t_Mod_standsOn_56 d  _ _ _  _ h) ⟨rfl, rfl, trivial⟩
  · rw [if_pos hc] at h
    refine G_iconst (0 : Int32) rfl (by decide) ?_
    refine G_goto 56 rfl rfl ?_
    exact Go.weak' (t_Mod_standsOn_56 d  _ _ _  _ h) ⟨rfl, rfl, trivial⟩
set_option maxRecDepth 100000 in
set_option maxHeartbeats 4000000 in
theorem t_Mod_standsOn_14 (d : Nat)   (sg : Hp) (x1 : Int32)  (y : Hp) (h : f_Mod_standsOn_14  sg x1 = some y) : Go (d + 2) none 146 14 [(0, .ref 46), (1, .int x1)] [] sg none y := by
  unfold f_Mod_standsOn_14 at h
  refine G_iconst (0 : Int32) rfl (by decide) ?_
  refine G_goto 37 rfl rfl ?_
  exact Go.weak' (t_Mod_standsOn_37 d  _ _ _  _ h) ⟨rfl, rfl, trivial⟩
set_option maxRecDepth 100000 in
set_option maxHeartbeats 4000000 in
theorem t_Mod_standsOn (d : Nat) (sg : Hp) (x1 : Int32)  (y : Hp) (h : f_Mod_standsOn sg x1 = some y) : Sm (d + 2) 146 [.ref 46, .int x1] sg none y := by
  unfold f_Mod_standsOn at h
  refine Sm.of (lv := [(0, .ref 46), (1, .int x1)]) rfl ?_
  refine G_aload rfl rfl ?_
  obtain ⟨y1, hy1, h⟩ := Option.bind_eq_some_iff.mp h
  refine G_callvV 1 (t_Mod_begins _ _   _ hy1) rfl rfl rfl rfl rfl rfl rfl rfl rfl rfl rfl ?_
  refine G_iload rfl rfl ?_
  refine G_iconst (3 : Int32) rfl (by decide) ?_
  refine G_ic_eq 14 rfl rfl (fun hc => ?_) (fun hc => ?_)
  · rw [if_pos hc] at h
    exact Go.weak' (t_Mod_standsOn_14 d  _ _  _ h) ⟨rfl, rfl, trivial⟩
  · rw [if_neg hc] at h
    refine G_iload rfl rfl ?_
    refine G_iconst (1 : Int32) rfl (by decide) ?_
    refine G_ic_ne 18 rfl rfl (fun hc => ?_) (fun hc => ?_)
    · rw [if_neg hc] at h
      refine G_iload rfl rfl ?_
      refine G_iconst (2 : Int32) rfl (by decide) ?_
      refine G_ic_ne 27 rfl rfl (fun hc => ?_) (fun hc => ?_)
      · rw [if_neg hc] at h
        refine G_iload rfl rfl ?_
        refine G_iconst (5 : Int32) rfl (by decide) ?_
        refine G_ic_ne 36 rfl rfl (fun hc => ?_) (fun hc => ?_)
        · rw [if_neg hc] at h
          refine G_iconst (3 : Int32) rfl (by decide) ?_
          exact Go.weak' (t_Mod_standsOn_37 d  _ _ _  _ h) ⟨rfl, rfl, trivial⟩
        · rw [if_pos hc] at h
          refine G_iconst (2 : Int32) rfl (by decide) ?_
          refine G_goto 37 rfl rfl ?_
          exact Go.weak' (t_Mod_standsOn_37 d  _ _ _  _ h) ⟨rfl, rfl, trivial⟩
      · rw [if_pos hc] at h
        refine G_iconst (1 : Int32) rfl (by decide) ?_
        refine G_goto 37 rfl rfl ?_
        exact Go.weak' (t_Mod_standsOn_37 d  _ _ _  _ h) ⟨rfl, rfl, trivial⟩
    · rw [if_pos hc] at h
      exact Go.weak' (t_Mod_standsOn_14 d  _ _  _ h) ⟨rfl, rfl, trivial⟩
set_option maxRecDepth 100000 in
set_option maxHeartbeats 4000000 in
theorem t_Mod_isIn (d : Nat) (sg : Hp) (x0 : Int32) (x1 : Int32)  (y : Int32 × Hp) (h : f_Mod_isIn sg x0 x1 = some y) : Sm (d + 0) 148 [.int x0, .int x1] sg (some (.int y.1)) y.2 := by
  unfold f_Mod_isIn at h
  refine Sm.of (lv := [(0, .int x0), (1, .int x1)]) rfl ?_
  refine G_iload rfl rfl ?_
  refine G_iload rfl rfl ?_
  refine G_ishr rfl ?_
  refine G_iconst (1 : Int32) rfl (by decide) ?_
  refine G_iand rfl ?_
  refine G_iconst (1 : Int32) rfl (by decide) ?_
  refine G_ic_ne 13 rfl rfl (fun hc => ?_) (fun hc => ?_)
  · rw [if_neg hc] at h
    refine G_iconst (0 : Int32) rfl (by decide) ?_
    obtain rfl := Option.some.inj h
    exact G_iret rfl rfl
  · rw [if_pos hc] at h
    refine G_iconst (1 : Int32) rfl (by decide) ?_
    refine G_goto 14 rfl rfl ?_
    obtain rfl := Option.some.inj h
    exact G_iret rfl rfl
set_option maxRecDepth 100000 in
set_option maxHeartbeats 4000000 in
theorem t_Mod_lesser (d : Nat) (sg : Hp) (x0 : Int32) (x1 : Int32)  (y : Int32 × Hp) (h : f_Mod_lesser sg x0 x1 = some y) : Sm (d + 0) 150 [.int x0, .int x1] sg (some (.int y.1)) y.2 := by
  unfold f_Mod_lesser at h
  refine Sm.of (lv := [(0, .int x0), (1, .int x1)]) rfl ?_
  refine G_iload rfl rfl ?_
  refine G_iload rfl rfl ?_
  refine G_ic_ge 9 rfl rfl (fun hc => ?_) (fun hc => ?_)
  · rw [if_pos hc] at h
    refine G_iload rfl rfl ?_
    obtain rfl := Option.some.inj h
    exact G_iret rfl rfl
  · rw [if_neg hc] at h
    refine G_iload rfl rfl ?_
    refine G_goto 10 rfl rfl ?_
    obtain rfl := Option.some.inj h
    exact G_iret rfl rfl
set_option maxRecDepth 100000 in
set_option maxHeartbeats 4000000 in
theorem t_Mod_greater (d : Nat) (sg : Hp) (x0 : Int32) (x1 : Int32)  (y : Int32 × Hp) (h : f_Mod_greater sg x0 x1 = some y) : Sm (d + 0) 151 [.int x0, .int x1] sg (some (.int y.1)) y.2 := by
  unfold f_Mod_greater at h
  refine Sm.of (lv := [(0, .int x0), (1, .int x1)]) rfl ?_
  refine G_iload rfl rfl ?_
  refine G_iload rfl rfl ?_
  refine G_ic_le 9 rfl rfl (fun hc => ?_) (fun hc => ?_)
  · rw [if_pos hc] at h
    refine G_iload rfl rfl ?_
    obtain rfl := Option.some.inj h
    exact G_iret rfl rfl
  · rw [if_neg hc] at h
    refine G_iload rfl rfl ?_
    refine G_goto 10 rfl rfl ?_
    obtain rfl := Option.some.inj h
    exact G_iret rfl rfl
set_option maxRecDepth 100000 in
set_option maxHeartbeats 4000000 in
theorem t_Mod_meets_193 (d : Nat)   (sg : Hp) (x7 : Int32) (x8 : Int32) (x9 : Int32) (x10 : Int32) (x11 : Int32) (x12 : Int32) (x13 : Int32) (xs0 : Int32)  (y : Int32 × Hp) (h : f_Mod_meets_193  sg x7 x8 x9 x10 x11 x12 x13 xs0 = some y) : Go (d + 1) none 149 193 [(7, .int x7), (8, .int x8), (9, .int x9), (10, .int x10), (11, .int x11), (12, .int x12), (13, .int x13)] [.int xs0] sg (some (.int y.1)) y.2 := by
  unfold f_Mod_meets_193 at h
  refine G_istore rfl rfl ?_
  refine G_iload rfl rfl ?_
  refine G_iload rfl rfl ?_
  refine G_iload rfl rfl ?_
  refine G_isub rfl ?_
  refine G_imul rfl ?_
  refine G_istore rfl rfl ?_
  refine G_iload rfl rfl ?_
  refine G_iload rfl rfl ?_
  refine G_imul rfl ?_
  refine G_iload rfl rfl ?_
  refine G_iload rfl rfl ?_
  refine G_iload rfl rfl ?_
  refine G_isub rfl ?_
  refine G_imul rfl ?_
  refine G_iload rfl rfl ?_
  refine G_iload rfl rfl ?_
  refine G_isub rfl ?_
  refine G_imul rfl ?_
  refine G_iadd rfl ?_
  refine G_istore rfl rfl ?_
  refine G_iload rfl rfl ?_
  refine G_i2l rfl ?_
  refine G_iload rfl rfl ?_
  refine G_iload rfl rfl ?_
  refine G_imul rfl ?_
  refine G_i2l rfl ?_
  refine G_iload rfl rfl ?_
  refine G_iload rfl rfl ?_
  refine G_imul rfl ?_
  refine G_i2l rfl ?_
  obtain ⟨y8, hy8, h⟩ := Option.bind_eq_some_iff.mp h
  refine G_callsI 3 (t_Mod_in _ _ _ _ _  _ hy8) rfl rfl rfl rfl rfl rfl rfl rfl rfl ?_
  obtain ⟨hz, h⟩ := if_some h
  obtain rfl := Option.some.inj h
  exact G_iret rfl (retZ_b rfl hz)
set_option maxRecDepth 100000 in
set_option maxHeartbeats 4000000 in
theorem t_Mod_meets_105 (d : Nat)   (sg : Hp) (x7 : Int32) (x8 : Int32) (x9 : Int32) (x10 : Int32) (x11 : Int32) (x12 : Int32) (xs0 : Int32)  (y : Int32 × Hp) (h : f_Mod_meets_105  sg x7 x8 x9 x10 x11 x12 xs0 = some y) : Go (d + 1) none 149 105 [(7, .int x7), (8, .int x8), (9, .int x9), (10, .int x10), (11, .int x11), (12, .int x12)] [.int xs0] sg (some (.int y.1)) y.2 := by
  unfold f_Mod_meets_105 at h
  refine G_istore rfl rfl ?_
  refine G_iload rfl rfl ?_
  refine G_iload rfl rfl ?_
  refine G_ic_ne 154 rfl rfl (fun hc => ?_) (fun hc => ?_)
  · rw [if_neg hc] at h
    refine G_iload rfl rfl ?_
    refine G_i2l rfl ?_
    refine G_iload rfl rfl ?_
    refine G_iload rfl rfl ?_
    obtain ⟨y5, hy5, h⟩ := Option.bind_eq_some_iff.mp h
    refine G_callsI 2 (t_Mod_lesser _ _ _ _  _ hy5) rfl rfl rfl rfl rfl rfl rfl rfl rfl ?_
    refine G_i2l rfl ?_
    refine G_iload rfl rfl ?_
    refine G_iload rfl rfl ?_
    obtain ⟨y6, hy6, h⟩ := Option.bind_eq_some_iff.mp h
    refine G_callsI 2 (t_Mod_greater _ _ _ _  _ hy6) rfl rfl rfl rfl rfl rfl rfl rfl rfl ?_
    refine G_i2l rfl ?_
    obtain ⟨y7, hy7, h⟩ := Option.bind_eq_some_iff.mp h
    refine G_callsI 3 (t_Mod_in _ _ _ _ _  _ hy7) rfl rfl rfl rfl rfl rfl rfl rfl rfl ?_
    refine G_if_ne 181 rfl rfl (fun hc => ?_) (fun hc => ?_)
    · rw [if_neg hc] at h
      refine G_iload rfl rfl ?_
      refine G_iload rfl rfl ?_
      refine G_ic_le 192 rfl rfl (fun hc => ?_) (fun hc => ?_)
      · rw [if_pos hc] at h
        refine G_iconst (-1 : Int32) rfl (by decide) ?_
        exact Go.weak' (t_Mod_meets_193 d  _ _ _ _ _ _ _ _ _  _ h) ⟨rfl, rfl, rfl, rfl, rfl, rfl, rfl, trivial⟩
      · rw [if_neg hc] at h
        refine G_iconst (1 : Int32) rfl (by decide) ?_
        refine G_goto 193 rfl rfl ?_
        exact Go.weak' (t_Mod_meets_193 d  _ _ _ _ _ _ _ _ _  _ h) ⟨rfl, rfl, rfl, rfl, rfl, rfl, rfl, trivial⟩
    · rw [if_pos hc] at h
      refine G_iconst (0 : Int32) rfl (by decide) ?_
      obtain rfl := Option.some.inj h
      exact G_iret rfl rfl
  · rw [if_pos hc] at h
    refine G_iload rfl rfl ?_
    refine G_iload rfl rfl ?_
    refine G_ic_ne 152 rfl rfl (fun hc => ?_) (fun hc => ?_)
    · rw [if_neg hc] at h
      refine G_iconst (0 : Int32) rfl (by decide) ?_
      obtain rfl := Option.some.inj h
      exact G_iret rfl rfl
    · rw [if_pos hc] at h
      refine G_iload rfl rfl ?_
      refine G_iload rfl rfl ?_
      obtain ⟨y9, hy9, h⟩ := Option.bind_eq_some_iff.mp h
      refine G_callsI 2 (t_Mod_lesser _ _ _ _  _ hy9) rfl rfl rfl rfl rfl rfl rfl rfl rfl ?_
      refine G_iload rfl rfl ?_
      obtain ⟨y10, hy10, h⟩ := Option.bind_eq_some_iff.mp h
      refine G_callsI 2 (t_Mod_greater _ _ _ _  _ hy10) rfl rfl rfl rfl rfl rfl rfl rfl rfl ?_
      refine G_iload rfl rfl ?_
      refine G_iload rfl rfl ?_
      obtain ⟨y11, hy11, h⟩ := Option.bind_eq_some_iff.mp h
      refine G_callsI 2 (t_Mod_greater _ _ _ _  _ hy11) rfl rfl rfl rfl rfl rfl rfl rfl rfl ?_
      refine G_iload rfl rfl ?_
      obtain ⟨y12, hy12, h⟩ := Option.bind_eq_some_iff.mp h
      refine G_callsI 2 (t_Mod_lesser _ _ _ _  _ hy12) rfl rfl rfl rfl rfl rfl rfl rfl rfl ?_
      refine G_ic_gt 152 rfl rfl (fun hc => ?_) (fun hc => ?_)
      · rw [if_pos hc] at h
        refine G_iconst (0 : Int32) rfl (by decide) ?_
        obtain rfl := Option.some.inj h
        exact G_iret rfl rfl
      · rw [if_neg hc] at h
        refine G_iconst (1 : Int32) rfl (by decide) ?_
        refine G_goto 153 rfl rfl ?_
        obtain rfl := Option.some.inj h
        exact G_iret rfl rfl
set_option maxRecDepth 100000 in
set_option maxHeartbeats 4000000 in
theorem t_Mod_meets_91 (d : Nat)   (sg : Hp) (x4 : Int32) (x5 : Int32) (x6 : Int32) (x7 : Int32) (x8 : Int32) (x9 : Int32) (x10 : Int32) (x11 : Int32) (xs0 : Int32)  (y : Int32 × Hp) (h : f_Mod_meets_91  sg x4 x5 x6 x7 x8 x9 x10 x11 xs0 = some y) : Go (d + 1) none 149 91 [(4, .int x4), (5, .int x5), (6, .int x6), (7, .int x7), (8, .int x8), (9, .int x9), (10, .int x10), (11, .int x11)] [.int xs0] sg (some (.int y.1)) y.2 := by
  unfold f_Mod_meets_91 at h
  refine G_istore rfl rfl ?_
  refine G_iload rfl rfl ?_
  refine G_if_eq 103 rfl rfl (fun hc => ?_) (fun hc => ?_)
  · rw [if_pos hc] at h
    refine G_iload rfl rfl ?_
    exact Go.weak' (t_Mod_meets_105 d  _ _ _ _ _ _ _ _  _ h) ⟨rfl, rfl, rfl, rfl, rfl, rfl, trivial⟩
  · rw [if_neg hc] at h
    refine G_iload rfl rfl ?_
    refine G_goto 105 rfl rfl ?_
    exact Go.weak' (t_Mod_meets_105 d  _ _ _ _ _ _ _ _  _ h) ⟨rfl, rfl, rfl, rfl, rfl, rfl, trivial⟩
set_option maxRecDepth 100000 in
set_option maxHeartbeats 4000000 in
theorem t_Mod_meets_79 (d : Nat)   (sg : Hp) (x2 : Int32) (x3 : Int32) (x4 : Int32) (x5 : Int32) (x6 : Int32) (x7 : Int32) (x8 : Int32) (x9 : Int32) (x10 : Int32) (xs0 : Int32)  (y : Int32 × Hp) (h : f_Mod_meets_79  sg x2 x3 x4 x5 x6 x7 x8 x9 x10 xs0 = some y) : Go (d + 1) none 149 79 [(2, .int x2), (3, .int x3), (4, .int x4), (5, .int x5), (6, .int x6), (7, .int x7), (8, .int x8), (9, .int x9), (10, .int x10)] [.int xs0] sg (some (.int y.1)) y.2 := by
  unfold f_Mod_meets_79 at h
  refine G_istore rfl rfl ?_
  refine G_iload rfl rfl ?_
  refine G_if_eq 90 rfl rfl (fun hc => ?_) (fun hc => ?_)
  · rw [if_pos hc] at h
    refine G_iload rfl rfl ?_
    exact Go.weak' (t_Mod_meets_91 d  _ _ _ _ _ _ _ _ _ _  _ h) ⟨rfl, rfl, rfl, rfl, rfl, rfl, rfl, rfl, trivial⟩
  · rw [if_neg hc] at h
    refine G_iload rfl rfl ?_
    refine G_goto 91 rfl rfl ?_
    exact Go.weak' (t_Mod_meets_91 d  _ _ _ _ _ _ _ _ _ _  _ h) ⟨rfl, rfl, rfl, rfl, rfl, rfl, rfl, rfl, trivial⟩
set_option maxRecDepth 100000 in
set_option maxHeartbeats 4000000 in
theorem t_Mod_meets_65 (d : Nat)   (sg : Hp) (x2 : Int32) (x3 : Int32) (x4 : Int32) (x5 : Int32) (x6 : Int32) (x7 : Int32) (x8 : Int32) (x9 : Int32) (xs0 : Int32)  (y : Int32 × Hp) (h : f_Mod_meets_65  sg x2 x3 x4 x5 x6 x7 x8 x9 xs0 = some y) : Go (d + 1) none 149 65 [(2, .int x2), (3, .int x3), (4, .int x4), (5, .int x5), (6, .int x6), (7, .int x7), (8, .int x8), (9, .int x9)] [.int xs0] sg (some (.int y.1)) y.2 := by
  unfold f_Mod_meets_65 at h
  refine G_istore rfl rfl ?_
  refine G_iload rfl rfl ?_
  refine G_if_eq 77 rfl rfl (fun hc => ?_) (fun hc => ?_)
  · rw [if_pos hc] at h
    refine G_iload rfl rfl ?_
    exact Go.weak' (t_Mod_meets_79 d  _ _ _ _ _ _ _ _ _ _ _  _ h) ⟨rfl, rfl, rfl, rfl, rfl, rfl, rfl, rfl, rfl, trivial⟩
  · rw [if_neg hc] at h
    refine G_iload rfl rfl ?_
    refine G_goto 79 rfl rfl ?_
    exact Go.weak' (t_Mod_meets_79 d  _ _ _ _ _ _ _ _ _ _ _  _ h) ⟨rfl, rfl, rfl, rfl, rfl, rfl, rfl, rfl, rfl, trivial⟩
set_option maxRecDepth 100000 in
set_option maxHeartbeats 4000000 in
theorem t_Mod_meets_17 (d : Nat)   (sg : Hp) (x1 : Int32) (x2 : Int32) (x3 : Int32) (x4 : Int32) (x5 : Int32) (xs0 : Int32)  (y : Int32 × Hp) (h : f_Mod_meets_17  sg x1 x2 x3 x4 x5 xs0 = some y) : Go (d + 1) none 149 17 [(0, .ref 46), (1, .int x1), (2, .int x2), (3, .int x3), (4, .int x4), (5, .int x5)] [.int xs0] sg (some (.int y.1)) y.2 := by
  unfold f_Mod_meets_17 at h
  refine G_istore rfl rfl ?_
  refine G_aload rfl rfl ?_
  refine G_getR (ci := 10) 56 rfl rfl rfl rfl rfl ?_
  refine G_iconst (4 : Int32) rfl (by decide) ?_
  refine G_iload rfl rfl ?_
  refine G_imul rfl ?_
  refine G_iconst (1 : Int32) rfl (by decide) ?_
  refine G_iadd rfl ?_
  obtain ⟨hg2, h⟩ := if_some h
  refine G_iald rfl rfl rfl hg2 ?_
  refine G_istore rfl rfl ?_
  refine G_aload rfl rfl ?_
  refine G_getR (ci := 10) 56 rfl rfl rfl rfl rfl ?_
  refine G_iconst (4 : Int32) rfl (by decide) ?_
  refine G_iload rfl rfl ?_
  refine G_imul rfl ?_
  refine G_iconst (2 : Int32) rfl (by decide) ?_
  refine G_iadd rfl ?_
  obtain ⟨hg3, h⟩ := if_some h
  refine G_iald rfl rfl rfl hg3 ?_
  refine G_istore rfl rfl ?_
  refine G_aload rfl rfl ?_
  refine G_getR (ci := 10) 56 rfl rfl rfl rfl rfl ?_
  refine G_iconst (4 : Int32) rfl (by decide) ?_
  refine G_iload rfl rfl ?_
  refine G_imul rfl ?_
  refine G_iconst (3 : Int32) rfl (by decide) ?_
  refine G_iadd rfl ?_
  obtain ⟨hg4, h⟩ := if_some h
  refine G_iald rfl rfl rfl hg4 ?_
  refine G_istore rfl rfl ?_
  refine G_iload rfl rfl ?_
  refine G_if_eq 64 rfl rfl (fun hc => ?_) (fun hc => ?_)
  · rw [if_pos hc] at h
    refine G_iload rfl rfl ?_
    exact Go.weak' (t_Mod_meets_65 d  _ _ _ _ _ _ _ _ _ _  _ h) ⟨rfl, rfl, rfl, rfl, rfl, rfl, rfl, rfl, trivial⟩
  · rw [if_neg hc] at h
    refine G_iload rfl rfl ?_
    refine G_goto 65 rfl rfl ?_
    exact Go.weak' (t_Mod_meets_65 d  _ _ _ _ _ _ _ _ _ _  _ h) ⟨rfl, rfl, rfl, rfl, rfl, rfl, rfl, rfl, trivial⟩
set_option maxRecDepth 100000 in
set_option maxHeartbeats 4000000 in
theorem t_Mod_meets (d : Nat) (sg : Hp) (x1 : Int32) (x2 : Int32) (x3 : Int32) (x4 : Int32) (x5 : Int32)  (y : Int32 × Hp) (h : f_Mod_meets sg x1 x2 x3 x4 x5 = some y) : Sm (d + 1) 149 [.ref 46, .int x1, .int x2, .int x3, .int x4, .int x5] sg (some (.int y.1)) y.2 := by
  unfold f_Mod_meets at h
  refine Sm.of (lv := [(0, .ref 46), (1, .int x1), (2, .int x2), (3, .int x3), (4, .int x4), (5, .int x5)]) rfl ?_
  refine G_aload rfl rfl ?_
  refine G_getR (ci := 10) 56 rfl rfl rfl rfl rfl ?_
  refine G_iconst (4 : Int32) rfl (by decide) ?_
  refine G_iload rfl rfl ?_
  refine G_imul rfl ?_
  obtain ⟨hg1, h⟩ := if_some h
  refine G_iald rfl rfl rfl hg1 ?_
  refine G_iconst (1 : Int32) rfl (by decide) ?_
  refine G_ic_ne 16 rfl rfl (fun hc => ?_) (fun hc => ?_)
  · rw [if_neg hc] at h
    refine G_iconst (0 : Int32) rfl (by decide) ?_
    exact Go.weak' (t_Mod_meets_17 d  _ _ _ _ _ _ _  _ h) ⟨rfl, rfl, rfl, rfl, rfl, rfl, trivial⟩
  · rw [if_pos hc] at h
    refine G_iconst (1 : Int32) rfl (by decide) ?_
    refine G_goto 17 rfl rfl ?_
    exact Go.weak' (t_Mod_meets_17 d  _ _ _ _ _ _ _  _ h) ⟨rfl, rfl, rfl, rfl, rfl, rfl, trivial⟩
set_option maxRecDepth 100000 in
set_option maxHeartbeats 4000000 in
theorem t_Mod_lineOf_107 (d : Nat) {k44 : Hp → Int32 → Int32 → Int32 → Int32 → Int32 → Int32 → Int32 → Option (Int32 × Hp)} (hk44 : ∀ (sg : Hp) (x4 : Int32) (x5 : Int32) (x6 : Int32) (x7 : Int32) (x8 : Int32) (x9 : Int32) (x10 : Int32)  (y : Int32 × Hp), k44 sg x4 x5 x6 x7 x8 x9 x10 = some y → Go (d + 3) none 147 44 [(0, .ref 46), (4, .int x4), (5, .int x5), (6, .int x6), (7, .int x7), (8, .int x8), (9, .int x9), (10, .int x10)] [] sg (some (.int y.1)) y.2) (sg : Hp) (x4 : Int32) (x5 : Int32) (x6 : Int32) (x7 : Int32) (x8 : Int32) (x10 : Int32) (xs0 : Int32)  (y : Int32 × Hp) (h : f_Mod_lineOf_107 k44 sg x4 x5 x6 x7 x8 x10 xs0 = some y) : Go (d + 3) none 147 107 [(0, .ref 46), (4, .int x4), (5, .int x5), (6, .int x6), (7, .int x7), (8, .int x8), (10, .int x10)] [.int xs0] sg (some (.int y.1)) y.2 := by
  unfold f_Mod_lineOf_107 at h
  refine G_istore rfl rfl ?_
  refine G_iinc (1 : Int32) rfl (by decide) rfl rfl ?_
  refine G_goto 44 rfl rfl ?_
  exact Go.weak' (hk44 _ _ _ _ _ _ _ _  _ h) ⟨rfl, rfl, rfl, rfl, rfl, rfl, rfl, rfl, trivial⟩
set_option maxRecDepth 100000 in
set_option maxHeartbeats 4000000 in
theorem t_Mod_lineOf_106 (d : Nat) {k44 : Hp → Int32 → Int32 → Int32 → Int32 → Int32 → Int32 → Int32 → Option (Int32 × Hp)} (hk44 : ∀ (sg : Hp) (x4 : Int32) (x5 : Int32) (x6 : Int32) (x7 : Int32) (x8 : Int32) (x9 : Int32) (x10 : Int32)  (y : Int32 × Hp), k44 sg x4 x5 x6 x7 x8 x9 x10 = some y → Go (d + 3) none 147 44 [(0, .ref 46), (4, .int x4), (5, .int x5), (6, .int x6), (7, .int x7), (8, .int x8), (9, .int x9), (10, .int x10)] [] sg (some (.int y.1)) y.2) (sg : Hp) (x4 : Int32) (x5 : Int32) (x6 : Int32) (x7 : Int32) (x8 : Int32) (x10 : Int32)  (y : Int32 × Hp) (h : f_Mod_lineOf_106 k44 sg x4 x5 x6 x7 x8 x10 = some y) : Go (d + 3) none 147 106 [(0, .ref 46), (4, .int x4), (5, .int x5), (6, .int x6), (7, .int x7), (8, .int x8), (10, .int x10)] [] sg (some (.int y.1)) y.2 := by
  unfold f_Mod_lineOf_106 at h
  refine G_iconst (0 : Int32) rfl (by decide) ?_
  exact Go.weak' (t_Mod_lineOf_107 d hk44 _ _ _ _ _ _ _ _  _ h) ⟨rfl, rfl, rfl, rfl, rfl, rfl, rfl, trivial⟩
set_option maxRecDepth 100000 in
set_option maxHeartbeats 4000000 in
theorem t_Mod_lineOf_44 (d : Nat)   : ∀ (n : Nat) (sg : Hp) (x4 : Int32) (x5 : Int32) (x6 : Int32) (x7 : Int32) (x8 : Int32) (x9 : Int32) (x10 : Int32)  (y : Int32 × Hp), f_Mod_lineOf_44  n sg x4 x5 x6 x7 x8 x9 x10 = some y → Go (d + 3) none 147 44 [(0, .ref 46), (4, .int x4), (5, .int x5), (6, .int x6), (7, .int x7), (8, .int x8), (9, .int x9), (10, .int x10)] [] sg (some (.int y.1)) y.2 := by
  intro n
  induction n with
  | zero =>
    intro sg x4 x5 x6 x7 x8 x9 x10 y h
    rw [f_Mod_lineOf_44] at h
    cases h
  | succ n ih =>
    intro sg x4 x5 x6 x7 x8 x9 x10 y h
    rw [f_Mod_lineOf_44] at h
    refine G_iload rfl rfl ?_
    refine G_iload rfl rfl ?_
    refine G_ic_ge 115 rfl rfl (fun hc => ?_) (fun hc => ?_)
    · rw [if_pos hc] at h
      refine G_iload rfl rfl ?_
      refine G_if_eq 146 rfl rfl (fun hc => ?_) (fun hc => ?_)
      · rw [if_pos hc] at h
        refine G_iconst (-1 : Int32) rfl (by decide) ?_
        obtain rfl := Option.some.inj h
        exact G_iret rfl rfl
      · rw [if_neg hc] at h
        refine G_iload rfl rfl ?_
        refine G_iload rfl rfl ?_
        refine G_isub rfl ?_
        refine G_iload rfl rfl ?_
        refine G_iload rfl rfl ?_
        refine G_isub rfl ?_
        refine G_imul rfl ?_
        refine G_iload rfl rfl ?_
        refine G_iload rfl rfl ?_
        refine G_isub rfl ?_
        refine G_iload rfl rfl ?_
        refine G_iload rfl rfl ?_
        refine G_isub rfl ?_
        refine G_imul rfl ?_
        refine G_iadd rfl ?_
        refine G_goto 147 rfl rfl ?_
        obtain rfl := Option.some.inj h
        exact G_iret rfl rfl
    · rw [if_neg hc] at h
      refine G_aload rfl rfl ?_
      refine G_getR (ci := 10) 53 rfl rfl rfl rfl rfl ?_
      refine G_aload rfl rfl ?_
      refine G_iload rfl rfl ?_
      obtain ⟨y5, hy5, h⟩ := Option.bind_eq_some_iff.mp h
      refine G_callvI 2 (t_Mod_faceAt _ _ _  _ hy5) rfl rfl rfl rfl rfl rfl rfl rfl rfl rfl rfl ?_
      obtain ⟨hg6, h⟩ := if_some h
      refine G_iald rfl rfl rfl hg6 ?_
      refine G_aload rfl rfl ?_
      refine G_iload rfl rfl ?_
      refine G_iconst (1 : Int32) rfl (by decide) ?_
      refine G_iadd rfl ?_
      obtain ⟨y7, hy7, h⟩ := Option.bind_eq_some_iff.mp h
      refine G_callvI 2 (t_Mod_faceAt _ _ _  _ hy7) rfl rfl rfl rfl rfl rfl rfl rfl rfl rfl rfl ?_
      obtain ⟨y8, hy8, h⟩ := Option.bind_eq_some_iff.mp h
      refine G_callsI 2 (t_Mod_isIn _ _ _ _  _ hy8) rfl rfl rfl rfl rfl rfl rfl rfl rfl ?_
      refine G_istore rfl rfl ?_
      refine G_iload rfl rfl ?_
      refine G_if_eq 106 rfl rfl (fun hc => ?_) (fun hc => ?_)
      · rw [if_pos hc] at h
        exact Go.weak' (t_Mod_lineOf_106 d ih _ _ _ _ _ _ _  _ h) ⟨rfl, rfl, rfl, rfl, rfl, rfl, rfl, trivial⟩
      · rw [if_neg hc] at h
        refine G_iload rfl rfl ?_
        refine G_if_ne 106 rfl rfl (fun hc => ?_) (fun hc => ?_)
        · rw [if_neg hc] at h
          exact Go.weak' (t_Mod_lineOf_106 d ih _ _ _ _ _ _ _  _ h) ⟨rfl, rfl, rfl, rfl, rfl, rfl, rfl, trivial⟩
        · rw [if_pos hc] at h
          refine G_aload rfl rfl ?_
          refine G_iload rfl rfl ?_
          refine G_iload rfl rfl ?_
          refine G_iload rfl rfl ?_
          refine G_iload rfl rfl ?_
          refine G_iload rfl rfl ?_
          obtain ⟨y9, hy9, h⟩ := Option.bind_eq_some_iff.mp h
          refine G_callvI 6 (t_Mod_meets _ _ _ _ _ _ _  _ hy9) rfl rfl rfl rfl rfl rfl rfl rfl rfl rfl rfl ?_
          refine G_if_eq 106 rfl rfl (fun hc => ?_) (fun hc => ?_)
          · rw [if_pos hc] at h
            exact Go.weak' (t_Mod_lineOf_106 d ih _ _ _ _ _ _ _  _ h) ⟨rfl, rfl, rfl, rfl, rfl, rfl, rfl, trivial⟩
          · rw [if_neg hc] at h
            refine G_iconst (1 : Int32) rfl (by decide) ?_
            refine G_goto 107 rfl rfl ?_
            exact Go.weak' (t_Mod_lineOf_107 d ih _ _ _ _ _ _ _ _  _ h) ⟨rfl, rfl, rfl, rfl, rfl, rfl, rfl, trivial⟩
set_option maxRecDepth 100000 in
set_option maxHeartbeats 4000000 in
theorem t_Mod_lineOf (d : Nat) (sg : Hp) (x1 : Int32) (x2 : Int32) (x3 : Int32) (x4 : Int32)  (y : Int32 × Hp) (h : f_Mod_lineOf sg x1 x2 x3 x4 = some y) : Sm (d + 3) 147 [.ref 46, .int x1, .int x2, .int x3, .int x4] sg (some (.int y.1)) y.2 := by
  unfold f_Mod_lineOf at h
  refine Sm.of (lv := [(0, .ref 46), (1, .int x1), (2, .int x2), (3, .int x3), (4, .int x4)]) rfl ?_
  refine G_aload rfl rfl ?_
  refine G_iload rfl rfl ?_
  refine G_iload rfl rfl ?_
  refine G_iconst (0 : Int32) rfl (by decide) ?_
  obtain ⟨y1, hy1, h⟩ := Option.bind_eq_some_iff.mp h
  refine G_callvI 4 (t_Mod_liesAt _ _ _ _ _  _ hy1) rfl rfl rfl rfl rfl rfl rfl rfl rfl rfl rfl ?_
  refine G_istore rfl rfl ?_
  refine G_aload rfl rfl ?_
  refine G_iload rfl rfl ?_
  refine G_iload rfl rfl ?_
  refine G_iconst (1 : Int32) rfl (by decide) ?_
  obtain ⟨y2, hy2, h⟩ := Option.bind_eq_some_iff.mp h
  refine G_callvI 4 (t_Mod_liesAt _ _ _ _ _  _ hy2) rfl rfl rfl rfl rfl rfl rfl rfl rfl rfl rfl ?_
  refine G_istore rfl rfl ?_
  refine G_aload rfl rfl ?_
  refine G_iload rfl rfl ?_
  refine G_iload rfl rfl ?_
  refine G_iconst (0 : Int32) rfl (by decide) ?_
  obtain ⟨y3, hy3, h⟩ := Option.bind_eq_some_iff.mp h
  refine G_callvI 4 (t_Mod_liesAt _ _ _ _ _  _ hy3) rfl rfl rfl rfl rfl rfl rfl rfl rfl rfl rfl ?_
  refine G_istore rfl rfl ?_
  refine G_aload rfl rfl ?_
  refine G_iload rfl rfl ?_
  refine G_iload rfl rfl ?_
  refine G_iconst (1 : Int32) rfl (by decide) ?_
  obtain ⟨y4, hy4, h⟩ := Option.bind_eq_some_iff.mp h
  refine G_callvI 4 (t_Mod_liesAt _ _ _ _ _  _ hy4) rfl rfl rfl rfl rfl rfl rfl rfl rfl rfl rfl ?_
  refine G_istore rfl rfl ?_
  refine G_iconst (1 : Int32) rfl (by decide) ?_
  refine G_istore rfl rfl ?_
  refine G_iload rfl rfl ?_
  refine G_istore rfl rfl ?_
  exact Go.weak' (t_Mod_lineOf_44 d  _ _ _ _ _ _ _ _ _  _ h) ⟨rfl, rfl, rfl, rfl, rfl, rfl, rfl, rfl, trivial⟩
set_option maxRecDepth 100000 in
set_option maxHeartbeats 4000000 in
theorem t_Mod_isAhead_69 (d : Nat)   (sg : Hp) (x3 : Int32)  (y : Int32 × Hp) (h : f_Mod_isAhead_69  sg x3 = some y) : Go (d + 0) none 153 69 [(0, .ref 46), (3, .int x3)] [] sg (some (.int y.1)) y.2 := by
  unfold f_Mod_isAhead_69 at h
  refine G_aload rfl rfl ?_
  refine G_getR (ci := 10) 58 rfl rfl rfl rfl rfl ?_
  refine G_iload rfl rfl ?_
  obtain ⟨hg1, h⟩ := if_some h
  refine G_iald rfl rfl rfl hg1 ?_
  refine G_aload rfl rfl ?_
  refine G_getR (ci := 10) 57 rfl rfl rfl rfl rfl ?_
  refine G_iload rfl rfl ?_
  obtain ⟨hg2, h⟩ := if_some h
  refine G_iald rfl rfl rfl hg2 ?_
  refine G_ic_ge 88 rfl rfl (fun hc => ?_) (fun hc => ?_)
  · rw [if_pos hc] at h
    refine G_iconst (0 : Int32) rfl (by decide) ?_
    obtain rfl := Option.some.inj h
    exact G_iret rfl rfl
  · rw [if_neg hc] at h
    refine G_iconst (1 : Int32) rfl (by decide) ?_
    refine G_goto 89 rfl rfl ?_
    obtain rfl := Option.some.inj h
    exact G_iret rfl rfl
set_option maxRecDepth 100000 in
set_option maxHeartbeats 4000000 in
theorem t_Mod_isAhead_41 (d : Nat)   : ∀ (n : Nat) (sg : Hp) (x1 : Int32) (x3 : Int32)  (y : Int32 × Hp), f_Mod_isAhead_41  n sg x1 x3 = some y → Go (d + 0) none 153 41 [(0, .ref 46), (1, .int x1), (3, .int x3)] [] sg (some (.int y.1)) y.2 := by
  intro n
  induction n with
  | zero =>
    intro sg x1 x3 y h
    rw [f_Mod_isAhead_41] at h
    cases h
  | succ n ih =>
    intro sg x1 x3 y h
    rw [f_Mod_isAhead_41] at h
    refine G_iload rfl rfl ?_
    refine G_iload rfl rfl ?_
    refine G_iconst (1 : Int32) rfl (by decide) ?_
    refine G_isub rfl ?_
    refine G_ic_ge 69 rfl rfl (fun hc => ?_) (fun hc => ?_)
    · rw [if_pos hc] at h
      exact Go.weak' (t_Mod_isAhead_69 d  _ _  _ h) ⟨rfl, rfl, trivial⟩
    · rw [if_neg hc] at h
      refine G_aload rfl rfl ?_
      refine G_getR (ci := 10) 58 rfl rfl rfl rfl rfl ?_
      refine G_iload rfl rfl ?_
      obtain ⟨hg3, h⟩ := if_some h
      refine G_iald rfl rfl rfl hg3 ?_
      refine G_aload rfl rfl ?_
      refine G_getR (ci := 10) 57 rfl rfl rfl rfl rfl ?_
      refine G_iload rfl rfl ?_
      obtain ⟨hg4, h⟩ := if_some h
      refine G_iald rfl rfl rfl hg4 ?_
      refine G_ic_ne 69 rfl rfl (fun hc => ?_) (fun hc => ?_)
      · rw [if_neg hc] at h
        exact Go.weak' (t_Mod_isAhead_69 d  _ _  _ h) ⟨rfl, rfl, trivial⟩
      · rw [if_pos hc] at h
        refine G_iinc (1 : Int32) rfl (by decide) rfl rfl ?_
        refine G_goto 41 rfl rfl ?_
        exact Go.weak' (ih _ _ _  _ h) ⟨rfl, rfl, rfl, trivial⟩
set_option maxRecDepth 100000 in
set_option maxHeartbeats 4000000 in
theorem t_Mod_isAhead_23 (d : Nat)   (sg : Hp) (x1 : Int32) (x2 : Int32)  (y : Int32 × Hp) (h : f_Mod_isAhead_23  sg x1 x2 = some y) : Go (d + 0) none 153 23 [(0, .ref 46), (1, .int x1), (2, .int x2)] [] sg (some (.int y.1)) y.2 := by
  unfold f_Mod_isAhead_23 at h
  refine G_iload rfl rfl ?_
  refine G_iload rfl rfl ?_
  refine G_ic_eq 39 rfl rfl (fun hc => ?_) (fun hc => ?_)
  · rw [if_pos hc] at h
    refine G_iconst (0 : Int32) rfl (by decide) ?_
    refine G_istore rfl rfl ?_
    exact Go.weak' (t_Mod_isAhead_41 d  _ _ _ _  _ h) ⟨rfl, rfl, rfl, trivial⟩
  · rw [if_neg hc] at h
    refine G_iload rfl rfl ?_
    refine G_iload rfl rfl ?_
    refine G_ic_ge 37 rfl rfl (fun hc => ?_) (fun hc => ?_)
    · rw [if_pos hc] at h
      refine G_iconst (0 : Int32) rfl (by decide) ?_
      obtain rfl := Option.some.inj h
      exact G_iret rfl rfl
    · rw [if_neg hc] at h
      refine G_iconst (1 : Int32) rfl (by decide) ?_
      refine G_goto 38 rfl rfl ?_
      obtain rfl := Option.some.inj h
      exact G_iret rfl rfl
set_option maxRecDepth 100000 in
set_option maxHeartbeats 4000000 in
theorem t_Mod_isAhead_2 (d : Nat)   : ∀ (n : Nat) (sg : Hp) (x1 : Int32) (x2 : Int32)  (y : Int32 × Hp), f_Mod_isAhead_2  n sg x1 x2 = some y → Go (d + 0) none 153 2 [(0, .ref 46), (1, .int x1), (2, .int x2)] [] sg (some (.int y.1)) y.2 := by
  intro n
  induction n with
  | zero =>
    intro sg x1 x2 y h
    rw [f_Mod_isAhead_2] at h
    cases h
  | succ n ih =>
    intro sg x1 x2 y h
    rw [f_Mod_isAhead_2] at h
    refine G_iload rfl rfl ?_
    refine G_iconst (5 : Int32) rfl (by decide) ?_
    refine G_ic_ge 23 rfl rfl (fun hc => ?_) (fun hc => ?_)
    · rw [if_pos hc] at h
      exact Go.weak' (t_Mod_isAhead_23 d  _ _ _  _ h) ⟨rfl, rfl, rfl, trivial⟩
    · rw [if_neg hc] at h
      refine G_aload rfl rfl ?_
      refine G_getR (ci := 10) 57 rfl rfl rfl rfl rfl ?_
      refine G_iload rfl rfl ?_
      obtain ⟨hg5, h⟩ := if_some h
      refine G_iald rfl rfl rfl hg5 ?_
      refine G_iconst (-1 : Int32) rfl (by decide) ?_
      refine G_ic_eq 23 rfl rfl (fun hc => ?_) (fun hc => ?_)
      · rw [if_pos hc] at h
        exact Go.weak' (t_Mod_isAhead_23 d  _ _ _  _ h) ⟨rfl, rfl, rfl, trivial⟩
      · rw [if_neg hc] at h
        refine G_iinc (1 : Int32) rfl (by decide) rfl rfl ?_
        refine G_goto 2 rfl rfl ?_
        exact Go.weak' (ih _ _ _  _ h) ⟨rfl, rfl, rfl, trivial⟩
set_option maxRecDepth 100000 in
set_option maxHeartbeats 4000000 in
theorem t_Mod_isAhead (d : Nat) (sg : Hp) (x1 : Int32)  (y : Int32 × Hp) (h : f_Mod_isAhead sg x1 = some y) : Sm (d + 0) 153 [.ref 46, .int x1] sg (some (.int y.1)) y.2 := by
  unfold f_Mod_isAhead at h
  refine Sm.of (lv := [(0, .ref 46), (1, .int x1)]) rfl ?_
  refine G_iconst (0 : Int32) rfl (by decide) ?_
  refine G_istore rfl rfl ?_
  exact Go.weak' (t_Mod_isAhead_2 d  _ _ _ _  _ h) ⟨rfl, rfl, rfl, trivial⟩
set_option maxRecDepth 100000 in
set_option maxHeartbeats 4000000 in
theorem t_Mod_keeps_113 (d : Nat)   (sg : Hp) (x1 : Int32)  (y : Hp) (h : f_Mod_keeps_113  sg x1 = some y) : Go (d + 1) none 152 113 [(0, .ref 46), (1, .int x1)] [] sg none y := by
  unfold f_Mod_keeps_113 at h
  refine G_aload rfl rfl ?_
  refine G_iload rfl rfl ?_
  obtain ⟨s2, hs2, h⟩ := Option.bind_eq_some_iff.mp h
  refine G_putI (ci := 10) 12 rfl rfl rfl rfl rfl (Option.some.inj hs2) ?_
  obtain rfl := Option.some.inj h
  exact G_vret rfl rfl
set_option maxRecDepth 100000 in
set_option maxHeartbeats 4000000 in
theorem t_Mod_keeps_106 (d : Nat) {k77 : Hp → Int32 → Int32 → Int32 → Option (Hp)} (hk77 : ∀ (sg : Hp) (x1 : Int32) (x2 : Int32) (x4 : Int32)  (y : Hp), k77 sg x1 x2 x4 = some y → Go (d + 1) none 152 77 [(0, .ref 46), (1, .int x1), (2, .int x2), (4, .int x4)] [] sg none y) (sg : Hp) (x1 : Int32) (x2 : Int32) (x4 : Int32) (xs1 : Int32) (xs2 : Int32)  (y : Hp) (h : f_Mod_keeps_106 k77 sg x1 x2 x4 xs1 xs2 = some y) : Go (d + 1) none 152 106 [(0, .ref 46), (1, .int x1), (2, .int x2), (4, .int x4)] [.int xs2, .int xs1, .ref 57] sg none y := by
  unfold f_Mod_keeps_106 at h
  obtain ⟨hg3, h⟩ := if_some h
  obtain ⟨s4, hs4, h⟩ := Option.bind_eq_some_iff.mp h
  refine G_iast rfl rfl rfl hg3 (Option.some.inj hs4) ?_
  refine G_iinc (1 : Int32) rfl (by decide) rfl rfl ?_
  refine G_goto 77 rfl rfl ?_
  exact Go.weak' (hk77 _ _ _ _  _ h) ⟨rfl, rfl, rfl, rfl, trivial⟩
set_option maxRecDepth 100000 in
set_option maxHeartbeats 4000000 in
theorem t_Mod_keeps_77 (d : Nat)   : ∀ (n : Nat) (sg : Hp) (x1 : Int32) (x2 : Int32) (x4 : Int32)  (y : Hp), f_Mod_keeps_77  n sg x1 x2 x4 = some y → Go (d + 1) none 152 77 [(0, .ref 46), (1, .int x1), (2, .int x2), (4, .int x4)] [] sg none y := by
  intro n
  induction n with
  | zero =>
    intro sg x1 x2 x4 y h
    rw [f_Mod_keeps_77] at h
    cases h
  | succ n ih =>
    intro sg x1 x2 x4 y h
    rw [f_Mod_keeps_77] at h
    refine G_iload rfl rfl ?_
    refine G_iconst (5 : Int32) rfl (by decide) ?_
    refine G_ic_ge 113 rfl rfl (fun hc => ?_) (fun hc => ?_)
    · rw [if_pos hc] at h
      exact Go.weak' (t_Mod_keeps_113 d  _ _  _ h) ⟨rfl, rfl, trivial⟩
    · rw [if_neg hc] at h
      refine G_aload rfl rfl ?_
      refine G_getR (ci := 10) 57 rfl rfl rfl rfl rfl ?_
      refine G_iload rfl rfl ?_
      refine G_iload rfl rfl ?_
      refine G_iload rfl rfl ?_
      refine G_ic_ge 105 rfl rfl (fun hc => ?_) (fun hc => ?_)
      · rw [if_pos hc] at h
        refine G_iconst (-1 : Int32) rfl (by decide) ?_
        exact Go.weak' (t_Mod_keeps_106 d ih _ _ _ _ _ _  _ h) ⟨rfl, rfl, rfl, rfl, trivial⟩
      · rw [if_neg hc] at h
        refine G_aload rfl rfl ?_
        refine G_getR (ci := 10) 58 rfl rfl rfl rfl rfl ?_
        refine G_iload rfl rfl ?_
        obtain ⟨hg5, h⟩ := if_some h
        refine G_iald rfl rfl rfl hg5 ?_
        refine G_goto 106 rfl rfl ?_
        exact Go.weak' (t_Mod_keeps_106 d ih _ _ _ _ _ _  _ h) ⟨rfl, rfl, rfl, rfl, trivial⟩
set_option maxRecDepth 100000 in
set_option maxHeartbeats 4000000 in
theorem t_Mod_keeps_74 (d : Nat)   (sg : Hp) (x1 : Int32) (x2 : Int32)  (y : Hp) (h : f_Mod_keeps_74  sg x1 x2 = some y) : Go (d + 1) none 152 74 [(0, .ref 46), (1, .int x1), (2, .int x2)] [] sg none y := by
  unfold f_Mod_keeps_74 at h
  refine G_iconst (0 : Int32) rfl (by decide) ?_
  refine G_istore rfl rfl ?_
  exact Go.weak' (t_Mod_keeps_77 d  _ _ _ _ _  _ h) ⟨rfl, rfl, rfl, rfl, trivial⟩
set_option maxRecDepth 100000 in
set_option maxHeartbeats 4000000 in
theorem t_Mod_keeps_59 (d : Nat)   (sg : Hp) (x1 : Int32) (x2 : Int32) (x3 : Int32) (xs1 : Int32)  (y : Hp) (h : f_Mod_keeps_59  sg x1 x2 x3 xs1 = some y) : Go (d + 1) none 152 59 [(0, .ref 46), (1, .int x1), (2, .int x2), (3, .int x3)] [.int xs1, .ref 46] sg none y := by
  unfold f_Mod_keeps_59 at h
  obtain ⟨s1, hs1, h⟩ := Option.bind_eq_some_iff.mp h
  refine G_putI (ci := 10) 13 rfl rfl rfl rfl rfl (Option.some.inj hs1) ?_
  refine G_iload rfl rfl ?_
  refine G_if_ne 74 rfl rfl (fun hc => ?_) (fun hc => ?_)
  · rw [if_neg hc] at h
    exact Go.weak' (t_Mod_keeps_74 d  _ _ _  _ h) ⟨rfl, rfl, rfl, trivial⟩
  · rw [if_pos hc] at h
    refine G_aload rfl rfl ?_
    refine G_iload rfl rfl ?_
    obtain ⟨y6, hy6, h⟩ := Option.bind_eq_some_iff.mp h
    refine G_callvI 2 (t_Mod_isAhead _ _ _  _ hy6) rfl rfl rfl rfl rfl rfl rfl rfl rfl rfl rfl ?_
    refine G_if_eq 113 rfl rfl (fun hc => ?_) (fun hc => ?_)
    · rw [if_pos hc] at h
      exact Go.weak' (t_Mod_keeps_113 d  _ _  _ h) ⟨rfl, rfl, trivial⟩
    · rw [if_neg hc] at h
      exact Go.weak' (t_Mod_keeps_74 d  _ _ _  _ h) ⟨rfl, rfl, rfl, trivial⟩
set_option maxRecDepth 100000 in
set_option maxHeartbeats 4000000 in
theorem t_Mod_keeps_43 (d : Nat)   (sg : Hp) (x1 : Int32) (x2 : Int32) (xs0 : Int32)  (y : Hp) (h : f_Mod_keeps_43  sg x1 x2 xs0 = some y) : Go (d + 1) none 152 43 [(0, .ref 46), (1, .int x1), (2, .int x2)] [.int xs0] sg none y := by
  unfold f_Mod_keeps_43 at h
  refine G_istore rfl rfl ?_
  refine G_aload rfl rfl ?_
  refine G_iload rfl rfl ?_
  refine G_if_eq 53 rfl rfl (fun hc => ?_) (fun hc => ?_)
  · rw [if_pos hc] at h
    refine G_aload rfl rfl ?_
    refine G_getI (ci := 10) 13 rfl rfl rfl rfl rfl ?_
    refine G_iconst (1 : Int32) rfl (by decide) ?_
    refine G_iadd rfl ?_
    exact Go.weak' (t_Mod_keeps_59 d  _ _ _ _ _  _ h) ⟨rfl, rfl, rfl, rfl, trivial⟩
  · rw [if_neg hc] at h
    refine G_iconst (1 : Int32) rfl (by decide) ?_
    refine G_goto 59 rfl rfl ?_
    exact Go.weak' (t_Mod_keeps_59 d  _ _ _ _ _  _ h) ⟨rfl, rfl, rfl, rfl, trivial⟩
set_option maxRecDepth 100000 in
set_option maxHeartbeats 4000000 in
theorem t_Mod_keeps_38 (d : Nat)   (sg : Hp) (x1 : Int32) (x2 : Int32)  (y : Hp) (h : f_Mod_keeps_38  sg x1 x2 = some y) : Go (d + 1) none 152 38 [(0, .ref 46), (1, .int x1), (2, .int x2)] [] sg none y := by
  unfold f_Mod_keeps_38 at h
  refine G_iconst (1 : Int32) rfl (by decide) ?_
  refine G_goto 43 rfl rfl ?_
  exact Go.weak' (t_Mod_keeps_43 d  _ _ _ _  _ h) ⟨rfl, rfl, rfl, trivial⟩
set_option maxRecDepth 100000 in
set_option maxHeartbeats 4000000 in
theorem t_Mod_keeps_22 (d : Nat)   (sg : Hp) (x1 : Int32) (x2 : Int32)  (y : Hp) (h : f_Mod_keeps_22  sg x1 x2 = some y) : Go (d + 1) none 152 22 [(0, .ref 46), (1, .int x1), (2, .int x2)] [] sg none y := by
  unfold f_Mod_keeps_22 at h
  refine G_aload rfl rfl ?_
  refine G_getI (ci := 10) 12 rfl rfl rfl rfl rfl ?_
  refine G_iconst (-1 : Int32) rfl (by decide) ?_
  refine G_ic_eq 38 rfl rfl (fun hc => ?_) (fun hc => ?_)
  · rw [if_pos hc] at h
    exact Go.weak' (t_Mod_keeps_38 d  _ _ _  _ h) ⟨rfl, rfl, rfl, trivial⟩
  · rw [if_neg hc] at h
    refine G_iload rfl rfl ?_
    refine G_aload rfl rfl ?_
    refine G_getI (ci := 10) 12 rfl rfl rfl rfl rfl ?_
    refine G_ic_ge 42 rfl rfl (fun hc => ?_) (fun hc => ?_)
    · rw [if_pos hc] at h
      refine G_iconst (0 : Int32) rfl (by decide) ?_
      exact Go.weak' (t_Mod_keeps_43 d  _ _ _ _  _ h) ⟨rfl, rfl, rfl, trivial⟩
    · rw [if_neg hc] at h
      exact Go.weak' (t_Mod_keeps_38 d  _ _ _  _ h) ⟨rfl, rfl, rfl, trivial⟩
set_option maxRecDepth 100000 in
set_option maxHeartbeats 4000000 in
theorem t_Mod_keeps (d : Nat) (sg : Hp) (x1 : Int32) (x2 : Int32)  (y : Hp) (h : f_Mod_keeps sg x1 x2 = some y) : Sm (d + 1) 152 [.ref 46, .int x1, .int x2] sg none y := by
  unfold f_Mod_keeps at h
  refine Sm.of (lv := [(0, .ref 46), (1, .int x1), (2, .int x2)]) rfl ?_
  refine G_iload rfl rfl ?_
  refine G_iconst (-1 : Int32) rfl (by decide) ?_
  refine G_ic_eq 21 rfl rfl (fun hc => ?_) (fun hc => ?_)
  · rw [if_pos hc] at h
    obtain rfl := Option.some.inj h
    exact G_vret rfl rfl
  · rw [if_neg hc] at h
    refine G_aload rfl rfl ?_
    refine G_getI (ci := 10) 12 rfl rfl rfl rfl rfl ?_
    refine G_iconst (-1 : Int32) rfl (by decide) ?_
    refine G_ic_eq 22 rfl rfl (fun hc => ?_) (fun hc => ?_)
    · rw [if_pos hc] at h
      exact Go.weak' (t_Mod_keeps_22 d  _ _ _  _ h) ⟨rfl, rfl, rfl, trivial⟩
    · rw [if_neg hc] at h
      refine G_iload rfl rfl ?_
      refine G_aload rfl rfl ?_
      refine G_getI (ci := 10) 12 rfl rfl rfl rfl rfl ?_
      refine G_ic_le 22 rfl rfl (fun hc => ?_) (fun hc => ?_)
      · rw [if_pos hc] at h
        exact Go.weak' (t_Mod_keeps_22 d  _ _ _  _ h) ⟨rfl, rfl, rfl, trivial⟩
      · rw [if_neg hc] at h
        obtain rfl := Option.some.inj h
        exact G_vret rfl rfl
set_option maxRecDepth 100000 in
set_option maxHeartbeats 4000000 in
theorem t_Mod_isNew_32 (d : Nat) {k4 : Hp → Int32 → Int32 → Int32 → Option (Int32 × Hp)} (hk4 : ∀ (sg : Hp) (x1 : Int32) (x2 : Int32) (x3 : Int32)  (y : Int32 × Hp), k4 sg x1 x2 x3 = some y → Go (d + 1) none 154 4 [(0, .ref 46), (1, .int x1), (2, .int x2), (3, .int x3)] [] sg (some (.int y.1)) y.2) (sg : Hp) (x1 : Int32) (x3 : Int32) (xs0 : Int32)  (y : Int32 × Hp) (h : f_Mod_isNew_32 k4 sg x1 x3 xs0 = some y) : Go (d + 1) none 154 32 [(0, .ref 46), (1, .int x1), (3, .int x3)] [.int xs0] sg (some (.int y.1)) y.2 := by
  unfold f_Mod_isNew_32 at h
  refine G_istore rfl rfl ?_
  refine G_iinc (1 : Int32) rfl (by decide) rfl rfl ?_
  refine G_goto 4 rfl rfl ?_
  exact Go.weak' (hk4 _ _ _ _  _ h) ⟨rfl, rfl, rfl, rfl, trivial⟩
set_option maxRecDepth 100000 in
set_option maxHeartbeats 4000000 in
theorem t_Mod_isNew_31 (d : Nat) {k4 : Hp → Int32 → Int32 → Int32 → Option (Int32 × Hp)} (hk4 : ∀ (sg : Hp) (x1 : Int32) (x2 : Int32) (x3 : Int32)  (y : Int32 × Hp), k4 sg x1 x2 x3 = some y → Go (d + 1) none 154 4 [(0, .ref 46), (1, .int x1), (2, .int x2), (3, .int x3)] [] sg (some (.int y.1)) y.2) (sg : Hp) (x1 : Int32) (x3 : Int32)  (y : Int32 × Hp) (h : f_Mod_isNew_31 k4 sg x1 x3 = some y) : Go (d + 1) none 154 31 [(0, .ref 46), (1, .int x1), (3, .int x3)] [] sg (some (.int y.1)) y.2 := by
  unfold f_Mod_isNew_31 at h
  refine G_iconst (0 : Int32) rfl (by decide) ?_
  exact Go.weak' (t_Mod_isNew_32 d hk4 _ _ _ _  _ h) ⟨rfl, rfl, rfl, trivial⟩
set_option maxRecDepth 100000 in
set_option maxHeartbeats 4000000 in
theorem t_Mod_isNew_4 (d : Nat)   : ∀ (n : Nat) (sg : Hp) (x1 : Int32) (x2 : Int32) (x3 : Int32)  (y : Int32 × Hp), f_Mod_isNew_4  n sg x1 x2 x3 = some y → Go (d + 1) none 154 4 [(0, .ref 46), (1, .int x1), (2, .int x2), (3, .int x3)] [] sg (some (.int y.1)) y.2 := by
  intro n
  induction n with
  | zero =>
    intro sg x1 x2 x3 y h
    rw [f_Mod_isNew_4] at h
    cases h
  | succ n ih =>
    intro sg x1 x2 x3 y h
    rw [f_Mod_isNew_4] at h
    refine G_iload rfl rfl ?_
    refine G_iload rfl rfl ?_
    refine G_ic_ge 39 rfl rfl (fun hc => ?_) (fun hc => ?_)
    · rw [if_pos hc] at h
      refine G_iload rfl rfl ?_
      obtain ⟨hz, h⟩ := if_some h
      obtain rfl := Option.some.inj h
      exact G_iret rfl (retZ_b rfl hz)
    · rw [if_neg hc] at h
      refine G_iload rfl rfl ?_
      refine G_if_eq 31 rfl rfl (fun hc => ?_) (fun hc => ?_)
      · rw [if_pos hc] at h
        exact Go.weak' (t_Mod_isNew_31 d ih _ _ _  _ h) ⟨rfl, rfl, rfl, trivial⟩
      · rw [if_neg hc] at h
        refine G_aload rfl rfl ?_
        refine G_getR (ci := 10) 58 rfl rfl rfl rfl rfl ?_
        refine G_iload rfl rfl ?_
        obtain ⟨hg1, h⟩ := if_some h
        refine G_iald rfl rfl rfl hg1 ?_
        refine G_aload rfl rfl ?_
        refine G_iload rfl rfl ?_
        obtain ⟨y2, hy2, h⟩ := Option.bind_eq_some_iff.mp h
        refine G_callvI 2 (t_Mod_faceAt _ _ _  _ hy2) rfl rfl rfl rfl rfl rfl rfl rfl rfl rfl rfl ?_
        refine G_ic_eq 31 rfl rfl (fun hc => ?_) (fun hc => ?_)
        · rw [if_pos hc] at h
          exact Go.weak' (t_Mod_isNew_31 d ih _ _ _  _ h) ⟨rfl, rfl, rfl, trivial⟩
        · rw [if_neg hc] at h
          refine G_iconst (1 : Int32) rfl (by decide) ?_
          refine G_goto 32 rfl rfl ?_
          exact Go.weak' (t_Mod_isNew_32 d ih _ _ _ _  _ h) ⟨rfl, rfl, rfl, trivial⟩
set_option maxRecDepth 100000 in
set_option maxHeartbeats 4000000 in
theorem t_Mod_isNew (d : Nat) (sg : Hp) (x1 : Int32)  (y : Int32 × Hp) (h : f_Mod_isNew sg x1 = some y) : Sm (d + 1) 154 [.ref 46, .int x1] sg (some (.int y.1)) y.2 := by
  unfold f_Mod_isNew at h
  refine Sm.of (lv := [(0, .ref 46), (1, .int x1)]) rfl ?_
  refine G_iconst (1 : Int32) rfl (by decide) ?_
  refine G_istore rfl rfl ?_
  refine G_iconst (0 : Int32) rfl (by decide) ?_
  refine G_istore rfl rfl ?_
  exact Go.weak' (t_Mod_isNew_4 d  _ _ _ _ _  _ h) ⟨rfl, rfl, rfl, rfl, trivial⟩
set_option maxRecDepth 100000 in
set_option maxHeartbeats 4000000 in
theorem t_Mod_findFrom_77 (d : Nat) {k44 : Hp → Int32 → Int32 → Int32 → Option (Hp)} (hk44 : ∀ (sg : Hp) (x2 : Int32) (x3 : Int32) (x4 : Int32)  (y : Hp), k44 sg x2 x3 x4 = some y → Go (d + 4) none 145 44 [(0, .ref 46), (2, .int x2), (3, .int x3), (4, .int x4)] [] sg none y) (sg : Hp) (x2 : Int32) (x3 : Int32) (x4 : Int32)  (y : Hp) (h : f_Mod_findFrom_77 k44 sg x2 x3 x4 = some y) : Go (d + 4) none 145 77 [(0, .ref 46), (2, .int x2), (3, .int x3), (4, .int x4)] [] sg none y := by
  unfold f_Mod_findFrom_77 at h
  refine G_iinc (-1 : Int32) rfl (by decide) rfl rfl ?_
  refine G_goto 44 rfl rfl ?_
  exact Go.weak' (hk44 _ _ _ _  _ h) ⟨rfl, rfl, rfl, rfl, trivial⟩
set_option maxRecDepth 100000 in
set_option maxHeartbeats 4000000 in
theorem t_Mod_findFrom_44 (d : Nat)   : ∀ (n : Nat) (sg : Hp) (x2 : Int32) (x3 : Int32) (x4 : Int32)  (y : Hp), f_Mod_findFrom_44  n sg x2 x3 x4 = some y → Go (d + 4) none 145 44 [(0, .ref 46), (2, .int x2), (3, .int x3), (4, .int x4)] [] sg none y := by
  intro n
  induction n with
  | zero =>
    intro sg x2 x3 x4 y h
    rw [f_Mod_findFrom_44] at h
    cases h
  | succ n ih =>
    intro sg x2 x3 x4 y h
    rw [f_Mod_findFrom_44] at h
    refine G_iload rfl rfl ?_
    refine G_if_lt 166 rfl rfl (fun hc => ?_) (fun hc => ?_)
    · rw [if_pos hc] at h
      obtain rfl := Option.some.inj h
      exact G_vret rfl rfl
    · rw [if_neg hc] at h
      refine G_aload rfl rfl ?_
      refine G_getR (ci := 10) 59 rfl rfl rfl rfl rfl ?_
      refine G_iload rfl rfl ?_
      refine G_dup2 rfl ?_
      obtain ⟨hg5, h⟩ := if_some h
      refine G_iald rfl rfl rfl hg5 ?_
      refine G_iconst (1 : Int32) rfl (by decide) ?_
      refine G_iadd rfl ?_
      obtain ⟨hg6, h⟩ := if_some h
      obtain ⟨s7, hs7, h⟩ := Option.bind_eq_some_iff.mp h
      refine G_iast rfl rfl rfl hg6 (Option.some.inj hs7) ?_
      refine G_aload rfl rfl ?_
      refine G_getR (ci := 10) 59 rfl rfl rfl rfl rfl ?_
      refine G_iload rfl rfl ?_
      obtain ⟨hg8, h⟩ := if_some h
      refine G_iald rfl rfl rfl hg8 ?_
      refine G_iconst (4 : Int32) rfl (by decide) ?_
      refine G_ic_eq 77 rfl rfl (fun hc => ?_) (fun hc => ?_)
      · rw [if_pos hc] at h
        exact Go.weak' (t_Mod_findFrom_77 d ih _ _ _ _  _ h) ⟨rfl, rfl, rfl, rfl, trivial⟩
      · rw [if_neg hc] at h
        refine G_iload rfl rfl ?_
        refine G_iconst (4 : Int32) rfl (by decide) ?_
        refine G_ic_ne 83 rfl rfl (fun hc => ?_) (fun hc => ?_)
        · rw [if_neg hc] at h
          refine G_aload rfl rfl ?_
          refine G_iload rfl rfl ?_
          refine G_aload rfl rfl ?_
          refine G_getR (ci := 10) 59 rfl rfl rfl rfl rfl ?_
          refine G_iload rfl rfl ?_
          obtain ⟨hg9, h⟩ := if_some h
          refine G_iald rfl rfl rfl hg9 ?_
          obtain ⟨y10, hy10, h⟩ := Option.bind_eq_some_iff.mp h
          refine G_callvV 3 (t_Mod_turns _ _ _ _  _ hy10) rfl rfl rfl rfl rfl rfl rfl rfl rfl rfl rfl ?_
          refine G_aload rfl rfl ?_
          refine G_iload rfl rfl ?_
          refine G_iconst (1 : Int32) rfl (by decide) ?_
          refine G_iadd rfl ?_
          obtain ⟨y11, hy11, h⟩ := Option.bind_eq_some_iff.mp h
          refine G_callvI 2 (t_Mod_isNew _ _ _  _ hy11) rfl rfl rfl rfl rfl rfl rfl rfl rfl rfl rfl ?_
          refine G_if_eq 44 rfl rfl (fun hc => ?_) (fun hc => ?_)
          · rw [if_pos hc] at h
            exact Go.weak' (ih _ _ _ _  _ h) ⟨rfl, rfl, rfl, rfl, trivial⟩
          · rw [if_neg hc] at h
            refine G_iinc (1 : Int32) rfl (by decide) rfl rfl ?_
            refine G_aload rfl rfl ?_
            refine G_getR (ci := 10) 58 rfl rfl rfl rfl rfl ?_
            refine G_iload rfl rfl ?_
            refine G_aload rfl rfl ?_
            refine G_iload rfl rfl ?_
            obtain ⟨y12, hy12, h⟩ := Option.bind_eq_some_iff.mp h
            refine G_callvI 2 (t_Mod_faceAt _ _ _  _ hy12) rfl rfl rfl rfl rfl rfl rfl rfl rfl rfl rfl ?_
            obtain ⟨hg13, h⟩ := if_some h
            obtain ⟨s14, hs14, h⟩ := Option.bind_eq_some_iff.mp h
            refine G_iast rfl rfl rfl hg13 (Option.some.inj hs14) ?_
            refine G_aload rfl rfl ?_
            refine G_getR (ci := 10) 59 rfl rfl rfl rfl rfl ?_
            refine G_iload rfl rfl ?_
            refine G_iconst (-1 : Int32) rfl (by decide) ?_
            obtain ⟨hg15, h⟩ := if_some h
            obtain ⟨s16, hs16, h⟩ := Option.bind_eq_some_iff.mp h
            refine G_iast rfl rfl rfl hg15 (Option.some.inj hs16) ?_
            refine G_aload rfl rfl ?_
            refine G_aload rfl rfl ?_
            refine G_getR (ci := 10) 58 rfl rfl rfl rfl rfl ?_
            refine G_iload rfl rfl ?_
            obtain ⟨hg17, h⟩ := if_some h
            refine G_iald rfl rfl rfl hg17 ?_
            refine G_iload rfl rfl ?_
            obtain ⟨y18, hy18, h⟩ := Option.bind_eq_some_iff.mp h
            refine G_callvI 3 (t_Mod_isOn _ _ _ _  _ hy18) rfl rfl rfl rfl rfl rfl rfl rfl rfl rfl rfl ?_
            refine G_if_eq 44 rfl rfl (fun hc => ?_) (fun hc => ?_)
            · rw [if_pos hc] at h
              exact Go.weak' (ih _ _ _ _  _ h) ⟨rfl, rfl, rfl, rfl, trivial⟩
            · rw [if_neg hc] at h
              refine G_aload rfl rfl ?_
              refine G_aload rfl rfl ?_
              refine G_iload rfl rfl ?_
              refine G_iconst (0 : Int32) rfl (by decide) ?_
              refine G_iload rfl rfl ?_
              refine G_iload rfl rfl ?_
              obtain ⟨y19, hy19, h⟩ := Option.bind_eq_some_iff.mp h
              refine G_callvI 5 (t_Mod_lineOf _ _ _ _ _ _  _ hy19) rfl rfl rfl rfl rfl rfl rfl rfl rfl rfl rfl ?_
              refine G_iload rfl rfl ?_
              refine G_iconst (1 : Int32) rfl (by decide) ?_
              refine G_iadd rfl ?_
              obtain ⟨y20, hy20, h⟩ := Option.bind_eq_some_iff.mp h
              refine G_callvV 3 (t_Mod_keeps _ _ _ _  _ hy20) rfl rfl rfl rfl rfl rfl rfl rfl rfl rfl rfl ?_
              refine G_goto 44 rfl rfl ?_
              exact Go.weak' (ih _ _ _ _  _ h) ⟨rfl, rfl, rfl, rfl, trivial⟩
        · rw [if_pos hc] at h
          exact Go.weak' (t_Mod_findFrom_77 d ih _ _ _ _  _ h) ⟨rfl, rfl, rfl, rfl, trivial⟩
set_option maxRecDepth 100000 in
set_option maxHeartbeats 4000000 in
theorem t_Mod_findFrom (d : Nat) (sg : Hp) (x1 : Int32) (x2 : Int32) (x3 : Int32)  (y : Hp) (h : f_Mod_findFrom sg x1 x2 x3 = some y) : Sm (d + 4) 145 [.ref 46, .int x1, .int x2, .int x3] sg none y := by
  unfold f_Mod_findFrom at h
  refine Sm.of (lv := [(0, .ref 46), (1, .int x1), (2, .int x2), (3, .int x3)]) rfl ?_
  refine G_aload rfl rfl ?_
  refine G_iload rfl rfl ?_
  obtain ⟨y1, hy1, h⟩ := Option.bind_eq_some_iff.mp h
  refine G_callvV 2 (t_Mod_standsOn _ _ _  _ hy1) rfl rfl rfl rfl rfl rfl rfl rfl rfl rfl rfl ?_
  refine G_iconst (0 : Int32) rfl (by decide) ?_
  refine G_istore rfl rfl ?_
  refine G_aload rfl rfl ?_
  refine G_getR (ci := 10) 58 rfl rfl rfl rfl rfl ?_
  refine G_iconst (0 : Int32) rfl (by decide) ?_
  refine G_iload rfl rfl ?_
  obtain ⟨s2, hs2, h⟩ := Option.bind_eq_some_iff.mp h
  refine G_iastL 0 rfl rfl rfl (by decide) (by decide) (Option.some.inj hs2) ?_
  refine G_aload rfl rfl ?_
  refine G_getR (ci := 10) 59 rfl rfl rfl rfl rfl ?_
  refine G_iconst (0 : Int32) rfl (by decide) ?_
  refine G_iconst (-1 : Int32) rfl (by decide) ?_
  obtain ⟨s3, hs3, h⟩ := Option.bind_eq_some_iff.mp h
  refine G_iastL 0 rfl rfl rfl (by decide) (by decide) (Option.some.inj hs3) ?_
  refine G_aload rfl rfl ?_
  refine G_iload rfl rfl ?_
  refine G_iload rfl rfl ?_
  obtain ⟨y4, hy4, h⟩ := Option.bind_eq_some_iff.mp h
  refine G_callvI 3 (t_Mod_isOn _ _ _ _  _ hy4) rfl rfl rfl rfl rfl rfl rfl rfl rfl rfl rfl ?_
  refine G_if_eq 44 rfl rfl (fun hc => ?_) (fun hc => ?_)
  · rw [if_pos hc] at h
    exact Go.weak' (t_Mod_findFrom_44 d  _ _ _ _ _  _ h) ⟨rfl, rfl, rfl, rfl, trivial⟩
  · rw [if_neg hc] at h
    refine G_aload rfl rfl ?_
    refine G_aload rfl rfl ?_
    refine G_iload rfl rfl ?_
    refine G_iconst (0 : Int32) rfl (by decide) ?_
    refine G_iload rfl rfl ?_
    refine G_iconst (0 : Int32) rfl (by decide) ?_
    obtain ⟨y21, hy21, h⟩ := Option.bind_eq_some_iff.mp h
    refine G_callvI 5 (t_Mod_lineOf _ _ _ _ _ _  _ hy21) rfl rfl rfl rfl rfl rfl rfl rfl rfl rfl rfl ?_
    refine G_iconst (1 : Int32) rfl (by decide) ?_
    obtain ⟨y22, hy22, h⟩ := Option.bind_eq_some_iff.mp h
    refine G_callvV 3 (t_Mod_keeps _ _ _ _  _ hy22) rfl rfl rfl rfl rfl rfl rfl rfl rfl rfl rfl ?_
    exact Go.weak' (t_Mod_findFrom_44 d  _ _ _ _ _  _ h) ⟨rfl, rfl, rfl, rfl, trivial⟩
set_option maxRecDepth 100000 in
set_option maxHeartbeats 4000000 in
theorem t_Mod_shortestOf_54 (d : Nat) {k32 : Hp → Int32 → Int32 → Int32 → Option (Int32 × Hp)} (hk32 : ∀ (sg : Hp) (x1 : Int32) (x2 : Int32) (x3 : Int32)  (y : Int32 × Hp), k32 sg x1 x2 x3 = some y → Go (d + 5) none 144 32 [(0, .ref 46), (1, .int x1), (2, .int x2), (3, .int x3)] [] sg (some (.int y.1)) y.2) (sg : Hp) (x1 : Int32) (x2 : Int32) (x3 : Int32)  (y : Int32 × Hp) (h : f_Mod_shortestOf_54 k32 sg x1 x2 x3 = some y) : Go (d + 5) none 144 54 [(0, .ref 46), (1, .int x1), (2, .int x2), (3, .int x3)] [] sg (some (.int y.1)) y.2 := by
  unfold f_Mod_shortestOf_54 at h
  refine G_iinc (1 : Int32) rfl (by decide) rfl rfl ?_
  refine G_goto 32 rfl rfl ?_
  exact Go.weak' (hk32 _ _ _ _  _ h) ⟨rfl, rfl, rfl, rfl, trivial⟩
set_option maxRecDepth 100000 in
set_option maxHeartbeats 4000000 in
theorem t_Mod_shortestOf_32 (d : Nat)   : ∀ (n : Nat) (sg : Hp) (x1 : Int32) (x2 : Int32) (x3 : Int32)  (y : Int32 × Hp), f_Mod_shortestOf_32  n sg x1 x2 x3 = some y → Go (d + 5) none 144 32 [(0, .ref 46), (1, .int x1), (2, .int x2), (3, .int x3)] [] sg (some (.int y.1)) y.2 := by
  intro n
  induction n with
  | zero =>
    intro sg x1 x2 x3 y h
    rw [f_Mod_shortestOf_32] at h
    cases h
  | succ n ih =>
    intro sg x1 x2 x3 y h
    rw [f_Mod_shortestOf_32] at h
    refine G_iload rfl rfl ?_
    refine G_iconst (6 : Int32) rfl (by decide) ?_
    refine G_ic_ge 60 rfl rfl (fun hc => ?_) (fun hc => ?_)
    · rw [if_pos hc] at h
      refine G_aload rfl rfl ?_
      refine G_getI (ci := 10) 12 rfl rfl rfl rfl rfl ?_
      obtain rfl := Option.some.inj h
      exact G_iret rfl rfl
    · rw [if_neg hc] at h
      refine G_aload rfl rfl ?_
      refine G_iload rfl rfl ?_
      refine G_iload rfl rfl ?_
      obtain ⟨y3, hy3, h⟩ := Option.bind_eq_some_iff.mp h
      refine G_callvI 3 (t_Mod_isOn _ _ _ _  _ hy3) rfl rfl rfl rfl rfl rfl rfl rfl rfl rfl rfl ?_
      refine G_if_eq 54 rfl rfl (fun hc => ?_) (fun hc => ?_)
      · rw [if_pos hc] at h
        exact Go.weak' (t_Mod_shortestOf_54 d ih _ _ _ _  _ h) ⟨rfl, rfl, rfl, rfl, trivial⟩
      · rw [if_neg hc] at h
        refine G_aload rfl rfl ?_
        refine G_iload rfl rfl ?_
        refine G_iload rfl rfl ?_
        refine G_iload rfl rfl ?_
        obtain ⟨y4, hy4, h⟩ := Option.bind_eq_some_iff.mp h
        refine G_callvV 4 (t_Mod_findFrom _ _ _ _ _  _ hy4) rfl rfl rfl rfl rfl rfl rfl rfl rfl rfl rfl ?_
        exact Go.weak' (t_Mod_shortestOf_54 d ih _ _ _ _  _ h) ⟨rfl, rfl, rfl, rfl, trivial⟩
set_option maxRecDepth 100000 in
set_option maxHeartbeats 4000000 in
theorem t_Mod_shortestOf_12 (d : Nat)   : ∀ (n : Nat) (sg : Hp) (x1 : Int32) (x2 : Int32) (x3 : Int32)  (y : Int32 × Hp), f_Mod_shortestOf_12  n sg x1 x2 x3 = some y → Go (d + 5) none 144 12 [(0, .ref 46), (1, .int x1), (2, .int x2), (3, .int x3)] [] sg (some (.int y.1)) y.2 := by
  intro n
  induction n with
  | zero =>
    intro sg x1 x2 x3 y h
    rw [f_Mod_shortestOf_12] at h
    cases h
  | succ n ih =>
    intro sg x1 x2 x3 y h
    rw [f_Mod_shortestOf_12] at h
    refine G_iload rfl rfl ?_
    refine G_iconst (5 : Int32) rfl (by decide) ?_
    refine G_ic_ge 30 rfl rfl (fun hc => ?_) (fun hc => ?_)
    · rw [if_pos hc] at h
      refine G_iconst (0 : Int32) rfl (by decide) ?_
      refine G_istore rfl rfl ?_
      exact Go.weak' (t_Mod_shortestOf_32 d  _ _ _ _ _  _ h) ⟨rfl, rfl, rfl, rfl, trivial⟩
    · rw [if_neg hc] at h
      refine G_aload rfl rfl ?_
      refine G_getR (ci := 10) 57 rfl rfl rfl rfl rfl ?_
      refine G_iload rfl rfl ?_
      refine G_iconst (-1 : Int32) rfl (by decide) ?_
      obtain ⟨hg5, h⟩ := if_some h
      obtain ⟨s6, hs6, h⟩ := Option.bind_eq_some_iff.mp h
      refine G_iast rfl rfl rfl hg5 (Option.some.inj hs6) ?_
      refine G_iinc (1 : Int32) rfl (by decide) rfl rfl ?_
      refine G_goto 12 rfl rfl ?_
      exact Go.weak' (ih _ _ _ _  _ h) ⟨rfl, rfl, rfl, rfl, trivial⟩
set_option maxRecDepth 100000 in
set_option maxHeartbeats 4000000 in
theorem t_Mod_shortestOf (d : Nat) (sg : Hp) (x1 : Int32) (x2 : Int32)  (y : Int32 × Hp) (h : f_Mod_shortestOf sg x1 x2 = some y) : Sm (d + 5) 144 [.ref 46, .int x1, .int x2] sg (some (.int y.1)) y.2 := by
  unfold f_Mod_shortestOf at h
  refine Sm.of (lv := [(0, .ref 46), (1, .int x1), (2, .int x2)]) rfl ?_
  refine G_aload rfl rfl ?_
  refine G_iconst (-1 : Int32) rfl (by decide) ?_
  obtain ⟨s1, hs1, h⟩ := Option.bind_eq_some_iff.mp h
  refine G_putI (ci := 10) 12 rfl rfl rfl rfl rfl (Option.some.inj hs1) ?_
  refine G_aload rfl rfl ?_
  refine G_iconst (0 : Int32) rfl (by decide) ?_
  obtain ⟨s2, hs2, h⟩ := Option.bind_eq_some_iff.mp h
  refine G_putI (ci := 10) 13 rfl rfl rfl rfl rfl (Option.some.inj hs2) ?_
  refine G_iconst (0 : Int32) rfl (by decide) ?_
  refine G_istore rfl rfl ?_
  exact Go.weak' (t_Mod_shortestOf_12 d  _ _ _ _ _  _ h) ⟨rfl, rfl, rfl, rfl, trivial⟩
set_option maxRecDepth 100000 in
set_option maxHeartbeats 4000000 in
theorem t_Mod_shortest (d : Nat) (sg : Hp) (x1 : Int32) (x2 : Int32)  (y : Int32 × Hp) (h : f_Mod_shortest sg x1 x2 = some y) : Sm (d + 6) 143 [.ref 46, .int x1, .int x2] sg (some (.int y.1)) y.2 := by
  unfold f_Mod_shortest at h
  refine Sm.of (lv := [(0, .ref 46), (1, .int x1), (2, .int x2)]) rfl ?_
  refine G_iload rfl rfl ?_
  obtain ⟨y1, hy1, h⟩ := Option.bind_eq_some_iff.mp h
  refine G_callsI 1 (t_Mod_isPlace _ _ _  _ hy1) rfl rfl rfl rfl rfl rfl rfl rfl rfl ?_
  refine G_if_eq 23 rfl rfl (fun hc => ?_) (fun hc => ?_)
  · rw [if_pos hc] at h
    refine G_iconst (-2 : Int32) rfl (by decide) ?_
    obtain rfl := Option.some.inj h
    exact G_iret rfl rfl
  · rw [if_neg hc] at h
    refine G_iload rfl rfl ?_
    obtain ⟨y2, hy2, h⟩ := Option.bind_eq_some_iff.mp h
    refine G_callsI 1 (t_Mod_isPlace _ _ _  _ hy2) rfl rfl rfl rfl rfl rfl rfl rfl rfl ?_
    refine G_if_eq 23 rfl rfl (fun hc => ?_) (fun hc => ?_)
    · rw [if_pos hc] at h
      refine G_iconst (-2 : Int32) rfl (by decide) ?_
      obtain rfl := Option.some.inj h
      exact G_iret rfl rfl
    · rw [if_neg hc] at h
      refine G_aload rfl rfl ?_
      refine G_iload rfl rfl ?_
      refine G_iload rfl rfl ?_
      obtain ⟨y3, hy3, h⟩ := Option.bind_eq_some_iff.mp h
      refine G_callvI 3 (t_Mod_shortestOf _ _ _ _  _ hy3) rfl rfl rfl rfl rfl rfl rfl rfl rfl rfl rfl ?_
      refine G_goto 25 rfl rfl ?_
      obtain rfl := Option.some.inj h
      exact G_iret rfl rfl
set_option maxRecDepth 100000 in
set_option maxHeartbeats 4000000 in
theorem t_Box_ways (d : Nat) (sg : Hp) (x1 : Int32) (x2 : Int32)  (y : Int32 × Hp) (h : f_Box_ways sg x1 x2 = some y) : Sm (d + 11) 58 [.ref 0, .int x1, .int x2] sg (some (.int y.1)) y.2 := by
  unfold f_Box_ways at h
  refine Sm.of (lv := [(0, .ref 0), (1, .int x1), (2, .int x2)]) rfl ?_
  refine G_iload rfl rfl ?_
  obtain ⟨y1, hy1, h⟩ := Option.bind_eq_some_iff.mp h
  refine G_callsI 1 (t_Box_isPlace _ _ _  _ hy1) rfl rfl rfl rfl rfl rfl rfl rfl rfl ?_
  refine G_if_eq 14 rfl rfl (fun hc => ?_) (fun hc => ?_)
  · rw [if_pos hc] at h
    refine G_iconst (-2 : Int32) rfl (by decide) ?_
    obtain rfl := Option.some.inj h
    exact G_iret rfl rfl
  · rw [if_neg hc] at h
    refine G_iload rfl rfl ?_
    obtain ⟨y2, hy2, h⟩ := Option.bind_eq_some_iff.mp h
    refine G_callsI 1 (t_Box_isPlace _ _ _  _ hy2) rfl rfl rfl rfl rfl rfl rfl rfl rfl ?_
    refine G_if_ne 17 rfl rfl (fun hc => ?_) (fun hc => ?_)
    · rw [if_neg hc] at h
      refine G_aload rfl rfl ?_
      refine G_getR (ci := 9) 24 rfl rfl rfl rfl rfl ?_
      refine G_getR (ci := 7) 26 rfl rfl rfl rfl rfl ?_
      refine G_aload rfl rfl ?_
      refine G_getR (ci := 9) 24 rfl rfl rfl rfl rfl ?_
      refine G_iload rfl rfl ?_
      refine G_iload rfl rfl ?_
      obtain ⟨y3, hy3, h⟩ := Option.bind_eq_some_iff.mp h
      refine G_callvI 3 (t_Table_look _ _ _ _  _ hy3) rfl rfl rfl rfl rfl rfl rfl rfl rfl rfl rfl ?_
      obtain ⟨hg4, h⟩ := if_some h
      refine G_iald rfl rfl rfl hg4 ?_
      obtain rfl := Option.some.inj h
      exact G_iret rfl rfl
    · rw [if_pos hc] at h
      refine G_iconst (-2 : Int32) rfl (by decide) ?_
      obtain rfl := Option.some.inj h
      exact G_iret rfl rfl
set_option maxRecDepth 100000 in
set_option maxHeartbeats 4000000 in
theorem t_Mod_waysOf (d : Nat) (sg : Hp) (x1 : Int32) (x2 : Int32)  (y : Int32 × Hp) (h : f_Mod_waysOf sg x1 x2 = some y) : Sm (d + 6) 156 [.ref 46, .int x1, .int x2] sg (some (.int y.1)) y.2 := by
  unfold f_Mod_waysOf at h
  refine Sm.of (lv := [(0, .ref 46), (1, .int x1), (2, .int x2)]) rfl ?_
  refine G_aload rfl rfl ?_
  refine G_iload rfl rfl ?_
  refine G_iload rfl rfl ?_
  obtain ⟨y1, hy1, h⟩ := Option.bind_eq_some_iff.mp h
  refine G_callvI 3 (t_Mod_shortestOf _ _ _ _  _ hy1) rfl rfl rfl rfl rfl rfl rfl rfl rfl rfl rfl ?_
  refine G_pop rfl ?_
  refine G_aload rfl rfl ?_
  refine G_getI (ci := 10) 13 rfl rfl rfl rfl rfl ?_
  obtain rfl := Option.some.inj h
  exact G_iret rfl rfl
set_option maxRecDepth 100000 in
set_option maxHeartbeats 4000000 in
theorem t_Mod_ways (d : Nat) (sg : Hp) (x1 : Int32) (x2 : Int32)  (y : Int32 × Hp) (h : f_Mod_ways sg x1 x2 = some y) : Sm (d + 7) 155 [.ref 46, .int x1, .int x2] sg (some (.int y.1)) y.2 := by
  unfold f_Mod_ways at h
  refine Sm.of (lv := [(0, .ref 46), (1, .int x1), (2, .int x2)]) rfl ?_
  refine G_iload rfl rfl ?_
  obtain ⟨y1, hy1, h⟩ := Option.bind_eq_some_iff.mp h
  refine G_callsI 1 (t_Mod_isPlace _ _ _  _ hy1) rfl rfl rfl rfl rfl rfl rfl rfl rfl ?_
  refine G_if_eq 23 rfl rfl (fun hc => ?_) (fun hc => ?_)
  · rw [if_pos hc] at h
    refine G_iconst (-2 : Int32) rfl (by decide) ?_
    obtain rfl := Option.some.inj h
    exact G_iret rfl rfl
  · rw [if_neg hc] at h
    refine G_iload rfl rfl ?_
    obtain ⟨y2, hy2, h⟩ := Option.bind_eq_some_iff.mp h
    refine G_callsI 1 (t_Mod_isPlace _ _ _  _ hy2) rfl rfl rfl rfl rfl rfl rfl rfl rfl ?_
    refine G_if_eq 23 rfl rfl (fun hc => ?_) (fun hc => ?_)
    · rw [if_pos hc] at h
      refine G_iconst (-2 : Int32) rfl (by decide) ?_
      obtain rfl := Option.some.inj h
      exact G_iret rfl rfl
    · rw [if_neg hc] at h
      refine G_aload rfl rfl ?_
      refine G_iload rfl rfl ?_
      refine G_iload rfl rfl ?_
      obtain ⟨y3, hy3, h⟩ := Option.bind_eq_some_iff.mp h
      refine G_callvI 3 (t_Mod_waysOf _ _ _ _  _ hy3) rfl rfl rfl rfl rfl rfl rfl rfl rfl rfl rfl ?_
      refine G_goto 25 rfl rfl ?_
      obtain rfl := Option.some.inj h
      exact G_iret rfl rfl
set_option maxRecDepth 100000 in
set_option maxHeartbeats 4000000 in
theorem t_Search_wallInRow (d : Nat) (sg : Hp) (x0 : Int32) (x1 : Int32)  (y : Int32 × Hp) (h : f_Search_wallInRow sg x0 x1 = some y) : Sm (d + 0) 60 [.int x0, .int x1] sg (some (.int y.1)) y.2 := by
  unfold f_Search_wallInRow at h
  refine Sm.of (lv := [(0, .int x0), (1, .int x1)]) rfl ?_
  refine G_iload rfl rfl ?_
  refine G_iconst (3 : Int32) rfl (by decide) ?_
  refine G_iload rfl rfl ?_
  refine G_imul rfl ?_
  refine G_ishr rfl ?_
  refine G_iconst (7 : Int32) rfl (by decide) ?_
  refine G_iand rfl ?_
  refine G_iconst (1 : Int32) rfl (by decide) ?_
  refine G_isub rfl ?_
  obtain rfl := Option.some.inj h
  exact G_iret rfl rfl
set_option maxRecDepth 100000 in
set_option maxHeartbeats 4000000 in
theorem t_Box_face (d : Nat) (sg : Hp) (x1 : Int32) (x2 : Int32) (x3 : Int32)  (y : Int32 × Hp) (h : f_Box_face sg x1 x2 x3 = some y) : Sm (d + 11) 59 [.ref 0, .int x1, .int x2, .int x3] sg (some (.int y.1)) y.2 := by
  unfold f_Box_face at h
  refine Sm.of (lv := [(0, .ref 0), (1, .int x1), (2, .int x2), (3, .int x3)]) rfl ?_
  refine G_iload rfl rfl ?_
  obtain ⟨y1, hy1, h⟩ := Option.bind_eq_some_iff.mp h
  refine G_callsI 1 (t_Box_isPlace _ _ _  _ hy1) rfl rfl rfl rfl rfl rfl rfl rfl rfl ?_
  refine G_if_eq 23 rfl rfl (fun hc => ?_) (fun hc => ?_)
  · rw [if_pos hc] at h
    refine G_iconst (-2 : Int32) rfl (by decide) ?_
    obtain rfl := Option.some.inj h
    exact G_iret rfl rfl
  · rw [if_neg hc] at h
    refine G_iload rfl rfl ?_
    obtain ⟨y2, hy2, h⟩ := Option.bind_eq_some_iff.mp h
    refine G_callsI 1 (t_Box_isPlace _ _ _  _ hy2) rfl rfl rfl rfl rfl rfl rfl rfl rfl ?_
    refine G_if_eq 23 rfl rfl (fun hc => ?_) (fun hc => ?_)
    · rw [if_pos hc] at h
      refine G_iconst (-2 : Int32) rfl (by decide) ?_
      obtain rfl := Option.some.inj h
      exact G_iret rfl rfl
    · rw [if_neg hc] at h
      refine G_iload rfl rfl ?_
      refine G_if_lt 23 rfl rfl (fun hc => ?_) (fun hc => ?_)
      · rw [if_pos hc] at h
        refine G_iconst (-2 : Int32) rfl (by decide) ?_
        obtain rfl := Option.some.inj h
        exact G_iret rfl rfl
      · rw [if_neg hc] at h
        refine G_iload rfl rfl ?_
        refine G_iconst (5 : Int32) rfl (by decide) ?_
        refine G_ic_lt 26 rfl rfl (fun hc => ?_) (fun hc => ?_)
        · rw [if_pos hc] at h
          refine G_aload rfl rfl ?_
          refine G_getR (ci := 9) 24 rfl rfl rfl rfl rfl ?_
          refine G_getR (ci := 7) 27 rfl rfl rfl rfl rfl ?_
          refine G_aload rfl rfl ?_
          refine G_getR (ci := 9) 24 rfl rfl rfl rfl rfl ?_
          refine G_iload rfl rfl ?_
          refine G_iload rfl rfl ?_
          obtain ⟨y3, hy3, h⟩ := Option.bind_eq_some_iff.mp h
          refine G_callvI 3 (t_Table_look _ _ _ _  _ hy3) rfl rfl rfl rfl rfl rfl rfl rfl rfl rfl rfl ?_
          obtain ⟨hg4, h⟩ := if_some h
          refine G_iald rfl rfl rfl hg4 ?_
          refine G_iload rfl rfl ?_
          obtain ⟨y5, hy5, h⟩ := Option.bind_eq_some_iff.mp h
          refine G_callsI 2 (t_Search_wallInRow _ _ _ _  _ hy5) rfl rfl rfl rfl rfl rfl rfl rfl rfl ?_
          obtain rfl := Option.some.inj h
          exact G_iret rfl rfl
        · rw [if_neg hc] at h
          refine G_iconst (-2 : Int32) rfl (by decide) ?_
          obtain rfl := Option.some.inj h
          exact G_iret rfl rfl
set_option maxRecDepth 100000 in
set_option maxHeartbeats 4000000 in
theorem t_Mod_faceOf (d : Nat) (sg : Hp) (x1 : Int32) (x2 : Int32) (x3 : Int32)  (y : Int32 × Hp) (h : f_Mod_faceOf sg x1 x2 x3 = some y) : Sm (d + 6) 158 [.ref 46, .int x1, .int x2, .int x3] sg (some (.int y.1)) y.2 := by
  unfold f_Mod_faceOf at h
  refine Sm.of (lv := [(0, .ref 46), (1, .int x1), (2, .int x2), (3, .int x3)]) rfl ?_
  refine G_aload rfl rfl ?_
  refine G_iload rfl rfl ?_
  refine G_iload rfl rfl ?_
  obtain ⟨y1, hy1, h⟩ := Option.bind_eq_some_iff.mp h
  refine G_callvI 3 (t_Mod_shortestOf _ _ _ _  _ hy1) rfl rfl rfl rfl rfl rfl rfl rfl rfl rfl rfl ?_
  refine G_pop rfl ?_
  refine G_aload rfl rfl ?_
  refine G_getR (ci := 10) 57 rfl rfl rfl rfl rfl ?_
  refine G_iload rfl rfl ?_
  obtain ⟨hg2, h⟩ := if_some h
  refine G_iald rfl rfl rfl hg2 ?_
  obtain rfl := Option.some.inj h
  exact G_iret rfl rfl
set_option maxRecDepth 100000 in
set_option maxHeartbeats 4000000 in
theorem t_Mod_face (d : Nat) (sg : Hp) (x1 : Int32) (x2 : Int32) (x3 : Int32)  (y : Int32 × Hp) (h : f_Mod_face sg x1 x2 x3 = some y) : Sm (d + 7) 157 [.ref 46, .int x1, .int x2, .int x3] sg (some (.int y.1)) y.2 := by
  unfold f_Mod_face at h
  refine Sm.of (lv := [(0, .ref 46), (1, .int x1), (2, .int x2), (3, .int x3)]) rfl ?_
  refine G_iload rfl rfl ?_
  obtain ⟨y1, hy1, h⟩ := Option.bind_eq_some_iff.mp h
  refine G_callsI 1 (t_Mod_isPlace _ _ _  _ hy1) rfl rfl rfl rfl rfl rfl rfl rfl rfl ?_
  refine G_if_eq 36 rfl rfl (fun hc => ?_) (fun hc => ?_)
  · rw [if_pos hc] at h
    refine G_iconst (-2 : Int32) rfl (by decide) ?_
    obtain rfl := Option.some.inj h
    exact G_iret rfl rfl
  · rw [if_neg hc] at h
    refine G_iload rfl rfl ?_
    obtain ⟨y2, hy2, h⟩ := Option.bind_eq_some_iff.mp h
    refine G_callsI 1 (t_Mod_isPlace _ _ _  _ hy2) rfl rfl rfl rfl rfl rfl rfl rfl rfl ?_
    refine G_if_eq 36 rfl rfl (fun hc => ?_) (fun hc => ?_)
    · rw [if_pos hc] at h
      refine G_iconst (-2 : Int32) rfl (by decide) ?_
      obtain rfl := Option.some.inj h
      exact G_iret rfl rfl
    · rw [if_neg hc] at h
      refine G_iload rfl rfl ?_
      refine G_i2l rfl ?_
      refine G_lconst (0 : Int64) rfl (by decide) ?_
      refine G_ldc2 (4 : Int64) rfl (by decide) ?_
      obtain ⟨y3, hy3, h⟩ := Option.bind_eq_some_iff.mp h
      refine G_callsI 3 (t_Mod_in _ _ _ _ _  _ hy3) rfl rfl rfl rfl rfl rfl rfl rfl rfl ?_
      refine G_if_eq 36 rfl rfl (fun hc => ?_) (fun hc => ?_)
      · rw [if_pos hc] at h
        refine G_iconst (-2 : Int32) rfl (by decide) ?_
        obtain rfl := Option.some.inj h
        exact G_iret rfl rfl
      · rw [if_neg hc] at h
        refine G_aload rfl rfl ?_
        refine G_iload rfl rfl ?_
        refine G_iload rfl rfl ?_
        refine G_iload rfl rfl ?_
        obtain ⟨y4, hy4, h⟩ := Option.bind_eq_some_iff.mp h
        refine G_callvI 4 (t_Mod_faceOf _ _ _ _ _  _ hy4) rfl rfl rfl rfl rfl rfl rfl rfl rfl rfl rfl ?_
        refine G_goto 38 rfl rfl ?_
        obtain rfl := Option.some.inj h
        exact G_iret rfl rfl
set_option maxRecDepth 100000 in
set_option maxHeartbeats 4000000 in
theorem t_Box_farthest_56 (d : Nat) {k17 : Hp → Int32 → Int32 → Int32 → Int32 → Option (Int32 × Hp)} (hk17 : ∀ (sg : Hp) (x1 : Int32) (x2 : Int32) (x3 : Int32) (x4 : Int32)  (y : Int32 × Hp), k17 sg x1 x2 x3 x4 = some y → Go (d + 11) none 61 17 [(0, .ref 0), (1, .int x1), (2, .int x2), (3, .int x3), (4, .int x4)] [] sg (some (.int y.1)) y.2) (sg : Hp) (x1 : Int32) (x2 : Int32) (x3 : Int32) (x4 : Int32)  (y : Int32 × Hp) (h : f_Box_farthest_56 k17 sg x1 x2 x3 x4 = some y) : Go (d + 11) none 61 56 [(0, .ref 0), (1, .int x1), (2, .int x2), (3, .int x3), (4, .int x4)] [] sg (some (.int y.1)) y.2 := by
  unfold f_Box_farthest_56 at h
  refine G_iinc (1 : Int32) rfl (by decide) rfl rfl ?_
  refine G_goto 17 rfl rfl ?_
  exact Go.weak' (hk17 _ _ _ _ _  _ h) ⟨rfl, rfl, rfl, rfl, rfl, trivial⟩
set_option maxRecDepth 100000 in
set_option maxHeartbeats 4000000 in
theorem t_Box_farthest_17 (d : Nat)   : ∀ (n : Nat) (sg : Hp) (x1 : Int32) (x2 : Int32) (x3 : Int32) (x4 : Int32)  (y : Int32 × Hp), f_Box_farthest_17  n sg x1 x2 x3 x4 = some y → Go (d + 11) none 61 17 [(0, .ref 0), (1, .int x1), (2, .int x2), (3, .int x3), (4, .int x4)] [] sg (some (.int y.1)) y.2 := by
  intro n
  induction n with
  | zero =>
    intro sg x1 x2 x3 x4 y h
    rw [f_Box_farthest_17] at h
    cases h
  | succ n ih =>
    intro sg x1 x2 x3 x4 y h
    rw [f_Box_farthest_17] at h
    refine G_iload rfl rfl ?_
    refine G_iconst (8 : Int32) rfl (by decide) ?_
    refine G_ic_ge 62 rfl rfl (fun hc => ?_) (fun hc => ?_)
    · rw [if_pos hc] at h
      refine G_iload rfl rfl ?_
      obtain rfl := Option.some.inj h
      exact G_iret rfl rfl
    · rw [if_neg hc] at h
      refine G_aload rfl rfl ?_
      refine G_getR (ci := 9) 24 rfl rfl rfl rfl rfl ?_
      refine G_getR (ci := 7) 25 rfl rfl rfl rfl rfl ?_
      refine G_aload rfl rfl ?_
      refine G_getR (ci := 9) 24 rfl rfl rfl rfl rfl ?_
      refine G_iload rfl rfl ?_
      refine G_iload rfl rfl ?_
      obtain ⟨y2, hy2, h⟩ := Option.bind_eq_some_iff.mp h
      refine G_callvI 3 (t_Table_look _ _ _ _  _ hy2) rfl rfl rfl rfl rfl rfl rfl rfl rfl rfl rfl ?_
      obtain ⟨hg3, h⟩ := if_some h
      refine G_iald rfl rfl rfl hg3 ?_
      refine G_istore rfl rfl ?_
      refine G_iload rfl rfl ?_
      refine G_iload rfl rfl ?_
      refine G_ic_le 56 rfl rfl (fun hc => ?_) (fun hc => ?_)
      · rw [if_pos hc] at h
        exact Go.weak' (t_Box_farthest_56 d ih _ _ _ _ _  _ h) ⟨rfl, rfl, rfl, rfl, rfl, trivial⟩
      · rw [if_neg hc] at h
        refine G_iload rfl rfl ?_
        refine G_istore rfl rfl ?_
        refine G_iload rfl rfl ?_
        refine G_istore rfl rfl ?_
        exact Go.weak' (t_Box_farthest_56 d ih _ _ _ _ _  _ h) ⟨rfl, rfl, rfl, rfl, rfl, trivial⟩
set_option maxRecDepth 100000 in
set_option maxHeartbeats 4000000 in
theorem t_Box_farthest (d : Nat) (sg : Hp) (x1 : Int32)  (y : Int32 × Hp) (h : f_Box_farthest sg x1 = some y) : Sm (d + 11) 61 [.ref 0, .int x1] sg (some (.int y.1)) y.2 := by
  unfold f_Box_farthest at h
  refine Sm.of (lv := [(0, .ref 0), (1, .int x1)]) rfl ?_
  refine G_iload rfl rfl ?_
  obtain ⟨y1, hy1, h⟩ := Option.bind_eq_some_iff.mp h
  refine G_callsI 1 (t_Box_isPlace _ _ _  _ hy1) rfl rfl rfl rfl rfl rfl rfl rfl rfl ?_
  refine G_if_ne 10 rfl rfl (fun hc => ?_) (fun hc => ?_)
  · rw [if_neg hc] at h
    refine G_iconst (-1 : Int32) rfl (by decide) ?_
    refine G_istore rfl rfl ?_
    refine G_iconst (-1 : Int32) rfl (by decide) ?_
    refine G_istore rfl rfl ?_
    refine G_iconst (0 : Int32) rfl (by decide) ?_
    refine G_istore rfl rfl ?_
    exact Go.weak' (t_Box_farthest_17 d  _ _ _ _ _ _  _ h) ⟨rfl, rfl, rfl, rfl, rfl, trivial⟩
  · rw [if_pos hc] at h
    refine G_iconst (-2 : Int32) rfl (by decide) ?_
    obtain rfl := Option.some.inj h
    exact G_iret rfl rfl
set_option maxRecDepth 100000 in
set_option maxHeartbeats 4000000 in
theorem t_Mod_farthestOf_35 (d : Nat) {k7 : Hp → Int32 → Int32 → Int32 → Int32 → Option (Int32 × Hp)} (hk7 : ∀ (sg : Hp) (x1 : Int32) (x2 : Int32) (x3 : Int32) (x4 : Int32)  (y : Int32 × Hp), k7 sg x1 x2 x3 x4 = some y → Go (d + 6) none 160 7 [(0, .ref 46), (1, .int x1), (2, .int x2), (3, .int x3), (4, .int x4)] [] sg (some (.int y.1)) y.2) (sg : Hp) (x1 : Int32) (x3 : Int32) (x4 : Int32) (x5 : Int32) (xs0 : Int32)  (y : Int32 × Hp) (h : f_Mod_farthestOf_35 k7 sg x1 x3 x4 x5 xs0 = some y) : Go (d + 6) none 160 35 [(0, .ref 46), (1, .int x1), (3, .int x3), (4, .int x4), (5, .int x5)] [.int xs0] sg (some (.int y.1)) y.2 := by
  unfold f_Mod_farthestOf_35 at h
  refine G_istore rfl rfl ?_
  refine G_iload rfl rfl ?_
  refine G_iload rfl rfl ?_
  obtain ⟨y2, hy2, h⟩ := Option.bind_eq_some_iff.mp h
  refine G_callsI 2 (t_Mod_greater _ _ _ _  _ hy2) rfl rfl rfl rfl rfl rfl rfl rfl rfl ?_
  refine G_istore rfl rfl ?_
  refine G_iinc (1 : Int32) rfl (by decide) rfl rfl ?_
  refine G_goto 7 rfl rfl ?_
  exact Go.weak' (hk7 _ _ _ _ _  _ h) ⟨rfl, rfl, rfl, rfl, rfl, trivial⟩
set_option maxRecDepth 100000 in
set_option maxHeartbeats 4000000 in
theorem t_Mod_farthestOf_7 (d : Nat)   : ∀ (n : Nat) (sg : Hp) (x1 : Int32) (x2 : Int32) (x3 : Int32) (x4 : Int32)  (y : Int32 × Hp), f_Mod_farthestOf_7  n sg x1 x2 x3 x4 = some y → Go (d + 6) none 160 7 [(0, .ref 46), (1, .int x1), (2, .int x2), (3, .int x3), (4, .int x4)] [] sg (some (.int y.1)) y.2 := by
  intro n
  induction n with
  | zero =>
    intro sg x1 x2 x3 x4 y h
    rw [f_Mod_farthestOf_7] at h
    cases h
  | succ n ih =>
    intro sg x1 x2 x3 x4 y h
    rw [f_Mod_farthestOf_7] at h
    refine G_iload rfl rfl ?_
    refine G_iconst (8 : Int32) rfl (by decide) ?_
    refine G_ic_ge 49 rfl rfl (fun hc => ?_) (fun hc => ?_)
    · rw [if_pos hc] at h
      refine G_iload rfl rfl ?_
      obtain rfl := Option.some.inj h
      exact G_iret rfl rfl
    · rw [if_neg hc] at h
      refine G_aload rfl rfl ?_
      refine G_iload rfl rfl ?_
      refine G_iload rfl rfl ?_
      obtain ⟨y1, hy1, h⟩ := Option.bind_eq_some_iff.mp h
      refine G_callvI 3 (t_Mod_shortestOf _ _ _ _  _ hy1) rfl rfl rfl rfl rfl rfl rfl rfl rfl rfl rfl ?_
      refine G_istore rfl rfl ?_
      refine G_iload rfl rfl ?_
      refine G_iload rfl rfl ?_
      refine G_ic_le 34 rfl rfl (fun hc => ?_) (fun hc => ?_)
      · rw [if_pos hc] at h
        refine G_iload rfl rfl ?_
        exact Go.weak' (t_Mod_farthestOf_35 d ih _ _ _ _ _ _  _ h) ⟨rfl, rfl, rfl, rfl, rfl, trivial⟩
      · rw [if_neg hc] at h
        refine G_iload rfl rfl ?_
        refine G_goto 35 rfl rfl ?_
        exact Go.weak' (t_Mod_farthestOf_35 d ih _ _ _ _ _ _  _ h) ⟨rfl, rfl, rfl, rfl, rfl, trivial⟩
set_option maxRecDepth 100000 in
set_option maxHeartbeats 4000000 in
theorem t_Mod_farthestOf (d : Nat) (sg : Hp) (x1 : Int32)  (y : Int32 × Hp) (h : f_Mod_farthestOf sg x1 = some y) : Sm (d + 6) 160 [.ref 46, .int x1] sg (some (.int y.1)) y.2 := by
  unfold f_Mod_farthestOf at h
  refine Sm.of (lv := [(0, .ref 46), (1, .int x1)]) rfl ?_
  refine G_iload rfl rfl ?_
  refine G_istore rfl rfl ?_
  refine G_iconst (-1 : Int32) rfl (by decide) ?_
  refine G_istore rfl rfl ?_
  refine G_iconst (0 : Int32) rfl (by decide) ?_
  refine G_istore rfl rfl ?_
  exact Go.weak' (t_Mod_farthestOf_7 d  _ _ _ _ _ _  _ h) ⟨rfl, rfl, rfl, rfl, rfl, trivial⟩
set_option maxRecDepth 100000 in
set_option maxHeartbeats 4000000 in
theorem t_Mod_farthest (d : Nat) (sg : Hp) (x1 : Int32)  (y : Int32 × Hp) (h : f_Mod_farthest sg x1 = some y) : Sm (d + 7) 159 [.ref 46, .int x1] sg (some (.int y.1)) y.2 := by
  unfold f_Mod_farthest at h
  refine Sm.of (lv := [(0, .ref 46), (1, .int x1)]) rfl ?_
  refine G_iload rfl rfl ?_
  obtain ⟨y1, hy1, h⟩ := Option.bind_eq_some_iff.mp h
  refine G_callsI 1 (t_Mod_isPlace _ _ _  _ hy1) rfl rfl rfl rfl rfl rfl rfl rfl rfl ?_
  refine G_if_eq 15 rfl rfl (fun hc => ?_) (fun hc => ?_)
  · rw [if_pos hc] at h
    refine G_iconst (-2 : Int32) rfl (by decide) ?_
    obtain rfl := Option.some.inj h
    exact G_iret rfl rfl
  · rw [if_neg hc] at h
    refine G_aload rfl rfl ?_
    refine G_iload rfl rfl ?_
    obtain ⟨y2, hy2, h⟩ := Option.bind_eq_some_iff.mp h
    refine G_callvI 2 (t_Mod_farthestOf _ _ _  _ hy2) rfl rfl rfl rfl rfl rfl rfl rfl rfl rfl rfl ?_
    refine G_goto 17 rfl rfl ?_
    obtain rfl := Option.some.inj h
    exact G_iret rfl rfl
set_option maxRecDepth 100000 in
set_option maxHeartbeats 4000000 in
theorem t_Box_reachOf_4 (d : Nat)   : ∀ (n : Nat) (sg : Hp) (x1 : Int32) (x2 : Int32) (x3 : Int32)  (y : Int32 × Hp), f_Box_reachOf_4  n sg x1 x2 x3 = some y → Go (d + 11) none 63 4 [(0, .ref 0), (1, .int x1), (2, .int x2), (3, .int x3)] [] sg (some (.int y.1)) y.2 := by
  intro n
  induction n with
  | zero =>
    intro sg x1 x2 x3 y h
    rw [f_Box_reachOf_4] at h
    cases h
  | succ n ih =>
    intro sg x1 x2 x3 y h
    rw [f_Box_reachOf_4] at h
    refine G_iload rfl rfl ?_
    refine G_iconst (8 : Int32) rfl (by decide) ?_
    refine G_ic_ge 50 rfl rfl (fun hc => ?_) (fun hc => ?_)
    · rw [if_pos hc] at h
      refine G_iload rfl rfl ?_
      obtain rfl := Option.some.inj h
      exact G_iret rfl rfl
    · rw [if_neg hc] at h
      refine G_aload rfl rfl ?_
      refine G_getR (ci := 9) 24 rfl rfl rfl rfl rfl ?_
      refine G_getR (ci := 7) 25 rfl rfl rfl rfl rfl ?_
      refine G_aload rfl rfl ?_
      refine G_getR (ci := 9) 24 rfl rfl rfl rfl rfl ?_
      refine G_iload rfl rfl ?_
      refine G_iload rfl rfl ?_
      obtain ⟨y1, hy1, h⟩ := Option.bind_eq_some_iff.mp h
      refine G_callvI 3 (t_Table_look _ _ _ _  _ hy1) rfl rfl rfl rfl rfl rfl rfl rfl rfl rfl rfl ?_
      obtain ⟨hg2, h⟩ := if_some h
      refine G_iald rfl rfl rfl hg2 ?_
      refine G_istore rfl rfl ?_
      refine G_iload rfl rfl ?_
      refine G_iconst (-1 : Int32) rfl (by decide) ?_
      refine G_ic_ne 37 rfl rfl (fun hc => ?_) (fun hc => ?_)
      · rw [if_neg hc] at h
        refine G_iload rfl rfl ?_
        refine G_iload rfl rfl ?_
        refine G_max rfl rfl rfl ?_
        refine G_istore rfl rfl ?_
        refine G_iinc (1 : Int32) rfl (by decide) rfl rfl ?_
        refine G_goto 4 rfl rfl ?_
        exact Go.weak' (ih _ _ _ _  _ h) ⟨rfl, rfl, rfl, rfl, trivial⟩
      · rw [if_pos hc] at h
        refine G_iconst (-1 : Int32) rfl (by decide) ?_
        obtain rfl := Option.some.inj h
        exact G_iret rfl rfl
set_option maxRecDepth 100000 in
set_option maxHeartbeats 4000000 in
theorem t_Box_reachOf (d : Nat) (sg : Hp) (x1 : Int32)  (y : Int32 × Hp) (h : f_Box_reachOf sg x1 = some y) : Sm (d + 11) 63 [.ref 0, .int x1] sg (some (.int y.1)) y.2 := by
  unfold f_Box_reachOf at h
  refine Sm.of (lv := [(0, .ref 0), (1, .int x1)]) rfl ?_
  refine G_iconst (0 : Int32) rfl (by decide) ?_
  refine G_istore rfl rfl ?_
  refine G_iconst (0 : Int32) rfl (by decide) ?_
  refine G_istore rfl rfl ?_
  exact Go.weak' (t_Box_reachOf_4 d  _ _ _ _ _  _ h) ⟨rfl, rfl, rfl, rfl, trivial⟩
set_option maxRecDepth 100000 in
set_option maxHeartbeats 4000000 in
theorem t_Box_sit_41 (d : Nat) {k6 : Hp → Int32 → Int32 → Int32 → Option (Int32 × Hp)} (hk6 : ∀ (sg : Hp) (x1 : Int32) (x2 : Int32) (x3 : Int32)  (y : Int32 × Hp), k6 sg x1 x2 x3 = some y → Go (d + 12) none 62 6 [(0, .ref 0), (1, .int x1), (2, .int x2), (3, .int x3)] [] sg (some (.int y.1)) y.2) (sg : Hp) (x1 : Int32) (x2 : Int32) (x3 : Int32)  (y : Int32 × Hp) (h : f_Box_sit_41 k6 sg x1 x2 x3 = some y) : Go (d + 12) none 62 41 [(0, .ref 0), (1, .int x1), (2, .int x2), (3, .int x3)] [] sg (some (.int y.1)) y.2 := by
  unfold f_Box_sit_41 at h
  refine G_iinc (1 : Int32) rfl (by decide) rfl rfl ?_
  refine G_goto 6 rfl rfl ?_
  exact Go.weak' (hk6 _ _ _ _  _ h) ⟨rfl, rfl, rfl, rfl, trivial⟩
set_option maxRecDepth 100000 in
set_option maxHeartbeats 4000000 in
theorem t_Box_sit_36 (d : Nat) {k6 : Hp → Int32 → Int32 → Int32 → Option (Int32 × Hp)} (hk6 : ∀ (sg : Hp) (x1 : Int32) (x2 : Int32) (x3 : Int32)  (y : Int32 × Hp), k6 sg x1 x2 x3 = some y → Go (d + 12) none 62 6 [(0, .ref 0), (1, .int x1), (2, .int x2), (3, .int x3)] [] sg (some (.int y.1)) y.2) (sg : Hp) (x3 : Int32) (x4 : Int32)  (y : Int32 × Hp) (h : f_Box_sit_36 k6 sg x3 x4 = some y) : Go (d + 12) none 62 36 [(0, .ref 0), (3, .int x3), (4, .int x4)] [] sg (some (.int y.1)) y.2 := by
  unfold f_Box_sit_36 at h
  refine G_iload rfl rfl ?_
  refine G_istore rfl rfl ?_
  refine G_iload rfl rfl ?_
  refine G_istore rfl rfl ?_
  exact Go.weak' (t_Box_sit_41 d hk6 _ _ _ _  _ h) ⟨rfl, rfl, rfl, rfl, trivial⟩
set_option maxRecDepth 100000 in
set_option maxHeartbeats 4000000 in
theorem t_Box_sit_6 (d : Nat)   : ∀ (n : Nat) (sg : Hp) (x1 : Int32) (x2 : Int32) (x3 : Int32)  (y : Int32 × Hp), f_Box_sit_6  n sg x1 x2 x3 = some y → Go (d + 12) none 62 6 [(0, .ref 0), (1, .int x1), (2, .int x2), (3, .int x3)] [] sg (some (.int y.1)) y.2 := by
  intro n
  induction n with
  | zero =>
    intro sg x1 x2 x3 y h
    rw [f_Box_sit_6] at h
    cases h
  | succ n ih =>
    intro sg x1 x2 x3 y h
    rw [f_Box_sit_6] at h
    refine G_iload rfl rfl ?_
    refine G_iconst (8 : Int32) rfl (by decide) ?_
    refine G_ic_ge 47 rfl rfl (fun hc => ?_) (fun hc => ?_)
    · rw [if_pos hc] at h
      refine G_iload rfl rfl ?_
      obtain rfl := Option.some.inj h
      exact G_iret rfl rfl
    · rw [if_neg hc] at h
      refine G_aload rfl rfl ?_
      refine G_iload rfl rfl ?_
      obtain ⟨y1, hy1, h⟩ := Option.bind_eq_some_iff.mp h
      refine G_callvI 2 (t_Box_reachOf _ _ _  _ hy1) rfl rfl rfl rfl rfl rfl rfl rfl rfl rfl rfl ?_
      refine G_istore rfl rfl ?_
      refine G_iload rfl rfl ?_
      refine G_iconst (-1 : Int32) rfl (by decide) ?_
      refine G_ic_eq 41 rfl rfl (fun hc => ?_) (fun hc => ?_)
      · rw [if_pos hc] at h
        exact Go.weak' (t_Box_sit_41 d ih _ _ _ _  _ h) ⟨rfl, rfl, rfl, rfl, trivial⟩
      · rw [if_neg hc] at h
        refine G_iload rfl rfl ?_
        refine G_iconst (-1 : Int32) rfl (by decide) ?_
        refine G_ic_eq 36 rfl rfl (fun hc => ?_) (fun hc => ?_)
        · rw [if_pos hc] at h
          exact Go.weak' (t_Box_sit_36 d ih _ _ _  _ h) ⟨rfl, rfl, rfl, trivial⟩
        · rw [if_neg hc] at h
          refine G_iload rfl rfl ?_
          refine G_iload rfl rfl ?_
          refine G_ic_ge 41 rfl rfl (fun hc => ?_) (fun hc => ?_)
          · rw [if_pos hc] at h
            exact Go.weak' (t_Box_sit_41 d ih _ _ _ _  _ h) ⟨rfl, rfl, rfl, rfl, trivial⟩
          · rw [if_neg hc] at h
            exact Go.weak' (t_Box_sit_36 d ih _ _ _  _ h) ⟨rfl, rfl, rfl, trivial⟩
set_option maxRecDepth 100000 in
set_option maxHeartbeats 4000000 in
theorem t_Box_sit (d : Nat) (sg : Hp)   (y : Int32 × Hp) (h : f_Box_sit sg  = some y) : Sm (d + 12) 62 [.ref 0] sg (some (.int y.1)) y.2 := by
  unfold f_Box_sit at h
  refine Sm.of (lv := [(0, .ref 0)]) rfl ?_
  refine G_iconst (-1 : Int32) rfl (by decide) ?_
  refine G_istore rfl rfl ?_
  refine G_iconst (-1 : Int32) rfl (by decide) ?_
  refine G_istore rfl rfl ?_
  refine G_iconst (0 : Int32) rfl (by decide) ?_
  refine G_istore rfl rfl ?_
  exact Go.weak' (t_Box_sit_6 d  _ _ _ _ _  _ h) ⟨rfl, rfl, rfl, rfl, trivial⟩
set_option maxRecDepth 100000 in
set_option maxHeartbeats 4000000 in
theorem t_Mod_sitNow_91 (d : Nat) {k6 : Hp → Int32 → Int32 → Int32 → Option (Int32 × Hp)} (hk6 : ∀ (sg : Hp) (x1 : Int32) (x2 : Int32) (x3 : Int32)  (y : Int32 × Hp), k6 sg x1 x2 x3 = some y → Go (d + 6) none 162 6 [(0, .ref 46), (1, .int x1), (2, .int x2), (3, .int x3)] [] sg (some (.int y.1)) y.2) (sg : Hp) (x1 : Int32) (x2 : Int32) (x3 : Int32)  (y : Int32 × Hp) (h : f_Mod_sitNow_91 k6 sg x1 x2 x3 = some y) : Go (d + 6) none 162 91 [(0, .ref 46), (1, .int x1), (2, .int x2), (3, .int x3)] [] sg (some (.int y.1)) y.2 := by
  unfold f_Mod_sitNow_91 at h
  refine G_iinc (1 : Int32) rfl (by decide) rfl rfl ?_
  refine G_goto 6 rfl rfl ?_
  exact Go.weak' (hk6 _ _ _ _  _ h) ⟨rfl, rfl, rfl, rfl, trivial⟩
set_option maxRecDepth 100000 in
set_option maxHeartbeats 4000000 in
theorem t_Mod_sitNow_86 (d : Nat) {k6 : Hp → Int32 → Int32 → Int32 → Option (Int32 × Hp)} (hk6 : ∀ (sg : Hp) (x1 : Int32) (x2 : Int32) (x3 : Int32)  (y : Int32 × Hp), k6 sg x1 x2 x3 = some y → Go (d + 6) none 162 6 [(0, .ref 46), (1, .int x1), (2, .int x2), (3, .int x3)] [] sg (some (.int y.1)) y.2) (sg : Hp) (x3 : Int32) (x4 : Int32)  (y : Int32 × Hp) (h : f_Mod_sitNow_86 k6 sg x3 x4 = some y) : Go (d + 6) none 162 86 [(0, .ref 46), (3, .int x3), (4, .int x4)] [] sg (some (.int y.1)) y.2 := by
  unfold f_Mod_sitNow_86 at h
  refine G_iload rfl rfl ?_
  refine G_istore rfl rfl ?_
  refine G_iload rfl rfl ?_
  refine G_istore rfl rfl ?_
  exact Go.weak' (t_Mod_sitNow_91 d hk6 _ _ _ _  _ h) ⟨rfl, rfl, rfl, rfl, trivial⟩
set_option maxRecDepth 100000 in
set_option maxHeartbeats 4000000 in
theorem t_Mod_sitNow_53 (d : Nat) {k6 : Hp → Int32 → Int32 → Int32 → Option (Int32 × Hp)} {k21 : Hp → Int32 → Int32 → Int32 → Int32 → Int32 → Int32 → Option (Int32 × Hp)} (hk6 : ∀ (sg : Hp) (x1 : Int32) (x2 : Int32) (x3 : Int32)  (y : Int32 × Hp), k6 sg x1 x2 x3 = some y → Go (d + 6) none 162 6 [(0, .ref 46), (1, .int x1), (2, .int x2), (3, .int x3)] [] sg (some (.int y.1)) y.2) (hk21 : ∀ (sg : Hp) (x1 : Int32) (x2 : Int32) (x3 : Int32) (x4 : Int32) (x5 : Int32) (x6 : Int32)  (y : Int32 × Hp), k21 sg x1 x2 x3 x4 x5 x6 = some y → Go (d + 6) none 162 21 [(0, .ref 46), (1, .int x1), (2, .int x2), (3, .int x3), (4, .int x4), (5, .int x5), (6, .int x6)] [] sg (some (.int y.1)) y.2) (sg : Hp) (x1 : Int32) (x2 : Int32) (x3 : Int32) (x4 : Int32) (x6 : Int32) (x7 : Int32) (xs0 : Int32)  (y : Int32 × Hp) (h : f_Mod_sitNow_53 k6 k21 sg x1 x2 x3 x4 x6 x7 xs0 = some y) : Go (d + 6) none 162 53 [(0, .ref 46), (1, .int x1), (2, .int x2), (3, .int x3), (4, .int x4), (6, .int x6), (7, .int x7)] [.int xs0] sg (some (.int y.1)) y.2 := by
  unfold f_Mod_sitNow_53 at h
  refine G_istore rfl rfl ?_
  refine G_iload rfl rfl ?_
  refine G_iload rfl rfl ?_
  obtain ⟨y2, hy2, h⟩ := Option.bind_eq_some_iff.mp h
  refine G_callsI 2 (t_Mod_greater _ _ _ _  _ hy2) rfl rfl rfl rfl rfl rfl rfl rfl rfl ?_
  refine G_istore rfl rfl ?_
  refine G_iinc (1 : Int32) rfl (by decide) rfl rfl ?_
  refine G_goto 21 rfl rfl ?_
  exact Go.weak' (hk21 _ _ _ _ _ _ _  _ h) ⟨rfl, rfl, rfl, rfl, rfl, rfl, rfl, trivial⟩
set_option maxRecDepth 100000 in
set_option maxHeartbeats 4000000 in
theorem t_Mod_sitNow_52 (d : Nat) {k6 : Hp → Int32 → Int32 → Int32 → Option (Int32 × Hp)} {k21 : Hp → Int32 → Int32 → Int32 → Int32 → Int32 → Int32 → Option (Int32 × Hp)} (hk6 : ∀ (sg : Hp) (x1 : Int32) (x2 : Int32) (x3 : Int32)  (y : Int32 × Hp), k6 sg x1 x2 x3 = some y → Go (d + 6) none 162 6 [(0, .ref 46), (1, .int x1), (2, .int x2), (3, .int x3)] [] sg (some (.int y.1)) y.2) (hk21 : ∀ (sg : Hp) (x1 : Int32) (x2 : Int32) (x3 : Int32) (x4 : Int32) (x5 : Int32) (x6 : Int32)  (y : Int32 × Hp), k21 sg x1 x2 x3 x4 x5 x6 = some y → Go (d + 6) none 162 21 [(0, .ref 46), (1, .int x1), (2, .int x2), (3, .int x3), (4, .int x4), (5, .int x5), (6, .int x6)] [] sg (some (.int y.1)) y.2) (sg : Hp) (x1 : Int32) (x2 : Int32) (x3 : Int32) (x4 : Int32) (x6 : Int32) (x7 : Int32)  (y : Int32 × Hp) (h : f_Mod_sitNow_52 k6 k21 sg x1 x2 x3 x4 x6 x7 = some y) : Go (d + 6) none 162 52 [(0, .ref 46), (1, .int x1), (2, .int x2), (3, .int x3), (4, .int x4), (6, .int x6), (7, .int x7)] [] sg (some (.int y.1)) y.2 := by
  unfold f_Mod_sitNow_52 at h
  refine G_iconst (0 : Int32) rfl (by decide) ?_
  exact Go.weak' (t_Mod_sitNow_53 d hk6 hk21 _ _ _ _ _ _ _ _  _ h) ⟨rfl, rfl, rfl, rfl, rfl, rfl, rfl, trivial⟩
set_option maxRecDepth 100000 in
set_option maxHeartbeats 4000000 in
theorem t_Mod_sitNow_21 (d : Nat) {k6 : Hp → Int32 → Int32 → Int32 → Option (Int32 × Hp)} (hk6 : ∀ (sg : Hp) (x1 : Int32) (x2 : Int32) (x3 : Int32)  (y : Int32 × Hp), k6 sg x1 x2 x3 = some y → Go (d + 6) none 162 6 [(0, .ref 46), (1, .int x1), (2, .int x2), (3, .int x3)] [] sg (some (.int y.1)) y.2) : ∀ (n : Nat) (sg : Hp) (x1 : Int32) (x2 : Int32) (x3 : Int32) (x4 : Int32) (x5 : Int32) (x6 : Int32)  (y : Int32 × Hp), f_Mod_sitNow_21 k6 n sg x1 x2 x3 x4 x5 x6 = some y → Go (d + 6) none 162 21 [(0, .ref 46), (1, .int x1), (2, .int x2), (3, .int x3), (4, .int x4), (5, .int x5), (6, .int x6)] [] sg (some (.int y.1)) y.2 := by
  intro n
  induction n with
  | zero =>
    intro sg x1 x2 x3 x4 x5 x6 y h
    rw [f_Mod_sitNow_21] at h
    cases h
  | succ n ih =>
    intro sg x1 x2 x3 x4 x5 x6 y h
    rw [f_Mod_sitNow_21] at h
    refine G_iload rfl rfl ?_
    refine G_iconst (8 : Int32) rfl (by decide) ?_
    refine G_ic_ge 70 rfl rfl (fun hc => ?_) (fun hc => ?_)
    · rw [if_pos hc] at h
      refine G_iload rfl rfl ?_
      refine G_if_eq 91 rfl rfl (fun hc => ?_) (fun hc => ?_)
      · rw [if_pos hc] at h
        exact Go.weak' (t_Mod_sitNow_91 d hk6 _ _ _ _  _ h) ⟨rfl, rfl, rfl, rfl, trivial⟩
      · rw [if_neg hc] at h
        refine G_iload rfl rfl ?_
        refine G_iconst (-1 : Int32) rfl (by decide) ?_
        refine G_ic_eq 86 rfl rfl (fun hc => ?_) (fun hc => ?_)
        · rw [if_pos hc] at h
          exact Go.weak' (t_Mod_sitNow_86 d hk6 _ _ _  _ h) ⟨rfl, rfl, rfl, trivial⟩
        · rw [if_neg hc] at h
          refine G_iload rfl rfl ?_
          refine G_iload rfl rfl ?_
          refine G_ic_ge 91 rfl rfl (fun hc => ?_) (fun hc => ?_)
          · rw [if_pos hc] at h
            exact Go.weak' (t_Mod_sitNow_91 d hk6 _ _ _ _  _ h) ⟨rfl, rfl, rfl, rfl, trivial⟩
          · rw [if_neg hc] at h
            exact Go.weak' (t_Mod_sitNow_86 d hk6 _ _ _  _ h) ⟨rfl, rfl, rfl, trivial⟩
    · rw [if_neg hc] at h
      refine G_aload rfl rfl ?_
      refine G_iload rfl rfl ?_
      refine G_iload rfl rfl ?_
      obtain ⟨y1, hy1, h⟩ := Option.bind_eq_some_iff.mp h
      refine G_callvI 3 (t_Mod_shortestOf _ _ _ _  _ hy1) rfl rfl rfl rfl rfl rfl rfl rfl rfl rfl rfl ?_
      refine G_istore rfl rfl ?_
      refine G_iload rfl rfl ?_
      refine G_if_eq 52 rfl rfl (fun hc => ?_) (fun hc => ?_)
      · rw [if_pos hc] at h
        exact Go.weak' (t_Mod_sitNow_52 d hk6 ih _ _ _ _ _ _ _  _ h) ⟨rfl, rfl, rfl, rfl, rfl, rfl, rfl, trivial⟩
      · rw [if_neg hc] at h
        refine G_iload rfl rfl ?_
        refine G_iconst (-1 : Int32) rfl (by decide) ?_
        refine G_ic_eq 52 rfl rfl (fun hc => ?_) (fun hc => ?_)
        · rw [if_pos hc] at h
          exact Go.weak' (t_Mod_sitNow_52 d hk6 ih _ _ _ _ _ _ _  _ h) ⟨rfl, rfl, rfl, rfl, rfl, rfl, rfl, trivial⟩
        · rw [if_neg hc] at h
          refine G_iconst (1 : Int32) rfl (by decide) ?_
          refine G_goto 53 rfl rfl ?_
          exact Go.weak' (t_Mod_sitNow_53 d hk6 ih _ _ _ _ _ _ _ _  _ h) ⟨rfl, rfl, rfl, rfl, rfl, rfl, rfl, trivial⟩
set_option maxRecDepth 100000 in
set_option maxHeartbeats 4000000 in
theorem t_Mod_sitNow_6 (d : Nat)   : ∀ (n : Nat) (sg : Hp) (x1 : Int32) (x2 : Int32) (x3 : Int32)  (y : Int32 × Hp), f_Mod_sitNow_6  n sg x1 x2 x3 = some y → Go (d + 6) none 162 6 [(0, .ref 46), (1, .int x1), (2, .int x2), (3, .int x3)] [] sg (some (.int y.1)) y.2 := by
  intro n
  induction n with
  | zero =>
    intro sg x1 x2 x3 y h
    rw [f_Mod_sitNow_6] at h
    cases h
  | succ n ih =>
    intro sg x1 x2 x3 y h
    rw [f_Mod_sitNow_6] at h
    refine G_iload rfl rfl ?_
    refine G_iconst (8 : Int32) rfl (by decide) ?_
    refine G_ic_ge 97 rfl rfl (fun hc => ?_) (fun hc => ?_)
    · rw [if_pos hc] at h
      refine G_iload rfl rfl ?_
      obtain rfl := Option.some.inj h
      exact G_iret rfl rfl
    · rw [if_neg hc] at h
      refine G_iconst (0 : Int32) rfl (by decide) ?_
      refine G_istore rfl rfl ?_
      refine G_iconst (1 : Int32) rfl (by decide) ?_
      refine G_istore rfl rfl ?_
      refine G_iconst (0 : Int32) rfl (by decide) ?_
      refine G_istore rfl rfl ?_
      exact Go.weak' (t_Mod_sitNow_21 d ih _ _ _ _ _ _ _ _  _ h) ⟨rfl, rfl, rfl, rfl, rfl, rfl, rfl, trivial⟩
set_option maxRecDepth 100000 in
set_option maxHeartbeats 4000000 in
theorem t_Mod_sitNow (d : Nat) (sg : Hp)   (y : Int32 × Hp) (h : f_Mod_sitNow sg  = some y) : Sm (d + 6) 162 [.ref 46] sg (some (.int y.1)) y.2 := by
  unfold f_Mod_sitNow at h
  refine Sm.of (lv := [(0, .ref 46)]) rfl ?_
  refine G_iconst (-1 : Int32) rfl (by decide) ?_
  refine G_istore rfl rfl ?_
  refine G_iconst (0 : Int32) rfl (by decide) ?_
  refine G_istore rfl rfl ?_
  refine G_iconst (0 : Int32) rfl (by decide) ?_
  refine G_istore rfl rfl ?_
  exact Go.weak' (t_Mod_sitNow_6 d  _ _ _ _ _  _ h) ⟨rfl, rfl, rfl, rfl, trivial⟩
set_option maxRecDepth 100000 in
set_option maxHeartbeats 4000000 in
theorem t_Mod_sit (d : Nat) (sg : Hp)   (y : Int32 × Hp) (h : f_Mod_sit sg  = some y) : Sm (d + 7) 161 [.ref 46] sg (some (.int y.1)) y.2 := by
  unfold f_Mod_sit at h
  refine Sm.of (lv := [(0, .ref 46)]) rfl ?_
  refine G_aload rfl rfl ?_
  obtain ⟨y1, hy1, h⟩ := Option.bind_eq_some_iff.mp h
  refine G_callvI 1 (t_Mod_sitNow _ _   _ hy1) rfl rfl rfl rfl rfl rfl rfl rfl rfl rfl rfl ?_
  obtain rfl := Option.some.inj h
  exact G_iret rfl rfl
set_option maxRecDepth 100000 in
set_option maxHeartbeats 4000000 in
theorem t_Box_nearer_100 (d : Nat) {k27 : Hp → Int32 → Int32 → Int32 → Int32 → Option (Int32 × Hp)} (hk27 : ∀ (sg : Hp) (x1 : Int32) (x2 : Int32) (x3 : Int32) (x4 : Int32)  (y : Int32 × Hp), k27 sg x1 x2 x3 x4 = some y → Go (d + 11) none 64 27 [(0, .ref 0), (1, .int x1), (2, .int x2), (3, .int x3), (4, .int x4)] [] sg (some (.int y.1)) y.2) (sg : Hp) (x1 : Int32) (x2 : Int32) (x3 : Int32) (x4 : Int32)  (y : Int32 × Hp) (h : f_Box_nearer_100 k27 sg x1 x2 x3 x4 = some y) : Go (d + 11) none 64 100 [(0, .ref 0), (1, .int x1), (2, .int x2), (3, .int x3), (4, .int x4)] [] sg (some (.int y.1)) y.2 := by
  unfold f_Box_nearer_100 at h
  refine G_iinc (1 : Int32) rfl (by decide) rfl rfl ?_
  refine G_goto 27 rfl rfl ?_
  exact Go.weak' (hk27 _ _ _ _ _  _ h) ⟨rfl, rfl, rfl, rfl, rfl, trivial⟩
set_option maxRecDepth 100000 in
set_option maxHeartbeats 4000000 in
theorem t_Box_nearer_93 (d : Nat) {k27 : Hp → Int32 → Int32 → Int32 → Int32 → Option (Int32 × Hp)} (hk27 : ∀ (sg : Hp) (x1 : Int32) (x2 : Int32) (x3 : Int32) (x4 : Int32)  (y : Int32 × Hp), k27 sg x1 x2 x3 x4 = some y → Go (d + 11) none 64 27 [(0, .ref 0), (1, .int x1), (2, .int x2), (3, .int x3), (4, .int x4)] [] sg (some (.int y.1)) y.2) (sg : Hp) (x1 : Int32) (x2 : Int32) (x3 : Int32) (x4 : Int32)  (y : Int32 × Hp) (h : f_Box_nearer_93 k27 sg x1 x2 x3 x4 = some y) : Go (d + 11) none 64 93 [(0, .ref 0), (1, .int x1), (2, .int x2), (3, .int x3), (4, .int x4)] [] sg (some (.int y.1)) y.2 := by
  unfold f_Box_nearer_93 at h
  refine G_iload rfl rfl ?_
  refine G_iconst (1 : Int32) rfl (by decide) ?_
  refine G_iload rfl rfl ?_
  refine G_ishl rfl ?_
  refine G_ior rfl ?_
  refine G_istore rfl rfl ?_
  exact Go.weak' (t_Box_nearer_100 d hk27 _ _ _ _ _  _ h) ⟨rfl, rfl, rfl, rfl, rfl, trivial⟩
set_option maxRecDepth 100000 in
set_option maxHeartbeats 4000000 in
theorem t_Box_nearer_27 (d : Nat)   : ∀ (n : Nat) (sg : Hp) (x1 : Int32) (x2 : Int32) (x3 : Int32) (x4 : Int32)  (y : Int32 × Hp), f_Box_nearer_27  n sg x1 x2 x3 x4 = some y → Go (d + 11) none 64 27 [(0, .ref 0), (1, .int x1), (2, .int x2), (3, .int x3), (4, .int x4)] [] sg (some (.int y.1)) y.2 := by
  intro n
  induction n with
  | zero =>
    intro sg x1 x2 x3 x4 y h
    rw [f_Box_nearer_27] at h
    cases h
  | succ n ih =>
    intro sg x1 x2 x3 x4 y h
    rw [f_Box_nearer_27] at h
    refine G_iload rfl rfl ?_
    refine G_iconst (8 : Int32) rfl (by decide) ?_
    refine G_ic_ge 106 rfl rfl (fun hc => ?_) (fun hc => ?_)
    · rw [if_pos hc] at h
      refine G_iload rfl rfl ?_
      obtain rfl := Option.some.inj h
      exact G_iret rfl rfl
    · rw [if_neg hc] at h
      refine G_aload rfl rfl ?_
      refine G_getR (ci := 9) 24 rfl rfl rfl rfl rfl ?_
      refine G_getR (ci := 7) 25 rfl rfl rfl rfl rfl ?_
      refine G_aload rfl rfl ?_
      refine G_getR (ci := 9) 24 rfl rfl rfl rfl rfl ?_
      refine G_iload rfl rfl ?_
      refine G_iload rfl rfl ?_
      obtain ⟨y3, hy3, h⟩ := Option.bind_eq_some_iff.mp h
      refine G_callvI 3 (t_Table_look _ _ _ _  _ hy3) rfl rfl rfl rfl rfl rfl rfl rfl rfl rfl rfl ?_
      obtain ⟨hg4, h⟩ := if_some h
      refine G_iald rfl rfl rfl hg4 ?_
      refine G_istore rfl rfl ?_
      refine G_aload rfl rfl ?_
      refine G_getR (ci := 9) 24 rfl rfl rfl rfl rfl ?_
      refine G_getR (ci := 7) 25 rfl rfl rfl rfl rfl ?_
      refine G_aload rfl rfl ?_
      refine G_getR (ci := 9) 24 rfl rfl rfl rfl rfl ?_
      refine G_iload rfl rfl ?_
      refine G_iload rfl rfl ?_
      obtain ⟨y5, hy5, h⟩ := Option.bind_eq_some_iff.mp h
      refine G_callvI 3 (t_Table_look _ _ _ _  _ hy5) rfl rfl rfl rfl rfl rfl rfl rfl rfl rfl rfl ?_
      obtain ⟨hg6, h⟩ := if_some h
      refine G_iald rfl rfl rfl hg6 ?_
      refine G_istore rfl rfl ?_
      refine G_iload rfl rfl ?_
      refine G_iconst (-1 : Int32) rfl (by decide) ?_
      refine G_ic_eq 100 rfl rfl (fun hc => ?_) (fun hc => ?_)
      · rw [if_pos hc] at h
        exact Go.weak' (t_Box_nearer_100 d ih _ _ _ _ _  _ h) ⟨rfl, rfl, rfl, rfl, rfl, trivial⟩
      · rw [if_neg hc] at h
        refine G_iload rfl rfl ?_
        refine G_iconst (-1 : Int32) rfl (by decide) ?_
        refine G_ic_eq 93 rfl rfl (fun hc => ?_) (fun hc => ?_)
        · rw [if_pos hc] at h
          exact Go.weak' (t_Box_nearer_93 d ih _ _ _ _ _  _ h) ⟨rfl, rfl, rfl, rfl, rfl, trivial⟩
        · rw [if_neg hc] at h
          refine G_iload rfl rfl ?_
          refine G_iload rfl rfl ?_
          refine G_ic_ge 100 rfl rfl (fun hc => ?_) (fun hc => ?_)
          · rw [if_pos hc] at h
            exact Go.weak' (t_Box_nearer_100 d ih _ _ _ _ _  _ h) ⟨rfl, rfl, rfl, rfl, rfl, trivial⟩
          · rw [if_neg hc] at h
            exact Go.weak' (t_Box_nearer_93 d ih _ _ _ _ _  _ h) ⟨rfl, rfl, rfl, rfl, rfl, trivial⟩
set_option maxRecDepth 100000 in
set_option maxHeartbeats 4000000 in
theorem t_Box_nearer (d : Nat) (sg : Hp) (x1 : Int32) (x2 : Int32)  (y : Int32 × Hp) (h : f_Box_nearer sg x1 x2 = some y) : Sm (d + 11) 64 [.ref 0, .int x1, .int x2] sg (some (.int y.1)) y.2 := by
  unfold f_Box_nearer at h
  refine Sm.of (lv := [(0, .ref 0), (1, .int x1), (2, .int x2)]) rfl ?_
  refine G_iload rfl rfl ?_
  obtain ⟨y1, hy1, h⟩ := Option.bind_eq_some_iff.mp h
  refine G_callsI 1 (t_Box_isPlace _ _ _  _ hy1) rfl rfl rfl rfl rfl rfl rfl rfl rfl ?_
  refine G_if_eq 19 rfl rfl (fun hc => ?_) (fun hc => ?_)
  · rw [if_pos hc] at h
    refine G_iconst (-2 : Int32) rfl (by decide) ?_
    obtain rfl := Option.some.inj h
    exact G_iret rfl rfl
  · rw [if_neg hc] at h
    refine G_iload rfl rfl ?_
    obtain ⟨y2, hy2, h⟩ := Option.bind_eq_some_iff.mp h
    refine G_callsI 1 (t_Box_isPlace _ _ _  _ hy2) rfl rfl rfl rfl rfl rfl rfl rfl rfl ?_
    refine G_if_eq 19 rfl rfl (fun hc => ?_) (fun hc => ?_)
    · rw [if_pos hc] at h
      refine G_iconst (-2 : Int32) rfl (by decide) ?_
      obtain rfl := Option.some.inj h
      exact G_iret rfl rfl
    · rw [if_neg hc] at h
      refine G_iload rfl rfl ?_
      refine G_iload rfl rfl ?_
      refine G_ic_ne 22 rfl rfl (fun hc => ?_) (fun hc => ?_)
      · rw [if_neg hc] at h
        refine G_iconst (0 : Int32) rfl (by decide) ?_
        refine G_istore rfl rfl ?_
        refine G_iconst (0 : Int32) rfl (by decide) ?_
        refine G_istore rfl rfl ?_
        exact Go.weak' (t_Box_nearer_27 d  _ _ _ _ _ _  _ h) ⟨rfl, rfl, rfl, rfl, rfl, trivial⟩
      · rw [if_pos hc] at h
        refine G_iconst (-2 : Int32) rfl (by decide) ?_
        obtain rfl := Option.some.inj h
        exact G_iret rfl rfl
set_option maxRecDepth 100000 in
set_option maxHeartbeats 4000000 in
theorem t_Mod_nearerOf_58 (d : Nat) {k5 : Hp → Int32 → Int32 → Int32 → Int32 → Option (Int32 × Hp)} (hk5 : ∀ (sg : Hp) (x1 : Int32) (x2 : Int32) (x3 : Int32) (x4 : Int32)  (y : Int32 × Hp), k5 sg x1 x2 x3 x4 = some y → Go (d + 6) none 164 5 [(0, .ref 46), (1, .int x1), (2, .int x2), (3, .int x3), (4, .int x4)] [] sg (some (.int y.1)) y.2) (sg : Hp) (x1 : Int32) (x2 : Int32) (x4 : Int32) (xs0 : Int32) (xs1 : Int32)  (y : Int32 × Hp) (h : f_Mod_nearerOf_58 k5 sg x1 x2 x4 xs0 xs1 = some y) : Go (d + 6) none 164 58 [(0, .ref 46), (1, .int x1), (2, .int x2), (4, .int x4)] [.int xs1, .int xs0] sg (some (.int y.1)) y.2 := by
  unfold f_Mod_nearerOf_58 at h
  refine G_ior rfl ?_
  refine G_istore rfl rfl ?_
  refine G_iinc (1 : Int32) rfl (by decide) rfl rfl ?_
  refine G_goto 5 rfl rfl ?_
  exact Go.weak' (hk5 _ _ _ _ _  _ h) ⟨rfl, rfl, rfl, rfl, rfl, trivial⟩
set_option maxRecDepth 100000 in
set_option maxHeartbeats 4000000 in
theorem t_Mod_nearerOf_57 (d : Nat) {k5 : Hp → Int32 → Int32 → Int32 → Int32 → Option (Int32 × Hp)} (hk5 : ∀ (sg : Hp) (x1 : Int32) (x2 : Int32) (x3 : Int32) (x4 : Int32)  (y : Int32 × Hp), k5 sg x1 x2 x3 x4 = some y → Go (d + 6) none 164 5 [(0, .ref 46), (1, .int x1), (2, .int x2), (3, .int x3), (4, .int x4)] [] sg (some (.int y.1)) y.2) (sg : Hp) (x1 : Int32) (x2 : Int32) (x4 : Int32) (xs0 : Int32)  (y : Int32 × Hp) (h : f_Mod_nearerOf_57 k5 sg x1 x2 x4 xs0 = some y) : Go (d + 6) none 164 57 [(0, .ref 46), (1, .int x1), (2, .int x2), (4, .int x4)] [.int xs0] sg (some (.int y.1)) y.2 := by
  unfold f_Mod_nearerOf_57 at h
  refine G_iconst (0 : Int32) rfl (by decide) ?_
  exact Go.weak' (t_Mod_nearerOf_58 d hk5 _ _ _ _ _ _  _ h) ⟨rfl, rfl, rfl, rfl, trivial⟩
set_option maxRecDepth 100000 in
set_option maxHeartbeats 4000000 in
theorem t_Mod_nearerOf_50 (d : Nat) {k5 : Hp → Int32 → Int32 → Int32 → Int32 → Option (Int32 × Hp)} (hk5 : ∀ (sg : Hp) (x1 : Int32) (x2 : Int32) (x3 : Int32) (x4 : Int32)  (y : Int32 × Hp), k5 sg x1 x2 x3 x4 = some y → Go (d + 6) none 164 5 [(0, .ref 46), (1, .int x1), (2, .int x2), (3, .int x3), (4, .int x4)] [] sg (some (.int y.1)) y.2) (sg : Hp) (x1 : Int32) (x2 : Int32) (x4 : Int32) (xs0 : Int32)  (y : Int32 × Hp) (h : f_Mod_nearerOf_50 k5 sg x1 x2 x4 xs0 = some y) : Go (d + 6) none 164 50 [(0, .ref 46), (1, .int x1), (2, .int x2), (4, .int x4)] [.int xs0] sg (some (.int y.1)) y.2 := by
  unfold f_Mod_nearerOf_50 at h
  refine G_iconst (1 : Int32) rfl (by decide) ?_
  refine G_iload rfl rfl ?_
  refine G_ishl rfl ?_
  refine G_goto 58 rfl rfl ?_
  exact Go.weak' (t_Mod_nearerOf_58 d hk5 _ _ _ _ _ _  _ h) ⟨rfl, rfl, rfl, rfl, trivial⟩
set_option maxRecDepth 100000 in
set_option maxHeartbeats 4000000 in
theorem t_Mod_nearerOf_5 (d : Nat)   : ∀ (n : Nat) (sg : Hp) (x1 : Int32) (x2 : Int32) (x3 : Int32) (x4 : Int32)  (y : Int32 × Hp), f_Mod_nearerOf_5  n sg x1 x2 x3 x4 = some y → Go (d + 6) none 164 5 [(0, .ref 46), (1, .int x1), (2, .int x2), (3, .int x3), (4, .int x4)] [] sg (some (.int y.1)) y.2 := by
  intro n
  induction n with
  | zero =>
    intro sg x1 x2 x3 x4 y h
    rw [f_Mod_nearerOf_5] at h
    cases h
  | succ n ih =>
    intro sg x1 x2 x3 x4 y h
    rw [f_Mod_nearerOf_5] at h
    refine G_iload rfl rfl ?_
    refine G_iconst (8 : Int32) rfl (by decide) ?_
    refine G_ic_ge 66 rfl rfl (fun hc => ?_) (fun hc => ?_)
    · rw [if_pos hc] at h
      refine G_iload rfl rfl ?_
      obtain rfl := Option.some.inj h
      exact G_iret rfl rfl
    · rw [if_neg hc] at h
      refine G_aload rfl rfl ?_
      refine G_iload rfl rfl ?_
      refine G_iload rfl rfl ?_
      obtain ⟨y1, hy1, h⟩ := Option.bind_eq_some_iff.mp h
      refine G_callvI 3 (t_Mod_shortestOf _ _ _ _  _ hy1) rfl rfl rfl rfl rfl rfl rfl rfl rfl rfl rfl ?_
      refine G_istore rfl rfl ?_
      refine G_aload rfl rfl ?_
      refine G_iload rfl rfl ?_
      refine G_iload rfl rfl ?_
      obtain ⟨y2, hy2, h⟩ := Option.bind_eq_some_iff.mp h
      refine G_callvI 3 (t_Mod_shortestOf _ _ _ _  _ hy2) rfl rfl rfl rfl rfl rfl rfl rfl rfl rfl rfl ?_
      refine G_istore rfl rfl ?_
      refine G_iload rfl rfl ?_
      refine G_iload rfl rfl ?_
      refine G_iconst (-1 : Int32) rfl (by decide) ?_
      refine G_ic_eq 57 rfl rfl (fun hc => ?_) (fun hc => ?_)
      · rw [if_pos hc] at h
        exact Go.weak' (t_Mod_nearerOf_57 d ih _ _ _ _ _  _ h) ⟨rfl, rfl, rfl, rfl, trivial⟩
      · rw [if_neg hc] at h
        refine G_iload rfl rfl ?_
        refine G_iconst (-1 : Int32) rfl (by decide) ?_
        refine G_ic_eq 50 rfl rfl (fun hc => ?_) (fun hc => ?_)
        · rw [if_pos hc] at h
          exact Go.weak' (t_Mod_nearerOf_50 d ih _ _ _ _ _  _ h) ⟨rfl, rfl, rfl, rfl, trivial⟩
        · rw [if_neg hc] at h
          refine G_iload rfl rfl ?_
          refine G_iload rfl rfl ?_
          refine G_ic_ge 57 rfl rfl (fun hc => ?_) (fun hc => ?_)
          · rw [if_pos hc] at h
            exact Go.weak' (t_Mod_nearerOf_57 d ih _ _ _ _ _  _ h) ⟨rfl, rfl, rfl, rfl, trivial⟩
          · rw [if_neg hc] at h
            exact Go.weak' (t_Mod_nearerOf_50 d ih _ _ _ _ _  _ h) ⟨rfl, rfl, rfl, rfl, trivial⟩
set_option maxRecDepth 100000 in
set_option maxHeartbeats 4000000 in
theorem t_Mod_nearerOf (d : Nat) (sg : Hp) (x1 : Int32) (x2 : Int32)  (y : Int32 × Hp) (h : f_Mod_nearerOf sg x1 x2 = some y) : Sm (d + 6) 164 [.ref 46, .int x1, .int x2] sg (some (.int y.1)) y.2 := by
  unfold f_Mod_nearerOf at h
  refine Sm.of (lv := [(0, .ref 46), (1, .int x1), (2, .int x2)]) rfl ?_
  refine G_iconst (0 : Int32) rfl (by decide) ?_
  refine G_istore rfl rfl ?_
  refine G_iconst (0 : Int32) rfl (by decide) ?_
  refine G_istore rfl rfl ?_
  exact Go.weak' (t_Mod_nearerOf_5 d  _ _ _ _ _ _  _ h) ⟨rfl, rfl, rfl, rfl, rfl, trivial⟩
set_option maxRecDepth 100000 in
set_option maxHeartbeats 4000000 in
theorem t_Mod_nearer (d : Nat) (sg : Hp) (x1 : Int32) (x2 : Int32)  (y : Int32 × Hp) (h : f_Mod_nearer sg x1 x2 = some y) : Sm (d + 7) 163 [.ref 46, .int x1, .int x2] sg (some (.int y.1)) y.2 := by
  unfold f_Mod_nearer at h
  refine Sm.of (lv := [(0, .ref 46), (1, .int x1), (2, .int x2)]) rfl ?_
  refine G_iload rfl rfl ?_
  obtain ⟨y1, hy1, h⟩ := Option.bind_eq_some_iff.mp h
  refine G_callsI 1 (t_Mod_isPlace _ _ _  _ hy1) rfl rfl rfl rfl rfl rfl rfl rfl rfl ?_
  refine G_if_eq 28 rfl rfl (fun hc => ?_) (fun hc => ?_)
  · rw [if_pos hc] at h
    refine G_iconst (-2 : Int32) rfl (by decide) ?_
    obtain rfl := Option.some.inj h
    exact G_iret rfl rfl
  · rw [if_neg hc] at h
    refine G_iload rfl rfl ?_
    obtain ⟨y2, hy2, h⟩ := Option.bind_eq_some_iff.mp h
    refine G_callsI 1 (t_Mod_isPlace _ _ _  _ hy2) rfl rfl rfl rfl rfl rfl rfl rfl rfl ?_
    refine G_if_eq 28 rfl rfl (fun hc => ?_) (fun hc => ?_)
    · rw [if_pos hc] at h
      refine G_iconst (-2 : Int32) rfl (by decide) ?_
      obtain rfl := Option.some.inj h
      exact G_iret rfl rfl
    · rw [if_neg hc] at h
      refine G_iload rfl rfl ?_
      refine G_iload rfl rfl ?_
      refine G_ic_eq 28 rfl rfl (fun hc => ?_) (fun hc => ?_)
      · rw [if_pos hc] at h
        refine G_iconst (-2 : Int32) rfl (by decide) ?_
        obtain rfl := Option.some.inj h
        exact G_iret rfl rfl
      · rw [if_neg hc] at h
        refine G_aload rfl rfl ?_
        refine G_iload rfl rfl ?_
        refine G_iload rfl rfl ?_
        obtain ⟨y3, hy3, h⟩ := Option.bind_eq_some_iff.mp h
        refine G_callvI 3 (t_Mod_nearerOf _ _ _ _  _ hy3) rfl rfl rfl rfl rfl rfl rfl rfl rfl rfl rfl ?_
        refine G_goto 30 rfl rfl ?_
        obtain rfl := Option.some.inj h
        exact G_iret rfl rfl
set_option maxRecDepth 100000 in
set_option maxHeartbeats 4000000 in
theorem t_Wiring_clear_12 (d : Nat)   : ∀ (n : Nat) (sg : Hp) (x1 : Int32)  (y : Hp), f_Wiring_clear_12  n sg x1 = some y → Go (d + 0) none 66 12 [(0, .ref 29), (1, .int x1)] [] sg none y := by
  intro n
  induction n with
  | zero =>
    intro sg x1 y h
    rw [f_Wiring_clear_12] at h
    cases h
  | succ n ih =>
    intro sg x1 y h
    rw [f_Wiring_clear_12] at h
    refine G_iload rfl rfl ?_
    refine G_iconst (8 : Int32) rfl (by decide) ?_
    refine G_ic_ge 31 rfl rfl (fun hc => ?_) (fun hc => ?_)
    · rw [if_pos hc] at h
      obtain rfl := Option.some.inj h
      exact G_vret rfl rfl
    · rw [if_neg hc] at h
      refine G_aload rfl rfl ?_
      refine G_getR (ci := 8) 30 rfl rfl rfl rfl rfl ?_
      refine G_iload rfl rfl ?_
      refine G_iload rfl rfl ?_
      obtain ⟨hg3, h⟩ := if_some h
      obtain ⟨s4, hs4, h⟩ := Option.bind_eq_some_iff.mp h
      refine G_iast rfl rfl rfl hg3 (Option.some.inj hs4) ?_
      refine G_iinc (1 : Int32) rfl (by decide) rfl rfl ?_
      refine G_goto 12 rfl rfl ?_
      exact Go.weak' (ih _ _  _ h) ⟨rfl, rfl, trivial⟩
set_option maxRecDepth 100000 in
set_option maxHeartbeats 4000000 in
theorem t_Wiring_clear (d : Nat) (sg : Hp)   (y : Hp) (h : f_Wiring_clear sg  = some y) : Sm (d + 0) 66 [.ref 29] sg none y := by
  unfold f_Wiring_clear at h
  refine Sm.of (lv := [(0, .ref 29)]) rfl ?_
  refine G_aload rfl rfl ?_
  refine G_iconst (0 : Int32) rfl (by decide) ?_
  obtain ⟨s1, hs1, h⟩ := Option.bind_eq_some_iff.mp h
  refine G_putI (ci := 8) 2 rfl rfl rfl rfl rfl (Option.some.inj hs1) ?_
  refine G_aload rfl rfl ?_
  refine G_iconst (0 : Int32) rfl (by decide) ?_
  obtain ⟨s2, hs2, h⟩ := Option.bind_eq_some_iff.mp h
  refine G_putI (ci := 8) 3 rfl rfl rfl rfl rfl (Option.some.inj hs2) ?_
  refine G_iconst (0 : Int32) rfl (by decide) ?_
  refine G_istore rfl rfl ?_
  exact Go.weak' (t_Wiring_clear_12 d  _ _ _  _ h) ⟨rfl, rfl, trivial⟩
set_option maxRecDepth 100000 in
set_option maxHeartbeats 4000000 in
theorem t_Wiring_isOpen_35 (d : Nat)   (sg : Hp) (x3 : Int32) (x4 : Int32) (xs0 : Int32)  (y : Int32 × Hp) (h : f_Wiring_isOpen_35  sg x3 x4 xs0 = some y) : Go (d + 0) none 68 35 [(0, .ref 29), (3, .int x3), (4, .int x4)] [.int xs0] sg (some (.int y.1)) y.2 := by
  unfold f_Wiring_isOpen_35 at h
  refine G_istore rfl rfl ?_
  refine G_iload rfl rfl ?_
  refine G_iload rfl rfl ?_
  refine G_ic_ge 68 rfl rfl (fun hc => ?_) (fun hc => ?_)
  · rw [if_pos hc] at h
    refine G_iconst (0 : Int32) rfl (by decide) ?_
    obtain rfl := Option.some.inj h
    exact G_iret rfl rfl
  · rw [if_neg hc] at h
    refine G_iload rfl rfl ?_
    refine G_if_eq 68 rfl rfl (fun hc => ?_) (fun hc => ?_)
    · rw [if_pos hc] at h
      refine G_iconst (0 : Int32) rfl (by decide) ?_
      obtain rfl := Option.some.inj h
      exact G_iret rfl rfl
    · rw [if_neg hc] at h
      refine G_aload rfl rfl ?_
      refine G_getR (ci := 8) 30 rfl rfl rfl rfl rfl ?_
      refine G_iload rfl rfl ?_
      obtain ⟨hg1, h⟩ := if_some h
      refine G_iald rfl rfl rfl hg1 ?_
      refine G_aload rfl rfl ?_
      refine G_getR (ci := 8) 30 rfl rfl rfl rfl rfl ?_
      refine G_iload rfl rfl ?_
      obtain ⟨hg2, h⟩ := if_some h
      refine G_iald rfl rfl rfl hg2 ?_
      refine G_ic_eq 68 rfl rfl (fun hc => ?_) (fun hc => ?_)
      · rw [if_pos hc] at h
        refine G_iconst (0 : Int32) rfl (by decide) ?_
        obtain rfl := Option.some.inj h
        exact G_iret rfl rfl
      · rw [if_neg hc] at h
        refine G_iconst (1 : Int32) rfl (by decide) ?_
        refine G_goto 69 rfl rfl ?_
        obtain rfl := Option.some.inj h
        exact G_iret rfl rfl
set_option maxRecDepth 100000 in
set_option maxHeartbeats 4000000 in
theorem t_Wiring_isOpen_34 (d : Nat)   (sg : Hp) (x3 : Int32) (x4 : Int32)  (y : Int32 × Hp) (h : f_Wiring_isOpen_34  sg x3 x4 = some y) : Go (d + 0) none 68 34 [(0, .ref 29), (3, .int x3), (4, .int x4)] [] sg (some (.int y.1)) y.2 := by
  unfold f_Wiring_isOpen_34 at h
  refine G_iconst (0 : Int32) rfl (by decide) ?_
  exact Go.weak' (t_Wiring_isOpen_35 d  _ _ _ _  _ h) ⟨rfl, rfl, rfl, trivial⟩
set_option maxRecDepth 100000 in
set_option maxHeartbeats 4000000 in
theorem t_Wiring_isOpen (d : Nat) (sg : Hp) (x1 : Int32) (x2 : Int32)  (y : Int32 × Hp) (h : f_Wiring_isOpen sg x1 x2 = some y) : Sm (d + 0) 68 [.ref 29, .int x1, .int x2] sg (some (.int y.1)) y.2 := by
  unfold f_Wiring_isOpen at h
  refine Sm.of (lv := [(0, .ref 29), (1, .int x1), (2, .int x2)]) rfl ?_
  refine G_iload rfl rfl ?_
  refine G_iconst (8 : Int32) rfl (by decide) ?_
  refine G_idiv rfl (by decide) ?_
  refine G_istore rfl rfl ?_
  refine G_iload rfl rfl ?_
  refine G_iconst (8 : Int32) rfl (by decide) ?_
  refine G_irem rfl (by decide) ?_
  refine G_istore rfl rfl ?_
  refine G_iload rfl rfl ?_
  refine G_iload rfl rfl ?_
  refine G_ishr rfl ?_
  refine G_iconst (1 : Int32) rfl (by decide) ?_
  refine G_iand rfl ?_
  refine G_iconst (1 : Int32) rfl (by decide) ?_
  refine G_ic_ne 34 rfl rfl (fun hc => ?_) (fun hc => ?_)
  · rw [if_neg hc] at h
    exact Go.weak' (t_Wiring_isOpen_34 d  _ _ _  _ h) ⟨rfl, rfl, rfl, trivial⟩
  · rw [if_pos hc] at h
    refine G_iload rfl rfl ?_
    refine G_iload rfl rfl ?_
    refine G_ishr rfl ?_
    refine G_iconst (1 : Int32) rfl (by decide) ?_
    refine G_iand rfl ?_
    refine G_iconst (1 : Int32) rfl (by decide) ?_
    refine G_ic_ne 34 rfl rfl (fun hc => ?_) (fun hc => ?_)
    · rw [if_neg hc] at h
      exact Go.weak' (t_Wiring_isOpen_34 d  _ _ _  _ h) ⟨rfl, rfl, rfl, trivial⟩
    · rw [if_pos hc] at h
      refine G_iconst (1 : Int32) rfl (by decide) ?_
      refine G_goto 35 rfl rfl ?_
      exact Go.weak' (t_Wiring_isOpen_35 d  _ _ _ _  _ h) ⟨rfl, rfl, rfl, trivial⟩
set_option maxRecDepth 100000 in
set_option maxHeartbeats 4000000 in
theorem t_Wiring_unite_25 (d : Nat) {k2 : Hp → Int32 → Int32 → Int32 → Option (Hp)} (hk2 : ∀ (sg : Hp) (x1 : Int32) (x2 : Int32) (x3 : Int32)  (y : Hp), k2 sg x1 x2 x3 = some y → Go (d + 0) none 69 2 [(0, .ref 29), (1, .int x1), (2, .int x2), (3, .int x3)] [] sg none y) (sg : Hp) (x1 : Int32) (x2 : Int32) (x3 : Int32)  (y : Hp) (h : f_Wiring_unite_25 k2 sg x1 x2 x3 = some y) : Go (d + 0) none 69 25 [(0, .ref 29), (1, .int x1), (2, .int x2), (3, .int x3)] [] sg none y := by
  unfold f_Wiring_unite_25 at h
  refine G_iinc (1 : Int32) rfl (by decide) rfl rfl ?_
  refine G_goto 2 rfl rfl ?_
  exact Go.weak' (hk2 _ _ _ _  _ h) ⟨rfl, rfl, rfl, rfl, trivial⟩
set_option maxRecDepth 100000 in
set_option maxHeartbeats 4000000 in
theorem t_Wiring_unite_2 (d : Nat)   : ∀ (n : Nat) (sg : Hp) (x1 : Int32) (x2 : Int32) (x3 : Int32)  (y : Hp), f_Wiring_unite_2  n sg x1 x2 x3 = some y → Go (d + 0) none 69 2 [(0, .ref 29), (1, .int x1), (2, .int x2), (3, .int x3)] [] sg none y := by
  intro n
  induction n with
  | zero =>
    intro sg x1 x2 x3 y h
    rw [f_Wiring_unite_2] at h
    cases h
  | succ n ih =>
    intro sg x1 x2 x3 y h
    rw [f_Wiring_unite_2] at h
    refine G_iload rfl rfl ?_
    refine G_iconst (8 : Int32) rfl (by decide) ?_
    refine G_ic_ge 31 rfl rfl (fun hc => ?_) (fun hc => ?_)
    · rw [if_pos hc] at h
      obtain rfl := Option.some.inj h
      exact G_vret rfl rfl
    · rw [if_neg hc] at h
      refine G_aload rfl rfl ?_
      refine G_getR (ci := 8) 30 rfl rfl rfl rfl rfl ?_
      refine G_iload rfl rfl ?_
      obtain ⟨hg1, h⟩ := if_some h
      refine G_iald rfl rfl rfl hg1 ?_
      refine G_iload rfl rfl ?_
      refine G_ic_ne 25 rfl rfl (fun hc => ?_) (fun hc => ?_)
      · rw [if_neg hc] at h
        exact Go.weak' (t_Wiring_unite_25 d ih _ _ _ _  _ h) ⟨rfl, rfl, rfl, rfl, trivial⟩
      · rw [if_pos hc] at h
        refine G_aload rfl rfl ?_
        refine G_getR (ci := 8) 30 rfl rfl rfl rfl rfl ?_
        refine G_iload rfl rfl ?_
        refine G_iload rfl rfl ?_
        obtain ⟨hg2, h⟩ := if_some h
        obtain ⟨s3, hs3, h⟩ := Option.bind_eq_some_iff.mp h
        refine G_iast rfl rfl rfl hg2 (Option.some.inj hs3) ?_
        exact Go.weak' (t_Wiring_unite_25 d ih _ _ _ _  _ h) ⟨rfl, rfl, rfl, rfl, trivial⟩
set_option maxRecDepth 100000 in
set_option maxHeartbeats 4000000 in
theorem t_Wiring_unite (d : Nat) (sg : Hp) (x1 : Int32) (x2 : Int32)  (y : Hp) (h : f_Wiring_unite sg x1 x2 = some y) : Sm (d + 0) 69 [.ref 29, .int x1, .int x2] sg none y := by
  unfold f_Wiring_unite at h
  refine Sm.of (lv := [(0, .ref 29), (1, .int x1), (2, .int x2)]) rfl ?_
  refine G_iconst (0 : Int32) rfl (by decide) ?_
  refine G_istore rfl rfl ?_
  exact Go.weak' (t_Wiring_unite_2 d  _ _ _ _ _  _ h) ⟨rfl, rfl, rfl, rfl, trivial⟩
