theorem W.sz {p : Program} {l : Launch} {e : Env} {R : Room} {s : State} {m : MethodId} {args : Array Value} {below : List Frame} {meth : Method} {c : Code} {H : Heap} {locs : List Loc} {cells slots : Nat} {Q : State → Prop} {g : JFrame} (k : H.size ≤ s.heap.size + cells → W p l e R s m args below meth c H locs cells slots Q g) : W p l e R s m args below meth c H locs cells slots Q g := by
  intro T hT X
  have h1 : T.heap.size ≤ s.heap.size + cells := X.same.2.2.1
  exact k (by rw [← hT]; exact h1) T hT X
theorem cw_low {b base : Nat} {ca : Nat → ClassId} {D : va_G} {h : Nat → va_E} {sz : Nat} {H : Heap} (hz : sz ≤ 999999) (hP : va_P D vwCl (cw b base ca h sz) H) (hb : base ≤ H.size) : base + sz ≤ H.size := by
  cases sz with
  | zero => exact hb
  | succ n =>
    have h1 := (hP n _ (cw_get (Nat.lt_succ_self n))).lt
    dsimp only at h1
    rw [ad_lt (by omega)] at h1
    omega
theorem ckF_in {o x e : Nat} (h : ckF o x e = true) : (o, x, e / 100 % 100, e % 100) ∈ flk ∨ (o, x, e / 100 % 100, e % 100) ∈ nfl := by
  unfold ckF at h
  split at h
  · exact Or.inl (List.mem_of_getElem? (of_decide_eq_true h))
  · exact Or.inr (List.mem_of_getElem? (of_decide_eq_true h))
theorem ckF_nn {o x e : Nat} (h : ckF o x e = true) (h0 : e / 10000000 = 0) : (o, x, e / 100 % 100, e % 100) ∈ flk := by
  unfold ckF at h
  rw [if_pos h0] at h
  exact List.mem_of_getElem? (of_decide_eq_true h)
theorem fl_lt {o x ci k : Nat} (h : (o, x, ci, k) ∈ flk ∨ (o, x, ci, k) ∈ nfl) : ci < 11 ∧ k < fN ci := by
  rcases h with h | h
  · have h1 := List.all_eq_true.mp fl_ok _ h
    simpa only [Bool.and_eq_true, decide_eq_true_eq] using h1
  · have h1 := List.all_eq_true.mp nfl_ok _ h
    simpa only [Bool.and_eq_true, decide_eq_true_eq] using h1
theorem vok_ok {b base ci k : Nat} {v : Value} (hc : ci < 11) (hk : k < fN ci) (h : vok ci k v = true) : narrow (fty ci k) (cv b base v) = cv b base v ∧ fits (fty ci k) (cv b base v) = true := by
  have h1 := fI_ok ci hc k hk
  unfold vok at h
  split at h
  · rw [h, if_pos rfl] at h1
    unfold ftk at h1
    split at h1
    · rename_i he
      rw [he]
      exact ⟨rfl, rfl⟩
    · cases h1
  · have h2 : fI ci k = false := by simpa using h
    rw [h2] at h1
    simp only [Bool.false_eq_true, if_false] at h1
    unfold ftr at h1
    split at h1
    · rename_i he
      rw [he]
      exact ⟨rfl, rfl⟩
    · rename_i he
      rw [he]
      exact ⟨rfl, rfl⟩
    · cases h1
  · cases h
theorem inb_n {n : Int32} (h : inb n 100000 = true) : ¬ n < 0 ∧ n.toNatClampNeg * 4 ≤ 536870912 := by
  have h1 := vp_in_iff.mp (inb_in h)
  have h3 := inb_in h
  refine ⟨fun q => h3 (Or.inl q), ?_⟩
  have h2 : n.toNatClampNeg = n.toInt.toNat := rfl
  omega
/-- the number of a new cell -/
theorem new_at {b base : Nat} {ca : Nat → ClassId} {D : va_G} {h : Nat → va_E} {sz q n : Nat} {e : va_E} {H : Heap} (hz : sz < 999999) (hP : va_P D vwCl (cw b base ca h sz ++ [(q, e)]) H) (hD : va_D (fun q : Nat => base ≤ q) (cw b base ca h sz ++ [(q, e)])) (hn : H.size ≤ n) (he : n = base + sz + 1) : q = ad b base sz := by
  have e1 : (cw b base ca h sz ++ [(q, e)])[sz]? = some (q, e) := by
    rw [List.getElem?_append_right (by rw [cw_len]; exact Nat.le_refl _), cw_len, Nat.sub_self]
    rfl
  have h1 := (hP sz _ e1).lt
  have h2 := hD.2 sz _ e1
  dsimp only at h1 h2
  rw [ad_lt hz]
  by_cases hq : q = base + sz
  · exact hq
  · exfalso
    have hi : q - base < sz := by omega
    have e2 : (cw b base ca h sz ++ [(q, e)])[q - base]? = some (ad b base (q - base), ce b base ca (h (q - base))) := by
      rw [List.getElem?_append_left (by rw [cw_len]; exact hi), cw_get hi]
    have h3 := hD.1 (q - base) sz _ _ e2 e1 (by dsimp only; rw [ad_lt (by omega)]; omega)
    omega
theorem dfl_cv (b base ci : Nat) (h : ci < 11) : (dfl ci).map (cv b base) = dfl ci := by
  match ci, h with
  | 0, _ => rfl
  | 1, _ => rfl
  | 2, _ => rfl
  | 3, _ => rfl
  | 4, _ => rfl
  | 5, _ => rfl
  | 6, _ => rfl
  | 7, _ => rfl
  | 8, _ => rfl
  | 9, _ => rfl
  | 10, _ => rfl
set_option maxHeartbeats 8000000 in
set_option maxRecDepth 100000 in
theorem stp_sim {p : Program} {l : Launch} {e : Env} {R : Room} {s : State} {m : MethodId} {args : Array Value} {below : List Frame} {meth : Method} {c : Code} {Q : State → Prop} {k b base : Nat} {ca : Nat → ClassId} {D : va_G} {scr : Option (Nat × (Nat → Int32))} (C : Cx p s m args meth c k b base ca D scr)
    {pc np : Nat} {i : Instr} (hck : ckE k (pc, i, np) = true) {ls ls' : LSt} {st st' : List Value} {h h' : HS} (hs : stp scr i (ML k) ls st h = some (ls', st', h')) {H : Heap} {locs : List Loc} {lsA : Array Slot} {cells slots : Nat} (hW : Wd b base ca D h H) (hS : va_S (fun q : Nat => base ≤ q) s.heap H locs) (hl : lv_has lsA (ML k) (cl b base ls)) (hce : s.heap.size + cells = base + h.2.1) (hcells : cells + (h'.2.1 - h.2.1) ≤ R.cells) (hslots : slots + (h'.2.2 - h.2.2) ≤ R.slots)
    (kk : ∀ (H' : Heap) (locs' : List Loc) (lsA' : Array Slot) (cells' slots' : Nat), cells' = cells + (h'.2.1 - h.2.1) → slots' = slots + (h'.2.2 - h.2.2) → Wd b base ca D h' H' → va_S (fun q : Nat => base ≤ q) s.heap H' locs' → lv_has lsA' (ML k) (cl b base ls') → W p l e R s m args below meth c H' locs' cells' slots' Q (F0 m np lsA' (st'.map (cv b base)))) :
    W p l e R s m args below meth c H locs cells slots Q (F0 m pc lsA (st.map (cv b base))) := by
  obtain ⟨hx, hb, hml, hown, hts, hN, hK, hin, hbs, hscr⟩ := C
  obtain ⟨hz9, hP⟩ := id hW
  have hD : va_D (fun q : Nat => base ≤ q) (cw b base ca h.1 h.2.1) := cw_D hz9
  have hA : ∀ q : Nat, s.heap.size ≤ q → base ≤ q := fun q hq => Nat.le_trans hbs hq
  unfold ckE at hck
  dsimp only at hck
  split at hck
  case h_2 => cases hck
  case h_1 o len hd =>
  simp only [Bool.and_eq_true, decide_eq_true_eq] at hck
  obtain ⟨⟨hnp, hlen⟩, hc⟩ := hck
  subst hnp
  unfold chk at hc
  split at hc
  · have hlen2 : len = 1 := of_decide_eq_true hlen
    subst hlen2
    simp only [stp] at hs
    cases hs
    obtain rfl := of_decide_eq_true hc
    exact lv_iconst hx hb hd rfl (kk H locs lsA cells slots (by omega) (by omega) hW hS hl)
  · have hlen2 : len = 2 := of_decide_eq_true hlen
    subst hlen2
    simp only [stp] at hs
    cases hs
    exact lv_bipush hx hb hd (of_decide_eq_true hc) (kk H locs lsA cells slots (by omega) (by omega) hW hS hl)
  · have hlen2 : len = 3 := of_decide_eq_true hlen
    subst hlen2
    simp only [stp] at hs
    cases hs
    exact lv_sipush hx hb hd (of_decide_eq_true hc) (kk H locs lsA cells slots (by omega) (by omega) hW hS hl)
  · have hlen2 : len = 1 := of_decide_eq_true hlen
    subst hlen2
    simp only [stp] at hs
    cases hs
    obtain rfl := of_decide_eq_true hc
    exact lv_lconst hx hb hd rfl (kk H locs lsA cells slots (by omega) (by omega) hW hS hl)
  · have hlen2 : len = 2 := of_decide_eq_true hlen
    subst hlen2
    rename_i x j
    simp only [stp] at hs
    cases hs
    have hj := of_decide_eq_true hc
    cases hq : kcI[j]? with
    | none => rw [hq] at hj; cases hj
    | some q =>
      rw [hq] at hj
      have h1 := Option.some.inj hj
      have h2 : q.1 = mC.getD k 99 := congrArg Prod.fst h1
      have h3 : q.2.1 = x := congrArg Prod.snd h1
      have h4 : kIv j = q.2.2 := by unfold kIv; rw [List.getD_eq_getElem?_getD, hq]; rfl
      have h5 := hts _ (kcI_in (List.mem_of_getElem? hq))
      rw [h2, h3] at h5
      have kk2 := kk H locs lsA cells slots (by omega) (by omega) hW hS hl
      rw [h4] at kk2
      exact lv_ldc hx hb hown h5 hd kk2
  · have hlen2 : len = 3 := of_decide_eq_true hlen
    subst hlen2
    rename_i x j
    simp only [stp] at hs
    cases hs
    have hj := of_decide_eq_true hc
    cases hq : kcI[j]? with
    | none => rw [hq] at hj; cases hj
    | some q =>
      rw [hq] at hj
      have h1 := Option.some.inj hj
      have h2 : q.1 = mC.getD k 99 := congrArg Prod.fst h1
      have h3 : q.2.1 = x := congrArg Prod.snd h1
      have h4 : kIv j = q.2.2 := by unfold kIv; rw [List.getD_eq_getElem?_getD, hq]; rfl
      have h5 := hts _ (kcI_in (List.mem_of_getElem? hq))
      rw [h2, h3] at h5
      have kk2 := kk H locs lsA cells slots (by omega) (by omega) hW hS hl
      rw [h4] at kk2
      exact lv_ldcw hx hb hown h5 hd kk2
  · have hlen2 : len = 3 := of_decide_eq_true hlen
    subst hlen2
    rename_i x j
    simp only [stp] at hs
    cases hs
    have hj := of_decide_eq_true hc
    cases hq : kcL[j]? with
    | none => rw [hq] at hj; cases hj
    | some q =>
      rw [hq] at hj
      have h1 := Option.some.inj hj
      have h2 : q.1 = mC.getD k 99 := congrArg Prod.fst h1
      have h3 : q.2.1 = x := congrArg Prod.snd h1
      have h4 : kLv j = q.2.2 := by unfold kLv; rw [List.getD_eq_getElem?_getD, hq]; rfl
      have h5 := hts _ (kcL_in (List.mem_of_getElem? hq))
      rw [h2, h3] at h5
      have kk2 := kk H locs lsA cells slots (by omega) (by omega) hW hS hl
      rw [h4] at kk2
      exact lv_ldc2 hx hb hown h5 hd kk2
  · have hlen2 : len = 2 := of_decide_eq_true hlen
    subst hlen2
    simp only [stp] at hs
    obtain rfl := of_decide_eq_true hc
    split at hs
    case h_2 => cases hs
    case h_1 v hg =>
      cases hs
      exact lv_iload hx hb hd (hl.2.2 _ (cl_get hg)) (kk H locs lsA cells slots (by omega) (by omega) hW hS hl)
  · have hlen2 : len = 1 := of_decide_eq_true hlen
    subst hlen2
    simp only [stp] at hs
    obtain rfl := of_decide_eq_true hc
    split at hs
    case h_2 => cases hs
    case h_1 v hg =>
      cases hs
      exact lv_iload_n hx hb hd rfl (hl.2.2 _ (cl_get hg)) (kk H locs lsA cells slots (by omega) (by omega) hW hS hl)
  · have hlen2 : len = 2 := of_decide_eq_true hlen
    subst hlen2
    simp only [stp] at hs
    obtain rfl := of_decide_eq_true hc
    split at hs
    case h_2 => cases hs
    case h_1 v hg =>
      cases hs
      exact lv_lload hx hb hd (hl.2.2 _ (cl_get hg)) (kk H locs lsA cells slots (by omega) (by omega) hW hS hl)
  · have hlen2 : len = 1 := of_decide_eq_true hlen
    subst hlen2
    simp only [stp] at hs
    obtain rfl := of_decide_eq_true hc
    split at hs
    case h_2 => cases hs
    case h_1 v hg =>
      cases hs
      exact lv_lload_n hx hb hd rfl (hl.2.2 _ (cl_get hg)) (kk H locs lsA cells slots (by omega) (by omega) hW hS hl)
  · have hlen2 : len = 2 := of_decide_eq_true hlen
    subst hlen2
    simp only [stp] at hs
    obtain rfl := of_decide_eq_true hc
    split at hs
    case h_2 => cases hs
    case h_1 v hg =>
      cases hs
      exact lv_aload hx hb hd (hl.2.2 _ (cl_get hg)) (kk H locs lsA cells slots (by omega) (by omega) hW hS hl)
  · have hlen2 : len = 1 := of_decide_eq_true hlen
    subst hlen2
    simp only [stp] at hs
    obtain rfl := of_decide_eq_true hc
    split at hs
    case h_2 => cases hs
    case h_1 v hg =>
      cases hs
      exact lv_aload_n hx hb hd rfl (hl.2.2 _ (cl_get hg)) (kk H locs lsA cells slots (by omega) (by omega) hW hS hl)
  · have hlen2 : len = 2 := of_decide_eq_true hlen
    subst hlen2
    simp only [stp] at hs
    obtain rfl := of_decide_eq_true hc
    split at hs
    case h_2 => cases hs
    case h_1 v st2 =>
      split at hs
      case isFalse => cases hs
      case isTrue hk =>
        cases hs
        exact lv_istore hx hb hd hl hk (cl_put1 b base ls _ (.int v)) (fun ls2 hl2 => kk H locs ls2 cells slots (by omega) (by omega) hW hS hl2)
  · have hlen2 : len = 1 := of_decide_eq_true hlen
    subst hlen2
    simp only [stp] at hs
    obtain rfl := of_decide_eq_true hc
    split at hs
    case h_2 => cases hs
    case h_1 v st2 =>
      split at hs
      case isFalse => cases hs
      case isTrue hk =>
        cases hs
        exact lv_istore_n hx hb hd rfl hl hk (cl_put1 b base ls _ (.int v)) (fun ls2 hl2 => kk H locs ls2 cells slots (by omega) (by omega) hW hS hl2)
  · have hlen2 : len = 2 := of_decide_eq_true hlen
    subst hlen2
    simp only [stp] at hs
    obtain rfl := of_decide_eq_true hc
    split at hs
    case h_2 => cases hs
    case h_1 v st2 =>
      split at hs
      case isFalse => cases hs
      case isTrue hk =>
        cases hs
        exact lv_lstore hx hb hd hl hk (cl_put2 b base ls _ (.long v)) (fun ls2 hl2 => kk H locs ls2 cells slots (by omega) (by omega) hW hS hl2)
  · have hlen2 : len = 1 := of_decide_eq_true hlen
    subst hlen2
    simp only [stp] at hs
    obtain rfl := of_decide_eq_true hc
    split at hs
    case h_2 => cases hs
    case h_1 v st2 =>
      split at hs
      case isFalse => cases hs
      case isTrue hk =>
        cases hs
        exact lv_lstore_n hx hb hd rfl hl hk (cl_put2 b base ls _ (.long v)) (fun ls2 hl2 => kk H locs ls2 cells slots (by omega) (by omega) hW hS hl2)
  · have hlen2 : len = 2 := of_decide_eq_true hlen
    subst hlen2
    simp only [stp] at hs
    obtain rfl := of_decide_eq_true hc
    split at hs
    case h_2 => cases hs
    case h_1 v st2 =>
      split at hs
      case isFalse => cases hs
      case isTrue hk =>
        cases hs
        exact lv_astore hx hb hd hl hk (cl_put1 b base ls _ (.ref v)) (fun ls2 hl2 => kk H locs ls2 cells slots (by omega) (by omega) hW hS hl2)
  · have hlen2 : len = 1 := of_decide_eq_true hlen
    subst hlen2
    simp only [stp] at hs
    obtain rfl := of_decide_eq_true hc
    split at hs
    case h_2 => cases hs
    case h_1 v st2 =>
      split at hs
      case isFalse => cases hs
      case isTrue hk =>
        cases hs
        exact lv_astore_n hx hb hd rfl hl hk (cl_put1 b base ls _ (.ref v)) (fun ls2 hl2 => kk H locs ls2 cells slots (by omega) (by omega) hW hS hl2)
  · have hlen2 : len = 3 := of_decide_eq_true hlen
    subst hlen2
    simp only [stp] at hs
    simp only [Bool.and_eq_true, decide_eq_true_eq] at hc
    obtain ⟨rfl, rfl⟩ := hc
    split at hs
    case h_2 => cases hs
    case h_1 v hg =>
      split at hs
      case isFalse => cases hs
      case isTrue hk =>
        cases hs
        obtain ⟨kp, hkp⟩ := List.getElem?_of_mem (cl_get (b := b) (base := base) hg)
        exact lv_iinc hx hb hd hl hkp rfl hk (cl_put1 b base ls _ (.int _)) (fun ls2 hl2 => kk H locs ls2 cells slots (by omega) (by omega) hW hS hl2)
  · have hlen2 : len = 1 := of_decide_eq_true hlen
    subst hlen2
    simp only [stp] at hs
    split at hs
    case h_2 => cases hs
    case h_1 y x st2 =>
      cases hs
      exact lv_iadd hx hb hd (kk H locs lsA cells slots (by omega) (by omega) hW hS hl)
  · have hlen2 : len = 1 := of_decide_eq_true hlen
    subst hlen2
    simp only [stp] at hs
    split at hs
    case h_2 => cases hs
    case h_1 y x st2 =>
      cases hs
      exact lv_isub hx hb hd (kk H locs lsA cells slots (by omega) (by omega) hW hS hl)
  · have hlen2 : len = 1 := of_decide_eq_true hlen
    subst hlen2
    simp only [stp] at hs
    split at hs
    case h_2 => cases hs
    case h_1 y x st2 =>
      cases hs
      exact lv_imul hx hb hd (kk H locs lsA cells slots (by omega) (by omega) hW hS hl)
  · have hlen2 : len = 1 := of_decide_eq_true hlen
    subst hlen2
    simp only [stp] at hs
    split at hs
    case h_2 => cases hs
    case h_1 y x st2 =>
      cases hs
      exact lv_iand hx hb hd (kk H locs lsA cells slots (by omega) (by omega) hW hS hl)
  · have hlen2 : len = 1 := of_decide_eq_true hlen
    subst hlen2
    simp only [stp] at hs
    split at hs
    case h_2 => cases hs
    case h_1 y x st2 =>
      cases hs
      exact lv_ior hx hb hd (kk H locs lsA cells slots (by omega) (by omega) hW hS hl)
  · have hlen2 : len = 1 := of_decide_eq_true hlen
    subst hlen2
    simp only [stp] at hs
    split at hs
    case h_2 => cases hs
    case h_1 y x st2 =>
      cases hs
      exact lv_ixor hx hb hd (kk H locs lsA cells slots (by omega) (by omega) hW hS hl)
  · have hlen2 : len = 1 := of_decide_eq_true hlen
    subst hlen2
    simp only [stp] at hs
    split at hs
    case h_2 => cases hs
    case h_1 y x st2 =>
      split at hs
      case isTrue => cases hs
      case isFalse hy =>
        cases hs
        exact lv_idiv hx hb hd hy (kk H locs lsA cells slots (by omega) (by omega) hW hS hl)
  · have hlen2 : len = 1 := of_decide_eq_true hlen
    subst hlen2
    simp only [stp] at hs
    split at hs
    case h_2 => cases hs
    case h_1 y x st2 =>
      split at hs
      case isTrue => cases hs
      case isFalse hy =>
        cases hs
        exact lv_irem hx hb hd hy (kk H locs lsA cells slots (by omega) (by omega) hW hS hl)
  · have hlen2 : len = 1 := of_decide_eq_true hlen
    subst hlen2
    simp only [stp] at hs
    split at hs
    case h_2 => cases hs
    case h_1 x st2 =>
      cases hs
      exact lv_ineg hx hb hd (kk H locs lsA cells slots (by omega) (by omega) hW hS hl)
  · have hlen2 : len = 1 := of_decide_eq_true hlen
    subst hlen2
    simp only [stp] at hs
    split at hs
    case h_2 => cases hs
    case h_1 y x st2 =>
      cases hs
      exact lv_ishl hx hb hd (kk H locs lsA cells slots (by omega) (by omega) hW hS hl)
  · have hlen2 : len = 1 := of_decide_eq_true hlen
    subst hlen2
    simp only [stp] at hs
    split at hs
    case h_2 => cases hs
    case h_1 y x st2 =>
      cases hs
      exact lv_ishr hx hb hd (kk H locs lsA cells slots (by omega) (by omega) hW hS hl)
  · have hlen2 : len = 1 := of_decide_eq_true hlen
    subst hlen2
    simp only [stp] at hs
    split at hs
    case h_2 => cases hs
    case h_1 y x st2 =>
      cases hs
      exact lv_iushr hx hb hd rfl (kk H locs lsA cells slots (by omega) (by omega) hW hS hl)
  · have hlen2 : len = 1 := of_decide_eq_true hlen
    subst hlen2
    simp only [stp] at hs
    split at hs
    case h_2 => cases hs
    case h_1 x st2 =>
      cases hs
      exact lv_i2l hx hb hd rfl (kk H locs lsA cells slots (by omega) (by omega) hW hS hl)
  · have hlen2 : len = 1 := of_decide_eq_true hlen
    subst hlen2
    simp only [stp] at hs
    split at hs
    case h_2 => cases hs
    case h_1 x st2 =>
      cases hs
      exact lv_i2b hx hb hd rfl (kk H locs lsA cells slots (by omega) (by omega) hW hS hl)
  · have hlen2 : len = 1 := of_decide_eq_true hlen
    subst hlen2
    simp only [stp] at hs
    split at hs
    case h_2 => cases hs
    case h_1 x st2 =>
      cases hs
      exact lv_i2s hx hb hd rfl (kk H locs lsA cells slots (by omega) (by omega) hW hS hl)
  · have hlen2 : len = 1 := of_decide_eq_true hlen
    subst hlen2
    simp only [stp] at hs
    split at hs
    case h_2 => cases hs
    case h_1 y x st2 =>
      cases hs
      exact lv_ladd hx hb hd (kk H locs lsA cells slots (by omega) (by omega) hW hS hl)
  · have hlen2 : len = 1 := of_decide_eq_true hlen
    subst hlen2
    simp only [stp] at hs
    split at hs
    case h_2 => cases hs
    case h_1 y x st2 =>
      cases hs
      exact lv_lmul hx hb hd (kk H locs lsA cells slots (by omega) (by omega) hW hS hl)
  · have hlen2 : len = 1 := of_decide_eq_true hlen
    subst hlen2
    simp only [stp] at hs
    split at hs
    case h_2 => cases hs
    case h_1 y x st2 =>
      cases hs
      exact W.lcmp hx hb hd (kk H locs lsA cells slots (by omega) (by omega) hW hS hl)
  · have hlen2 : len = 1 := of_decide_eq_true hlen
    subst hlen2
    simp only [stp] at hs
    split at hs
    case h_3 => cases hs
    case h_1 x st2 =>
      cases hs
      exact lv_dup hx hb hd rfl (kk H locs lsA cells slots (by omega) (by omega) hW hS hl)
    case h_2 x st2 =>
      cases hs
      exact lv_dup hx hb hd rfl (kk H locs lsA cells slots (by omega) (by omega) hW hS hl)
  · have hlen2 : len = 1 := of_decide_eq_true hlen
    subst hlen2
    simp only [stp] at hs
    split at hs
    case h_2 => cases hs
    case h_1 x st2 =>
      cases hs
      exact lv_pop hx hb hd rfl (kk H locs lsA cells slots (by omega) (by omega) hW hS hl)
  · have hlen2 : len = 1 := of_decide_eq_true hlen
    subst hlen2
    simp only [stp] at hs
    split at hs
    case h_2 => cases hs
    case h_1 y x st2 =>
      cases hs
      exact lv_dup2_11 hx hb hd rfl rfl (kk H locs lsA cells slots (by omega) (by omega) hW hS hl)
  · have hlen2 : len = 3 := of_decide_eq_true hlen
    subst hlen2
    rename_i x e2
    simp only [stp] at hs
    split at hs
    case h_2 => cases hs
    case h_1 a st2 =>
      split at hs
      case h_2 => cases hs
      case h_1 ci fs ha hcell =>
        split at hs
        case isFalse => cases hs
        case isTrue hci =>
          split at hs
          case h_2 => cases hs
          case h_1 v hv =>
            cases hs
            subst hci
            have hin2 := ckF_in hc
            obtain ⟨hc11, hk⟩ := fl_lt hin2
            obtain ⟨hcl, -, -, hws⟩ := cls_ws _ hc11
            have he : (cw b base ca h.1 h.2.1)[a]? = some (ad b base a, .inr (e2 / 100 % 100, fs.map (cv b base))) := by rw [cw_get (of_decide_eq_true ha), hcell]; rfl
            have hv2 : (fs.map (cv b base))[e2 % 100]? = some (cv b base v) := by rw [List.getElem?_map, hv]; rfl
            rcases hin2 with hf | hf
            · exact va_get (ref := (fT (e2 / 100 % 100) (e2 % 100)).1) hx hb hts hws hown hK hP a he hcl (e2 % 100) hk (hts _ (fl_in hf)) (fun _ q => q) hv2 hd (kk H locs lsA cells slots (by omega) (by omega) hW hS hl)
            · exact va_getN (ref := (fT (e2 / 100 % 100) (e2 % 100)).1) (host := "BoxSpider") hx hb hts hws hown hK hP a he hcl (e2 % 100) hk (va_Nw.use rfl (hN.1 _ hf)) (fun _ q => q) hv2 hd (kk H locs lsA cells slots (by omega) (by omega) hW hS hl)
  · have hlen2 : len = 3 := of_decide_eq_true hlen
    subst hlen2
    rename_i x e2
    simp only [stp] at hs
    split at hs
    case h_2 => cases hs
    case h_1 v a st2 =>
      split at hs
      case h_2 => cases hs
      case h_1 ci fs ha hcell =>
        split at hs
        case isFalse => cases hs
        case isTrue hci =>
          obtain ⟨hci, hfl, hvo⟩ := hci
          cases hs
          subst hci
          simp only [Bool.and_eq_true] at hc
          obtain ⟨hc, hfin⟩ := hc
          have hin2 := ckF_in hc
          obtain ⟨hc11, hk⟩ := fl_lt hin2
          obtain ⟨hcl, -, -, hws⟩ := cls_ws _ hc11
          have he : (cw b base ca h.1 h.2.1)[a]? = some (ad b base a, .inr (e2 / 100 % 100, fs.map (cv b base))) := by rw [cw_get (of_decide_eq_true ha), hcell]; rfl
          obtain ⟨hn1, hn2⟩ := vok_ok (b := b) (base := base) hc11 hk hvo
          have hset : (cw b base ca h.1 h.2.1).set a (ad b base a, .inr (e2 / 100 % 100, (fs.map (cv b base)).set (e2 % 100) (cv b base v))) = cw b base ca (va_up h.1 a (.inr (e2 / 100 % 100, fs.set (e2 % 100) v))) h.2.1 := by
            rw [← List.map_set]
            exact cw_set (.inr (e2 / 100 % 100, fs.set (e2 % 100) v))
          have hfl2 : e2 % 100 < (fs.map (cv b base)).length := by rw [List.length_map]; exact hfl
          cases hf0 : (fT (e2 / 100 % 100) (e2 % 100)).2.2.2 with
          | true =>
            rw [hf0] at hfin
            simp only [Bool.not_true, Bool.false_or, Bool.and_eq_true, decide_eq_true_eq] at hfin
            obtain ⟨⟨hf1, hf2⟩, hf3⟩ := hfin
            exact va_putF (ref := (fT (e2 / 100 % 100) (e2 % 100)).1) hx hb hts hws (fty (e2 / 100 % 100)) (fty_ok _ hc11) (fnm_ok _ hc11) hown hK hP hD hS a he hcl (e2 % 100) hk (hts _ (fl_in (ckF_nn hc hf2))) (fun _ q => q) hf0 (hin hf1) hf3 (fty_ok _ hc11 _ hk) hn1 hn2 hfl2 hd (fun H1 locs1 hP1 hD1 hS1 => kk H1 locs1 lsA cells slots (by dsimp only; omega) (by dsimp only; omega) ⟨hz9, by rw [hset] at hP1; exact hP1⟩ hS1 hl)
          | false =>
            rcases hin2 with hf | hf
            · exact va_put (ref := (fT (e2 / 100 % 100) (e2 % 100)).1) hx hb hts hws (fty (e2 / 100 % 100)) (fty_ok _ hc11) (fnm_ok _ hc11) hown hK hP hD hS a he hcl (e2 % 100) hk (hts _ (fl_in hf)) (fun _ q => q) hf0 (fty_ok _ hc11 _ hk) hn1 hn2 hfl2 hd (fun H1 locs1 hP1 hD1 hS1 => kk H1 locs1 lsA cells slots (by dsimp only; omega) (by dsimp only; omega) ⟨hz9, by rw [hset] at hP1; exact hP1⟩ hS1 hl)
            · exact va_putN (ref := (fT (e2 / 100 % 100) (e2 % 100)).1) (host := "BoxSpider") hx hb hts hws (fty (e2 / 100 % 100)) (fty_ok _ hc11) (fnm_ok _ hc11) hown hK hP hD hS a he hcl (e2 % 100) hk (va_Nw.use rfl (hN.1 _ hf)) (fun _ q => q) hf0 (fty_ok _ hc11 _ hk) hn1 hn2 hfl2 hd (fun H1 locs1 hP1 hD1 hS1 => kk H1 locs1 lsA cells slots (by dsimp only; omega) (by dsimp only; omega) ⟨hz9, by rw [hset] at hP1; exact hP1⟩ hS1 hl)
  · have hlen2 : len = 1 := of_decide_eq_true hlen
    subst hlen2
    simp only [stp] at hs
    split at hs
    case h_2 => cases hs
    case h_1 j a st2 =>
      split at hs
      case isTrue ha =>
        subst ha
        split at hs
        case h_2 => cases hs
        case h_1 n f =>
          split at hs
          case isFalse => cases hs
          case isTrue hj =>
            cases hs
            obtain ⟨hX, hbb⟩ := hscr n f rfl
            exact va_sld hx hb hX (Nat.lt_of_lt_of_le hbb hbs) (Nat.not_le.mpr hbb) hS (inb_in hj) hd (kk H locs lsA cells slots (by omega) (by omega) hW hS hl)
      case isFalse =>
        split at hs
        case h_2 => cases hs
        case h_1 n f ha hcell =>
          split at hs
          case isFalse => cases hs
          case isTrue hj =>
            cases hs
            have he : (cw b base ca h.1 h.2.1)[a]? = some (ad b base a, .inl (ca 0, n, .inl f)) := by rw [cw_get (of_decide_eq_true ha), hcell]; rfl
            exact va_iald hx hb hK hP a 0 he rfl (inb_in hj) hd (kk H locs lsA cells slots (by omega) (by omega) hW hS hl)
  · have hlen2 : len = 1 := of_decide_eq_true hlen
    subst hlen2
    simp only [stp] at hs
    split at hs
    case h_2 => cases hs
    case h_1 x j a st2 =>
      split at hs
      case h_2 => cases hs
      case h_1 n f ha hcell =>
        split at hs
        case isFalse => cases hs
        case isTrue hj =>
          cases hs
          have he : (cw b base ca h.1 h.2.1)[a]? = some (ad b base a, .inl (ca 0, n, .inl f)) := by rw [cw_get (of_decide_eq_true ha), hcell]; rfl
          have hset : (cw b base ca h.1 h.2.1).set a (ad b base a, .inl (ca 0, n, .inl (upd f j.toNatClampNeg x))) = cw b base ca (va_up h.1 a (.inl (0, n, .inl (upd f j.toNatClampNeg x)))) h.2.1 := cw_set (.inl (0, n, .inl (upd f j.toNatClampNeg x)))
          exact va_iast hx hb hK hP hD hS a 0 he rfl (inb_in hj) hd (fun H1 locs1 hP1 hD1 hS1 => kk H1 locs1 lsA cells slots (by dsimp only; omega) (by dsimp only; omega) ⟨hz9, by rw [hset] at hP1; exact hP1⟩ hS1 hl)
  · have hlen2 : len = 1 := of_decide_eq_true hlen
    subst hlen2
    simp only [stp] at hs
    split at hs
    case h_2 => cases hs
    case h_1 j a st2 =>
      split at hs
      case h_2 => cases hs
      case h_1 t n f ha hcell =>
        split at hs
        case isFalse => cases hs
        case isTrue hj =>
          obtain ⟨hj, ht⟩ := hj
          split at hs
          case h_2 => cases hs
          case h_1 b2 hb2 =>
            cases hs
            have he : (cw b base ca h.1 h.2.1)[a]? = some (ad b base a, .inl (ca t, n, .inr (.inr (.inr (.inr (fun j => (f j).map (ad b base))))))) := by rw [cw_get (of_decide_eq_true ha), hcell]; rfl
            have kk2 := (kk H locs lsA cells slots (by omega) (by omega) hW hS hl)
            have hv : Value.ref (ad b base b2) = va_rf ((fun j => (f j).map (ad b base)) j.toNatClampNeg) := by show _ = va_rf ((f j.toNatClampNeg).map (ad b base)); rw [hb2]; rfl
            have kk3 : W p l e R s m args below meth c H locs cells slots Q (F0 m (pc + 1) lsA (va_rf ((fun j => (f j).map (ad b base)) j.toNatClampNeg) :: st2.map (cv b base))) := by rw [← hv]; exact kk2
            rcases ht with rfl | rfl
            · exact va_aldq hx hb hK hP a 1 he rfl (inb_in hj) hd kk3
            · exact va_aldq hx hb hK hP a 2 he rfl (inb_in hj) hd kk3
  · have hlen2 : len = 1 := of_decide_eq_true hlen
    subst hlen2
    simp only [stp] at hs
    split at hs
    case h_2 => cases hs
    case h_1 b2 j a st2 =>
      split at hs
      case h_2 => cases hs
      case h_1 t n f ci vs ha hcell hb2 hcell2 =>
        split at hs
        case isFalse => cases hs
        case isTrue hj =>
          obtain ⟨hj, ht⟩ := hj
          cases hs
          have he : (cw b base ca h.1 h.2.1)[a]? = some (ad b base a, .inl (ca t, n, .inr (.inr (.inr (.inr (fun j => (f j).map (ad b base))))))) := by rw [cw_get (of_decide_eq_true ha), hcell]; rfl
          have he2 : (cw b base ca h.1 h.2.1)[b2]? = some (ad b base b2, .inr (ci, vs.map (cv b base))) := by rw [cw_get (of_decide_eq_true hb2), hcell2]; rfl
          rcases ht with ⟨rfl, rfl⟩ | ⟨rfl, rfl⟩
          · have hset : (cw b base ca h.1 h.2.1).set a (ad b base a, .inl (ca 1, n, .inr (.inr (.inr (.inr (va_up (fun j => (f j).map (ad b base)) j.toNatClampNeg (some (ad b base b2)))))))) = cw b base ca (va_up h.1 a (.inl (1, n, .inr (.inr (.inr (.inr (va_up f j.toNatClampNeg (some b2)))))))) h.2.1 := by
              have e1 : va_up (fun j => (f j).map (ad b base)) j.toNatClampNeg (some (ad b base b2)) = fun q => (va_up f j.toNatClampNeg (some b2) q).map (ad b base) := by
                funext q
                unfold va_up
                split <;> rfl
              rw [e1]
              exact cw_set (.inl (1, n, .inr (.inr (.inr (.inr (va_up f j.toNatClampNeg (some b2)))))))
            exact va_astq hx hb hK hP hD hS a 1 b2 6 he (r := (cn 6, fT 6, fN 6)) rfl he2 (cls_ws 6 (by decide)).1 (inb_in hj) hd (fun H1 locs1 hP1 hD1 hS1 => kk H1 locs1 lsA cells slots (by dsimp only; omega) (by dsimp only; omega) ⟨hz9, by rw [hset] at hP1; exact hP1⟩ hS1 hl)
          · have hset : (cw b base ca h.1 h.2.1).set a (ad b base a, .inl (ca 2, n, .inr (.inr (.inr (.inr (va_up (fun j => (f j).map (ad b base)) j.toNatClampNeg (some (ad b base b2)))))))) = cw b base ca (va_up h.1 a (.inl (2, n, .inr (.inr (.inr (.inr (va_up f j.toNatClampNeg (some b2)))))))) h.2.1 := by
              have e1 : va_up (fun j => (f j).map (ad b base)) j.toNatClampNeg (some (ad b base b2)) = fun q => (va_up f j.toNatClampNeg (some b2) q).map (ad b base) := by
                funext q
                unfold va_up
                split <;> rfl
              rw [e1]
              exact cw_set (.inl (2, n, .inr (.inr (.inr (.inr (va_up f j.toNatClampNeg (some b2)))))))
            exact va_astq hx hb hK hP hD hS a 2 b2 4 he (r := (cn 4, fT 4, fN 4)) rfl he2 (cls_ws 4 (by decide)).1 (inb_in hj) hd (fun H1 locs1 hP1 hD1 hS1 => kk H1 locs1 lsA cells slots (by dsimp only; omega) (by dsimp only; omega) ⟨hz9, by rw [hset] at hP1; exact hP1⟩ hS1 hl)
  · have hlen2 : len = 1 := of_decide_eq_true hlen
    subst hlen2
    simp only [stp] at hs
    split at hs
    case h_2 => cases hs
    case h_1 a st2 =>
      split at hs
      case isFalse => cases hs
      case isTrue ha =>
        subst ha
        split at hs
        case h_2 => cases hs
        case h_1 n f =>
          cases hs
          obtain ⟨hX, hbb⟩ := hscr n f rfl
          exact va_slen hx hb hX (Nat.lt_of_lt_of_le hbb hbs) (Nat.not_le.mpr hbb) hS hd (kk H locs lsA cells slots (by omega) (by omega) hW hS hl)
  · have hlen2 : len = 3 := of_decide_eq_true hlen
    subst hlen2
    rename_i x e2
    simp only [stp] at hs
    split at hs
    case isFalse => cases hs
    case isTrue hlt =>
      cases hs
      simp only [Bool.and_eq_true, decide_eq_true_eq] at hc
      obtain ⟨hcl2, hc11⟩ := hc
      obtain ⟨hcl, hini, hins, hws⟩ := cls_ws _ hc11
      dsimp only at hcells hslots
      refine va_new (ci := e2 % 100) (fs := dfl (e2 % 100)) hx hb hts hws (fty (e2 % 100)) (fty_ok _ hc11) hown (hts _ (kcl_in (List.mem_of_getElem? hcl2))) (hts _ hins) (hts _ hini) hK hP hD hS hA hcl (dfl_ok _ hc11).2 (by omega) (by omega) hd (fun q H1 hP1 hD1 hS1 => ?_)
      refine W.sz fun hsz => ?_
      have hq := new_at hlt hP1 hD1 hsz (by omega)
      subst hq
      have hset : cw b base ca h.1 h.2.1 ++ [(ad b base h.2.1, .inr (e2 % 100, dfl (e2 % 100)))] = cw b base ca (va_up h.1 h.2.1 (.inr (e2 % 100, dfl (e2 % 100)))) (h.2.1 + 1) := by
        have e1 : (dfl (e2 % 100)).map (cv b base) = dfl (e2 % 100) := dfl_cv b base _ hc11
        have e3 := cw_push (b := b) (base := base) (ca := ca) (h := h.1) (sz := h.2.1) (.inr (e2 % 100, dfl (e2 % 100)))
        have e4 : ce b base ca (.inr (e2 % 100, dfl (e2 % 100))) = .inr (e2 % 100, dfl (e2 % 100)) := by show Sum.inr (e2 % 100, (dfl (e2 % 100)).map (cv b base)) = _; rw [e1]
        rw [e4] at e3
        exact e3
      exact kk H1 locs lsA (cells + 1) (slots + fN (e2 % 100)) (by dsimp only; omega) (by dsimp only; omega) ⟨by dsimp only; omega, by rw [hset] at hP1; exact hP1⟩ hS1 hl
  · have hlen2 : len = 2 := of_decide_eq_true hlen
    subst hlen2
    simp only [stp] at hs
    split at hs
    case h_2 => cases hs
    case h_1 n st2 =>
      split at hs
      case isFalse => cases hs
      case isTrue hn =>
        obtain ⟨hn, hlt⟩ := hn
        cases hs
        obtain ⟨hn0, hnb⟩ := inb_n hn
        dsimp only at hcells hslots
        refine va_newa (atype := .int) (ty := .int) (a0 := (n.toNatClampNeg, .inl (fun _ => 0))) hx hb (hts _ aint_in) rfl hK hP hD hS hA (fun _ => rfl) hn0 rfl hnb (by omega) (by omega) hd (fun q cA H1 hK1 hP1 hD1 hS1 => ?_)
        refine W.sz fun hsz => ?_
        have hcA : cA = ca 0 := by
          have e1 := (hK1.2 3 (cA, .int) rfl).2
          have e2 := (hK1.2 0 (ca 0, .int) rfl).2
          exact Option.some.inj ((show s.vm.findClass ("[" ++ FieldType.int.toString) = some cA from e1).symm.trans e2)
        subst hcA
        have hq := new_at hlt hP1 hD1 hsz (by omega)
        subst hq
        have hset : cw b base ca h.1 h.2.1 ++ [(ad b base h.2.1, .inl (ca 0, n.toNatClampNeg, .inl (fun _ => 0)))] = cw b base ca (va_up h.1 h.2.1 (.inl (0, n.toNatClampNeg, .inl (fun _ => 0)))) (h.2.1 + 1) := cw_push (.inl (0, n.toNatClampNeg, .inl (fun _ => 0)))
        exact kk H1 locs lsA (cells + 1) (slots + n.toNatClampNeg) (by dsimp only; omega) (by dsimp only; omega) ⟨by dsimp only; omega, by rw [hset] at hP1; exact hP1⟩ hS1 hl
  · have hlen2 : len = 3 := of_decide_eq_true hlen
    subst hlen2
    rename_i x e2
    simp only [stp] at hs
    split at hs
    case h_2 => cases hs
    case h_1 n st2 =>
      split at hs
      case isFalse => cases hs
      case isTrue hn =>
        obtain ⟨hn, hlt⟩ := hn
        obtain ⟨hn0, hnb⟩ := inb_n hn
        simp only [Bool.and_eq_true, Bool.or_eq_true, decide_eq_true_eq] at hc
        obtain ⟨hcl2, h6⟩ := hc
        rcases h6 with h6 | h6
        · rw [if_pos h6] at hs
          cases hs
          dsimp only at hcells hslots
          refine va_newq (C := "BoxSpider$Stand") hx hb hown (hts _ (by have e9 := kcl_in (List.mem_of_getElem? hcl2); rw [h6] at e9; exact e9)) hN.2.2.1 hK hP hD hS hA hn0 rfl hnb (by omega) (by omega) hd (fun q cA H1 hK1 hP1 hD1 hS1 => ?_)
          refine W.sz fun hsz => ?_
          have hcA : cA = ca 1 := by
            obtain ⟨_, _, _, _, _, e1⟩ := (hK1.2 3 (cA, .object "BoxSpider$Stand") rfl).2
            obtain ⟨_, _, _, _, _, e2⟩ := (hK1.2 1 (ca 1, .object "BoxSpider$Stand") rfl).2
            exact Option.some.inj (e1.symm.trans e2)
          subst hcA
          have hq := new_at hlt hP1 hD1 hsz (by omega)
          subst hq
          have hset : cw b base ca h.1 h.2.1 ++ [(ad b base h.2.1, .inl (ca 1, n.toNatClampNeg, .inr (.inr (.inr (.inr (fun _ => none))))))] = cw b base ca (va_up h.1 h.2.1 (.inl (1, n.toNatClampNeg, .inr (.inr (.inr (.inr (fun _ => none))))))) (h.2.1 + 1) := cw_push (.inl (1, n.toNatClampNeg, .inr (.inr (.inr (.inr (fun _ => none))))))
          exact kk H1 locs lsA (cells + 1) (slots + n.toNatClampNeg) (by dsimp only; omega) (by dsimp only; omega) ⟨by dsimp only; omega, by rw [hset] at hP1; exact hP1⟩ hS1 hl
        · rw [if_neg (by omega)] at hs
          cases hs
          dsimp only at hcells hslots
          refine va_newq (C := "BoxSpider$Sheet") hx hb hown (hts _ (by have e9 := kcl_in (List.mem_of_getElem? hcl2); rw [h6] at e9; exact e9)) hN.2.2.2 hK hP hD hS hA hn0 rfl hnb (by omega) (by omega) hd (fun q cA H1 hK1 hP1 hD1 hS1 => ?_)
          refine W.sz fun hsz => ?_
          have hcA : cA = ca 2 := by
            obtain ⟨_, _, _, _, _, e1⟩ := (hK1.2 3 (cA, .object "BoxSpider$Sheet") rfl).2
            obtain ⟨_, _, _, _, _, e2⟩ := (hK1.2 2 (ca 2, .object "BoxSpider$Sheet") rfl).2
            exact Option.some.inj (e1.symm.trans e2)
          subst hcA
          have hq := new_at hlt hP1 hD1 hsz (by omega)
          subst hq
          have hset : cw b base ca h.1 h.2.1 ++ [(ad b base h.2.1, .inl (ca 2, n.toNatClampNeg, .inr (.inr (.inr (.inr (fun _ => none))))))] = cw b base ca (va_up h.1 h.2.1 (.inl (2, n.toNatClampNeg, .inr (.inr (.inr (.inr (fun _ => none))))))) (h.2.1 + 1) := cw_push (.inl (2, n.toNatClampNeg, .inr (.inr (.inr (.inr (fun _ => none))))))
          exact kk H1 locs lsA (cells + 1) (slots + n.toNatClampNeg) (by dsimp only; omega) (by dsimp only; omega) ⟨by dsimp only; omega, by rw [hset] at hP1; exact hP1⟩ hS1 hl
  · simp only [stp] at hs
    cases hs
  · simp only [stp] at hs
    cases hs
  · simp only [stp] at hs
    cases hs
  · simp only [stp] at hs
    cases hs
  · simp only [stp] at hs
    cases hs
  · simp only [stp] at hs
    cases hs
  · simp only [stp] at hs
    cases hs
  · simp only [stp] at hs
    cases hs
  · simp only [stp] at hs
    cases hs
  · simp only [stp] at hs
    cases hs
  · simp only [stp] at hs
    cases hs
  · cases hc
