theorem obj_nm : MNx 500 = Lib.objectInit := by decide
theorem cpy_nm : MNx 501 = arraycopyName := by decide
theorem min_nm : MNx 502 = Lib.Math.min.name := by decide
theorem max_nm : MNx 503 = Lib.Math.max.name := by decide
theorem abs_nm : MNx 504 = Lib.Math.abs.name := by decide
theorem tcl {n : Int32} (h : 0 ≤ n.toInt) : ¬ n < 0 ∧ (n.toNatClampNeg : Int) = n.toInt := by
  have h2 : n.toNatClampNeg = n.toInt.toNat := rfl
  refine ⟨fun q => ?_, by omega⟩
  have := Int32.lt_iff_toInt_lt.mp q
  have h0 : (0 : Int32).toInt = 0 := rfl
  omega
set_option maxHeartbeats 4000000 in
/-- the machine's own methods -/
theorem own5_sim {p : Program} {l : Launch} {e : Env} {R : Room} {s : State} {m : MethodId} {args : Array Value} {below : List Frame} {meth : Method} {c : Code} {Q : State → Prop} {k b base : Nat} {ca : Nat → ClassId} {D : va_G} {scr : Option (Nat × (Nat → Int32))} (C : Cx p s m args meth c k b base ca D scr)
    {pc x q : Nat} {st st' : List Value} {h h' : HS} (hs : own5 q st h = some (st', h')) (hlk : (mC.getD k 99, x, q) ∈ mlk) (hd : (q = 500 ∧ decode (MB k) pc = .ok (.invokespecial x, 3)) ∨ (501 ≤ q ∧ decode (MB k) pc = .ok (.invokestatic x, 3))) (hfr : 1 ≤ R.frames) (hlo : 60 ≤ R.locals) {H : Heap} {locs : List Loc} {lsA : Array Slot} {cells slots : Nat} {lv : LSt} (hW : Wd b base ca D h H) (hS : va_S (fun q : Nat => base ≤ q) s.heap H locs) (hl : lv_has lsA (ML k) lv) (hcells : cells ≤ R.cells) (hslots : slots ≤ R.slots)
    (kk : ∀ (H' : Heap) (locs' : List Loc), Wd b base ca D h' H' → va_S (fun q : Nat => base ≤ q) s.heap H' locs' → W p l e R s m args below meth c H' locs' cells slots Q (F0 m (pc + 3) lsA (st'.map (cv b base)))) :
    W p l e R s m args below meth c H locs cells slots Q (F0 m pc lsA (st.map (cv b base))) := by
  obtain ⟨hx, hb, hml, hown, hts, hN, hK, hin, hbs, hscr⟩ := C
  obtain ⟨hz9, hP⟩ := id hW
  have hD : va_D (fun q : Nat => base ≤ q) (cw b base ca h.1 h.2.1) := cw_D hz9
  have hlink := hts _ (mlk_in hlk)
  dsimp only at hlink
  unfold own5 at hs
  split at hs
  · rename_i h5
    subst h5
    split at hs
    · rename_i a st2
      split at hs
      · rename_i hsum
        cases hs
        rcases hd with ⟨-, hd⟩ | ⟨hd, -⟩
        · rw [obj_nm] at hlink
          have h9 := lv_room (m := m) (pc := pc) (ls := lsA) (rest := []) (st := st'.map (cv b base)) (by rw [cv_sum]; exact hsum)
          exact W.objInit hx hb hown hlink (hts _ iobj_in) (hts _ cobj_in) rfl (hl.1.trans hml.symm) rfl hd hfr (Nat.le_trans (Nat.add_le_add_right h9 12) (by omega)) (kk H locs hW hS)
        · omega
      · cases hs
    · cases hs
  · split at hs
    · rename_i h5
      subst h5
      have hd2 : decode (MB k) pc = .ok (.invokestatic x, 3) := by
        rcases hd with ⟨hd, -⟩ | ⟨-, hd⟩
        · omega
        · exact hd
      split at hs
      · rename_i n dp b2 sp a st2
        split at hs
        · rename_i n0 f n1 g ha hcell hb2 hcell2
          split at hs
          · rename_i hcnd
            obtain ⟨h1, h2, h3, h4, h5, hsum⟩ := hcnd
            cases hs
            rw [cpy_nm] at hlink
            have he : (cw b base ca h.1 h.2.1)[a]? = some (ad b base a, .inl (ca 0, n0, .inl f)) := by rw [cw_get (of_decide_eq_true ha), hcell]; rfl
            have he2 : (cw b base ca h.1 h.2.1)[b2]? = some (ad b base b2, .inl (ca 0, n1, .inl g)) := by rw [cw_get (of_decide_eq_true hb2), hcell2]; rfl
            obtain ⟨s1, s2⟩ := tcl h1
            obtain ⟨d1, d2⟩ := tcl h2
            obtain ⟨n1', n2⟩ := tcl h3
            have hset : (cw b base ca h.1 h.2.1).set b2 (ad b base b2, .inl (ca 0, n1, .inl (va_cpy f g sp.toNatClampNeg dp.toNatClampNeg n.toNatClampNeg))) = cw b base ca (va_up h.1 b2 (.inl (0, n1, .inl (va_cpy f g sp.toNatClampNeg dp.toNatClampNeg n.toNatClampNeg)))) h.2.1 := cw_set (.inl (0, n1, .inl (va_cpy f g sp.toNatClampNeg dp.toNatClampNeg n.toNatClampNeg)))
            have hnf : nativeFrameWords "java/lang/System" "arraycopy" 5 = 7 := by decide
            exact va_copyi hx hb (hml.trans hl.1.symm) hown hlink (hts _ ncpy_in) (hts _ scpy_in) (hts _ isys_in) hK hP hD hS a b2 0 0 he he2 rfl rfl rfl s1 d1 n1' (by omega) (by omega) (fun i _ => rfl) hfr (by rw [cv_sum, hnf]; omega) hd2 (fun H1 locs1 hP1 hD1 hS1 => kk H1 locs1 ⟨hz9, by rw [hset] at hP1; exact hP1⟩ hS1)
          · cases hs
        · cases hs
      · cases hs
    · split at hs
      · rename_i h5
        subst h5
        have hd2 : decode (MB k) pc = .ok (.invokestatic x, 3) := by
          rcases hd with ⟨hd, -⟩ | ⟨-, hd⟩
          · omega
          · exact hd
        split at hs
        · rename_i y x1 st2
          split at hs
          · rename_i hsum
            cases hs
            rw [min_nm] at hlink
            exact va_mmin hx hb (hml.trans hl.1.symm) hown hlink (hts _ smin_in) (hts _ imath_in) (hts _ cmin_in) hfr (by rw [cv_sum]; omega) hcells hslots hd2 (kk H locs hW hS)
          · cases hs
        · cases hs
      · split at hs
        · rename_i h5
          subst h5
          have hd2 : decode (MB k) pc = .ok (.invokestatic x, 3) := by
            rcases hd with ⟨hd, -⟩ | ⟨-, hd⟩
            · omega
            · exact hd
          split at hs
          · rename_i y x1 st2
            split at hs
            · rename_i hsum
              cases hs
              rw [max_nm] at hlink
              exact va_mmax hx hb (hml.trans hl.1.symm) hown hlink (hts _ smax_in) (hts _ imath_in) (hts _ cmax_in) hfr (by rw [cv_sum]; omega) hcells hslots hd2 (kk H locs hW hS)
            · cases hs
          · cases hs
        · split at hs
          · rename_i h5
            subst h5
            have hd2 : decode (MB k) pc = .ok (.invokestatic x, 3) := by
              rcases hd with ⟨hd, -⟩ | ⟨-, hd⟩
              · omega
              · exact hd
            split at hs
            · rename_i x1 st2
              split at hs
              · rename_i hsum
                cases hs
                rw [abs_nm] at hlink
                exact va_mabs hx hb (hml.trans hl.1.symm) hown hlink (hts _ sabs_in) (hts _ imath_in) (hts _ cabs_in) hfr (by rw [cv_sum]; omega) hcells hslots hd2 (kk H locs hW hS)
              · cases hs
            · cases hs
          · cases hs
theorem rc_ok : (List.range nMeth).all (fun k => MX k || decide (mC.getD k 99 < 11)) = true := by decide +kernel
theorem rcv_lt {q ci : Nat} (hq : q < nMeth) (hc : ci = mC.getD q 99) (hX : MX q = false) : ci < 11 := by
  have h := all_at rc_ok hq
  rw [hX, Bool.false_or] at h
  rw [hc]
  exact of_decide_eq_true h
theorem iv_ok : (List.range nMeth).all (fun k => !isInit k || decide (MR k = none)) = true := by decide +kernel
theorem init_void {q : Nat} (hq : q < nMeth) (hI : isInit q = true) : MR q = none := by
  have h := all_at iv_ok hq
  rw [hI, Bool.not_true, Bool.false_or] at h
  exact of_decide_eq_true h
set_option maxHeartbeats 8000000 in
theorem call_sim {p : Program} {l : Launch} {e : Env} {R : Room} {s : State} {m : MethodId} {args : Array Value} {below : List Frame} {meth : Method} {c : Code} {Q : State → Prop} {k b base : Nat} {ca : Nat → ClassId} {D : va_G} {scr : Option (Nat × (Nat → Int32))} (C : Cx p s m args meth c k b base ca D scr) {f : Nat} (IH : SimAt l f)
    {pc x d q : Nat} {st as rest : List Value} {h h1 : HS} {r1 : Option Value} (hr1 : run f d none q 0 (lv_args 0 as) [] h = some (r1, h1)) (hq : q < nMeth) (hsum : (as.map fun v => v.category).sum ≤ ML q) (hst : st.map (cv b base) = (as.map (cv b base)).reverse ++ rest) (hrest : (rest.map fun v => v.category).sum ≤ 8)
    (hkind : (decode (MB k) pc = .ok (.invokevirtual x, 3) ∧ MX q = false ∧ isInit q = false ∧ as.length = MP q + 1 ∧ rcv q as h = true) ∨ (decode (MB k) pc = .ok (.invokespecial x, 3) ∧ MX q = false ∧ isInit q = true ∧ as.length = MP q + 1 ∧ rcv q as h = true) ∨ (decode (MB k) pc = .ok (.invokestatic x, 3) ∧ MX q = true ∧ as.length = MP q)) (hlk : (mC.getD k 99, x, q) ∈ mlk ∨ (mC.getD k 99, x, q) ∈ nml)
    (hfr : d + 1 ≤ R.frames) (hlo : 60 * (d + 1) ≤ R.locals) {H : Heap} {locs : List Loc} {lsA : Array Slot} {cells slots : Nat} {lv : LSt} (hW : Wd b base ca D h H) (hS : va_S (fun q : Nat => base ≤ q) s.heap H locs) (hl : lv_has lsA (ML k) lv) (hce : s.heap.size + cells = base + h.2.1) (hcells : cells + (h1.2.1 - h.2.1) ≤ R.cells) (hslots : slots + (h1.2.2 - h.2.2) ≤ R.slots)
    (kk : ∀ (H1 : Heap) (locs1 : List Loc), Wd b base ca D h1 H1 → va_S (fun q : Nat => base ≤ q) s.heap H1 locs1 → W p l e R s m args below meth c H1 locs1 (cells + (h1.2.1 - h.2.1)) (slots + (h1.2.2 - h.2.2)) Q (F0 m (pc + 3) lsA ((r1.map (cv b base)).toList ++ rest))) :
    W p l e R s m args below meth c H locs cells slots Q (F0 m pc lsA (st.map (cv b base))) := by
  obtain ⟨hx, hb, hml, hown, hts, hN, hK, hin, hbs, hscr⟩ := C
  obtain ⟨hz9, hP⟩ := id hW
  have hlow : base + h.2.1 ≤ H.size := cw_low hz9 hP (Nat.le_trans hbs hS.1)
  refine W.sz fun hsz => ?_
  have hszE : H.size = base + h.2.1 := by omega
  have M := met_of IH hr1 hq hsum b base ca D
  have hR : d + 1 ≤ R.frames ∧ 8 + (ML q + 11) + 60 * d ≤ R.locals := ⟨hfr, by have := m_ml hq; omega⟩
  have hU : ∀ U : State, U.heap = H → s.WarmedH U.vm → Pcx b base ca D as h (as.map (cv b base)).toArray U := fun U hU hW2 => ⟨rfl, by rw [hU]; exact hszE, by rw [hU]; exact hW, va_K.moved hW2.alike hK, hN.warm hW2⟩
  have hroom := lv_room (m := m) (pc := pc) (ls := lsA) (rest := st.map (cv b base)) hrest
  have S : CallFix p m c (MB k) (ML k) s args GT (cn (mC.getD k 99)) := ⟨hx, hb, hml, hown, hts⟩
  have recv : ∀ (a : Nat) (As : List Value), as = .ref a :: As → MX q = false → rcv q as h = true → ∃ cellB : Cell, H[ad b base a]? = some cellB ∧ cellB.vm.isStatics = false ∧ s.vm.findClass (MN q).cls = some cellB.cls := by
    intro a As ea hX hrc
    subst ea
    unfold rcv at hrc
    simp only [Bool.and_eq_true, decide_eq_true_eq] at hrc
    obtain ⟨ha, hrc⟩ := hrc
    split at hrc
    · rename_i ci fs hcell
      have hci := of_decide_eq_true hrc
      have he : (cw b base ca h.1 h.2.1)[a]? = some (ad b base a, .inr (ci, fs.map (cv b base))) := by rw [cw_get ha, hcell]; rfl
      have h11 : ci < 11 := rcv_lt hq hci hX
      have h12 := va_recv hK hP (cls_ws ci h11).1 he
      rw [hci] at h12
      exact h12
    · cases hrc
  rcases hkind with ⟨hd, hX, hI, hlen, hrc⟩ | ⟨hd, hX, hI, hlen, hrc⟩ | ⟨hd, hX, hlen⟩
  · obtain ⟨a, As, ea⟩ : ∃ a As, as = .ref a :: As := by
      unfold rcv at hrc
      split at hrc
      · exact ⟨_, _, rfl⟩
      · cases hrc
    have hcB := recv a As ea hX hrc
    subst ea
    have hn : (As.map (cv b base)).length = MP q := by rw [List.length_map]; simpa using hlen
    have hstack : st.map (cv b base) = (As.map (cv b base)).reverse ++ .ref (ad b base a) :: rest := by
      rw [hst, List.map_cons, List.reverse_cons, List.append_assoc]
      rfl
    rw [hstack] at hroom ⊢
    rcases hlk with hlk | hlk
    · have hlink := hts _ (mlk_in hlk)
      dsimp only at hlink
      rw [m_x hq] at hlink
      exact call_go (va_runV S M ⟨callB_of (MP q) hts (m_good hq) rfl rfl rfl (hts _ (m_init hq)) hlink ⟨(m_nm hq).1, (m_nm hq).2, m_par hq⟩ hR, hts _ (m_inst hq hX), hts _ (m_sel hq hX hI)⟩ ⟨Pcx_blind, hcB, hU⟩ rfl hn hl.1 rfl hroom hd ⟨hcells, hslots⟩) hS hbs kk
    · have hlink := hN.2.1 _ hlk
      unfold nmW at hlink
      dsimp only at hlink
      rw [m_x hq] at hlink
      exact call_go (va_runVN S M ⟨va_cnB (MP q) hts (m_good hq) rfl rfl rfl hlink (hts _ (m_init hq)) ⟨(m_nm hq).1, (m_nm hq).2, m_par hq⟩ hR, hts _ (m_inst hq hX), hts _ (m_sel hq hX hI)⟩ ⟨Pcx_blind, hcB, hU⟩ rfl hn hl.1 rfl hroom hd ⟨hcells, hslots⟩) hS hbs kk
  · obtain ⟨a, As, ea⟩ : ∃ a As, as = .ref a :: As := by
      unfold rcv at hrc
      split at hrc
      · exact ⟨_, _, rfl⟩
      · cases hrc
    subst ea
    have hn : (As.map (cv b base)).length = MP q := by rw [List.length_map]; simpa using hlen
    have hstack : st.map (cv b base) = (As.map (cv b base)).reverse ++ .ref (ad b base a) :: rest := by
      rw [hst, List.map_cons, List.reverse_cons, List.append_assoc]
      rfl
    have hnm : (MN q).name = "<init>" := eq_of_beq hI
    have hrt : MR q = none := init_void hq hI
    rw [hstack] at hroom ⊢
    have M2 : Met l (MN q) (Cond.code (MN q) (MB q) (ML q) none :: GT) ({ frames := d, cells := h1.2.1 - h.2.1, slots := h1.2.2 - h.2.2, locals := 60 * d } : Room) (Pcx b base ca D (.ref a :: As) h) (Qcx b base ca D r1 h1) (h1.2.1 - h.2.1) (h1.2.2 - h.2.2) (fun q : Nat => base ≤ q) := by
      rw [← hrt]; exact M
    have hG : GoodIn GT (Cond.code (MN q) (MB q) (ML q) none :: GT) := by rw [← hrt]; exact m_good hq
    rcases hlk with hlk | hlk
    · have hlink := hts _ (mlk_in hlk)
      dsimp only at hlink
      rw [m_x hq] at hlink
      exact call_go (va_runI S M2 ⟨callB_of (MP q) hts hG rfl rfl rfl (hts _ (m_init hq)) hlink ⟨(m_nm hq).1, (m_nm hq).2, m_par hq⟩ hR, hnm, hts _ (m_inst hq hX)⟩ ⟨Pcx_blind, hU⟩ rfl hn hl.1 rfl hroom hd ⟨hcells, hslots⟩) hS hbs kk
    · have hlink := hN.2.1 _ hlk
      unfold nmW at hlink
      dsimp only at hlink
      rw [m_x hq] at hlink
      exact call_go (va_runIN S M2 ⟨va_cnB (MP q) hts hG rfl rfl rfl hlink (hts _ (m_init hq)) ⟨(m_nm hq).1, (m_nm hq).2, m_par hq⟩ hR, hnm, hts _ (m_inst hq hX)⟩ ⟨Pcx_blind, hU⟩ rfl hn hl.1 rfl hroom hd ⟨hcells, hslots⟩) hS hbs kk
  · have hn : (as.map (cv b base)).length = MP q := by rw [List.length_map]; exact hlen
    rw [hst] at hroom ⊢
    rcases hlk with hlk | hlk
    · have hlink := hts _ (mlk_in hlk)
      dsimp only at hlink
      rw [m_x hq] at hlink
      exact call_go (va_runS S M ⟨callB_of (MP q) hts (m_good hq) rfl rfl rfl (hts _ (m_init hq)) hlink ⟨(m_nm hq).1, (m_nm hq).2, m_par hq⟩ hR, hts _ (m_stat hq hX)⟩ ⟨Pcx_blind, hU⟩ rfl hn hl.1 rfl hroom hd ⟨hcells, hslots⟩) hS hbs kk
    · have hlink := hN.2.1 _ hlk
      unfold nmW at hlink
      dsimp only at hlink
      rw [m_x hq] at hlink
      exact call_go (va_runSN S M ⟨va_cnB (MP q) hts (m_good hq) rfl rfl rfl hlink (hts _ (m_init hq)) ⟨(m_nm hq).1, (m_nm hq).2, m_par hq⟩ hR, hts _ (m_stat hq hX), trivial⟩ ⟨Pcx_blind, hU⟩ rfl hn hl.1 rfl hroom hd ⟨hcells, hslots⟩) hS hbs kk
