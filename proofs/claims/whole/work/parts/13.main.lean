set_option maxHeartbeats 8000000 in
/-- THE SMALL MACHINE TELLS WHAT THE MACHINE DOES -/
theorem run_sim (l : Launch) : ∀ f, SimAt l f := by
  intro f
  induction f with
  | zero =>
    intro d scr k pc ls st h r h' hr
    cases hr
  | succ f IH =>
    intro d scr k pc ls st h r h' hr hk p e R s m args below meth c Q b base ca D C hdf hdl H locs lsA cells slots hW hS hl hce hcells hslots kret
    have C0 := C
    obtain ⟨hx, hb, hml, hown, hts, hN, hK, hin, hbs, hscr⟩ := C
    obtain ⟨hz9, hP⟩ := id hW
    have go : ∀ (t : Nat) (st2 : List Value), run f d scr k t ls st2 h = some (r, h') → W p l e R s m args below meth c H locs cells slots Q (F0 m t lsA (st2.map (cv b base))) := fun t st2 ht => IH d scr k t ls st2 h r h' ht hk p e R s m args below meth c Q b base ca D C0 hdf hdl H locs lsA cells slots hW hS hl hce hcells hslots kret
    have callk : ∀ (np q na x : Nat) (rc : Bool), np = pc + 3 → (match (generalizing := false) d with
        | 0 => none
        | d + 1 => if na ≤ st.length ∧ q < nMeth ∧ ((st.drop na).map fun v => v.category).sum ≤ 8 ∧ (((st.take na).reverse).map fun v => v.category).sum ≤ ML q ∧ (rc = true → rcv q (st.take na).reverse h = true) then
            match run f d none q 0 (lv_args 0 (st.take na).reverse) [] h with
            | some (r, h') => run f (d + 1) scr k np ls (r.toList ++ st.drop na) h'
            | none => none
          else none) = some (r, h') → ((mC.getD k 99, x, q) ∈ mlk ∨ (mC.getD k 99, x, q) ∈ nml) →
        ((decode (MB k) pc = .ok (.invokevirtual x, 3) ∧ MX q = false ∧ isInit q = false ∧ na = MP q + 1 ∧ rc = true) ∨ (decode (MB k) pc = .ok (.invokespecial x, 3) ∧ MX q = false ∧ isInit q = true ∧ na = MP q + 1 ∧ rc = true) ∨ (decode (MB k) pc = .ok (.invokestatic x, 3) ∧ MX q = true ∧ na = MP q)) →
        W p l e R s m args below meth c H locs cells slots Q (F0 m pc lsA (st.map (cv b base))) := by
      intro np q na x rc enp hq hlk hkind
      subst enp
      cases d with
      | zero => cases hq
      | succ d =>
        dsimp only at hq
        split at hq
        · rename_i hcnd
          obtain ⟨c1, c2, c3, c4, c5⟩ := hcnd
          split at hq
          · rename_i r1 h1 e1
            have a1 := run_mono _ _ _ _ _ _ _ _ _ _ e1
            have a2 := run_mono _ _ _ _ _ _ _ _ _ _ hq
            have hlen : ((st.take na).reverse).length = na := by rw [List.length_reverse, List.length_take]; omega
            refine call_sim C0 IH e1 c2 c4 (stk_split rfl) (by rw [cv_sum]; exact c3) (x := x) ?_ hlk hdf hdl hW hS hl hce (by omega) (by omega) (fun H1 locs1 hW1 hS1 => ?_)
            · rcases hkind with ⟨g1, g2, g3, g4, g5⟩ | ⟨g1, g2, g3, g4, g5⟩ | ⟨g1, g2, g3⟩
              · exact Or.inl ⟨g1, g2, g3, hlen.trans g4, c5 g5⟩
              · exact Or.inr (Or.inl ⟨g1, g2, g3, hlen.trans g4, c5 g5⟩)
              · exact Or.inr (Or.inr ⟨g1, g2, hlen.trans g3⟩)
            · have e2 : (r1.map (cv b base)).toList ++ (st.drop na).map (cv b base) = (r1.toList ++ st.drop na).map (cv b base) := by
                rw [List.map_append]
                cases r1 <;> rfl
              rw [e2]
              refine IH (d + 1) scr k (pc + 3) ls (r1.toList ++ st.drop na) h1 r h' hq hk p e R s m args below meth c Q b base ca D C0 hdf hdl H1 locs1 lsA _ _ hW1 hS1 hl (by omega) (by omega) (by omega) ?_
              intro H' locs' lsA' pc' cells' slots' u1 u2
              exact kret H' locs' lsA' pc' cells' slots' (by omega) (by omega)
          · cases hq
        · cases hq
    have ownk : ∀ (np q x : Nat), np = pc + 3 → (if d = 0 then none else match own5 q st h with
        | some (st', h') => run f d scr k np ls st' h'
        | none => none) = some (r, h') → (mC.getD k 99, x, q) ∈ mlk → ((q = 500 ∧ decode (MB k) pc = .ok (.invokespecial x, 3)) ∨ (501 ≤ q ∧ decode (MB k) pc = .ok (.invokestatic x, 3))) →
        W p l e R s m args below meth c H locs cells slots Q (F0 m pc lsA (st.map (cv b base))) := by
      intro np q x enp hq hlk hd
      subst enp
      split at hq
      · cases hq
      · rename_i hd0
        split at hq
        · rename_i st1 h1 e1
          have a1 := own5_mono e1
          refine own5_sim C0 e1 hlk hd (by omega) (by omega) hW hS hl (by omega) (by omega) (fun H1 locs1 hW1 hS1 => ?_)
          refine IH d scr k (pc + 3) ls st1 h1 r h' hq hk p e R s m args below meth c Q b base ca D C0 hdf hdl H1 locs1 lsA _ _ hW1 hS1 hl (by rw [a1]; exact hce) (by rw [a1]; exact hcells) (by rw [a1]; exact hslots) ?_
          rw [a1]
          exact kret
        · cases hq
    unfold run at hr
    split at hr
    · cases hr
    rename_i i np hi
    have hck : ckE k (pc, i, np) = true := List.all_eq_true.mp (pk_all hk) _ (lkp_mem hi)
    obtain ⟨o, len, hd, hnp, hlen, hc⟩ := ckE_inv hck
    dsimp only at hr
    split at hr
    · obtain rfl := chk_iret hc
      have hlen2 : len = 1 := of_decide_eq_true hlen
      subst hlen2
      split at hr
      · split at hr
        · rename_i v hv
          cases hr
          exact kret H locs lsA pc cells slots (by omega) (by omega) hW hS ⟨hd, hv⟩
        · cases hr
      · cases hr
    · obtain rfl := chk_lret hc
      have hlen2 : len = 1 := of_decide_eq_true hlen
      subst hlen2
      split at hr
      · split at hr
        · rename_i v hv
          cases hr
          exact kret H locs lsA pc cells slots (by omega) (by omega) hW hS ⟨hd, hv⟩
        · cases hr
      · cases hr
    · obtain rfl := chk_vret hc
      have hlen2 : len = 1 := of_decide_eq_true hlen
      subst hlen2
      split at hr
      · split at hr
        · rename_i hv
          cases hr
          exact kret H locs lsA pc cells slots (by omega) (by omega) hW hS ⟨hd, hv⟩
        · cases hr
      · cases hr
    · obtain ⟨a, rfl, h1, h2⟩ := chk_goto hc
      have hlen2 : len = 3 := of_decide_eq_true hlen
      subst hlen2
      exact lv_goto hx hb hd (by omega) (go _ _ hr)
    · rename_i c0 t
      obtain ⟨a, rfl, h1, h2⟩ := chk_ifc hc
      have hlen2 : len = 3 := of_decide_eq_true hlen
      subst hlen2
      subst hnp
      split at hr
      · rename_i x st2
        cases c0 with
        | eq =>
          refine lv_if_eq (tgt := t.toNat) hx hb hd (by omega) (fun hq => ?_) (fun hq => ?_)
          · rw [if_pos (show cnd .eq x 0 = true from decide_eq_true hq)] at hr
            exact go _ _ hr
          · rw [if_neg (show ¬ cnd .eq x 0 = true from fun q => hq (of_decide_eq_true q))] at hr
            exact go _ _ hr
        | ne =>
          refine lv_if_ne (tgt := t.toNat) hx hb hd (by omega) (fun hq => ?_) (fun hq => ?_)
          · rw [if_pos (show cnd .ne x 0 = true from decide_eq_true hq)] at hr
            exact go _ _ hr
          · rw [if_neg (show ¬ cnd .ne x 0 = true from fun q => of_decide_eq_true q hq)] at hr
            exact go _ _ hr
        | lt =>
          refine lv_if_lt (tgt := t.toNat) hx hb hd (by omega) (fun hq => ?_) (fun hq => ?_)
          · rw [if_pos (show cnd .lt x 0 = true from decide_eq_true hq)] at hr
            exact go _ _ hr
          · rw [if_neg (show ¬ cnd .lt x 0 = true from fun q => hq (of_decide_eq_true q))] at hr
            exact go _ _ hr
        | ge =>
          refine lv_if_ge (tgt := t.toNat) hx hb hd (by omega) (fun hq => ?_) (fun hq => ?_)
          · rw [if_pos (show cnd .ge x 0 = true from decide_eq_true hq)] at hr
            exact go _ _ hr
          · rw [if_neg (show ¬ cnd .ge x 0 = true from fun q => hq (of_decide_eq_true q))] at hr
            exact go _ _ hr
        | gt =>
          refine lv_if_gt (tgt := t.toNat) hx hb hd (by omega) (fun hq => ?_) (fun hq => ?_)
          · rw [if_pos (show cnd .gt x 0 = true from decide_eq_true hq)] at hr
            exact go _ _ hr
          · rw [if_neg (show ¬ cnd .gt x 0 = true from fun q => hq (of_decide_eq_true q))] at hr
            exact go _ _ hr
        | le =>
          refine lv_if_le (tgt := t.toNat) hx hb hd (by omega) (fun hq => ?_) (fun hq => ?_)
          · rw [if_pos (show cnd .le x 0 = true from decide_eq_true hq)] at hr
            exact go _ _ hr
          · rw [if_neg (show ¬ cnd .le x 0 = true from fun q => hq (of_decide_eq_true q))] at hr
            exact go _ _ hr
      · cases hr
    · rename_i c0 t
      obtain ⟨a, rfl, h1, h2⟩ := chk_icm hc
      have hlen2 : len = 3 := of_decide_eq_true hlen
      subst hlen2
      subst hnp
      split at hr
      · rename_i y x st2
        cases c0 with
        | eq =>
          refine lv_icmp_eq (tgt := t.toNat) hx hb hd (by omega) (fun hq => ?_) (fun hq => ?_)
          · rw [if_pos (show cnd .eq x y = true from decide_eq_true hq)] at hr
            exact go _ _ hr
          · rw [if_neg (show ¬ cnd .eq x y = true from fun q => hq (of_decide_eq_true q))] at hr
            exact go _ _ hr
        | ne =>
          refine lv_icmp_ne (tgt := t.toNat) hx hb hd (by omega) (fun hq => ?_) (fun hq => ?_)
          · rw [if_pos (show cnd .ne x y = true from decide_eq_true hq)] at hr
            exact go _ _ hr
          · rw [if_neg (show ¬ cnd .ne x y = true from fun q => of_decide_eq_true q hq)] at hr
            exact go _ _ hr
        | lt =>
          refine lv_icmp_lt (tgt := t.toNat) hx hb hd (by omega) (fun hq => ?_) (fun hq => ?_)
          · rw [if_pos (show cnd .lt x y = true from decide_eq_true hq)] at hr
            exact go _ _ hr
          · rw [if_neg (show ¬ cnd .lt x y = true from fun q => hq (of_decide_eq_true q))] at hr
            exact go _ _ hr
        | ge =>
          refine lv_icmp_ge (tgt := t.toNat) hx hb hd (by omega) (fun hq => ?_) (fun hq => ?_)
          · rw [if_pos (show cnd .ge x y = true from decide_eq_true hq)] at hr
            exact go _ _ hr
          · rw [if_neg (show ¬ cnd .ge x y = true from fun q => hq (of_decide_eq_true q))] at hr
            exact go _ _ hr
        | gt =>
          refine lv_icmp_gt (tgt := t.toNat) hx hb hd (by omega) (fun hq => ?_) (fun hq => ?_)
          · rw [if_pos (show cnd .gt x y = true from decide_eq_true hq)] at hr
            exact go _ _ hr
          · rw [if_neg (show ¬ cnd .gt x y = true from fun q => hq (of_decide_eq_true q))] at hr
            exact go _ _ hr
        | le =>
          refine lv_icmp_le (tgt := t.toNat) hx hb hd (by omega) (fun hq => ?_) (fun hq => ?_)
          · rw [if_pos (show cnd .le x y = true from decide_eq_true hq)] at hr
            exact go _ _ hr
          · rw [if_neg (show ¬ cnd .le x y = true from fun q => hq (of_decide_eq_true q))] at hr
            exact go _ _ hr
      · cases hr
    · rename_i df lo hi2 os
      obtain ⟨a, os2, rfl, h1, h2, h3, h4⟩ := chk_tsw hc
      split at hr
      · rename_i x st2
        split at hr
        · rename_i hout
          exact lv_tableOut hx hb hd hout (by omega) (go _ _ hr)
        · rename_i hinn
          split at hr
          · rename_i t ht
            rw [← h3, List.getElem?_map] at ht
            cases ho : os2.toList[(x.toInt - lo).toNat]? with
            | none => rw [ho] at ht; cases ht
            | some off =>
              rw [ho] at ht
              have e3 : (pc : Int) + off = t := Option.some.inj ht
              have e4 : 0 ≤ t := by
                have h5 := List.all_eq_true.mp h4 t (by rw [← h3]; exact e3 ▸ List.mem_map_of_mem (f := fun o => (pc : Int) + o) (List.mem_of_getElem? ho))
                exact of_decide_eq_true h5
              exact lv_tableIn hx hb hd (fun q => hinn (Or.inl q)) (fun q => hinn (Or.inr q)) (by rw [← Array.getElem?_toList]; exact ho) (by omega) (go _ _ hr)
          · cases hr
      · cases hr
    · rename_i df qs
      obtain ⟨a, ps, rfl, h1, h2, h3, h4, h5⟩ := chk_lsw hc
      split at hr
      · rename_i x st2
        have key : ∀ (pl ql : List (Int × Int)), pl.map (fun q => (q.1, (pc : Int) + q.2)) = ql → ql.all (fun q => decide (0 ≤ q.2)) = true → (pc : Int) + Op.lookupswitch.offset pl a x.toInt = swl ql df x.toInt ∧ 0 ≤ swl ql df x.toInt := by
          intro pl
          induction pl with
          | nil =>
            intro ql e1 _
            subst e1
            exact ⟨h1, h2⟩
          | cons w pl ihp =>
            intro ql e1 e2
            obtain ⟨wa, wo⟩ := w
            subst e1
            rw [List.map_cons, List.all_cons, Bool.and_eq_true] at e2
            rw [Op.lookupswitch.offset_cons]
            rw [List.map_cons]
            unfold swl
            dsimp only
            by_cases hw : wa = x.toInt
            · rw [if_pos hw, if_pos hw]
              exact ⟨rfl, of_decide_eq_true e2.1⟩
            · rw [if_neg hw, if_neg hw]
              exact ihp _ rfl e2.2
        obtain ⟨k1, k2⟩ := key ps.toList qs.toList h3 h4
        exact lv_lookup hx hb hd h5 rfl (by omega) (go _ _ hr)
      · cases hr
    · obtain ⟨x, rfl, h1, h2, h3, h4⟩ := chk_inv hc
      have hlen2 : len = 3 := of_decide_eq_true hlen
      subst hlen2
      exact callk np _ _ x true hnp.symm hr (ckM_in h1) (Or.inl ⟨hd, h2, h3, rfl, rfl⟩)
    · obtain ⟨x, rfl, h1, h2⟩ := chk_ins hc
      have hlen2 : len = 3 := of_decide_eq_true hlen
      subst hlen2
      have h500 : nMeth < 500 := by decide
      split at hr
      · rename_i hlt
        rcases h2 with ⟨g1, g2⟩ | ⟨g1, g2, g3⟩
        · omega
        · exact callk np _ _ x true hnp.symm hr (ckM_in h1) (Or.inr (Or.inl ⟨hd, g1, g2, rfl, rfl⟩))
      · rename_i hlt
        rcases h2 with ⟨g1, g2⟩ | ⟨g1, g2, g3⟩
        · exact ownk np _ x hnp.symm hr (ckM_nn h1 g1) (Or.inl ⟨g2, hd⟩)
        · omega
    · obtain ⟨x, rfl, h1, h2⟩ := chk_inst hc
      have hlen2 : len = 3 := of_decide_eq_true hlen
      subst hlen2
      have h500 : nMeth < 500 := by decide
      split at hr
      · rename_i hlt
        rcases h2 with ⟨g1, g2⟩ | ⟨g1, g2⟩
        · omega
        · exact callk np _ _ x false hnp.symm hr (ckM_in h1) (Or.inr (Or.inr ⟨hd, g1, rfl⟩))
      · rename_i hlt
        rcases h2 with ⟨g1, g2⟩ | ⟨g1, g2⟩
        · exact ownk np _ x hnp.symm hr (ckM_nn h1 g1) (Or.inr ⟨g2, hd⟩)
        · omega
    · split at hr
      · rename_i ls1 st1 h1 e1
        have a1 := stp_mono e1
        have a2 := run_mono _ _ _ _ _ _ _ _ _ _ hr
        refine stp_sim C0 hck e1 hW hS hl hce (by omega) (by omega) (fun H1 locs1 lsA1 cells1 slots1 u1 u2 hW1 hS1 hl1 => ?_)
        refine IH d scr k np ls1 st1 h1 r h' hr hk p e R s m args below meth c Q b base ca D C0 hdf hdl H1 locs1 lsA1 cells1 slots1 hW1 hS1 hl1 (by omega) (by omega) (by omega) ?_
        intro H' locs' lsA' pc' cells' slots' v1 v2
        exact kret H' locs' lsA' pc' cells' slots' (by omega) (by omega)
      · cases hr
