/-- an empty heap -/
def h00 : HS := (fun _ => .inr (0, []), 0, 0)
/-- THE PURE STATEMENT: what is to be shown of the small machine alone -/
def PureLaw : Prop := ∀ (L : Nat) (xs : Nat → Int32), L ≤ 384 → ∃ (f : Nat) (h' : HS), run f 30 (some (L, xs)) 183 0 [(0, .ref 999999)] [] h00 = some (some (.int 1), h') ∧ h'.2.1 ≤ 600000 ∧ h'.2.2 ≤ 7302250
theorem ao_st : Cond.arrayOver (.object "BoxSpider$Stand") ∈ lw_tbl := by decide +kernel
theorem ao_sh : Cond.arrayOver (.object "BoxSpider$Sheet") ∈ lw_tbl := by decide +kernel
set_option maxHeartbeats 4000000 in
theorem bridge (PL : PureLaw) {p : Program} {e : Env} {s : State} {m : MethodId} {below : List Frame} {meth : Method} {c : Code} (l : Launch) {b L : Nat} {xs : Nat → Int32} (hL : L ≤ 384) (C0 : lw_At p s m meth c b L xs) : W p l e room_1 s m #[Value.ref b] below meth c s.heap [] 0 0 (lw_Z below #[Value.ref b] s) (entryFrame m ([Value.ref b] : List Value).toArray 4) := by
  obtain ⟨hx, hb, hr, hml, hown, hts0, hX, hbl, hlocks, hgv⟩ := C0
  have hts : ∀ w ∈ GT, w.before #[Value.ref b] s = true := fun w hw => hts0 w (GT_in hw)
  have hkn : ∀ ci : Nat, ∃ q : ClassId × (Nat → Nat), ci < 11 → u_Kn s (cn ci) (fT ci) (fN ci) q.1 q.2 := by
    intro ci
    by_cases hc : ci < 11
    · obtain ⟨-, -, h2, h3⟩ := cls_ws ci hc
      obtain ⟨cC, iS, h4⟩ := u_known hts h3 (hts _ h2)
      exact ⟨(cC, iS), fun _ => h4⟩
    · exact ⟨(0, fun _ => 0), fun h => absurd h hc⟩
  obtain ⟨G, hG⟩ := Classical.axiomOfChoice hkn
  obtain ⟨cI, kI, compI, i1, i2, i3⟩ := Cond.arrayClass_spec (hts _ aint_in)
  have a1 : va_AO "BoxSpider$Stand" s := va_AO.of (hts0 _ ao_st)
  have a2 : va_AO "BoxSpider$Sheet" s := va_AO.of (hts0 _ ao_sh)
  obtain ⟨comp1, c1, k1, s1, -, s3, s4, s5⟩ := Cond.arrayOver_spec (hts0 _ ao_st)
  obtain ⟨comp2, c2, k2, t1, -, t3, t4, t5⟩ := Cond.arrayOver_spec (hts0 _ ao_sh)
  have hK : va_K (fun ci => (G ci).1, fun ci => (G ci).2) vwCl (tysOf (fun t => if t = 0 then cI else if t = 1 then c1 else c2)) s := by
    refine ⟨fun ci q hq => ?_, fun k q hq => ?_⟩
    · have hlt : ci < 11 := (List.getElem?_eq_some_iff.mp hq).1
      rw [(cls_ws ci hlt).1] at hq
      cases hq
      exact hG ci hlt
    · match k, hq with
      | 0, hq =>
        cases hq
        exact ⟨fun n z => ⟨(fun k h => by cases h), kI, i2, compI, i3⟩, i1⟩
      | 1, hq =>
        cases hq
        exact ⟨fun n z => ⟨(fun k h => by cases h), k1, s3, comp1, s4⟩, k1, comp1, s3, s4, s1, s5⟩
      | 2, hq =>
        cases hq
        exact ⟨fun n z => ⟨(fun k h => by cases h), k2, t3, comp2, t4⟩, k2, comp2, t3, t4, t1, t5⟩
      | k + 3, hq => simp [tysOf] at hq
  have hN : NWd s := ⟨fun q hq => va_Nw.of rfl (hts0 _ (nfl_in hq)), fun q hq => va_Nw.of rfl (hts0 _ (nml_in hq)), a1, a2⟩
  have C : Cx p s m #[Value.ref b] meth c 183 b s.heap.size (fun t => if t = 0 then cI else if t = 1 then c1 else c2) (fun ci => (G ci).1, fun ci => (G ci).2) (some (L, xs)) := ⟨hx, hb, hml, hown, hts, hN, hK, fun h => absurd h (by decide), Nat.le_refl _, fun n f h => by cases h; exact ⟨hX, hbl⟩⟩
  obtain ⟨f, h', hrun, hz1, hz2⟩ := PL L xs hL
  have hl := lv_entry ([.ref b]) (n := 4) (Nat.le_of_ble_eq_true rfl)
  rw [lg_entry_eq]
  refine run_sim l f 30 (some (L, xs)) 183 0 [(0, .ref 999999)] [] h00 _ h' hrun (by decide) p e room_1 s m _ below meth c _ b s.heap.size _ _ C (by decide) (by decide) s.heap [] _ 0 0 ⟨by decide, fun k q hq => by cases hq⟩ va_S.rf hl rfl (by show 0 + (h'.2.1 - 0) ≤ 600000; omega) (by show 0 + (h'.2.2 - 0) ≤ 7302250; omega) ?_
  intro H' locs' lsA' pc' cells' slots' e1 e2 hW' hS' hret
  refine va_forget (fun q hq => hS'.2.2 q hq) ?_
  refine W.widen (k := 600000) (n := 7302250) (by rw [e1]; show 0 + (h'.2.1 - 0) ≤ 600000; omega) (by rw [e2]; show 0 + (h'.2.2 - 0) ≤ 7302250; omega) ?_
  exact lw_ret hx hb hr hlocks hret.1
