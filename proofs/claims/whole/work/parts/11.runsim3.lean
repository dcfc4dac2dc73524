def retAt (k : Nat) (r : Option Value) (pc : Nat) : Prop := match r with
  | some (.int v) => decode (MB k) pc = .ok (.ireturn, 1) ∧ retZ k v = true
  | some (.long _) => decode (MB k) pc = .ok (.lreturn, 1) ∧ MR k = some .long
  | none => decode (MB k) pc = .ok (.return_, 1) ∧ MR k = none
  | _ => False
def SimAt (l : Launch) (f : Nat) : Prop := ∀ (d : Nat) (scr : Option (Nat × (Nat → Int32))) (k pc : Nat) (ls : LSt) (st : List Value) (h : HS) (r : Option Value) (h' : HS), run f d scr k pc ls st h = some (r, h') → k < 184 →
  ∀ (p : Program) (e : Env) (R : Room) (s : State) (m : MethodId) (args : Array Value) (below : List Frame) (meth : Method) (c : Code) (Q : State → Prop) (b base : Nat) (ca : Nat → ClassId) (D : va_G), Cx p s m args meth c k b base ca D scr → d ≤ R.frames → 60 * d ≤ R.locals →
  ∀ (H : Heap) (locs : List Loc) (lsA : Array Slot) (cells slots : Nat), Wd b base ca D h H → va_S (fun q : Nat => base ≤ q) s.heap H locs → lv_has lsA (ML k) (cl b base ls) → s.heap.size + cells = base + h.2.1 → cells + (h'.2.1 - h.2.1) ≤ R.cells → slots + (h'.2.2 - h.2.2) ≤ R.slots →
  (∀ (H' : Heap) (locs' : List Loc) (lsA' : Array Slot) (pc' cells' slots' : Nat), cells' = cells + (h'.2.1 - h.2.1) → slots' = slots + (h'.2.2 - h.2.2) → Wd b base ca D h' H' → va_S (fun q : Nat => base ≤ q) s.heap H' locs' → retAt k r pc' → W p l e R s m args below meth c H' locs' cells' slots' Q (F0 m pc' lsA' r.toList)) →
  W p l e R s m args below meth c H locs cells slots Q (F0 m pc lsA (st.map (cv b base)))
def Pcx (b base : Nat) (ca : Nat → ClassId) (D : va_G) (as : List Value) (h : HS) : Array Value → State → Prop := va_Pc (as.map (cv b base)) (fun U => U.heap.size = base + h.2.1 ∧ Wd b base ca D h U.heap ∧ va_K D vwCl (tysOf ca) U ∧ NWd U)
def Qcx (b base : Nat) (ca : Nat → ClassId) (D : va_G) (r : Option Value) (h' : HS) : Array Value → State → Outcome → State → Prop := fun _ st oc t => oc = .returned (r.map (cv b base)) ∧ Wd b base ca D h' t.heap ∧ st.heap.size ≤ t.heap.size ∧ ∀ q : Nat, q < base → t.heap[q]? = st.heap[q]?
set_option maxHeartbeats 4000000 in
theorem met_of {l : Launch} {f : Nat} (IH : SimAt l f) {d k : Nat} {as : List Value} {h h' : HS} {r : Option Value} (hrun : run f d none k 0 (lv_args 0 as) [] h = some (r, h')) (hk : k < nMeth) (hsum : (as.map fun v => v.category).sum ≤ ML k) (b base : Nat) (ca : Nat → ClassId) (D : va_G) :
    Met l (MN k) (wCode k :: GT) ({ frames := d, cells := h'.2.1 - h.2.1, slots := h'.2.2 - h.2.2, locals := 60 * d } : Room) (Pcx b base ca D as h) (Qcx b base ca D r h') (h'.2.1 - h.2.1) (h'.2.2 - h.2.2) (fun q : Nat => base ≤ q) := by
  refine Met.ofW (cc := MB k) (maxL := ML k) (ret := MR k) (m_plain hk) rfl ?_
  intro p e s m args below meth c s₁ B hml hv
  obtain ⟨rfl, hsz, hW, hK, hN⟩ := hv
  have hts := atoms_spec (ws := wCode k :: GT) B.pre
  have hlocks := B.notSynchronized
  have hx := B.exec
  have hb := B.bytes
  have hr : meth.sig.returnType = MR k := B.returns
  have C : Cx p s m (as.map (cv b base)).toArray meth c k b base ca D none := ⟨hx, hb, hml, findClass_of_methodNamed B.named, fun w hw => hts w (List.mem_cons_of_mem _ hw), hN, hK, fun hi => by
    have h1 : meth.name = (MN k).name := (name_of_methodNamed B.named B.method).1
    rw [h1]
    exact eq_of_beq hi, by omega, fun n f h => by cases h⟩
  have hl := lv_entry (as.map (cv b base)) (n := ML k) (by rw [sl_len, cv_sum]; exact hsum)
  rw [← cl_args] at hl
  rw [lg_entry_eq]
  have h184 : k < 184 := Nat.lt_trans hk (by decide)
  refine IH d none k 0 (lv_args 0 as) [] h r h' hrun h184 p e _ s m _ below meth c _ b base ca D C (Nat.le_refl _) (Nat.le_refl _) s.heap [] _ 0 0 hW va_S.rf hl (by omega) (Nat.le_of_eq (Nat.zero_add _)) (Nat.le_of_eq (Nat.zero_add _)) ?_
  intro H' locs' lsA' pc' cells' slots' e1 e2 hW' hS' hret
  rw [Nat.zero_add] at e1 e2
  subst e1
  subst e2
  have hq : ∀ t : State, t.heap = H' → s.WarmedH t.vm → Qcx b base ca D r h' (as.map (cv b base)).toArray s (.returned (r.map (cv b base))) t := fun t ht _ => ⟨rfl, by rw [ht]; exact hW', by rw [ht]; exact hS'.1, fun q hq => by rw [ht]; exact hS'.2.1 q (by omega) (by omega)⟩
  unfold retAt at hret
  split at hret
  · rename_i v
    obtain ⟨hd, hz⟩ := hret
    unfold retZ at hz
    split at hz
    · rename_i he
      have hn : narrow .boolean (.int v) = .int v := by
        simp only [Bool.or_eq_true, decide_eq_true_eq] at hz
        rcases hz with rfl | rfl <;> rfl
      exact W.zret hx hb (hr.trans he) hn hq hS'.2.2 hd
    · rename_i he
      exact W.iret hx hb (hr.trans he) hq hS'.2.2 hd
    · cases hz
  · rename_i v
    exact W.lret hx hb (hr.trans hret.2) hq hS'.2.2 hret.1
  · exact W.vret hx hb (hr.trans hret.2) hq hS'.2.2 hret.1
  · exact hret.elim
theorem Pcx_blind {b base : Nat} {ca : Nat → ClassId} {D : va_G} {as : List Value} {h : HS} : FrameBlind (Pcx b base ca D as h) := fun a U g mk q => by
  obtain ⟨q0, q1, q2, q3, q4⟩ := q
  exact ⟨q0, q1, q2, va_K.moved (u := U) (U := U.calling g mk a) (Vm.Alike.refl U.vm) q3, q4.same rfl⟩
theorem call_go {p : Program} {l : Launch} {e : Env} {R : Room} {s : State} {m : MethodId} {args : Array Value} {below : List Frame} {meth : Method} {c : Code} {Q : State → Prop} {b base : Nat} {ca : Nat → ClassId} {D : va_G} {H : Heap} {locs : List Loc} {lsA : Array Slot} {cells slots mc ms pc : Nat} {st0 rest : List Value} {r1 : Option Value} {h1 : HS} {a : Array Value}
    (hr : va_Run p l e R s m args below meth c H locs cells slots mc ms (F0 m pc lsA st0) rest (Qcx b base ca D r1 h1 a) (fun q : Nat => base ≤ q)) (hS : va_S (fun q : Nat => base ≤ q) s.heap H locs) (hbs : base ≤ s.heap.size)
    (kk : ∀ (H1 : Heap) (locs1 : List Loc), Wd b base ca D h1 H1 → va_S (fun q : Nat => base ≤ q) s.heap H1 locs1 → W p l e R s m args below meth c H1 locs1 (cells + mc) (slots + ms) Q (F0 m (pc + 3) lsA ((r1.map (cv b base)).toList ++ rest))) : W p l e R s m args below meth c H locs cells slots Q (F0 m pc lsA st0) := by
  intro T hT X
  obtain ⟨v, st₀, t, T', L, h0, X', hL, e1, e2, ⟨hv, hw, hz, hk⟩, st⟩ := hr T hT X
  cases hv
  rw [h0] at hz hk
  obtain ⟨t2, a1, b1⟩ := kk T'.heap (locs ++ L) (by rw [e1]; exact hw) ⟨Nat.le_trans hS.1 (by rw [e1]; exact hz), fun q h2 h3 => by rw [e1, hk q (Nat.not_le.mp h3)]; exact hS.2.1 q h2 h3, fun q hq => by
    rcases List.mem_append.mp hq with h | h
    · exact hS.2.2 q h
    · exact hL q h⟩ T' rfl X'
  exact ⟨t2, st t2 a1, b1⟩
theorem stk_split {b base na : Nat} {st as : List Value} (h : (st.take na).reverse = as) : st.map (cv b base) = (as.map (cv b base)).reverse ++ (st.drop na).map (cv b base) := by
  rw [← h, List.map_reverse, List.reverse_reverse, ← List.map_append, List.take_append_drop]
