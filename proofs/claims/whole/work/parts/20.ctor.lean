/-! THE CONSTRUCTORS: run by rows that rfl closes -/
def Gq (d : Nat) (scr : Option (Nat × (Nat → Int32))) (m pc : Nat) (ls : LSt) (st : List Value) (h : HS) (r : Option Value) (h' : HS) : Prop := ∃ N : Nat, ∀ f : Nat, N ≤ f → run f d scr m pc ls st h = some (r, h')
section GQ
variable {d m pc np : Nat} {scr : Option (Nat × (Nat → Int32))} {ls : LSt} {st : List Value} {h h' : HS} {r : Option Value}
theorem Gq.step {ls2 : LSt} {pc2 : Nat} {st2 : List Value} {h2 : HS} (e : ∀ f, run (f + 1) d scr m pc ls st h = run f d scr m pc2 ls2 st2 h2) (k : Gq d scr m pc2 ls2 st2 h2 r h') : Gq d scr m pc ls st h r h' := by
  obtain ⟨N, hN⟩ := k
  refine ⟨N + 1, fun f hf => ?_⟩
  obtain ⟨g, rfl⟩ : ∃ g, f = g + 1 := ⟨f - 1, by omega⟩
  rw [e g]
  exact hN g (by omega)
theorem Gq_stp {i : Instr} {ls' : LSt} {st' : List Value} {h1 : HS} (hi : ins m pc = some (i, np)) (hc : ctl i = false) (hs : stp scr i (ML m) ls st h = some (ls', st', h1)) (k : Gq d scr m np ls' st' h1 r h') : Gq d scr m pc ls st h r h' := Gq.step (fun f => run_stp hi hc hs) k
theorem Gq_goto {t : Int} (t' : Nat) (hi : ins m pc = some (.goto t, np)) (ht : t.toNat = t') (k : Gq d scr m t' ls st h r h') : Gq d scr m pc ls st h r h' := by
  subst ht
  exact Gq.step (fun f => by rw [run_ctl hi]) k
theorem Gq_icT {c : ClassFile.Cond} {x y : Int32} {t : Int} (t' : Nat) (hi : ins m pc = some (.if_icmp c t, np)) (hq : cnd c x y = true) (ht : t.toNat = t') (k : Gq d scr m t' ls st h r h') : Gq d scr m pc ls (.int y :: .int x :: st) h r h' := by
  subst ht
  exact Gq.step (fun f => by rw [run_ctl hi]; exact if_pos hq) k
theorem Gq_icF {c : ClassFile.Cond} {x y : Int32} {t : Int} (hi : ins m pc = some (.if_icmp c t, np)) (hq : cnd c x y = false) (k : Gq d scr m np ls st h r h') : Gq d scr m pc ls (.int y :: .int x :: st) h r h' :=
  Gq.step (fun f => by rw [run_ctl hi]; exact if_neg (by rw [hq]; decide)) k
theorem Gq_vret (hi : ins m pc = some (.return_, np)) (hz : MR m = none) : Gq d scr m pc ls [] h none h := ⟨1, fun f hf => by
  obtain ⟨g, rfl⟩ : ∃ g, f = g + 1 := ⟨f - 1, by omega⟩
  rw [run_ctl hi]
  exact if_pos hz⟩
theorem Gq_obj {e a : Nat} (hi : ins m pc = some (.invokespecial e, np)) (hq : e % 1000 = 500) (hs : Nat.ble (st.map fun v => v.category).sum 8 = true) (k : Gq (d + 1) scr m np ls st h r h') : Gq (d + 1) scr m pc ls (.ref a :: st) h r h' := by
  refine Gq.step (fun f => ?_) k
  rw [run_ctl hi]
  dsimp only
  rw [hq, if_neg (by decide), if_neg (by omega)]
  have e1 : own5 500 (.ref a :: st) h = some (st, h) := by unfold own5; rw [if_pos rfl]; exact if_pos (Nat.le_of_ble_eq_true hs)
  rw [e1]
theorem Gq_ini {e q : Nat} {as rest : List Value} {h1 : HS} (na : Nat) (hi : ins m pc = some (.invokespecial e, np)) (hq : e % 1000 = q) (hna : MP q + 1 = na) (hlt : Nat.blt q nMeth = true) (hlen : Nat.ble na st.length = true) (hst : (st.take na).reverse = as) (hrest : st.drop na = rest) (hs1 : Nat.ble (rest.map fun v => v.category).sum 8 = true) (hs2 : Nat.ble (as.map fun v => v.category).sum (ML q) = true) (hrc : rcv q as h = true)
    (S : Gq d none q 0 (lv_args 0 as) [] h none h1) (k : Gq (d + 1) scr m np ls rest h1 r h') : Gq (d + 1) scr m pc ls st h r h' := by
  subst hq
  subst hna
  subst hst
  subst hrest
  obtain ⟨N1, h1'⟩ := S
  obtain ⟨N2, h2'⟩ := k
  refine ⟨N1 + N2 + 1, fun f hf => ?_⟩
  obtain ⟨g, rfl⟩ : ∃ g, f = g + 1 := ⟨f - 1, by omega⟩
  rw [run_ctl hi]
  dsimp only
  have h5 : nMeth < 500 := by decide
  have h6 : e % 1000 < nMeth := Nat.le_of_ble_eq_true hlt
  rw [if_pos (by omega), if_pos ⟨Nat.le_of_ble_eq_true hlen, h6, Nat.le_of_ble_eq_true hs1, Nat.le_of_ble_eq_true hs2, fun _ => hrc⟩, h1' g (by omega)]
  exact h2' g (by omega)
theorem Gq.heap {h2 : HS} (e : h = h2) (k : Gq d scr m pc ls st h2 r h') : Gq d scr m pc ls st h r h' := e ▸ k
def Gc (d : Nat) (scr : Option (Nat × (Nat → Int32))) (m pc : Nat) (ls : LSt) (st : List Value) (h : HS) (K : Option Value → HS → Prop) : Prop := ∃ r h', Gq d scr m pc ls st h r h' ∧ K r h'
variable {K : Option Value → HS → Prop}
theorem Gc_stp {i : Instr} {ls' : LSt} {st' : List Value} {h1 : HS} (hi : ins m pc = some (i, np)) (hc : ctl i = false) (hs : stp scr i (ML m) ls st h = some (ls', st', h1)) (k : Gc d scr m np ls' st' h1 K) : Gc d scr m pc ls st h K := by
  obtain ⟨r, h', k, kk⟩ := k
  exact ⟨r, h', Gq_stp hi hc hs k, kk⟩
theorem Gc_goto {t : Int} (t' : Nat) (hi : ins m pc = some (.goto t, np)) (ht : t.toNat = t') (k : Gc d scr m t' ls st h K) : Gc d scr m pc ls st h K := by
  obtain ⟨r, h', k, kk⟩ := k
  exact ⟨r, h', Gq_goto t' hi ht k, kk⟩
theorem Gc_icT {c : ClassFile.Cond} {x y : Int32} {t : Int} (t' : Nat) (hi : ins m pc = some (.if_icmp c t, np)) (hq : cnd c x y = true) (ht : t.toNat = t') (k : Gc d scr m t' ls st h K) : Gc d scr m pc ls (.int y :: .int x :: st) h K := by
  obtain ⟨r, h', k, kk⟩ := k
  exact ⟨r, h', Gq_icT t' hi hq ht k, kk⟩
theorem Gc_icF {c : ClassFile.Cond} {x y : Int32} {t : Int} (hi : ins m pc = some (.if_icmp c t, np)) (hq : cnd c x y = false) (k : Gc d scr m np ls st h K) : Gc d scr m pc ls (.int y :: .int x :: st) h K := by
  obtain ⟨r, h', k, kk⟩ := k
  exact ⟨r, h', Gq_icF hi hq k, kk⟩
theorem Gc_vret (hi : ins m pc = some (.return_, np)) (hz : MR m = none) (k : K none h) : Gc d scr m pc ls [] h K := ⟨none, h, Gq_vret hi hz, k⟩
theorem Gc_obj {e a : Nat} (hi : ins m pc = some (.invokespecial e, np)) (hq : e % 1000 = 500) (hs : Nat.ble (st.map fun v => v.category).sum 8 = true) (k : Gc (d + 1) scr m np ls st h K) : Gc (d + 1) scr m pc ls (.ref a :: st) h K := by
  obtain ⟨r, h', k, kk⟩ := k
  exact ⟨r, h', Gq_obj hi hq hs k, kk⟩
theorem Gc_ini {e q : Nat} {as rest : List Value} (na : Nat) (hi : ins m pc = some (.invokespecial e, np)) (hq : e % 1000 = q) (hna : MP q + 1 = na) (hlt : Nat.blt q nMeth = true) (hlen : Nat.ble na st.length = true) (hst : (st.take na).reverse = as) (hrest : st.drop na = rest) (hs1 : Nat.ble (rest.map fun v => v.category).sum 8 = true) (hs2 : Nat.ble (as.map fun v => v.category).sum (ML q) = true) (hrc : rcv q as h = true) (lv : LSt) (hlv : lv_args 0 as = lv)
    (S : Gc d none q 0 lv [] h (fun r1 h1 => r1 = none ∧ Gc (d + 1) scr m np ls rest h1 K)) : Gc (d + 1) scr m pc ls st h K := by
  subst hlv
  obtain ⟨r1, h1, S, rfl, r, h', k, kk⟩ := S
  exact ⟨r, h', Gq_ini na hi hq hna hlt hlen hst hrest hs1 hs2 hrc S k, kk⟩
end GQ
def sg0 : Hp := fun c => match c with
  | 1 => fun k => match k with
    | 6 => 1
    | _ => 0
  | 2 => (upd (upd (upd (fun _ => 0) 0 30) 1 12) 2 12)
  | 38 => fun k => match k with
    | 1 => -1
    | _ => 0
  | 40 => fun k => match k with
    | 1 => -1
    | _ => 0
  | 42 => fun k => match k with
    | 1 => -1
    | _ => 0
  | 44 => fun k => match k with
    | 1 => -1
    | _ => 0
  | 47 => (upd (upd (upd (upd (fun _ => 0) 0 (-1)) 1 (-1)) 2 (-1)) 3 (-1))
  | 51 => (upd (upd (upd (fun _ => 0) 0 12) 1 12) 2 30)
  | _ => fun _ => 0
set_option maxRecDepth 1000000 in
set_option maxHeartbeats 40000000 in
theorem ctor (scr : Option (Nat × (Nat → Int32))) (r : Option Value) (h' : HS) (k : ∀ ls : LSt, lsub [(0, .ref 999999), (1, .ref 0), (2, .ref 46), (3, .int 0)] ls → Gq 30 scr 183 18 ls [] (HSx sg0) r h') : Gq 30 scr 183 0 [(0, .ref 999999)] [] h00 r h' := by
  suffices H : Gc 30 scr 183 0 [(0, .ref 999999)] [] h00 (fun r2 h2 => r2 = r ∧ h2 = h') by
    obtain ⟨r2, h2, k2, rfl, rfl⟩ := H
    exact k2
  refine Gc_stp rfl rfl rfl ?_
  refine Gc_stp rfl rfl rfl ?_
  refine Gc_ini 1 rfl rfl rfl rfl rfl rfl rfl rfl rfl rfl [(0, .ref 0)] rfl ?_
  refine Gc_stp rfl rfl rfl ?_
  refine Gc_obj rfl rfl rfl ?_
  refine Gc_stp rfl rfl rfl ?_
  refine Gc_stp rfl rfl rfl ?_
  refine Gc_stp rfl rfl rfl ?_
  refine Gc_ini 1 rfl rfl rfl rfl rfl rfl rfl rfl rfl rfl [(0, .ref 1)] rfl ?_
  refine Gc_stp rfl rfl rfl ?_
  refine Gc_obj rfl rfl rfl ?_
  refine Gc_stp rfl rfl rfl ?_
  refine Gc_stp rfl rfl rfl ?_
  refine Gc_stp rfl rfl rfl ?_
  refine Gc_stp rfl rfl rfl ?_
  refine Gc_stp rfl rfl rfl ?_
  refine Gc_stp rfl rfl rfl ?_
  refine Gc_stp rfl rfl rfl ?_
  refine Gc_stp rfl rfl rfl ?_
  refine Gc_stp rfl rfl rfl ?_
  refine Gc_stp rfl rfl rfl ?_
  refine Gc_stp rfl rfl rfl ?_
  refine Gc_stp rfl rfl rfl ?_
  refine Gc_stp rfl rfl rfl ?_
  refine Gc_stp rfl rfl rfl ?_
  refine Gc_stp rfl rfl rfl ?_
  refine Gc_stp rfl rfl rfl ?_
  refine Gc_stp rfl rfl rfl ?_
  refine Gc_stp rfl rfl rfl ?_
  refine Gc_stp rfl rfl rfl ?_
  refine Gc_stp rfl rfl rfl ?_
  refine Gc_stp rfl rfl rfl ?_
  refine Gc_stp rfl rfl rfl ?_
  refine Gc_stp rfl rfl rfl ?_
  refine Gc_stp rfl rfl rfl ?_
  refine Gc_stp rfl rfl rfl ?_
  refine Gc_stp rfl rfl rfl ?_
  refine Gc_stp rfl rfl rfl ?_
  refine Gc_stp rfl rfl rfl ?_
  refine Gc_stp rfl rfl rfl ?_
  refine Gc_stp rfl rfl rfl ?_
  refine Gc_stp rfl rfl rfl ?_
  refine Gc_stp rfl rfl rfl ?_
  refine Gc_stp rfl rfl rfl ?_
  refine Gc_stp rfl rfl rfl ?_
  refine Gc_stp rfl rfl rfl ?_
  refine Gc_ini 1 rfl rfl rfl rfl rfl rfl rfl rfl rfl rfl [(0, .ref 7)] rfl ?_
  refine Gc_stp rfl rfl rfl ?_
  refine Gc_obj rfl rfl rfl ?_
  refine Gc_stp rfl rfl rfl ?_
  refine Gc_stp rfl rfl rfl ?_
  refine Gc_stp rfl rfl rfl ?_
  refine Gc_stp rfl rfl rfl ?_
  refine Gc_vret rfl rfl ⟨rfl, ?_⟩
  refine Gc_stp rfl rfl rfl ?_
  refine Gc_stp rfl rfl rfl ?_
  refine Gc_stp rfl rfl rfl ?_
  refine Gc_stp rfl rfl rfl ?_
  refine Gc_vret rfl rfl ⟨rfl, ?_⟩
  refine Gc_stp rfl rfl rfl ?_
  refine Gc_stp rfl rfl rfl ?_
  refine Gc_stp rfl rfl rfl ?_
  refine Gc_stp rfl rfl rfl ?_
  refine Gc_ini 1 rfl rfl rfl rfl rfl rfl rfl rfl rfl rfl [(0, .ref 9)] rfl ?_
  refine Gc_stp rfl rfl rfl ?_
  refine Gc_obj rfl rfl rfl ?_
  refine Gc_stp rfl rfl rfl ?_
  refine Gc_stp rfl rfl rfl ?_
  refine Gc_stp rfl rfl rfl ?_
  refine Gc_stp rfl rfl rfl ?_
  refine Gc_stp rfl rfl rfl ?_
  refine Gc_stp rfl rfl rfl ?_
  refine Gc_stp rfl rfl rfl ?_
  refine Gc_vret rfl rfl ⟨rfl, ?_⟩
  refine Gc_stp rfl rfl rfl ?_
  refine Gc_stp rfl rfl rfl ?_
  refine Gc_stp rfl rfl rfl ?_
  refine Gc_stp rfl rfl rfl ?_
  refine Gc_stp rfl rfl rfl ?_
  refine Gc_stp rfl rfl rfl ?_
  refine Gc_ini 2 rfl rfl rfl rfl rfl rfl rfl rfl rfl rfl [(0, .ref 11), (1, .ref 1)] rfl ?_
  refine Gc_stp rfl rfl rfl ?_
  refine Gc_obj rfl rfl rfl ?_
  refine Gc_stp rfl rfl rfl ?_
  refine Gc_stp rfl rfl rfl ?_
  refine Gc_stp rfl rfl rfl ?_
  refine Gc_ini 1 rfl rfl rfl rfl rfl rfl rfl rfl rfl rfl [(0, .ref 12)] rfl ?_
  refine Gc_stp rfl rfl rfl ?_
  refine Gc_obj rfl rfl rfl ?_
  refine Gc_stp rfl rfl rfl ?_
  refine Gc_stp rfl rfl rfl ?_
  refine Gc_stp rfl rfl rfl ?_
  refine Gc_stp rfl rfl rfl ?_
  refine Gc_vret rfl rfl ⟨rfl, ?_⟩
  refine Gc_stp rfl rfl rfl ?_
  refine Gc_stp rfl rfl rfl ?_
  refine Gc_stp rfl rfl rfl ?_
  refine Gc_stp rfl rfl rfl ?_
  refine Gc_ini 1 rfl rfl rfl rfl rfl rfl rfl rfl rfl rfl [(0, .ref 14)] rfl ?_
  refine Gc_stp rfl rfl rfl ?_
  refine Gc_obj rfl rfl rfl ?_
  refine Gc_stp rfl rfl rfl ?_
  refine Gc_stp rfl rfl rfl ?_
  refine Gc_stp rfl rfl rfl ?_
  refine Gc_stp rfl rfl rfl ?_
  refine Gc_vret rfl rfl ⟨rfl, ?_⟩
  refine Gc_stp rfl rfl rfl ?_
  refine Gc_stp rfl rfl rfl ?_
  refine Gc_stp rfl rfl rfl ?_
  refine Gc_stp rfl rfl rfl ?_
  refine Gc_ini 1 rfl rfl rfl rfl rfl rfl rfl rfl rfl rfl [(0, .ref 16)] rfl ?_
  refine Gc_stp rfl rfl rfl ?_
  refine Gc_obj rfl rfl rfl ?_
  refine Gc_vret rfl rfl ⟨rfl, ?_⟩
  refine Gc_stp rfl rfl rfl ?_
  refine Gc_stp rfl rfl rfl ?_
  refine Gc_stp rfl rfl rfl ?_
  refine Gc_stp rfl rfl rfl ?_
  refine Gc_stp rfl rfl rfl ?_
  refine Gc_stp rfl rfl rfl ?_
  refine Gc_stp rfl rfl rfl ?_
  refine Gc_stp rfl rfl rfl ?_
  refine Gc_stp rfl rfl rfl ?_
  refine Gc_stp rfl rfl rfl ?_
  refine Gc_stp rfl rfl rfl ?_
  refine Gc_stp rfl rfl rfl ?_
  refine Gc_stp rfl rfl rfl ?_
  refine Gc_stp rfl rfl rfl ?_
  refine Gc_stp rfl rfl rfl ?_
  refine Gc_stp rfl rfl rfl ?_
  refine Gc_icF rfl rfl ?_
  refine Gc_stp rfl rfl rfl ?_
  refine Gc_stp rfl rfl rfl ?_
  refine Gc_stp rfl rfl rfl ?_
  refine Gc_stp rfl rfl rfl ?_
  refine Gc_stp rfl rfl rfl ?_
  refine Gc_ini 1 rfl rfl rfl rfl rfl rfl rfl rfl rfl rfl [(0, .ref 19)] rfl ?_
  refine Gc_stp rfl rfl rfl ?_
  refine Gc_obj rfl rfl rfl ?_
  refine Gc_vret rfl rfl ⟨rfl, ?_⟩
  refine Gc_stp rfl rfl rfl ?_
  refine Gc_stp rfl rfl rfl ?_
  refine Gc_goto 59 rfl rfl ?_
  refine Gc_stp rfl rfl rfl ?_
  refine Gc_stp rfl rfl rfl ?_
  refine Gc_icF rfl rfl ?_
  refine Gc_stp rfl rfl rfl ?_
  refine Gc_stp rfl rfl rfl ?_
  refine Gc_stp rfl rfl rfl ?_
  refine Gc_stp rfl rfl rfl ?_
  refine Gc_stp rfl rfl rfl ?_
  refine Gc_ini 1 rfl rfl rfl rfl rfl rfl rfl rfl rfl rfl [(0, .ref 20)] rfl ?_
  refine Gc_stp rfl rfl rfl ?_
  refine Gc_obj rfl rfl rfl ?_
  refine Gc_vret rfl rfl ⟨rfl, ?_⟩
  refine Gc_stp rfl rfl rfl ?_
  refine Gc_stp rfl rfl rfl ?_
  refine Gc_goto 59 rfl rfl ?_
  refine Gc_stp rfl rfl rfl ?_
  refine Gc_stp rfl rfl rfl ?_
  refine Gc_icF rfl rfl ?_
  refine Gc_stp rfl rfl rfl ?_
  refine Gc_stp rfl rfl rfl ?_
  refine Gc_stp rfl rfl rfl ?_
  refine Gc_stp rfl rfl rfl ?_
  refine Gc_stp rfl rfl rfl ?_
  refine Gc_ini 1 rfl rfl rfl rfl rfl rfl rfl rfl rfl rfl [(0, .ref 21)] rfl ?_
  refine Gc_stp rfl rfl rfl ?_
  refine Gc_obj rfl rfl rfl ?_
  refine Gc_vret rfl rfl ⟨rfl, ?_⟩
  refine Gc_stp rfl rfl rfl ?_
  refine Gc_stp rfl rfl rfl ?_
  refine Gc_goto 59 rfl rfl ?_
  refine Gc_stp rfl rfl rfl ?_
  refine Gc_stp rfl rfl rfl ?_
  refine Gc_icF rfl rfl ?_
  refine Gc_stp rfl rfl rfl ?_
  refine Gc_stp rfl rfl rfl ?_
  refine Gc_stp rfl rfl rfl ?_
  refine Gc_stp rfl rfl rfl ?_
  refine Gc_stp rfl rfl rfl ?_
  refine Gc_ini 1 rfl rfl rfl rfl rfl rfl rfl rfl rfl rfl [(0, .ref 22)] rfl ?_
  refine Gc_stp rfl rfl rfl ?_
  refine Gc_obj rfl rfl rfl ?_
  refine Gc_vret rfl rfl ⟨rfl, ?_⟩
  refine Gc_stp rfl rfl rfl ?_
  refine Gc_stp rfl rfl rfl ?_
  refine Gc_goto 59 rfl rfl ?_
  refine Gc_stp rfl rfl rfl ?_
  refine Gc_stp rfl rfl rfl ?_
  refine Gc_icF rfl rfl ?_
  refine Gc_stp rfl rfl rfl ?_
  refine Gc_stp rfl rfl rfl ?_
  refine Gc_stp rfl rfl rfl ?_
  refine Gc_stp rfl rfl rfl ?_
  refine Gc_stp rfl rfl rfl ?_
  refine Gc_ini 1 rfl rfl rfl rfl rfl rfl rfl rfl rfl rfl [(0, .ref 23)] rfl ?_
  refine Gc_stp rfl rfl rfl ?_
  refine Gc_obj rfl rfl rfl ?_
  refine Gc_vret rfl rfl ⟨rfl, ?_⟩
  refine Gc_stp rfl rfl rfl ?_
  refine Gc_stp rfl rfl rfl ?_
  refine Gc_goto 59 rfl rfl ?_
  refine Gc_stp rfl rfl rfl ?_
  refine Gc_stp rfl rfl rfl ?_
  refine Gc_icT 83 rfl rfl rfl ?_
  refine Gc_vret rfl rfl ⟨rfl, ?_⟩
  refine Gc_stp rfl rfl rfl ?_
  refine Gc_stp rfl rfl rfl ?_
  refine Gc_stp rfl rfl rfl ?_
  refine Gc_stp rfl rfl rfl ?_
  refine Gc_stp rfl rfl rfl ?_
  refine Gc_stp rfl rfl rfl ?_
  refine Gc_stp rfl rfl rfl ?_
  refine Gc_stp rfl rfl rfl ?_
  refine Gc_ini 3 rfl rfl rfl rfl rfl rfl rfl rfl rfl rfl [(0, .ref 24), (1, .ref 1), (2, .ref 11)] rfl ?_
  refine Gc_stp rfl rfl rfl ?_
  refine Gc_obj rfl rfl rfl ?_
  refine Gc_stp rfl rfl rfl ?_
  refine Gc_stp rfl rfl rfl ?_
  refine Gc_stp rfl rfl rfl ?_
  refine Gc_stp rfl rfl rfl ?_
  refine Gc_stp rfl rfl rfl ?_
  refine Gc_stp rfl rfl rfl ?_
  refine Gc_stp rfl rfl rfl ?_
  refine Gc_stp rfl rfl rfl ?_
  refine Gc_stp rfl rfl rfl ?_
  refine Gc_stp rfl rfl rfl ?_
  refine Gc_stp rfl rfl rfl ?_
  refine Gc_stp rfl rfl rfl ?_
  refine Gc_stp rfl rfl rfl ?_
  refine Gc_stp rfl rfl rfl ?_
  refine Gc_stp rfl rfl rfl ?_
  refine Gc_stp rfl rfl rfl ?_
  refine Gc_stp rfl rfl rfl ?_
  refine Gc_stp rfl rfl rfl ?_
  refine Gc_stp rfl rfl rfl ?_
  refine Gc_stp rfl rfl rfl ?_
  refine Gc_stp rfl rfl rfl ?_
  refine Gc_stp rfl rfl rfl ?_
  refine Gc_vret rfl rfl ⟨rfl, ?_⟩
  refine Gc_stp rfl rfl rfl ?_
  refine Gc_stp rfl rfl rfl ?_
  refine Gc_stp rfl rfl rfl ?_
  refine Gc_stp rfl rfl rfl ?_
  refine Gc_ini 1 rfl rfl rfl rfl rfl rfl rfl rfl rfl rfl [(0, .ref 29)] rfl ?_
  refine Gc_stp rfl rfl rfl ?_
  refine Gc_obj rfl rfl rfl ?_
  refine Gc_stp rfl rfl rfl ?_
  refine Gc_stp rfl rfl rfl ?_
  refine Gc_stp rfl rfl rfl ?_
  refine Gc_stp rfl rfl rfl ?_
  refine Gc_stp rfl rfl rfl ?_
  refine Gc_stp rfl rfl rfl ?_
  refine Gc_stp rfl rfl rfl ?_
  refine Gc_stp rfl rfl rfl ?_
  refine Gc_vret rfl rfl ⟨rfl, ?_⟩
  refine Gc_stp rfl rfl rfl ?_
  refine Gc_stp rfl rfl rfl ?_
  refine Gc_stp rfl rfl rfl ?_
  refine Gc_stp rfl rfl rfl ?_
  refine Gc_stp rfl rfl rfl ?_
  refine Gc_stp rfl rfl rfl ?_
  refine Gc_stp rfl rfl rfl ?_
  refine Gc_stp rfl rfl rfl ?_
  refine Gc_ini 1 rfl rfl rfl rfl rfl rfl rfl rfl rfl rfl [(0, .ref 33)] rfl ?_
  refine Gc_stp rfl rfl rfl ?_
  refine Gc_obj rfl rfl rfl ?_
  refine Gc_vret rfl rfl ⟨rfl, ?_⟩
  refine Gc_stp rfl rfl rfl ?_
  refine Gc_stp rfl rfl rfl ?_
  refine Gc_stp rfl rfl rfl ?_
  refine Gc_stp rfl rfl rfl ?_
  refine Gc_ini 1 rfl rfl rfl rfl rfl rfl rfl rfl rfl rfl [(0, .ref 34)] rfl ?_
  refine Gc_stp rfl rfl rfl ?_
  refine Gc_obj rfl rfl rfl ?_
  refine Gc_vret rfl rfl ⟨rfl, ?_⟩
  refine Gc_stp rfl rfl rfl ?_
  refine Gc_stp rfl rfl rfl ?_
  refine Gc_stp rfl rfl rfl ?_
  refine Gc_stp rfl rfl rfl ?_
  refine Gc_ini 1 rfl rfl rfl rfl rfl rfl rfl rfl rfl rfl [(0, .ref 35)] rfl ?_
  refine Gc_stp rfl rfl rfl ?_
  refine Gc_obj rfl rfl rfl ?_
  refine Gc_stp rfl rfl rfl ?_
  refine Gc_stp rfl rfl rfl ?_
  refine Gc_stp rfl rfl rfl ?_
  refine Gc_stp rfl rfl rfl ?_
  refine Gc_vret rfl rfl ⟨rfl, ?_⟩
  refine Gc_stp rfl rfl rfl ?_
  refine Gc_stp rfl rfl rfl ?_
  refine Gc_stp rfl rfl rfl ?_
  refine Gc_stp rfl rfl rfl ?_
  refine Gc_stp rfl rfl rfl ?_
  refine Gc_stp rfl rfl rfl ?_
  refine Gc_stp rfl rfl rfl ?_
  refine Gc_stp rfl rfl rfl ?_
  refine Gc_stp rfl rfl rfl ?_
  refine Gc_stp rfl rfl rfl ?_
  refine Gc_stp rfl rfl rfl ?_
  refine Gc_stp rfl rfl rfl ?_
  refine Gc_icF rfl rfl ?_
  refine Gc_stp rfl rfl rfl ?_
  refine Gc_stp rfl rfl rfl ?_
  refine Gc_stp rfl rfl rfl ?_
  refine Gc_stp rfl rfl rfl ?_
  refine Gc_stp rfl rfl rfl ?_
  refine Gc_ini 1 rfl rfl rfl rfl rfl rfl rfl rfl rfl rfl [(0, .ref 38)] rfl ?_
  refine Gc_stp rfl rfl rfl ?_
  refine Gc_obj rfl rfl rfl ?_
  refine Gc_stp rfl rfl rfl ?_
  refine Gc_stp rfl rfl rfl ?_
  refine Gc_stp rfl rfl rfl ?_
  refine Gc_stp rfl rfl rfl ?_
  refine Gc_stp rfl rfl rfl ?_
  refine Gc_stp rfl rfl rfl ?_
  refine Gc_stp rfl rfl rfl ?_
  refine Gc_stp rfl rfl rfl ?_
  refine Gc_stp rfl rfl rfl ?_
  refine Gc_stp rfl rfl rfl ?_
  refine Gc_vret rfl rfl ⟨rfl, ?_⟩
  refine Gc_stp rfl rfl rfl ?_
  refine Gc_stp rfl rfl rfl ?_
  refine Gc_goto 126 rfl rfl ?_
  refine Gc_stp rfl rfl rfl ?_
  refine Gc_stp rfl rfl rfl ?_
  refine Gc_icF rfl rfl ?_
  refine Gc_stp rfl rfl rfl ?_
  refine Gc_stp rfl rfl rfl ?_
  refine Gc_stp rfl rfl rfl ?_
  refine Gc_stp rfl rfl rfl ?_
  refine Gc_stp rfl rfl rfl ?_
  refine Gc_ini 1 rfl rfl rfl rfl rfl rfl rfl rfl rfl rfl [(0, .ref 40)] rfl ?_
  refine Gc_stp rfl rfl rfl ?_
  refine Gc_obj rfl rfl rfl ?_
  refine Gc_stp rfl rfl rfl ?_
  refine Gc_stp rfl rfl rfl ?_
  refine Gc_stp rfl rfl rfl ?_
  refine Gc_stp rfl rfl rfl ?_
  refine Gc_stp rfl rfl rfl ?_
  refine Gc_stp rfl rfl rfl ?_
  refine Gc_stp rfl rfl rfl ?_
  refine Gc_stp rfl rfl rfl ?_
  refine Gc_stp rfl rfl rfl ?_
  refine Gc_stp rfl rfl rfl ?_
  refine Gc_vret rfl rfl ⟨rfl, ?_⟩
  refine Gc_stp rfl rfl rfl ?_
  refine Gc_stp rfl rfl rfl ?_
  refine Gc_goto 126 rfl rfl ?_
  refine Gc_stp rfl rfl rfl ?_
  refine Gc_stp rfl rfl rfl ?_
  refine Gc_icF rfl rfl ?_
  refine Gc_stp rfl rfl rfl ?_
  refine Gc_stp rfl rfl rfl ?_
  refine Gc_stp rfl rfl rfl ?_
  refine Gc_stp rfl rfl rfl ?_
  refine Gc_stp rfl rfl rfl ?_
  refine Gc_ini 1 rfl rfl rfl rfl rfl rfl rfl rfl rfl rfl [(0, .ref 42)] rfl ?_
  refine Gc_stp rfl rfl rfl ?_
  refine Gc_obj rfl rfl rfl ?_
  refine Gc_stp rfl rfl rfl ?_
  refine Gc_stp rfl rfl rfl ?_
  refine Gc_stp rfl rfl rfl ?_
  refine Gc_stp rfl rfl rfl ?_
  refine Gc_stp rfl rfl rfl ?_
  refine Gc_stp rfl rfl rfl ?_
  refine Gc_stp rfl rfl rfl ?_
  refine Gc_stp rfl rfl rfl ?_
  refine Gc_stp rfl rfl rfl ?_
  refine Gc_stp rfl rfl rfl ?_
  refine Gc_vret rfl rfl ⟨rfl, ?_⟩
  refine Gc_stp rfl rfl rfl ?_
  refine Gc_stp rfl rfl rfl ?_
  refine Gc_goto 126 rfl rfl ?_
  refine Gc_stp rfl rfl rfl ?_
  refine Gc_stp rfl rfl rfl ?_
  refine Gc_icF rfl rfl ?_
  refine Gc_stp rfl rfl rfl ?_
  refine Gc_stp rfl rfl rfl ?_
  refine Gc_stp rfl rfl rfl ?_
  refine Gc_stp rfl rfl rfl ?_
  refine Gc_stp rfl rfl rfl ?_
  refine Gc_ini 1 rfl rfl rfl rfl rfl rfl rfl rfl rfl rfl [(0, .ref 44)] rfl ?_
  refine Gc_stp rfl rfl rfl ?_
  refine Gc_obj rfl rfl rfl ?_
  refine Gc_stp rfl rfl rfl ?_
  refine Gc_stp rfl rfl rfl ?_
  refine Gc_stp rfl rfl rfl ?_
  refine Gc_stp rfl rfl rfl ?_
  refine Gc_stp rfl rfl rfl ?_
  refine Gc_stp rfl rfl rfl ?_
  refine Gc_stp rfl rfl rfl ?_
  refine Gc_stp rfl rfl rfl ?_
  refine Gc_stp rfl rfl rfl ?_
  refine Gc_stp rfl rfl rfl ?_
  refine Gc_vret rfl rfl ⟨rfl, ?_⟩
  refine Gc_stp rfl rfl rfl ?_
  refine Gc_stp rfl rfl rfl ?_
  refine Gc_goto 126 rfl rfl ?_
  refine Gc_stp rfl rfl rfl ?_
  refine Gc_stp rfl rfl rfl ?_
  refine Gc_icT 150 rfl rfl rfl ?_
  refine Gc_vret rfl rfl ⟨rfl, ?_⟩
  refine Gc_stp rfl rfl rfl ?_
  refine Gc_stp rfl rfl rfl ?_
  refine Gc_stp rfl rfl rfl ?_
  refine Gc_ini 1 rfl rfl rfl rfl rfl rfl rfl rfl rfl rfl [(0, .ref 46)] rfl ?_
  refine Gc_stp rfl rfl rfl ?_
  refine Gc_obj rfl rfl rfl ?_
  refine Gc_stp rfl rfl rfl ?_
  refine Gc_stp rfl rfl rfl ?_
  refine Gc_stp rfl rfl rfl ?_
  refine Gc_stp rfl rfl rfl ?_
  refine Gc_stp rfl rfl rfl ?_
  refine Gc_stp rfl rfl rfl ?_
  refine Gc_stp rfl rfl rfl ?_
  refine Gc_stp rfl rfl rfl ?_
  refine Gc_stp rfl rfl rfl ?_
  refine Gc_stp rfl rfl rfl ?_
  refine Gc_stp rfl rfl rfl ?_
  refine Gc_stp rfl rfl rfl ?_
  refine Gc_stp rfl rfl rfl ?_
  refine Gc_stp rfl rfl rfl ?_
  refine Gc_stp rfl rfl rfl ?_
  refine Gc_stp rfl rfl rfl ?_
  refine Gc_stp rfl rfl rfl ?_
  refine Gc_stp rfl rfl rfl ?_
  refine Gc_stp rfl rfl rfl ?_
  refine Gc_stp rfl rfl rfl ?_
  refine Gc_stp rfl rfl rfl ?_
  refine Gc_stp rfl rfl rfl ?_
  refine Gc_stp rfl rfl rfl ?_
  refine Gc_stp rfl rfl rfl ?_
  refine Gc_stp rfl rfl rfl ?_
  refine Gc_stp rfl rfl rfl ?_
  refine Gc_stp rfl rfl rfl ?_
  refine Gc_stp rfl rfl rfl ?_
  refine Gc_stp rfl rfl rfl ?_
  refine Gc_stp rfl rfl rfl ?_
  refine Gc_stp rfl rfl rfl ?_
  refine Gc_stp rfl rfl rfl ?_
  refine Gc_stp rfl rfl rfl ?_
  refine Gc_stp rfl rfl rfl ?_
  refine Gc_stp rfl rfl rfl ?_
  refine Gc_stp rfl rfl rfl ?_
  refine Gc_stp rfl rfl rfl ?_
  refine Gc_stp rfl rfl rfl ?_
  refine Gc_stp rfl rfl rfl ?_
  refine Gc_stp rfl rfl rfl ?_
  refine Gc_stp rfl rfl rfl ?_
  refine Gc_stp rfl rfl rfl ?_
  refine Gc_stp rfl rfl rfl ?_
  refine Gc_stp rfl rfl rfl ?_
  refine Gc_stp rfl rfl rfl ?_
  refine Gc_stp rfl rfl rfl ?_
  refine Gc_stp rfl rfl rfl ?_
  refine Gc_stp rfl rfl rfl ?_
  refine Gc_stp rfl rfl rfl ?_
  refine Gc_stp rfl rfl rfl ?_
  refine Gc_stp rfl rfl rfl ?_
  refine Gc_stp rfl rfl rfl ?_
  refine Gc_stp rfl rfl rfl ?_
  refine Gc_stp rfl rfl rfl ?_
  refine Gc_stp rfl rfl rfl ?_
  refine Gc_stp rfl rfl rfl ?_
  refine Gc_stp rfl rfl rfl ?_
  refine Gc_stp rfl rfl rfl ?_
  refine Gc_stp rfl rfl rfl ?_
  refine Gc_stp rfl rfl rfl ?_
  refine Gc_stp rfl rfl rfl ?_
  refine Gc_stp rfl rfl rfl ?_
  refine Gc_stp rfl rfl rfl ?_
  refine Gc_stp rfl rfl rfl ?_
  refine Gc_stp rfl rfl rfl ?_
  refine Gc_stp rfl rfl rfl ?_
  refine Gc_stp rfl rfl rfl ?_
  refine Gc_stp rfl rfl rfl ?_
  refine Gc_icF rfl rfl ?_
  refine Gc_stp rfl rfl rfl ?_
  refine Gc_stp rfl rfl rfl ?_
  refine Gc_stp rfl rfl rfl ?_
  refine Gc_stp rfl rfl rfl ?_
  refine Gc_stp rfl rfl rfl ?_
  refine Gc_stp rfl rfl rfl ?_
  refine Gc_goto 132 rfl rfl ?_
  refine Gc_stp rfl rfl rfl ?_
  refine Gc_stp rfl rfl rfl ?_
  refine Gc_icF rfl rfl ?_
  refine Gc_stp rfl rfl rfl ?_
  refine Gc_stp rfl rfl rfl ?_
  refine Gc_stp rfl rfl rfl ?_
  refine Gc_stp rfl rfl rfl ?_
  refine Gc_stp rfl rfl rfl ?_
  refine Gc_stp rfl rfl rfl ?_
  refine Gc_goto 132 rfl rfl ?_
  refine Gc_stp rfl rfl rfl ?_
  refine Gc_stp rfl rfl rfl ?_
  refine Gc_icF rfl rfl ?_
  refine Gc_stp rfl rfl rfl ?_
  refine Gc_stp rfl rfl rfl ?_
  refine Gc_stp rfl rfl rfl ?_
  refine Gc_stp rfl rfl rfl ?_
  refine Gc_stp rfl rfl rfl ?_
  refine Gc_stp rfl rfl rfl ?_
  refine Gc_goto 132 rfl rfl ?_
  refine Gc_stp rfl rfl rfl ?_
  refine Gc_stp rfl rfl rfl ?_
  refine Gc_icF rfl rfl ?_
  refine Gc_stp rfl rfl rfl ?_
  refine Gc_stp rfl rfl rfl ?_
  refine Gc_stp rfl rfl rfl ?_
  refine Gc_stp rfl rfl rfl ?_
  refine Gc_stp rfl rfl rfl ?_
  refine Gc_stp rfl rfl rfl ?_
  refine Gc_goto 132 rfl rfl ?_
  refine Gc_stp rfl rfl rfl ?_
  refine Gc_stp rfl rfl rfl ?_
  refine Gc_icT 150 rfl rfl rfl ?_
  refine Gc_stp rfl rfl rfl ?_
  refine Gc_stp rfl rfl rfl ?_
  refine Gc_stp rfl rfl rfl ?_
  refine Gc_stp rfl rfl rfl ?_
  refine Gc_stp rfl rfl rfl ?_
  refine Gc_stp rfl rfl rfl ?_
  refine Gc_stp rfl rfl rfl ?_
  refine Gc_stp rfl rfl rfl ?_
  refine Gc_stp rfl rfl rfl ?_
  refine Gc_stp rfl rfl rfl ?_
  refine Gc_stp rfl rfl rfl ?_
  refine Gc_stp rfl rfl rfl ?_
  refine Gc_stp rfl rfl rfl ?_
  refine Gc_stp rfl rfl rfl ?_
  refine Gc_stp rfl rfl rfl ?_
  refine Gc_vret rfl rfl ⟨rfl, ?_⟩
  refine Gc_stp rfl rfl rfl ?_
  refine Gc_stp rfl rfl rfl ?_
  refine Gc_stp rfl rfl rfl ?_
  refine ⟨r, h', Gq.heap ?_ (k _ ?_), rfl, rfl⟩
  · refine Prod.ext (funext fun i => ?_) rfl
    match i with
    | 0 => rfl
    | 1 => rfl
    | 2 => rfl
    | 3 => rfl
    | 4 => rfl
    | 5 => rfl
    | 6 => rfl
    | 7 => rfl
    | 8 => rfl
    | 9 => rfl
    | 10 => rfl
    | 11 => rfl
    | 12 => rfl
    | 13 => rfl
    | 14 => rfl
    | 15 => rfl
    | 16 => rfl
    | 17 => exact congrArg (fun g => (Sum.inl (1, 5, Sum.inr (Sum.inr (Sum.inr (Sum.inr g)))) : va_E)) (funext fun j => by
      match j with
      | 0 => rfl
      | 1 => rfl
      | 2 => rfl
      | 3 => rfl
      | 4 => rfl
      | j + 5 => rfl)
    | 18 => rfl
    | 19 => rfl
    | 20 => rfl
    | 21 => rfl
    | 22 => rfl
    | 23 => rfl
    | 24 => rfl
    | 25 => rfl
    | 26 => rfl
    | 27 => rfl
    | 28 => rfl
    | 29 => rfl
    | 30 => rfl
    | 31 => rfl
    | 32 => exact congrArg (fun g => (Sum.inl (2, 4, Sum.inr (Sum.inr (Sum.inr (Sum.inr g)))) : va_E)) (funext fun j => by
      match j with
      | 0 => rfl
      | 1 => rfl
      | 2 => rfl
      | 3 => rfl
      | j + 4 => rfl)
    | 33 => rfl
    | 34 => rfl
    | 35 => rfl
    | 36 => rfl
    | 37 => rfl
    | 38 => rfl
    | 39 => rfl
    | 40 => rfl
    | 41 => rfl
    | 42 => rfl
    | 43 => rfl
    | 44 => rfl
    | 45 => rfl
    | 46 => rfl
    | 47 => rfl
    | 48 => rfl
    | 49 => rfl
    | 50 => rfl
    | 51 => rfl
    | 52 => rfl
    | 53 => rfl
    | 54 => rfl
    | 55 => rfl
    | 56 => rfl
    | 57 => rfl
    | 58 => rfl
    | 59 => rfl
    | 60 => rfl
    | 61 => rfl
    | 62 => rfl
    | i + 63 => rfl
  · intro q hq
    simp only [List.mem_cons, List.not_mem_nil, or_false] at hq
    rcases hq with rfl | rfl | rfl | rfl <;> rfl
