/-! THE REFERENCE'S SHORTEST -/
/-- one candidate that is a way -/
def cF (z : Int × Int × Nat) (l : Int) (k : Nat) : Int × Int × Nat := if z.1 = -1 ∨ l < z.1 then (l, 1, k) else if l = z.1 then (z.1, z.2.1 + 1, min z.2.2 k) else z
theorem cF_lt {a b : Int} {c : Nat} {l : Int} {k : Nat} (h : a = -1 ∨ l < a) : cF (a, b, c) l k = (l, 1, k) := by unfold cF; rw [if_pos h]
theorem cF_eq {a b : Int} {c : Nat} {l : Int} {k : Nat} (h : a ≠ -1) (h2 : l = a) : cF (a, b, c) l k = (a, b + 1, min c k) := by unfold cF; rw [if_neg (by dsimp only; omega), if_pos h2]
theorem cF_gt {a b : Int} {c : Nat} {l : Int} {k : Nat} (h : a ≠ -1) (h2 : a < l) : cF (a, b, c) l k = (a, b, c) := by unfold cF; rw [if_neg (by dsimp only; omega), if_neg (by dsimp only; omega)]
theorem cF_comm {l1 l2 : Int} {k1 k2 : Nat} (h1 : 0 ≤ l1) (h2 : 0 ≤ l2) (z : Int × Int × Nat) : cF (cF z l1 k1) l2 k2 = cF (cF z l2 k2) l1 k1 := by
  obtain ⟨a, b, c⟩ := z
  have lo : ∀ (b1 b2 : Int), cF (l1, 1, k1) l2 k2 = cF (l2, 1, k2) l1 k1 := by
    intro _ _
    rcases Int.lt_trichotomy l1 l2 with q | q | q
    · rw [cF_gt (by omega) q, cF_lt (Or.inr q)]
    · subst q
      rw [cF_eq (by omega) rfl, cF_eq (by omega) rfl, Nat.min_comm]
    · rw [cF_lt (Or.inr q), cF_gt (by omega) q]
  by_cases ha : a = -1
  · rw [cF_lt (Or.inl ha), cF_lt (Or.inl ha)]
    exact lo 0 0
  · rcases Int.lt_trichotomy l1 a with u | u | u
    · rw [cF_lt (a := a) (l := l1) (Or.inr u)]
      rcases Int.lt_trichotomy l2 a with v | v | v
      · rw [cF_lt (a := a) (l := l2) (Or.inr v)]
        exact lo 0 0
      · rw [cF_eq (a := a) (l := l2) ha v, cF_lt (a := a) (l := l1) (Or.inr u), cF_gt (by omega) (by omega)]
      · rw [cF_gt (a := a) (l := l2) ha v, cF_lt (a := a) (l := l1) (Or.inr u), cF_gt (by omega) (by omega)]
    · rw [cF_eq (a := a) (l := l1) ha u]
      rcases Int.lt_trichotomy l2 a with v | v | v
      · rw [cF_lt (a := a) (l := l2) (Or.inr v), cF_lt (a := a) (l := l2) (Or.inr v), cF_gt (by omega) (by omega)]
      · rw [cF_eq (a := a) (l := l2) ha v, cF_eq (a := a) (l := l2) ha v, cF_eq (a := a) (l := l1) ha u, Nat.min_assoc, Nat.min_assoc, Nat.min_comm k1 k2]
      · rw [cF_gt (a := a) (l := l2) ha v, cF_gt (a := a) (l := l2) ha v, cF_eq (a := a) (l := l1) ha u]
    · rw [cF_gt (a := a) (l := l1) ha u]
      rcases Int.lt_trichotomy l2 a with v | v | v
      · rw [cF_lt (a := a) (l := l2) (Or.inr v), cF_gt (by omega) (by omega)]
      · rw [cF_eq (a := a) (l := l2) ha v, cF_gt (a := a) (l := l1) ha u]
      · rw [cF_gt (a := a) (l := l2) ha v, cF_gt (a := a) (l := l1) ha u]
theorem cand_t {S : Nat → Int} {bar : Nat → Nat → Prop} {A B : Nat → Int} {st : Nat → Pose} {x : Int × Int × Nat} {r : List Nat} (h : wayR S bar A B st r) : cand S bar A B st x r = cF x (lenR S A B st r) (keyN r) := by
  unfold cand cF
  rw [if_pos h]
theorem cand_f {S : Nat → Int} {bar : Nat → Nat → Prop} {A B : Nat → Int} {st : Nat → Pose} {x : Int × Int × Nat} {r : List Nat} (h : ¬ wayR S bar A B st r) : cand S bar A B st x r = x := by
  unfold cand
  rw [if_neg h]
theorem cand_comm (S : Nat → Int) (bar : Nat → Nat → Prop) (A B : Nat → Int) (st : Nat → Pose) (r s : List Nat) (z : Int × Int × Nat) : cand S bar A B st (cand S bar A B st z r) s = cand S bar A B st (cand S bar A B st z s) r := by
  by_cases h1 : wayR S bar A B st r
  · by_cases h2 : wayR S bar A B st s
    · rw [cand_t h1, cand_t h2, cand_t h2, cand_t h1]
      exact cF_comm (lenR_pos ..) (lenR_pos ..) z
    · rw [cand_f h2, cand_f h2]
  · rw [cand_f h1, cand_f h1]
theorem cand_not {S : Nat → Int} {bar : Nat → Nat → Prop} {A B : Nat → Int} {st : Nat → Pose} : ∀ (L : List (List Nat)) (x : Int × Int × Nat), (∀ r ∈ L, ¬ wayR S bar A B st r) → L.foldl (cand S bar A B st) x = x := by
  intro L
  induction L with
  | nil => intro x _; rfl
  | cons r L ih =>
    intro x h
    rw [List.foldl_cons, cand_f (h r (List.mem_cons_self ..))]
    exact ih x (fun s hs => h s (List.mem_cons_of_mem _ hs))
theorem foldl_cg {α β : Type} {f g : α → β → α} : ∀ (L : List β) (x : α), (∀ r ∈ L, ∀ y, f y r = g y r) → L.foldl f x = L.foldl g x := by
  intro L
  induction L with
  | nil => intro x _; rfl
  | cons r L ih =>
    intro x h
    rw [List.foldl_cons, List.foldl_cons, h r (List.mem_cons_self ..)]
    exact ih _ (fun s hs => h s (List.mem_cons_of_mem _ hs))
/-- the walls of the stands at the beginning -/
def rtT (w : Nat) : TT := if w = 0 then (0, 3, 5) else if w = 1 then (1, 2, 5) else if w = 2 then (2, 0, 5) else if w = 3 then (3, 1, 5) else if w = 4 then (4, 3, 0) else (5, 3, 1)
theorem rst_wl (S : Nat → Int) : ∀ w, w < 6 → wl (rst S w) = rtT w := by
  intro w hw
  rcases (by omega : w = 0 ∨ w = 1 ∨ w = 2 ∨ w = 3 ∨ w = 4 ∨ w = 5) with rfl | rfl | rfl | rfl | rfl | rfl
  · rfl
  · have e2 : prl S (3, 1, 5, 0 + S 1, 0) 1 = (1, ow 3, 5, 0 + S 1 + S (1 / 2), 0) := prl_e (P := (3, 1, 5, 0 + S 1, 0)) (w := 1) rfl
    have e3 : rst S 1 = prl S (3, 1, 5, 0 + S 1, 0) 1 := rfl
    rw [e3, e2]
    rfl
  · rfl
  · rfl
  · rfl
  · rfl
def mrows (w : Nat) : List (List Nat) := [w] :: mrest 4 (rtT w) [w]
theorem mrows_p : ∀ w, w < 6 → (mrows w).Perm (rowsF 4 [w]) := by decide +kernel
theorem flat_p {f g : Nat → List (List Nat)} : ∀ L : List Nat, (∀ w ∈ L, (f w).Perm (g w)) → (L.flatMap f).Perm (L.flatMap g) := by
  intro L
  induction L with
  | nil => intro _; exact List.Perm.refl _
  | cons w L ih =>
    intro h
    rw [List.flatMap_cons, List.flatMap_cons]
    exact (h w (List.mem_cons_self ..)).append (ih (fun v hv => h v (List.mem_cons_of_mem _ hv)))
def VRd (r : List Nat) : Bool := decide (0 < r.length) && (List.range r.length).all (fun i => decide (Wr r i < 6) && (decide (¬ i + 1 < r.length) || decide (Wr r (i + 1) / 2 ≠ Wr r i / 2)))
theorem allRows_vd : allRows.all VRd = true := by decide +kernel
theorem allRows_v : ∀ r ∈ allRows, VR r := by
  intro r hr
  have h := List.all_eq_true.mp allRows_vd r hr
  unfold VRd at h
  rw [Bool.and_eq_true, decide_eq_true_eq, List.all_eq_true] at h
  refine ⟨h.1, fun i hi => ?_⟩
  have h2 := h.2 i (List.mem_range.mpr hi)
  rw [Bool.and_eq_true, Bool.or_eq_true, decide_eq_true_eq, decide_eq_true_eq, decide_eq_true_eq] at h2
  exact ⟨h2.1, fun q => h2.2.resolve_left (fun z => z q)⟩
theorem bestK_M {S A B : Nat → Int} {bar : Nat → Nat → Prop} (hS : SB S) (hA : AW S A) (hB : AW S B) : ((List.range' 0 6).flatMap mrows).foldl (cand S bar A B (rst S)) (-1, 0, 0) = bestK S bar A B := by
  have hp : ((List.range' 0 6).flatMap mrows).Perm allRows := by
    unfold allRows
    rw [range6]
    exact flat_p _ (fun w hw => mrows_p w (by simp only [List.mem_range'_1] at hw; omega))
  rw [hp.foldl_eq' (fun r _ s _ z => cand_comm ..)]
  unfold bestK
  refine foldl_cg _ _ (fun r hr y => ?_)
  have hv := allRows_v r hr
  obtain ⟨f, hf, e⟩ := rst_iso S (Wr r 0) (hv.2 0 hv.1).1
  obtain ⟨k1, k2⟩ := hf.row (bar := bar) hS hA hB gs_pst hv e
  by_cases hw : wayR S bar A B (rst S) r
  · rw [cand_t hw, cand_t (k1.mp hw), k2]
  · rw [cand_f hw, cand_f (fun q => hw (k1.mpr q))]
/-- what the reference's search leaves as it was -/
def FS (sg sg' : Hp) : Prop := (∀ c, c ≠ 46 → (c < 55 ∨ 60 ≤ c) → sg' c = sg c) ∧ ∀ k, k ≠ 12 → k ≠ 13 → sg' 46 k = sg 46 k
theorem FS.refl (sg : Hp) : FS sg sg := ⟨fun _ _ _ => rfl, fun _ _ _ => rfl⟩
theorem FS.trans {a b c : Hp} (h1 : FS a b) (h2 : FS b c) : FS a c := ⟨fun d d1 d2 => by rw [h2.1 d d1 d2, h1.1 d d1 d2], fun k k1 k2 => by rw [h2.2 k k1 k2, h1.2 k k1 k2]⟩
theorem FM.fs {r : List Nat} {sg sg' : Hp} (h : FM r sg sg') : FS sg sg' := ⟨h.1, h.2.1⟩
theorem FS.me {S A B : Nat → Int} {bar : Nat → Nat → Prop} {a b : Nat} {sg sg' : Hp} (h : FS sg sg') (he : ME S A B bar a b sg) : ME S A B bar a b sg' := he.of (h.1 51 (by omega) (by omega)) (h.1 52 (by omega) (by omega)) (h.1 53 (by omega) (by omega))
theorem from_44 {S A B : Nat → Int} {bar : Nat → Nat → Prop} (hS : SB S) {a b : Nat} (ha : a < 8) (hb : b < 8) {w : Nat} (hw : w < 6) {sg : Hp} {x : Int × Int × Nat} (hA0 : A w = 0) (h59 : sg 59 0 = -1) (hR : MRw S sg [w]) (he : ME S A B bar a b sg) (hx : MXr sg x) : ∃ T, f_Mod_findFrom_44 LF sg (nI a) (nI b) 0 = some T ∧ MXr T ((mrest 4 (rtT w) [w]).foldl (cand S bar A B (rst S)) x) ∧ FS sg T := by
  obtain ⟨c, T, c1, c2, c3, c4⟩ := vs_all (A := A) (B := B) (bar := bar) hS ha hb 4 [w] sg x rfl (VR.one hw) hA0 h59 hR he hx
  have hc : c < 90000 := Nat.lt_of_le_of_lt c1 (by decide)
  obtain ⟨m, hm⟩ := LFx c hc
  refine ⟨T, ?_, ?_, c4.fs⟩
  · rw [hm, show m + c + 1 = (m + 1) + c by omega, ← nI_0]
    have := c2 (m + 1)
    rw [show ([w] : List Nat).length - 1 = 0 from rfl] at this
    rw [this, f_Mod_findFrom_44, if_pos (by decide)]
  · rw [show poseR S (rst S) [w] = rst S w from rfl, rst_wl S w hw] at c3
    exact c3
theorem findFrom_m {S A B : Nat → Int} {bar : Nat → Nat → Prop} (hS : SB S) {a b : Nat} (ha : a < 8) (hb : b < 8) {w : Nat} (hw : w < 6) {sg : Hp} {x : Int × Int × Nat} (hA0 : A w = 0) (he : ME S A B bar a b sg) (hx : MXr sg x) : ∃ T, f_Mod_findFrom sg (nI w) (nI a) (nI b) = some T ∧ MXr T ((mrows w).foldl (cand S bar A B (rst S)) x) ∧ FS sg T := by
  unfold f_Mod_findFrom
  obtain ⟨T0, g1, g2, g3⟩ := standsOn_m hS he.1 hw
  rw [g1, Option.bind_some, Option.bind_some, Option.bind_some]
  generalize hs : w2 (w2 T0 58 0 (nI w)) 59 0 (-1) = s at *
  have E : ∀ c, c ≠ 58 → c ≠ 59 → s c = T0 c := fun c c1 c2 => by rw [← hs, w2_cell _ c2, w2_cell _ c1]
  have h58 : s 58 0 = nI w := by rw [← hs, w2_cell _ (by omega), w2_at]
  have h59 : s 59 0 = -1 := by rw [← hs, w2_at]
  have F : FS sg s := ⟨fun c c1 c2 => by rw [E c (by omega) (by omega), g3 c (by omega) (by omega)], fun k _ _ => by rw [E 46 (by omega) (by omega), g3 46 (by omega) (by omega)]⟩
  have hes := F.me he
  have hxs : MXr s x := hx.of (by rw [E 46 (by omega) (by omega), g3 46 (by omega) (by omega)]) (by rw [E 46 (by omega) (by omega), g3 46 (by omega) (by omega)]) (by rw [E 57 (by omega) (by omega), g3 57 (by omega) (by omega)])
  have hR : MRw S s [w] := by
    intro i hi
    simp only [List.length_cons, List.length_nil] at hi ⊢
    have : i = 0 := by omega
    subst this
    exact ⟨g2.of (fun j _ _ => by rw [E 55 (by omega) (by omega)]), fun z => by omega, h58⟩
  rw [isOn_m hes.1 hb hw hes.2.2.2, Option.bind_some]
  unfold mrows
  rw [List.foldl_cons]
  by_cases hB0 : B w = 0
  · obtain ⟨v, s2, l1, l2, l3, l4⟩ := mweigh hS ha hb (VR.one hw) (by simp) hR hes hxs hA0 hB0
    have f2 := l4.fm [w]
    obtain ⟨T, t1, t2, t3⟩ := from_44 (bar := bar) hS ha hb hw hA0 (by rw [l4.1 59 (by omega) (by omega)]; exact h59) (f2.mr hR) (f2.me hes) l3
    refine ⟨T, ?_, t2, F.trans (f2.fs.trans t3)⟩
    rw [if_pos hB0]
    dsimp only
    rw [if_neg (by decide)]
    rw [nI_0, show nI ([w].length - 1) = 0 from rfl] at l1
    rw [l1, Option.bind_some]
    dsimp only
    rw [show nI [w].length = 1 from rfl] at l2
    rw [l2, Option.bind_some]
    exact t1
  · rw [cand_f (fun z => hB0 z.2.1)]
    obtain ⟨T, t1, t2, t3⟩ := from_44 (bar := bar) hS ha hb hw hA0 h59 hR hes hxs
    refine ⟨T, ?_, t2, F.trans t3⟩
    rw [if_neg hB0]
    dsimp only
    rw [if_pos rfl]
    exact t1
theorem mrest_app : ∀ (k : Nat) (t : TT) (r s : List Nat), s ∈ mrest k t r → ∃ p, s = p ++ r := by
  intro k
  induction k with
  | zero =>
    intro t r s h
    simp [mrest] at h
  | succ k ih =>
    intro t r s h
    simp only [mrest, List.mem_flatMap] at h
    obtain ⟨p, -, h⟩ := h
    split at h
    · simp at h
    · rw [List.mem_cons] at h
      rcases h with h | h
      · exact ⟨[wT t p], h⟩
      · obtain ⟨q, e⟩ := ih _ _ _ h
        exact ⟨q ++ [wT t p], by rw [e]; simp⟩
theorem short_32 {S A B : Nat → Int} {bar : Nat → Nat → Prop} (hS : SB S) {a b : Nat} (ha : a < 8) (hb : b < 8) : ∀ (q j m : Nat) (sg : Hp) (x : Int × Int × Nat), j + q = 6 → ME S A B bar a b sg → MXr sg x → ∃ T, f_Mod_shortestOf_32 (m + q + 1) sg (nI a) (nI b) (nI j) = some (T 46 12, T) ∧ MXr T (((List.range' j q).flatMap mrows).foldl (cand S bar A B (rst S)) x) ∧ FS sg T := by
  intro q
  induction q with
  | zero =>
    intro j m sg x h he hx
    rw [f_Mod_shortestOf_32, if_pos (by rw [show (6 : Int32) = nI 6 from rfl]; exact nI_le (by omega) (by omega))]
    exact ⟨sg, rfl, hx, FS.refl sg⟩
  | succ q ih =>
    intro j m sg x h he hx
    rw [show m + (q + 1) + 1 = (m + q + 1) + 1 by omega, f_Mod_shortestOf_32, if_neg (by rw [show (6 : Int32) = nI 6 from rfl]; exact nI_ge (by omega) (by omega)), isOn_m he.1 ha (show j < 6 by omega) he.2.2.1, Option.bind_some, List.range'_succ, List.flatMap_cons, List.foldl_append]
    unfold f_Mod_shortestOf_54
    rw [nI_1]
    by_cases hz : A j = 0
    · rw [if_pos hz]
      dsimp only
      rw [if_neg (by decide)]
      obtain ⟨s, g1, g2, g3⟩ := findFrom_m hS ha hb (show j < 6 by omega) hz he hx
      rw [g1, Option.bind_some]
      obtain ⟨T, t1, t2, t3⟩ := ih (j + 1) m s _ (by omega) (g3.me he) g2
      exact ⟨T, t1, t2, g3.trans t3⟩
    · rw [if_neg hz]
      dsimp only
      rw [if_pos rfl, cand_not (mrows j) x (fun t ht hw => ?_)]
      · exact ih (j + 1) m sg x (by omega) he hx
      · have e0 : ∃ p, t = p ++ [j] := by
          unfold mrows at ht
          rw [List.mem_cons] at ht
          rcases ht with ht | ht
          · exact ⟨[], ht⟩
          · exact mrest_app _ _ _ _ ht
        obtain ⟨p, e⟩ := e0
        have := hw.1
        rw [e, Wr_app _ _ _ (by simp), show Wr [j] 0 = j from rfl] at this
        exact hz this
theorem short_12 (a b : Int32) : ∀ (q j m : Nat) (sg : Hp), j + q = 5 → ∃ T, f_Mod_shortestOf_12 (m + q + 1) sg a b (nI j) = f_Mod_shortestOf_32 LF T a b 0 ∧ (∀ c, c ≠ 57 → T c = sg c) ∧ ∀ i, T 57 i = if j ≤ i ∧ i < 5 then -1 else sg 57 i := by
  intro q
  induction q with
  | zero =>
    intro j m sg h
    rw [f_Mod_shortestOf_12, if_pos (by rw [show (5 : Int32) = nI 5 from rfl]; exact nI_le (by omega) (by omega))]
    exact ⟨sg, rfl, fun _ _ => rfl, fun i => by rw [if_neg (by omega)]⟩
  | succ q ih =>
    intro j m sg h
    rw [show m + (q + 1) + 1 = (m + q + 1) + 1 by omega, f_Mod_shortestOf_12, if_neg (by rw [show (5 : Int32) = nI 5 from rfl]; exact nI_ge (by omega) (by omega)), if_pos (ib (by omega) (by omega)), Option.bind_some, nI_1, nI_clamp (by omega)]
    obtain ⟨T, t1, t2, t3⟩ := ih (j + 1) m (w2 sg 57 j (-1)) (by omega)
    refine ⟨T, t1, fun c hc => by rw [t2 c hc, w2_cell _ hc], fun i => ?_⟩
    rw [t3]
    by_cases h1 : i = j
    · subst h1
      rw [if_neg (by omega), w2_at, if_pos (by omega)]
    · rw [w2_ne (by omega)]
      by_cases h2 : j ≤ i ∧ i < 5
      · rw [if_pos h2, if_pos (by omega)]
      · rw [if_neg h2, if_neg (by omega)]
theorem short_m {S A B : Nat → Int} {bar : Nat → Nat → Prop} (hS : SB S) {a b : Nat} (ha : a < 8) (hb : b < 8) {sg : Hp} (he : ME S A B bar a b sg) : ∃ T, f_Mod_shortestOf sg (nI a) (nI b) = some (iI (bestK S bar A B).1, T) ∧ MXr T (bestK S bar A B) ∧ FS sg T := by
  unfold f_Mod_shortestOf
  rw [Option.bind_some, Option.bind_some]
  obtain ⟨m5, hm5⟩ := LFx 5 (by omega)
  obtain ⟨m6, hm6⟩ := LFx 6 (by omega)
  obtain ⟨s, g1, g2, g3⟩ := short_12 (nI a) (nI b) 5 0 m5 (w2 (w2 sg 46 12 (-1)) 46 13 0) (by omega)
  have g46 : s 46 = w2 (w2 sg 46 12 (-1)) 46 13 0 46 := g2 46 (by omega)
  have F : FS sg s := ⟨fun c c1 c2 => by rw [g2 c (by omega), w2_cell _ c1, w2_cell _ c1], fun k k1 k2 => by rw [g46, w2_ne (by omega), w2_ne (by omega)]⟩
  have hx : MXr s (-1, 0, 0) := by
    refine ⟨by rw [g46, w2_ne (by omega), w2_at]; rfl, by decide, by decide, by rw [g46, w2_at]; rfl, [], rfl, by simp, by simp, fun k hk => ?_⟩
    rw [g3, if_pos (by omega), if_neg (by simp)]
  obtain ⟨T, t1, t2, t3⟩ := short_32 (bar := bar) hS ha hb 6 0 m6 s _ (by omega) (F.me he) hx
  rw [bestK_M hS he.2.2.1.1 he.2.2.2.1] at t2
  refine ⟨T, ?_, t2, F.trans t3⟩
  rw [nI_0] at g1 t1
  rw [hm5, g1, hm6, t1, t2.1]
