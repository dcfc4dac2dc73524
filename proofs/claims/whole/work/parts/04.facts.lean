/-- the words of the tables that every callee is handed -/
def GT : List Cond := lw_tbl.filter goodWord
theorem GT_of {w : Cond} (h : w ∈ lw_tbl) (g : goodWord w = true) : w ∈ GT := List.mem_filter.mpr ⟨h, g⟩
theorem GT_good : ∀ w ∈ GT, (w.onTables && w.keeps) = true ∨ ∃ ty, w = .arrayClass ty := fun w h => good_of_word (List.mem_filter.mp h).2
theorem GT_in {w : Cond} (h : w ∈ GT) : w ∈ lw_tbl := (List.mem_filter.mp h).1
def MN (k : Nat) : MethodName := ⟨cn (mC.getD k 99), (mS.getD k ("", "")).1, (mS.getD k ("", "")).2⟩
def MB (k : Nat) : ByteArray := mB.getD k ⟨#[]⟩
def ML (k : Nat) : Nat := mL.getD k 0
def MR (k : Nat) : Option FieldType := mR.getD k none
def MP (k : Nat) : Nat := mP.getD k 0
def MX (k : Nat) : Bool := mX.getD k true
def wCode (k : Nat) : Cond := .code (MN k) (MB k) (ML k) (MR k)
/-- lists out of the tables -/
def tFL : List (String × Nat × String × String × String) := lw_tbl.filterMap fun c => match c with | .fieldLink a b c d e => some (a, b, c, d, e) | _ => none
def tNF : List (String × Nat × String × String × String × String) := lw_tbl.filterMap fun c => match c with | .fieldLinkNest a b c d e f => some (a, b, c, d, e, f) | _ => none
def tML : List (String × Nat × MethodName) := lw_tbl.filterMap fun c => match c with | .methodLink a b y => some (a, b, y) | _ => none
def tNM : List (String × Nat × MethodName × String) := lw_tbl.filterMap fun c => match c with | .methodLinkNest a b y h => some (a, b, y, h) | _ => none
def tCI : List (String × Nat × Int32) := lw_tbl.filterMap fun c => match c with | .constant a b y => some (a, b, y) | _ => none
def tCL : List (String × Nat × Int64) := lw_tbl.filterMap fun c => match c with | .constantLong a b y => some (a, b, y) | _ => none
def tCk : List (String × Nat × String) := lw_tbl.filterMap fun c => match c with | .classLink a b y => some (a, b, y) | _ => none
def tIM : List MethodName := lw_tbl.filterMap fun c => match c with | .instanceMethod y => some y | _ => none
def tSM : List MethodName := lw_tbl.filterMap fun c => match c with | .static y => some y | _ => none
def tSe : List (String × MethodName × MethodName) := lw_tbl.filterMap fun c => match c with | .selects a x y => some (a, x, y) | _ => none
def tIn : List String := lw_tbl.filterMap fun c => match c with | .initialized y => some y | _ => none
def tIs : List (String × Nat) := lw_tbl.filterMap fun c => match c with | .instantiable y n => some (y, n) | _ => none
def MNx (k : Nat) : MethodName := if k = 500 then ⟨"java/lang/Object", "<init>", "()V"⟩ else if k = 501 then arraycopyName else if k = 502 then Lib.Math.min.name else if k = 503 then Lib.Math.max.name else if k = 504 then Lib.Math.abs.name else MN k
theorem tFL_eq : tFL = flk.map (fun q => (cn q.1, q.2.1, (fT q.2.2.1 q.2.2.2).1, (fT q.2.2.1 q.2.2.2).2.1, (fT q.2.2.1 q.2.2.2).2.2.1)) := by decide +kernel
theorem tNF_eq : tNF = nfl.map (fun q => (cn q.1, q.2.1, (fT q.2.2.1 q.2.2.2).1, (fT q.2.2.1 q.2.2.2).2.1, (fT q.2.2.1 q.2.2.2).2.2.1, "BoxSpider")) := by decide +kernel
theorem tML_eq : tML = mlk.map (fun q => (cn q.1, q.2.1, MNx q.2.2)) := by decide +kernel
theorem tNM_eq : tNM = nml.map (fun q => (cn q.1, q.2.1, MNx q.2.2, "BoxSpider")) := by decide +kernel
theorem tCI_eq : tCI = kcI.map (fun q => (cn q.1, q.2.1, q.2.2)) := by decide +kernel
theorem tCL_eq : tCL = kcL.map (fun q => (cn q.1, q.2.1, q.2.2)) := by decide +kernel
theorem tCk_eq : tCk = kcl.map (fun q => (cn q.1, q.2.1, cn q.2.2)) := by decide +kernel
theorem fl_ok : flk.all (fun q => decide (q.2.2.1 < 11) && decide (q.2.2.2 < fN q.2.2.1)) = true := by decide +kernel
theorem nfl_ok : nfl.all (fun q => decide (q.2.2.1 < 11) && decide (q.2.2.2 < fN q.2.2.1)) = true := by decide +kernel
theorem fl_in {q : Nat × Nat × Nat × Nat} (h : q ∈ flk) : Cond.fieldLink (cn q.1) q.2.1 (fT q.2.2.1 q.2.2.2).1 (fT q.2.2.1 q.2.2.2).2.1 (fT q.2.2.1 q.2.2.2).2.2.1 ∈ GT := by
  have h1 := List.mem_map_of_mem (f := fun q : Nat × Nat × Nat × Nat => (cn q.1, q.2.1, (fT q.2.2.1 q.2.2.2).1, (fT q.2.2.1 q.2.2.2).2.1, (fT q.2.2.1 q.2.2.2).2.2.1)) h
  rw [← tFL_eq] at h1
  obtain ⟨c, hc, e⟩ := List.mem_filterMap.mp h1
  split at e
  · cases e; exact GT_of hc rfl
  · cases e
def nfW (q : Nat × Nat × Nat × Nat) : Cond := Cond.fieldLinkNest (cn q.1) q.2.1 (fT q.2.2.1 q.2.2.2).1 (fT q.2.2.1 q.2.2.2).2.1 (fT q.2.2.1 q.2.2.2).2.2.1 "BoxSpider"
theorem nfl_in {q : Nat × Nat × Nat × Nat} (h : q ∈ nfl) : nfW q ∈ lw_tbl := by
  have h1 := List.mem_map_of_mem (f := fun q : Nat × Nat × Nat × Nat => (cn q.1, q.2.1, (fT q.2.2.1 q.2.2.2).1, (fT q.2.2.1 q.2.2.2).2.1, (fT q.2.2.1 q.2.2.2).2.2.1, "BoxSpider")) h
  rw [← tNF_eq] at h1
  obtain ⟨c, hc, e⟩ := List.mem_filterMap.mp h1
  split at e
  · cases e; exact hc
  · cases e
theorem mlk_in {q : Nat × Nat × Nat} (h : q ∈ mlk) : Cond.methodLink (cn q.1) q.2.1 (MNx q.2.2) ∈ GT := by
  have h1 := List.mem_map_of_mem (f := fun q : Nat × Nat × Nat => (cn q.1, q.2.1, MNx q.2.2)) h
  rw [← tML_eq] at h1
  obtain ⟨c, hc, e⟩ := List.mem_filterMap.mp h1
  split at e
  · cases e; exact GT_of hc rfl
  · cases e
def nmW (q : Nat × Nat × Nat) : Cond := Cond.methodLinkNest (cn q.1) q.2.1 (MNx q.2.2) "BoxSpider"
theorem nml_in {q : Nat × Nat × Nat} (h : q ∈ nml) : nmW q ∈ lw_tbl := by
  have h1 := List.mem_map_of_mem (f := fun q : Nat × Nat × Nat => (cn q.1, q.2.1, MNx q.2.2, "BoxSpider")) h
  rw [← tNM_eq] at h1
  obtain ⟨c, hc, e⟩ := List.mem_filterMap.mp h1
  split at e
  · cases e; exact hc
  · cases e
theorem kcI_in {q : Nat × Nat × Int32} (h : q ∈ kcI) : Cond.constant (cn q.1) q.2.1 q.2.2 ∈ GT := by
  have h1 := List.mem_map_of_mem (f := fun q : Nat × Nat × Int32 => (cn q.1, q.2.1, q.2.2)) h
  rw [← tCI_eq] at h1
  obtain ⟨c, hc, e⟩ := List.mem_filterMap.mp h1
  split at e
  · cases e; exact GT_of hc rfl
  · cases e
theorem kcL_in {q : Nat × Nat × Int64} (h : q ∈ kcL) : Cond.constantLong (cn q.1) q.2.1 q.2.2 ∈ GT := by
  have h1 := List.mem_map_of_mem (f := fun q : Nat × Nat × Int64 => (cn q.1, q.2.1, q.2.2)) h
  rw [← tCL_eq] at h1
  obtain ⟨c, hc, e⟩ := List.mem_filterMap.mp h1
  split at e
  · cases e; exact GT_of hc rfl
  · cases e
theorem kcl_in {q : Nat × Nat × Nat} (h : q ∈ kcl) : Cond.classLink (cn q.1) q.2.1 (cn q.2.2) ∈ GT := by
  have h1 := List.mem_map_of_mem (f := fun q : Nat × Nat × Nat => (cn q.1, q.2.1, cn q.2.2)) h
  rw [← tCk_eq] at h1
  obtain ⟨c, hc, e⟩ := List.mem_filterMap.mp h1
  split at e
  · cases e; exact GT_of hc rfl
  · cases e
theorem tIM_in {y : MethodName} (h : y ∈ tIM) : Cond.instanceMethod y ∈ GT := by
  obtain ⟨c, hc, e⟩ := List.mem_filterMap.mp h
  split at e
  · cases e; exact GT_of hc rfl
  · cases e
theorem tSM_in {y : MethodName} (h : y ∈ tSM) : Cond.static y ∈ GT := by
  obtain ⟨c, hc, e⟩ := List.mem_filterMap.mp h
  split at e
  · cases e; exact GT_of hc rfl
  · cases e
theorem tSe_in {a : String} {y : MethodName} (h : (a, y, y) ∈ tSe) : Cond.selects a y y ∈ GT := by
  obtain ⟨c, hc, e⟩ := List.mem_filterMap.mp h
  split at e
  · cases e; exact GT_of hc rfl
  · cases e
theorem tIn_in {y : String} (h : y ∈ tIn) : Cond.initialized y ∈ GT := by
  obtain ⟨c, hc, e⟩ := List.mem_filterMap.mp h
  split at e
  · cases e; exact GT_of hc rfl
  · cases e
theorem tIs_in {y : String} {n : Nat} (h : (y, n) ∈ tIs) : Cond.instantiable y n ∈ GT := by
  obtain ⟨c, hc, e⟩ := List.mem_filterMap.mp h
  split at e
  · cases e; exact GT_of hc rfl
  · cases e
set_option maxRecDepth 1000000 in
theorem codes_eq : (List.range nMeth).map wCode = cpos.filterMap (fun i => lw_tbl[i]?) := by rfl
theorem code_in {k : Nat} (h : k < nMeth) : wCode k ∈ GT := by
  have h1 : wCode k ∈ (List.range nMeth).map wCode := List.mem_map_of_mem (List.mem_range.mpr h)
  rw [codes_eq] at h1
  obtain ⟨i, -, e⟩ := List.mem_filterMap.mp h1
  exact GT_of (List.mem_of_getElem? e) rfl
theorem im_ok : (List.range nMeth).all (fun k => if MX k then decide (MN k ∈ tSM) else decide (MN k ∈ tIM)) = true := by decide +kernel
theorem se_ok : (List.range nMeth).all (fun k => MX k || (mS.getD k ("", "")).1 == "<init>" || decide (((MN k).cls, MN k, MN k) ∈ tSe)) = true := by decide +kernel
theorem in_ok : (List.range nMeth).all (fun k => decide ((MN k).cls ∈ tIn)) = true := by decide +kernel
theorem ds_ok1 : (List.range nMeth).all (fun k => decide ((parseMethodDescriptor (MN k).desc).map (fun d => d.parameters.length) = some (MP k))) = true := by decide +kernel
theorem ds_ok2 : (List.range nMeth).all (fun k => decide ((MN k).cls ≠ "java/lang/invoke/MethodHandle") && decide ((MN k).cls ≠ "java/lang/invoke/VarHandle")) = true := by decide +kernel
theorem ds_ok3 : (List.range nMeth).all (fun k => Jvm.plainName (MN k).cls) = true := by decide +kernel
theorem ds_ok4 : (List.range nMeth).all (fun k => decide (ML k ≤ 40)) = true := by decide +kernel
theorem cmin_in : Cond.code Lib.Math.min.name Lib.Math.min.code 2 (some .int) ∈ GT := GT_of (List.mem_of_getElem? (i := mpos_min) (by decide +kernel)) rfl
theorem cmax_in : Cond.code Lib.Math.max.name Lib.Math.max.code 2 (some .int) ∈ GT := GT_of (List.mem_of_getElem? (i := mpos_max) (by decide +kernel)) rfl
theorem cabs_in : Cond.code Lib.Math.abs.name Lib.Math.abs.code 1 (some .int) ∈ GT := GT_of (List.mem_of_getElem? (i := mpos_abs) (by decide +kernel)) rfl
theorem cobj_in : Cond.code Lib.objectInit ⟨#[0xb1]⟩ 1 none ∈ GT := GT_of (List.mem_of_getElem? (i := opos) (by decide +kernel)) rfl
theorem iobj_in : Cond.instanceMethod Lib.objectInit ∈ GT := tIM_in (by decide +kernel)
theorem smin_in : Cond.static Lib.Math.min.name ∈ GT := tSM_in (by decide +kernel)
theorem smax_in : Cond.static Lib.Math.max.name ∈ GT := tSM_in (by decide +kernel)
theorem sabs_in : Cond.static Lib.Math.abs.name ∈ GT := tSM_in (by decide +kernel)
theorem imath_in : Cond.initialized "java/lang/Math" ∈ GT := tIn_in (by decide +kernel)
theorem isys_in : Cond.initialized "java/lang/System" ∈ GT := tIn_in (by decide +kernel)
theorem scpy_in : Cond.static arraycopyName ∈ GT := tSM_in (by decide +kernel)
theorem ncpy_in : Cond.native arraycopyName ∈ GT := GT_of (by decide +kernel) (by decide +kernel)
theorem aint_in : Cond.arrayClass .int ∈ GT := GT_of (by decide +kernel) rfl
set_option maxRecDepth 1000000 in
/-- what is known of each class -/
theorem cls_ws : ∀ ci, ci < 11 → vwCl[ci]? = some (cn ci, fT ci, fN ci) ∧ Cond.initialized (cn ci) ∈ GT ∧ Cond.instantiable (cn ci) (fN ci) ∈ GT ∧ (∀ w ∈ u_ws (cn ci) (fT ci) (fN ci), w ∈ GT) := by
  have h : ∀ ci, ci < 11 → (cn ci ∈ tIn ∧ (cn ci, fN ci) ∈ tIs ∧ (u_ws (cn ci) (fT ci) (fN ci)).all (fun w => decide (w ∈ lw_tbl) && goodWord w) = true) := by decide +kernel
  intro ci hi
  obtain ⟨h1, h2, h3⟩ := h ci hi
  refine ⟨?_, tIn_in h1, tIs_in h2, fun w hw => ?_⟩
  · match ci, hi with
    | 0, _ => rfl
    | 1, _ => rfl
    | 2, _ => rfl
    | 3, _ => rfl
    | 4, _ => rfl
    | 5, _ => rfl
    | 6, _ => rfl
    | 7, _ => rfl
    | 8, _ => rfl
    | 9, _ => rfl
    | 10, _ => rfl
  · have h4 := List.all_eq_true.mp h3 w hw
    simp only [Bool.and_eq_true, decide_eq_true_eq] at h4
    exact GT_of h4.1 h4.2
def fty (ci k : Nat) : FieldType := (parseFieldDescriptor (fT ci k).2.2.1).getD .int
theorem fty_ok : ∀ ci, ci < 11 → ∀ k, k < fN ci → parseFieldDescriptor (fT ci k).2.2.1 = some (fty ci k) := by decide +kernel
theorem fnm_ok : ∀ ci, ci < 11 → ∀ a, a < fN ci → ∀ b, b < fN ci → a ≠ b → (fT ci a).2.1 ≠ (fT ci b).2.1 := by decide +kernel
def ftk (t : FieldType) : Bool := match t with
  | .int => true
  | _ => false
def ftr (t : FieldType) : Bool := match t with
  | .object _ => true
  | .array _ => true
  | _ => false
theorem fI_ok : ∀ ci, ci < 11 → ∀ k, k < fN ci → (if fI ci k then ftk (fty ci k) else ftr (fty ci k)) = true := by decide +kernel
theorem dfl_ok : ∀ ci, ci < 11 → (dfl ci).length = fN ci ∧ ∀ j, j < fN ci → defaultValue (fty ci j) = vp_V (dfl ci) j := by decide +kernel
