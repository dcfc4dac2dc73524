set_option maxHeartbeats 4000000 in
theorem chk_goto {m pc : Nat} {o : Instr} {t : Int} (h : chk m pc o (.goto t) = true) : ∃ a : Int, o = .goto a ∧ (pc : Int) + a = t ∧ 0 ≤ t := by
  cases o <;> first | (simp [chk] at h; done) | (simp only [chk, Bool.and_eq_true, decide_eq_true_eq] at h; exact ⟨_, rfl, h⟩)
set_option maxHeartbeats 4000000 in
theorem chk_ifc {m pc : Nat} {o : Instr} {c : ClassFile.Cond} {t : Int} (h : chk m pc o (.ifCond c t) = true) : ∃ a : Int, o = .ifCond c a ∧ (pc : Int) + a = t ∧ 0 ≤ t := by
  cases o <;> first | (simp [chk] at h; done) | (simp only [chk, Bool.and_eq_true, decide_eq_true_eq] at h; obtain ⟨⟨rfl, h1⟩, h2⟩ := h; exact ⟨_, rfl, h1, h2⟩)
set_option maxHeartbeats 4000000 in
theorem chk_icm {m pc : Nat} {o : Instr} {c : ClassFile.Cond} {t : Int} (h : chk m pc o (.if_icmp c t) = true) : ∃ a : Int, o = .if_icmp c a ∧ (pc : Int) + a = t ∧ 0 ≤ t := by
  cases o <;> first | (simp [chk] at h; done) | (simp only [chk, Bool.and_eq_true, decide_eq_true_eq] at h; obtain ⟨⟨rfl, h1⟩, h2⟩ := h; exact ⟨_, rfl, h1, h2⟩)
set_option maxHeartbeats 4000000 in
theorem chk_iret {m pc : Nat} {o : Instr} (h : chk m pc o .ireturn = true) : o = .ireturn := by
  cases o <;> first | rfl | (simp [chk] at h; done)
set_option maxHeartbeats 4000000 in
theorem chk_lret {m pc : Nat} {o : Instr} (h : chk m pc o .lreturn = true) : o = .lreturn := by
  cases o <;> first | rfl | (simp [chk] at h; done)
set_option maxHeartbeats 4000000 in
theorem chk_vret {m pc : Nat} {o : Instr} (h : chk m pc o .return_ = true) : o = .return_ := by
  cases o <;> first | rfl | (simp [chk] at h; done)
set_option maxHeartbeats 4000000 in
theorem chk_tsw {m pc : Nat} {o : Instr} {t lo hi : Int} {ts : Array Int} (h : chk m pc o (.tableswitch t lo hi ts) = true) : ∃ (a : Int) (os : Array Int), o = .tableswitch a lo hi os ∧ (pc : Int) + a = t ∧ 0 ≤ t ∧ os.toList.map (fun o => (pc : Int) + o) = ts.toList ∧ ts.toList.all (fun t => decide (0 ≤ t)) = true := by
  cases o <;> first | (simp [chk] at h; done) | (simp only [chk, Bool.and_eq_true, decide_eq_true_eq] at h; obtain ⟨⟨⟨⟨⟨rfl, rfl⟩, h1⟩, h2⟩, h3⟩, h4⟩ := h; exact ⟨_, _, rfl, h1, h2, h3, h4⟩)
set_option maxHeartbeats 4000000 in
theorem chk_lsw {m pc : Nat} {o : Instr} {t : Int} {qs : Array (Int × Int)} (h : chk m pc o (.lookupswitch t qs) = true) : ∃ (a : Int) (ps : Array (Int × Int)), o = .lookupswitch a ps ∧ (pc : Int) + a = t ∧ 0 ≤ t ∧ ps.toList.map (fun q => (q.1, (pc : Int) + q.2)) = qs.toList ∧ qs.toList.all (fun q => decide (0 ≤ q.2)) = true ∧ (ps.toList.zip (ps.toList.drop 1)).all (fun (a, next) => a.1 < next.1) = true := by
  cases o <;> first | (simp [chk] at h; done) | (simp only [chk, Bool.and_eq_true, decide_eq_true_eq] at h; obtain ⟨⟨⟨⟨h1, h2⟩, h3⟩, h4⟩, h5⟩ := h; exact ⟨_, _, rfl, h1, h2, h3, h4, h5⟩)
set_option maxHeartbeats 4000000 in
theorem chk_inv {m pc : Nat} {o : Instr} {e : Nat} (h : chk m pc o (.invokevirtual e) = true) : ∃ x : Nat, o = .invokevirtual x ∧ ckM (mC.getD m 99) x e = true ∧ MX (e % 1000) = false ∧ isInit (e % 1000) = false ∧ e % 1000 < nMeth := by
  cases o <;> first | (simp [chk] at h; done) | (simp only [chk, Bool.and_eq_true, decide_eq_true_eq, Bool.not_eq_true'] at h; obtain ⟨⟨⟨h1, h2⟩, h3⟩, h4⟩ := h; exact ⟨_, rfl, h1, h2, h3, h4⟩)
set_option maxHeartbeats 4000000 in
theorem chk_ins {m pc : Nat} {o : Instr} {e : Nat} (h : chk m pc o (.invokespecial e) = true) : ∃ x : Nat, o = .invokespecial x ∧ ckM (mC.getD m 99) x e = true ∧ ((e / 1000000 = 0 ∧ e % 1000 = 500) ∨ (MX (e % 1000) = false ∧ isInit (e % 1000) = true ∧ e % 1000 < nMeth)) := by
  cases o <;> first | (simp [chk] at h; done) | (simp only [chk, Bool.and_eq_true, Bool.or_eq_true, decide_eq_true_eq, Bool.not_eq_true'] at h; obtain ⟨h1, h2⟩ := h; refine ⟨_, rfl, h1, ?_⟩; rcases h2 with ⟨h2, h3⟩ | ⟨⟨h2, h3⟩, h4⟩; (exact Or.inl ⟨by omega, h3⟩); exact Or.inr ⟨h2, h3, h4⟩)
set_option maxHeartbeats 4000000 in
theorem chk_inst {m pc : Nat} {o : Instr} {e : Nat} (h : chk m pc o (.invokestatic e) = true) : ∃ x : Nat, o = .invokestatic x ∧ ckM (mC.getD m 99) x e = true ∧ ((e / 1000000 = 0 ∧ 501 ≤ e % 1000) ∨ (MX (e % 1000) = true ∧ e % 1000 < nMeth)) := by
  cases o <;> first | (simp [chk] at h; done) | (simp only [chk, Bool.and_eq_true, Bool.or_eq_true, decide_eq_true_eq] at h; obtain ⟨h1, h2⟩ := h; refine ⟨_, rfl, h1, ?_⟩; rcases h2 with ⟨h2, h3⟩ | ⟨h2, h3⟩; (exact Or.inl ⟨by omega, h3⟩); exact Or.inr ⟨h2, h3⟩)
