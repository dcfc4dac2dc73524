/-! THE PLANE MAY BE TURNED OVER: ways and lengths do not depend on how the first wall lies -/
theorem w4 {P : Pose} (hP : WP P) {w : Nat} (hw : w < 6) (h2 : w / 2 ≠ P.1 / 2) : w = P.2.1 ∨ w = ow P.2.1 ∨ w = P.2.2.1 ∨ w = ow P.2.2.1 := by
  obtain ⟨p1, p2, p3, p4, p5, p6⟩ := hP
  by_cases a : w / 2 = P.2.1 / 2
  · by_cases b : w = P.2.1
    · exact Or.inl b
    · exact Or.inr (Or.inl (ow_of hw p2 a b))
  · by_cases b : w = P.2.2.1
    · exact Or.inr (Or.inr (Or.inl b))
    · exact Or.inr (Or.inr (Or.inr (ow_of hw p3 (by omega) b)))
theorem h2n {a b : Nat} (h : a / 2 ≠ b / 2) : a ≠ b ∧ a ≠ ow b ∧ ow a ≠ b ∧ ow a ≠ ow b := by
  have o1 := ow_half a
  have o2 := ow_half b
  refine ⟨fun e => h (by rw [e]), fun e => h (by rw [e, o2]), fun e => h (by rw [← e, o1]), fun e => h (by rw [← o1, e, o2])⟩
theorem prl4 (S : Nat → Int) {b e n : Nat} {x y : Int} (hP : WP (b, e, n, x, y)) : prl S (b, e, n, x, y) e = (e, ow b, n, x + S (e / 2), y) ∧ prl S (b, e, n, x, y) (ow e) = (ow e, b, n, x - S (b / 2), y) ∧ prl S (b, e, n, x, y) n = (n, e, ow b, x, y + S (n / 2)) ∧ prl S (b, e, n, x, y) (ow n) = (ow n, e, b, x, y - S (b / 2)) := by
  obtain ⟨p1, p2, p3, p4, p5, p6⟩ := hP
  obtain ⟨q1, q2, q3, q4⟩ := h2n (Ne.symm p6)
  exact ⟨prl_e rfl, prl_w (ow_ne e) rfl, prl_n q1 q2 rfl, prl_s q3 q4 (ow_ne n)⟩
theorem mtw4 (S : Nat → Int) {b e n : Nat} {x y : Int} (hP : WP (b, e, n, x, y)) (px py qx qy : Int) : mtw S (b, e, n, x, y) e px py qx qy = mts px py qx qy (x + S (e / 2)) y (y + S (n / 2)) ∧ mtw S (b, e, n, x, y) (ow e) px py qx qy = mts px py qx qy x y (y + S (n / 2)) ∧ mtw S (b, e, n, x, y) n px py qx qy = mts py px qy qx (y + S (n / 2)) x (x + S (e / 2)) ∧ mtw S (b, e, n, x, y) (ow n) px py qx qy = mts py px qy qx y x (x + S (e / 2)) := by
  obtain ⟨p1, p2, p3, p4, p5, p6⟩ := hP
  obtain ⟨q1, q2, q3, q4⟩ := h2n (Ne.symm p6)
  unfold mtw
  refine ⟨?_, ?_, ?_, ?_⟩
  · rw [if_pos (show e = ((b, e, n, x, y) : Pose).2.1 from rfl)]
  · rw [if_neg (show ¬ ow e = ((b, e, n, x, y) : Pose).2.1 from ow_ne e), if_pos (show ow e = ow ((b, e, n, x, y) : Pose).2.1 from rfl)]
  · rw [if_neg (show ¬ n = ((b, e, n, x, y) : Pose).2.1 from q1), if_neg (show ¬ n = ow ((b, e, n, x, y) : Pose).2.1 from q2), if_pos (show n = ((b, e, n, x, y) : Pose).2.2.1 from rfl)]
  · rw [if_neg (show ¬ ow n = ((b, e, n, x, y) : Pose).2.1 from q3), if_neg (show ¬ ow n = ow ((b, e, n, x, y) : Pose).2.1 from q4), if_neg (show ¬ ow n = ((b, e, n, x, y) : Pose).2.2.1 from ow_ne n)]
theorem pe {b e n b' e' n' : Nat} {x y x' y' : Int} (h1 : b = b') (h2 : e = e') (h3 : n = n') (h4 : x = x') (h5 : y = y') : ((b, e, n, x, y) : Pose) = (b', e', n', x', y') := by rw [h1, h2, h3, h4, h5]
theorem mts_nA (pa pc qa qc t lo hi : Int) : mts (-pa) pc (-qa) qc (-t) lo hi ↔ mts pa pc qa qc t lo hi := by
  unfold mts
  by_cases h1 : pa = qa
  · rw [if_pos h1, if_pos (show -pa = -qa by omega)]
    omega
  · rw [if_neg h1, if_neg (show ¬ -pa = -qa by omega)]
    by_cases h2 : pa < qa
    · rw [if_pos h2, if_neg (show ¬ -pa < -qa by omega), show -pa - -qa = qa - pa by omega, show -pa - -t = t - pa by omega]
      constructor
      · rintro ⟨a, b, c⟩; exact ⟨by omega, by omega, c⟩
      · rintro ⟨a, b, c⟩; exact ⟨by omega, by omega, c⟩
    · rw [if_neg h2, if_pos (show -pa < -qa by omega), show -qa - -pa = pa - qa by omega, show -t - -pa = pa - t by omega]
      constructor
      · rintro ⟨a, b, c⟩; exact ⟨by omega, by omega, c⟩
      · rintro ⟨a, b, c⟩; exact ⟨by omega, by omega, c⟩
theorem mts_nC (pa pc qa qc t lo hi : Int) : mts pa (-pc) qa (-qc) t (-hi) (-lo) ↔ mts pa pc qa qc t lo hi := by
  unfold mts
  by_cases h1 : pa = qa
  · rw [if_pos h1, if_pos h1]
    omega
  · rw [if_neg h1, if_neg h1]
    rw [show -hi - -pc = -(hi - pc) by omega, show -lo - -pc = -(lo - pc) by omega, show -qc - -pc = -(qc - pc) by omega]
    simp only [Int.neg_mul]
    by_cases h2 : pa < qa
    · rw [if_pos h2, if_pos h2]
      generalize (hi - pc) * (qa - pa) = u1
      generalize (lo - pc) * (qa - pa) = u2
      generalize (qc - pc) * (t - pa) = u3
      omega
    · rw [if_neg h2, if_neg h2]
      generalize (hi - pc) * (pa - qa) = u1
      generalize (lo - pc) * (pa - qa) = u2
      generalize (qc - pc) * (pa - t) = u3
      omega
theorem mts_mv (u v pa pc qa qc t lo hi : Int) : mts (pa + u) (pc + v) (qa + u) (qc + v) (t + u) (lo + v) (hi + v) ↔ mts pa pc qa qc t lo hi := by
  unfold mts
  rw [show lo + v - (pc + v) = lo - pc by omega, show hi + v - (pc + v) = hi - pc by omega, show qc + v - (pc + v) = qc - pc by omega, show qa + u - (pa + u) = qa - pa by omega, show t + u - (pa + u) = t - pa by omega, show pa + u - (qa + u) = pa - qa by omega, show pa + u - (t + u) = pa - t by omega]
  by_cases h1 : pa = qa
  · rw [if_pos h1, if_pos (show pa + u = qa + u by omega)]
    omega
  · rw [if_neg h1, if_neg (show ¬ pa + u = qa + u by omega)]
    by_cases h2 : pa < qa
    · rw [if_pos h2, if_pos (show pa + u < qa + u by omega)]
      constructor
      · rintro ⟨a, b, c⟩; exact ⟨by omega, by omega, c⟩
      · rintro ⟨a, b, c⟩; exact ⟨by omega, by omega, c⟩
    · rw [if_neg h2, if_neg (show ¬ pa + u < qa + u by omega)]
      constructor
      · rintro ⟨a, b, c⟩; exact ⟨by omega, by omega, c⟩
      · rintro ⟨a, b, c⟩; exact ⟨by omega, by omega, c⟩
def dd (P : Pose) (A : Nat → Int) (Q : Pose) (B : Nat → Int) : Int := (imX Q B - imX P A) * (imX Q B - imX P A) + (imY Q B - imY P A) * (imY Q B - imY P A)
def IsoP (S : Nat → Int) (f : Pose → Pose) : Prop :=
  (∀ P, WP P → WP (f P) ∧ (f P).1 = P.1) ∧
  (∀ P w, WP P → w < 6 → w / 2 ≠ P.1 / 2 → f (prl S P w) = prl S (f P) w) ∧
  (∀ A B P Q, AW S A → AW S B → WP P → WP Q → dd (f P) A (f Q) B = dd P A Q B) ∧
  ∀ A B P Q R w, AW S A → AW S B → WP P → WP Q → WP R → w < 6 → w / 2 ≠ R.1 / 2 → (mtw S (f R) w (imX (f P) A) (imY (f P) A) (imX (f Q) B) (imY (f Q) B) ↔ mtw S R w (imX P A) (imY P A) (imX Q B) (imY Q B))
theorem IsoP.comp {S : Nat → Int} {f g : Pose → Pose} (hf : IsoP S f) (hg : IsoP S g) : IsoP S (fun P => f (g P)) := by
  obtain ⟨f1, f2, f3, f4⟩ := hf
  obtain ⟨g1, g2, g3, g4⟩ := hg
  refine ⟨fun P hP => ?_, fun P w hP hw h2 => ?_, fun A B P Q hA hB hP hQ => ?_, fun A B P Q R w hA hB hP hQ hR hw h2 => ?_⟩
  · obtain ⟨a, b⟩ := g1 P hP
    obtain ⟨c, d⟩ := f1 _ a
    exact ⟨c, d.trans b⟩
  · obtain ⟨a, b⟩ := g1 P hP
    show f (g (prl S P w)) = _
    rw [g2 P w hP hw h2, f2 _ w a hw (by rw [b]; exact h2)]
  · exact (f3 A B _ _ hA hB (g1 P hP).1 (g1 Q hQ).1).trans (g3 A B P Q hA hB hP hQ)
  · obtain ⟨a, b⟩ := g1 R hR
    exact (f4 A B _ _ _ w hA hB (g1 P hP).1 (g1 Q hQ).1 a hw (by rw [b]; exact h2)).trans (g4 A B P Q R w hA hB hP hQ hR hw h2)
theorem IsoP.idd (S : Nat → Int) : IsoP S (fun P => P) := ⟨fun P h => ⟨h, rfl⟩, fun P w _ _ _ => rfl, fun A B P Q _ _ _ _ => rfl, fun A B P Q R w _ _ _ _ _ _ _ => Iff.rfl⟩
def flX (S : Nat → Int) (P : Pose) : Pose := (P.1, ow P.2.1, P.2.2.1, -(P.2.2.2.1 + S (P.2.1 / 2)), P.2.2.2.2)
def swp (P : Pose) : Pose := (P.1, P.2.2.1, P.2.1, P.2.2.2.2, P.2.2.2.1)
def mvP (u v : Int) (P : Pose) : Pose := (P.1, P.2.1, P.2.2.1, P.2.2.2.1 + u, P.2.2.2.2 + v)
theorem flX_mk (S : Nat → Int) (b e n : Nat) (x y : Int) : flX S (b, e, n, x, y) = (b, ow e, n, -(x + S (e / 2)), y) := rfl
theorem swp_mk (b e n : Nat) (x y : Int) : swp (b, e, n, x, y) = (b, n, e, y, x) := rfl
theorem mvP_mk (u v : Int) (b e n : Nat) (x y : Int) : mvP u v (b, e, n, x, y) = (b, e, n, x + u, y + v) := rfl
theorem flX_wp (S : Nat → Int) {P : Pose} (h : WP P) : WP (flX S P) := by
  obtain ⟨p1, p2, p3, p4, p5, p6⟩ := h
  refine ⟨p1, ow_lt p2, p3, ?_, p5, ?_⟩
  · show P.1 / 2 ≠ ow P.2.1 / 2
    rw [ow_half]; exact p4
  · show ow P.2.1 / 2 ≠ P.2.2.1 / 2
    rw [ow_half]; exact p6
theorem flX_im (S : Nat → Int) {A : Nat → Int} (hA : AW S A) {P : Pose} (h : WP P) : imX (flX S P) A = - imX P A ∧ imY (flX S P) A = imY P A := by
  refine ⟨?_, rfl⟩
  show -(P.2.2.2.1 + S (P.2.1 / 2)) + A (ow (ow P.2.1)) = -(P.2.2.2.1 + A (ow P.2.1))
  have := (hA P.2.1 h.2.1).1
  rw [ow_ow]
  omega
theorem iso_flX (S : Nat → Int) : IsoP S (flX S) := by
  refine ⟨fun P h => ⟨flX_wp S h, rfl⟩, fun P w hP hw h2 => ?_, fun A B P Q hA hB hP hQ => ?_, fun A B P Q R w hA hB hP hQ hR hw h2 => ?_⟩
  · have hQ := flX_wp S hP
    have w4' := w4 hP hw h2
    obtain ⟨b, e, n, x, y⟩ := P
    rw [flX_mk] at hQ
    show flX S (prl S (b, e, n, x, y) w) = prl S (b, ow e, n, -(x + S (e / 2)), y) w
    obtain ⟨a1, a2, a3, a4⟩ := prl4 S hP
    obtain ⟨c1, c2, c3, c4⟩ := prl4 S hQ
    rw [ow_ow] at c2
    simp only at w4'
    rcases w4' with h | h | h | h
    · rw [h, a1, c2, flX_mk]
      exact pe rfl (ow_ow b) rfl (by rw [ow_half]; omega) rfl
    · rw [h, a2, c1, flX_mk]
      exact pe rfl rfl rfl (by rw [ow_half]; omega) rfl
    · rw [h, a3, c3, flX_mk]
    · rw [h, a4, c4, flX_mk]
  · obtain ⟨a1, a2⟩ := flX_im S hA hP
    obtain ⟨b1, b2⟩ := flX_im S hB hQ
    unfold dd
    rw [a1, a2, b1, b2, show -imX Q B - -imX P A = -(imX Q B - imX P A) by omega, Int.neg_mul_neg]
  · obtain ⟨a1, a2⟩ := flX_im S hA hP
    obtain ⟨b1, b2⟩ := flX_im S hB hQ
    rw [a1, a2, b1, b2]
    generalize imX P A = px
    generalize imY P A = py
    generalize imX Q B = qx
    generalize imY Q B = qy
    have hR2 := flX_wp S hR
    have w4' := w4 hR hw h2
    obtain ⟨b, e, n, x, y⟩ := R
    rw [flX_mk] at hR2 ⊢
    obtain ⟨c1, c2, c3, c4⟩ := mtw4 S hR px py qx qy
    obtain ⟨d1, d2, d3, d4⟩ := mtw4 S hR2 (-px) py (-qx) qy
    rw [ow_ow] at d2
    rw [ow_half] at d1 d3 d4
    simp only at w4'
    rcases w4' with h | h | h | h
    · rw [h, c1, d2]
      exact mts_nA ..
    · rw [h, c2, d1, show -(x + S (e / 2)) + S (e / 2) = -x by omega]
      exact mts_nA ..
    · rw [h, c3, d3, show -(x + S (e / 2)) + S (e / 2) = -x by omega]
      exact mts_nC ..
    · rw [h, c4, d4, show -(x + S (e / 2)) + S (e / 2) = -x by omega]
      exact mts_nC ..
theorem swp_wp {P : Pose} (h : WP P) : WP (swp P) := by
  obtain ⟨p1, p2, p3, p4, p5, p6⟩ := h
  exact ⟨p1, p3, p2, p5, p4, Ne.symm p6⟩
theorem iso_swp (S : Nat → Int) : IsoP S swp := by
  refine ⟨fun P h => ⟨swp_wp h, rfl⟩, fun P w hP hw h2 => ?_, fun A B P Q hA hB hP hQ => ?_, fun A B P Q R w hA hB hP hQ hR hw h2 => ?_⟩
  · have hQ := swp_wp hP
    have w4' := w4 hP hw h2
    obtain ⟨b, e, n, x, y⟩ := P
    rw [swp_mk] at hQ
    show swp (prl S (b, e, n, x, y) w) = prl S (b, n, e, y, x) w
    obtain ⟨a1, a2, a3, a4⟩ := prl4 S hP
    obtain ⟨c1, c2, c3, c4⟩ := prl4 S hQ
    simp only at w4'
    rcases w4' with h | h | h | h
    · rw [h, a1, c3, swp_mk]
    · rw [h, a2, c4, swp_mk]
    · rw [h, a3, c1, swp_mk]
    · rw [h, a4, c2, swp_mk]
  · exact Int.add_comm _ _
  · show mtw S (swp R) w (imY P A) (imX P A) (imY Q B) (imX Q B) ↔ _
    generalize imX P A = px
    generalize imY P A = py
    generalize imX Q B = qx
    generalize imY Q B = qy
    have hR2 := swp_wp hR
    have w4' := w4 hR hw h2
    obtain ⟨b, e, n, x, y⟩ := R
    rw [swp_mk] at hR2 ⊢
    obtain ⟨c1, c2, c3, c4⟩ := mtw4 S hR px py qx qy
    obtain ⟨d1, d2, d3, d4⟩ := mtw4 S hR2 py px qy qx
    simp only at w4'
    rcases w4' with h | h | h | h
    · rw [h, c1, d3]
    · rw [h, c2, d4]
    · rw [h, c3, d1]
    · rw [h, c4, d2]
theorem iso_mv (S : Nat → Int) (u v : Int) : IsoP S (mvP u v) := by
  have im : ∀ (P : Pose) (A : Nat → Int), imX (mvP u v P) A = imX P A + u ∧ imY (mvP u v P) A = imY P A + v := by
    intro P A
    constructor
    · show P.2.2.2.1 + u + A (ow P.2.1) = P.2.2.2.1 + A (ow P.2.1) + u
      omega
    · show P.2.2.2.2 + v + A (ow P.2.2.1) = P.2.2.2.2 + A (ow P.2.2.1) + v
      omega
  refine ⟨fun P h => ⟨h, rfl⟩, fun P w hP hw h2 => ?_, fun A B P Q hA hB hP hQ => ?_, fun A B P Q R w hA hB hP hQ hR hw h2 => ?_⟩
  · have hQ : WP (mvP u v P) := hP
    have w4' := w4 hP hw h2
    obtain ⟨b, e, n, x, y⟩ := P
    rw [mvP_mk] at hQ
    show mvP u v (prl S (b, e, n, x, y) w) = prl S (b, e, n, x + u, y + v) w
    obtain ⟨a1, a2, a3, a4⟩ := prl4 S hP
    obtain ⟨c1, c2, c3, c4⟩ := prl4 S hQ
    simp only at w4'
    rcases w4' with h | h | h | h
    · rw [h, a1, c1, mvP_mk]
      exact pe rfl rfl rfl (by omega) rfl
    · rw [h, a2, c2, mvP_mk]
      exact pe rfl rfl rfl (by omega) rfl
    · rw [h, a3, c3, mvP_mk]
      exact pe rfl rfl rfl rfl (by omega)
    · rw [h, a4, c4, mvP_mk]
      exact pe rfl rfl rfl rfl (by omega)
  · unfold dd
    rw [(im P A).1, (im P A).2, (im Q B).1, (im Q B).2, show imX Q B + u - (imX P A + u) = imX Q B - imX P A by omega, show imY Q B + v - (imY P A + v) = imY Q B - imY P A by omega]
  · rw [(im P A).1, (im P A).2, (im Q B).1, (im Q B).2]
    generalize imX P A = px
    generalize imY P A = py
    generalize imX Q B = qx
    generalize imY Q B = qy
    have hR2 : WP (mvP u v R) := hR
    have w4' := w4 hR hw h2
    obtain ⟨b, e, n, x, y⟩ := R
    rw [mvP_mk] at hR2 ⊢
    obtain ⟨c1, c2, c3, c4⟩ := mtw4 S hR px py qx qy
    obtain ⟨d1, d2, d3, d4⟩ := mtw4 S hR2 (px + u) (py + v) (qx + u) (qy + v)
    simp only at w4'
    rcases w4' with h | h | h | h
    · rw [h, c1, d1, show x + u + S (e / 2) = x + S (e / 2) + u by omega, show y + v + S (n / 2) = y + S (n / 2) + v by omega]
      exact mts_mv ..
    · rw [h, c2, d2, show y + v + S (n / 2) = y + S (n / 2) + v by omega]
      exact mts_mv ..
    · rw [h, c3, d3, show x + u + S (e / 2) = x + S (e / 2) + u by omega, show y + v + S (n / 2) = y + S (n / 2) + v by omega]
      exact mts_mv ..
    · rw [h, c4, d4, show x + u + S (e / 2) = x + S (e / 2) + u by omega]
      exact mts_mv ..
/-- a way from one start is a way from the other -/
theorem IsoP.row {S A B : Nat → Int} {bar : Nat → Nat → Prop} {f : Pose → Pose} (hf : IsoP S f) (hS : SB S) (hA : AW S A) (hB : AW S B) {st st' : Nat → Pose} (hst : GS st) {r : List Nat} (hv : VR r) (h0 : st' (Wr r 0) = f (st (Wr r 0))) : (wayR S bar A B st' r ↔ wayR S bar A B st r) ∧ lenR S A B st' r = lenR S A B st r := by
  have hp := hv.1
  have hq : ∀ i, i < r.length → Qr S st' r i = f (Qr S st r i) := by
    intro i
    induction i with
    | zero =>
      intro hi
      rw [Qr_0 r hi, Qr_0 r hi, h0]
    | succ i ih =>
      intro hi
      obtain ⟨a, b, c⟩ := hv.q hS hst i (by omega)
      rw [Qr_step r i hi, Qr_step r i hi, ih (by omega), hf.2.1 _ _ a (hv.2 (i + 1) hi).1 (by rw [c]; exact (hv.2 i (by omega)).2 hi)]
  have h1 := hq 0 hp
  have h2 := hq (r.length - 1) (by omega)
  rw [Qr_top, Qr_top] at h2
  have p1 := (hv.q hS hst 0 hp).1
  have p2 := (hv.q hS hst (r.length - 1) (by omega)).1
  rw [Qr_top] at p2
  have m : ∀ i, i + 1 < r.length → (mtw S (Qr S st' r i) (Wr r (i + 1)) (imX (Qr S st' r 0) A) (imY (Qr S st' r 0) A) (imX (poseR S st' r) B) (imY (poseR S st' r) B) ↔ mtw S (Qr S st r i) (Wr r (i + 1)) (imX (Qr S st r 0) A) (imY (Qr S st r 0) A) (imX (poseR S st r) B) (imY (poseR S st r) B)) := by
    intro i hi
    obtain ⟨a, b, c⟩ := hv.q hS hst i (by omega)
    rw [hq i (by omega), h1, h2]
    exact hf.2.2.2 A B _ _ _ _ hA hB p1 p2 a (hv.2 (i + 1) hi).1 (by rw [c]; exact (hv.2 i (by omega)).2 hi)
  constructor
  · unfold wayR
    constructor
    · rintro ⟨a, b, c⟩
      exact ⟨a, b, fun i hi => ⟨(c i hi).1, (m i hi).mp (c i hi).2⟩⟩
    · rintro ⟨a, b, c⟩
      exact ⟨a, b, fun i hi => ⟨(c i hi).1, (m i hi).mpr (c i hi).2⟩⟩
  · have := hf.2.2.1 A B _ _ hA hB p1 p2
    unfold lenR
    rw [h1, h2]
    exact this
/-- how the reference begins on a wall -/
def rst (S : Nat → Int) (w : Nat) : Pose := if w = 0 then pst 0 else if w = 1 then prl S (prl S (pst 0) 3) 1 else prl S (pst 0) w
theorem rst_iso (S : Nat → Int) : ∀ w, w < 6 → ∃ f, IsoP S f ∧ rst S w = f (pst w) := by
  intro w hw
  rcases (by omega : w = 0 ∨ w = 1 ∨ w = 2 ∨ w = 3 ∨ w = 4 ∨ w = 5) with rfl | rfl | rfl | rfl | rfl | rfl
  · exact ⟨_, IsoP.idd S, rfl⟩
  · refine ⟨_, (iso_mv S (S 0 + 2 * S 1) 0).comp (iso_flX S), ?_⟩
    have e1 : prl S (pst 0) 3 = (3, 1, 5, 0 + S 1, 0) := rfl
    have e2 : prl S (3, 1, 5, 0 + S 1, 0) 1 = (1, 2, 5, 0 + S 1 + S 0, 0) := by
      rw [prl_e (P := (3, 1, 5, 0 + S 1, 0)) (w := 1) rfl]
      exact pe rfl (show ow 3 = 2 by decide) rfl (show 0 + S 1 + S (1 / 2) = 0 + S 1 + S 0 by rw [show 1 / 2 = 0 by decide]) rfl
    have e3 : rst S 1 = prl S (prl S (pst 0) 3) 1 := rfl
    have e4 : mvP (S 0 + 2 * S 1) 0 (flX S (pst 1)) = (1, 2, 5, -(0 + S 1) + (S 0 + 2 * S 1), 0 + 0) := rfl
    show rst S 1 = mvP (S 0 + 2 * S 1) 0 (flX S (pst 1))
    rw [e3, e1, e2, e4]
    exact pe rfl rfl rfl (by omega) rfl
  · refine ⟨_, (iso_flX S).comp (iso_swp S), ?_⟩
    show ((2, 0, 5, 0 - S 0, 0) : Pose) = (2, 0, 5, -(0 + S 0), 0)
    exact pe rfl rfl rfl (by omega) rfl
  · refine ⟨_, (iso_mv S (S 1) 0).comp (iso_swp S), ?_⟩
    show ((3, 1, 5, 0 + S 1, 0) : Pose) = (3, 1, 5, 0 + S 1, 0 + 0)
    rfl
  · refine ⟨_, (iso_swp S).comp ((iso_flX S).comp (iso_swp S)), ?_⟩
    show ((4, 3, 0, 0, 0 - S 0) : Pose) = (4, 3, 0, 0, -(0 + S 0))
    exact pe rfl rfl rfl rfl (by omega)
  · refine ⟨_, iso_mv S 0 (S 2), ?_⟩
    show ((5, 3, 1, 0, 0 + S 2) : Pose) = (5, 3, 1, 0 + 0, 0 + S 2)
    rfl
theorem rst_gs {S : Nat → Int} (hS : SB S) : GS (rst S) := by
  have s0 := hS 0 (by omega)
  have s1 := hS 1 (by omega)
  have s2 := hS 2 (by omega)
  intro w hw
  obtain ⟨f, hf, e⟩ := rst_iso S w hw
  obtain ⟨a, b⟩ := hf.1 _ (pst_wp w hw)
  refine ⟨by rw [e]; exact a, ?_, by rw [e, b]; rfl⟩
  have h0 : BP 0 (pst 0) := pst_bp 0 0
  have k : ∀ (j : Nat) (P : Pose), j ≤ 3 → BP j P → BP 3 P := by
    intro j P hj h
    obtain ⟨y1, y2, y3, y4⟩ := h
    exact ⟨by omega, by omega, by omega, by omega⟩
  unfold rst
  by_cases h1 : w = 0
  · rw [if_pos h1]; exact k 0 _ (by omega) h0
  · rw [if_neg h1]
    have p0 := pst_wp 0 (by omega)
    by_cases h2 : w = 1
    · rw [if_pos h2]
      exact k 2 _ (by omega) (prl_bp hS (prl_wp p0 (by omega) (by decide)) (prl_bp hS p0 h0))
    · rw [if_neg h2]
      exact k 1 _ (by omega) (prl_bp hS p0 h0)
