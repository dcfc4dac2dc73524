theorem Inv.up {n n' : Nat} {sg : Hp} (h : Inv n sg) (hn : n ≤ n') : Inv n' sg := ⟨h.1, h.2.1, h.2.2.1, h.2.2.2.1, IT.of h.2.2.2.2 hn rfl rfl rfl rfl rfl rfl rfl rfl rfl rfl⟩
theorem lc_self (x : Int64) : lg_cmp x x = 0 := by unfold lg_cmp; simp
theorem of_toInt {n : Nat} (h : n < 2147483648) : (Int32.ofNat n).toInt = (n : Int) := nI_toInt (by omega)
set_option maxHeartbeats 8000000 in
set_option maxRecDepth 100000 in
theorem law_go (Hside : K_side) (Hplace : K_place) (Hat : K_at) (Hread : K_read) (Htype : K_type) (Hundo : K_undo) (Hwipe : K_wipe) (Hfault : K_fault) (Hbar : K_bar) (HlaidOut : K_laidOut) (Hlies : K_lies) (Hshortest : K_shortest) (Hways : K_ways) (Hface : K_face) (Hfarthest : K_farthest) (Hsit : K_sit) (Hnearer : K_nearer) (Hwires : K_wires) (Hwithin : K_within) (Htold : K_told) (Hsnail : K_snail) (Hthread : K_thread) (Hflies : K_flies) (Hsheet : K_sheet) (Hlose : K_lose) (Hlay : K_lay) (Hget : K_get) (Hcopy : K_copy) (Hwrite : K_write) (Hcount : K_count) (Hdigest : K_digest) (L : Nat) (xs : Nat → Int32) (hL : L ≤ 384) : ∀ (k i : Nat) (sg : Hp) (n : Nat), i + k = 64 → Inv (20 * i + 1) sg → ∃ sg', f_Law_law_18 L xs (n + k + 1) sg (Int32.ofNat (6 * i)) = some (1, sg') := by
  intro k
  induction k with
  | zero =>
    intro i sg n hi hI
    rw [f_Law_law_18]
    rw [if_pos]
    · exact ⟨_, rfl⟩
    · rw [nLt, tSub (by rw [of_toInt (by omega)]; simp; omega) (by rw [of_toInt (by omega)]; simp; omega), of_toInt (by omega), of_toInt (by omega)]
      simp
      omega
  | succ k ih =>
    intro i sg n hi hI
    rw [show n + (k + 1) + 1 = (n + k + 1) + 1 by omega, f_Law_law_18]
    have hx : (Int32.ofNat (6 * i)).toInt = 6 * i := by rw [of_toInt (by omega)]; omega
    have hl : ((Int32.ofNat L) - (6 : Int32)).toInt = L - 6 := by
      rw [tSub (by rw [of_toInt (by omega)]; simp; omega) (by rw [of_toInt (by omega)]; simp; omega), of_toInt (by omega)]
      simp
    have hx6 : Int32.ofNat (6 * i) + (6 : Int32) = Int32.ofNat (6 * (i + 1)) := by
      apply i_inj
      rw [of_toInt (by omega), tAdd (by rw [hx]; simp; omega) (by rw [hx]; simp; omega), hx]
      simp
      omega
    by_cases hc : ((Int32.ofNat L) - (6 : Int32)) < Int32.ofNat (6 * i)
    · rw [if_pos hc]
      exact ⟨_, rfl⟩
    · rw [if_neg hc]
      rw [nLt, hl, hx] at hc
      have hin : 20 * i + 1 ≤ 5000 := by omega
      have hnx : ∀ s2 : Hp, Inv (20 * i + 1 + 20) s2 → ∃ sg', f_Law_law_1246 L xs (f_Law_law_18 L xs (n + k + 1)) s2 (Int32.ofNat (6 * i)) = some (1, sg') := by
        intro s2 h2
        unfold f_Law_law_1246
        rw [hx6]
        exact ih (i + 1) s2 n (by omega) (by rw [show 20 * (i + 1) + 1 = 20 * i + 1 + 20 by omega]; exact h2)
      generalize Int32.ofNat (6 * i) = x3 at hx hc hnx ⊢
      have hb0 : inb x3 L = true := by rw [inb_iff]; omega
      have hb1 : inb (x3 + (1 : Int32)) L = true := by rw [inb_iff, tAdd (by rw [hx]; simp; omega) (by rw [hx]; simp; omega), hx]; simp; omega
      have hb2 : inb (x3 + (2 : Int32)) L = true := by rw [inb_iff, tAdd (by rw [hx]; simp; omega) (by rw [hx]; simp; omega), hx]; simp; omega
      have hb3 : inb (x3 + (3 : Int32)) L = true := by rw [inb_iff, tAdd (by rw [hx]; simp; omega) (by rw [hx]; simp; omega), hx]; simp; omega
      have hb4 : inb (x3 + (4 : Int32)) L = true := by rw [inb_iff, tAdd (by rw [hx]; simp; omega) (by rw [hx]; simp; omega), hx]; simp; omega
      have hb5 : inb (x3 + (5 : Int32)) L = true := by rw [inb_iff, tAdd (by rw [hx]; simp; omega) (by rw [hx]; simp; omega), hx]; simp; omega
      rw [if_pos hb0]
      by_cases h0 : ((xs (x3).toNatClampNeg) &&& (31 : Int32)) = (0 : Int32)
      · rw [if_pos h0]
        obtain ⟨r, s1, s2, e1, e2, h2⟩ := Hside (20 * i + 1) sg hI hin (xs (x3 + (1 : Int32)).toNatClampNeg) (xs (x3 + (2 : Int32)).toNatClampNeg)
        dsimp only at e1 e2
        simp only [hb1, hb2, if_true, e1, e2, Option.bind_some]
        exact hnx s2 h2
      · rw [if_neg h0]
        by_cases h1 : ((xs (x3).toNatClampNeg) &&& (31 : Int32)) = (1 : Int32)
        · rw [if_pos h1]
          obtain ⟨r, s1, s2, e1, e2, h2⟩ := Hplace (20 * i + 1) sg hI hin (xs (x3 + (1 : Int32)).toNatClampNeg) (xs (x3 + (2 : Int32)).toNatClampNeg) (xs (x3 + (3 : Int32)).toNatClampNeg) (xs (x3 + (4 : Int32)).toNatClampNeg)
          dsimp only at e1 e2
          simp only [hb1, hb2, hb3, hb4, if_true, e1, e2, Option.bind_some]
          exact hnx s2 h2
        · rw [if_neg h1]
          by_cases h2 : ((xs (x3).toNatClampNeg) &&& (31 : Int32)) = (2 : Int32)
          · rw [if_pos h2]
            obtain ⟨r, s1, s2, e1, e2, h2⟩ := Hat (20 * i + 1) sg hI hin (xs (x3 + (1 : Int32)).toNatClampNeg) (xs (x3 + (2 : Int32)).toNatClampNeg)
            dsimp only at e1 e2
            simp only [hb1, hb2, if_true, e1, e2, Option.bind_some]
            exact hnx s2 h2
          · rw [if_neg h2]
            by_cases h3 : ((xs (x3).toNatClampNeg) &&& (31 : Int32)) = (3 : Int32)
            · rw [if_pos h3]
              obtain ⟨r, s1, s2, e1, e2, h2⟩ := Hread (20 * i + 1) sg hI hin (xs (x3 + (1 : Int32)).toNatClampNeg)
              dsimp only at e1 e2
              simp only [hb1, if_true, e1, e2, Option.bind_some]
              exact hnx s2 h2
            · rw [if_neg h3]
              by_cases h4 : ((xs (x3).toNatClampNeg) &&& (31 : Int32)) = (4 : Int32)
              · rw [if_pos h4]
                obtain ⟨r, s1, s2, e1, e2, h2⟩ := Htype (20 * i + 1) sg hI hin (xs (x3 + (1 : Int32)).toNatClampNeg)
                dsimp only at e1 e2
                simp only [hb1, if_true, e1, e2, Option.bind_some]
                exact hnx s2 h2
              · rw [if_neg h4]
                by_cases h5 : ((xs (x3).toNatClampNeg) &&& (31 : Int32)) = (5 : Int32)
                · rw [if_pos h5]
                  obtain ⟨r, s1, s2, e1, e2, h2⟩ := Hundo (20 * i + 1) sg hI hin 
                  dsimp only at e1 e2
                  simp only [hb0, if_true, e1, e2, Option.bind_some]
                  exact hnx s2 h2
                · rw [if_neg h5]
                  by_cases h6 : ((xs (x3).toNatClampNeg) &&& (31 : Int32)) = (6 : Int32)
                  · rw [if_pos h6]
                    obtain ⟨r, s1, s2, e1, e2, h2⟩ := Hwipe (20 * i + 1) sg hI hin 
                    dsimp only at e1 e2
                    simp only [hb0, if_true, e1, e2, Option.bind_some]
                    exact hnx s2 h2
                  · rw [if_neg h6]
                    by_cases h7 : ((xs (x3).toNatClampNeg) &&& (31 : Int32)) = (7 : Int32)
                    · rw [if_pos h7]
                      obtain ⟨r, s1, s2, e1, e2, h2⟩ := Hfault (20 * i + 1) sg hI hin 
                      dsimp only at e1 e2
                      simp only [hb0, if_true, e1, e2, Option.bind_some]
                      exact hnx s2 h2
                    · rw [if_neg h7]
                      by_cases h8 : ((xs (x3).toNatClampNeg) &&& (31 : Int32)) = (8 : Int32)
                      · rw [if_pos h8]
                        obtain ⟨r, s1, s2, e1, e2, h2⟩ := Hbar (20 * i + 1) sg hI hin (xs (x3 + (1 : Int32)).toNatClampNeg) (xs (x3 + (2 : Int32)).toNatClampNeg) (xs (x3 + (3 : Int32)).toNatClampNeg)
                        dsimp only at e1 e2
                        simp only [hb1, hb2, hb3, if_true, e1, e2, Option.bind_some]
                        exact hnx s2 h2
                      · rw [if_neg h8]
                        by_cases h9 : ((xs (x3).toNatClampNeg) &&& (31 : Int32)) = (9 : Int32)
                        · rw [if_pos h9]
                          obtain ⟨r, s1, s2, e1, e2, h2⟩ := HlaidOut (20 * i + 1) sg hI hin (xs (x3 + (1 : Int32)).toNatClampNeg) (xs (x3 + (2 : Int32)).toNatClampNeg)
                          dsimp only at e1 e2
                          simp only [hb1, hb2, if_true, e1, e2, Option.bind_some]
                          exact hnx s2 h2
                        · rw [if_neg h9]
                          by_cases h10 : ((xs (x3).toNatClampNeg) &&& (31 : Int32)) = (10 : Int32)
                          · rw [if_pos h10]
                            obtain ⟨r, s1, s2, e1, e2, h2⟩ := Hlies (20 * i + 1) sg hI hin (xs (x3 + (1 : Int32)).toNatClampNeg) (xs (x3 + (2 : Int32)).toNatClampNeg) (xs (x3 + (3 : Int32)).toNatClampNeg)
                            dsimp only at e1 e2
                            simp only [hb1, hb2, hb3, if_true, e1, e2, Option.bind_some]
                            exact hnx s2 h2
                          · rw [if_neg h10]
                            by_cases h11 : ((xs (x3).toNatClampNeg) &&& (31 : Int32)) = (11 : Int32)
                            · rw [if_pos h11]
                              obtain ⟨r, s1, s2, e1, e2, h2⟩ := Hshortest (20 * i + 1) sg hI hin (xs (x3 + (1 : Int32)).toNatClampNeg) (xs (x3 + (2 : Int32)).toNatClampNeg)
                              dsimp only at e1 e2
                              simp only [hb1, hb2, if_true, e1, e2, Option.bind_some]
                              exact hnx s2 h2
                            · rw [if_neg h11]
                              by_cases h12 : ((xs (x3).toNatClampNeg) &&& (31 : Int32)) = (12 : Int32)
                              · rw [if_pos h12]
                                obtain ⟨r, s1, s2, e1, e2, h2⟩ := Hways (20 * i + 1) sg hI hin (xs (x3 + (1 : Int32)).toNatClampNeg) (xs (x3 + (2 : Int32)).toNatClampNeg)
                                dsimp only at e1 e2
                                simp only [hb1, hb2, if_true, e1, e2, Option.bind_some]
                                exact hnx s2 h2
                              · rw [if_neg h12]
                                by_cases h13 : ((xs (x3).toNatClampNeg) &&& (31 : Int32)) = (13 : Int32)
                                · rw [if_pos h13]
                                  obtain ⟨r, s1, s2, e1, e2, h2⟩ := Hface (20 * i + 1) sg hI hin (xs (x3 + (1 : Int32)).toNatClampNeg) (xs (x3 + (2 : Int32)).toNatClampNeg) (xs (x3 + (3 : Int32)).toNatClampNeg)
                                  dsimp only at e1 e2
                                  simp only [hb1, hb2, hb3, if_true, e1, e2, Option.bind_some]
                                  exact hnx s2 h2
                                · rw [if_neg h13]
                                  by_cases h14 : ((xs (x3).toNatClampNeg) &&& (31 : Int32)) = (14 : Int32)
                                  · rw [if_pos h14]
                                    obtain ⟨r, s1, s2, e1, e2, h2⟩ := Hfarthest (20 * i + 1) sg hI hin (xs (x3 + (1 : Int32)).toNatClampNeg)
                                    dsimp only at e1 e2
                                    simp only [hb1, if_true, e1, e2, Option.bind_some]
                                    exact hnx s2 h2
                                  · rw [if_neg h14]
                                    by_cases h15 : ((xs (x3).toNatClampNeg) &&& (31 : Int32)) = (15 : Int32)
                                    · rw [if_pos h15]
                                      obtain ⟨r, s1, s2, e1, e2, h2⟩ := Hsit (20 * i + 1) sg hI hin 
                                      dsimp only at e1 e2
                                      simp only [hb0, if_true, e1, e2, Option.bind_some]
                                      exact hnx s2 h2
                                    · rw [if_neg h15]
                                      by_cases h16 : ((xs (x3).toNatClampNeg) &&& (31 : Int32)) = (16 : Int32)
                                      · rw [if_pos h16]
                                        obtain ⟨r, s1, s2, e1, e2, h2⟩ := Hnearer (20 * i + 1) sg hI hin (xs (x3 + (1 : Int32)).toNatClampNeg) (xs (x3 + (2 : Int32)).toNatClampNeg)
                                        dsimp only at e1 e2
                                        simp only [hb1, hb2, if_true, e1, e2, Option.bind_some]
                                        exact hnx s2 h2
                                      · rw [if_neg h16]
                                        by_cases h17 : ((xs (x3).toNatClampNeg) &&& (31 : Int32)) = (17 : Int32)
                                        · rw [if_pos h17]
                                          obtain ⟨r, s1, s2, e1, e2, h2⟩ := Hwires (20 * i + 1) sg hI hin (xs (x3 + (1 : Int32)).toNatClampNeg) (xs (x3 + (2 : Int32)).toNatClampNeg)
                                          dsimp only at e1 e2
                                          simp only [hb1, hb2, if_true, e1, e2, Option.bind_some]
                                          exact hnx s2 h2
                                        · rw [if_neg h17]
                                          by_cases h18 : ((xs (x3).toNatClampNeg) &&& (31 : Int32)) = (18 : Int32)
                                          · rw [if_pos h18]
                                            obtain ⟨r, s1, s2, e1, e2, h2⟩ := Hwithin (20 * i + 1) sg hI hin (xs (x3 + (1 : Int32)).toNatClampNeg) (xs (x3 + (2 : Int32)).toNatClampNeg)
                                            dsimp only at e1 e2
                                            simp only [hb1, hb2, if_true, e1, e2, Option.bind_some]
                                            exact hnx s2 h2
                                          · rw [if_neg h18]
                                            by_cases h19 : ((xs (x3).toNatClampNeg) &&& (31 : Int32)) = (19 : Int32)
                                            · rw [if_pos h19]
                                              obtain ⟨r, s1, s2, e1, e2, h2⟩ := Htold (20 * i + 1) sg hI hin (xs (x3 + (1 : Int32)).toNatClampNeg) (xs (x3 + (2 : Int32)).toNatClampNeg) (xs (x3 + (3 : Int32)).toNatClampNeg) (xs (x3 + (4 : Int32)).toNatClampNeg)
                                              dsimp only at e1 e2
                                              simp only [hb1, hb2, hb3, hb4, if_true, e1, e2, Option.bind_some]
                                              exact hnx s2 h2
                                            · rw [if_neg h19]
                                              by_cases h20 : ((xs (x3).toNatClampNeg) &&& (31 : Int32)) = (20 : Int32)
                                              · rw [if_pos h20]
                                                obtain ⟨r, s1, s2, e1, e2, h2⟩ := Hsnail (20 * i + 1) sg hI hin (xs (x3 + (1 : Int32)).toNatClampNeg) (xs (x3 + (2 : Int32)).toNatClampNeg) (xs (x3 + (3 : Int32)).toNatClampNeg) (xs (x3 + (4 : Int32)).toNatClampNeg)
                                                dsimp only at e1 e2
                                                simp only [hb1, hb2, hb3, hb4, if_true, e1, e2, Option.bind_some]
                                                exact hnx s2 h2
                                              · rw [if_neg h20]
                                                by_cases h21 : ((xs (x3).toNatClampNeg) &&& (31 : Int32)) = (21 : Int32)
                                                · rw [if_pos h21]
                                                  obtain ⟨r, s1, s2, e1, e2, h2⟩ := Hthread (20 * i + 1) sg hI hin (xs (x3 + (1 : Int32)).toNatClampNeg) (xs (x3 + (2 : Int32)).toNatClampNeg) (xs (x3 + (3 : Int32)).toNatClampNeg) (xs (x3 + (4 : Int32)).toNatClampNeg)
                                                  dsimp only at e1 e2
                                                  simp only [hb1, hb2, hb3, hb4, if_true, e1, e2, Option.bind_some]
                                                  exact hnx s2 h2
                                                · rw [if_neg h21]
                                                  by_cases h22 : ((xs (x3).toNatClampNeg) &&& (31 : Int32)) = (22 : Int32)
                                                  · rw [if_pos h22]
                                                    obtain ⟨r, s1, s2, e1, e2, h2⟩ := Hflies (20 * i + 1) sg hI hin (xs (x3 + (1 : Int32)).toNatClampNeg) (xs (x3 + (2 : Int32)).toNatClampNeg) (xs (x3 + (3 : Int32)).toNatClampNeg) (xs (x3 + (4 : Int32)).toNatClampNeg)
                                                    dsimp only at e1 e2
                                                    simp only [hb1, hb2, hb3, hb4, if_true, e1, e2, Option.bind_some]
                                                    exact hnx s2 h2
                                                  · rw [if_neg h22]
                                                    by_cases h23 : ((xs (x3).toNatClampNeg) &&& (31 : Int32)) = (23 : Int32)
                                                    · rw [if_pos h23]
                                                      obtain ⟨r, s1, s2, e1, e2, h2⟩ := Hsheet (20 * i + 1) sg hI hin (xs (x3 + (1 : Int32)).toNatClampNeg) (xs (x3 + (2 : Int32)).toNatClampNeg) (xs (x3 + (3 : Int32)).toNatClampNeg)
                                                      dsimp only at e1 e2
                                                      simp only [hb1, hb2, hb3, if_true, e1, e2, Option.bind_some]
                                                      exact hnx s2 h2
                                                    · rw [if_neg h23]
                                                      by_cases h24 : ((xs (x3).toNatClampNeg) &&& (31 : Int32)) = (24 : Int32)
                                                      · rw [if_pos h24]
                                                        obtain ⟨r, s1, s2, e1, e2, h2⟩ := Hlose (20 * i + 1) sg hI hin (xs (x3 + (1 : Int32)).toNatClampNeg)
                                                        dsimp only at e1 e2
                                                        simp only [hb1, if_true, e1, e2, Option.bind_some]
                                                        exact hnx s2 h2
                                                      · rw [if_neg h24]
                                                        by_cases h25 : ((xs (x3).toNatClampNeg) &&& (31 : Int32)) = (25 : Int32)
                                                        · rw [if_pos h25]
                                                          obtain ⟨r, s1, s2, e1, e2, h2⟩ := Hlay (20 * i + 1) sg hI hin (xs (x3 + (1 : Int32)).toNatClampNeg) (xs (x3 + (2 : Int32)).toNatClampNeg) (xs (x3 + (3 : Int32)).toNatClampNeg) (xs (x3 + (4 : Int32)).toNatClampNeg)
                                                          dsimp only at e1 e2
                                                          simp only [hb1, hb2, hb3, hb4, if_true, e1, e2, Option.bind_some]
                                                          exact hnx s2 h2
                                                        · rw [if_neg h25]
                                                          by_cases h26 : ((xs (x3).toNatClampNeg) &&& (31 : Int32)) = (26 : Int32)
                                                          · rw [if_pos h26]
                                                            obtain ⟨r, s1, s2, e1, e2, h2⟩ := Hget (20 * i + 1) sg hI hin (xs (x3 + (1 : Int32)).toNatClampNeg) (xs (x3 + (2 : Int32)).toNatClampNeg) (xs (x3 + (3 : Int32)).toNatClampNeg)
                                                            dsimp only at e1 e2
                                                            simp only [hb1, hb2, hb3, if_true, e1, e2, Option.bind_some]
                                                            exact hnx s2 h2
                                                          · rw [if_neg h26]
                                                            by_cases h27 : ((xs (x3).toNatClampNeg) &&& (31 : Int32)) = (27 : Int32)
                                                            · rw [if_pos h27]
                                                              obtain ⟨r, s1, s2, e1, e2, h2⟩ := Hcopy (20 * i + 1) sg hI hin (xs (x3 + (1 : Int32)).toNatClampNeg) (xs (x3 + (2 : Int32)).toNatClampNeg) (xs (x3 + (3 : Int32)).toNatClampNeg) (xs (x3 + (4 : Int32)).toNatClampNeg) (xs (x3 + (5 : Int32)).toNatClampNeg)
                                                              dsimp only at e1 e2
                                                              simp only [hb1, hb2, hb3, hb4, hb5, if_true, e1, e2, Option.bind_some]
                                                              exact hnx s2 h2
                                                            · rw [if_neg h27]
                                                              by_cases h28 : ((xs (x3).toNatClampNeg) &&& (31 : Int32)) = (28 : Int32)
                                                              · rw [if_pos h28]
                                                                obtain ⟨r, s1, s2, e1, e2, h2⟩ := Hwrite (20 * i + 1) sg hI hin (xs (x3 + (1 : Int32)).toNatClampNeg) (xs (x3 + (2 : Int32)).toNatClampNeg)
                                                                dsimp only at e1 e2
                                                                simp only [hb1, hb2, if_true, e1, e2, Option.bind_some]
                                                                exact hnx s2 h2
                                                              · rw [if_neg h28]
                                                                by_cases h29 : ((xs (x3).toNatClampNeg) &&& (31 : Int32)) = (29 : Int32)
                                                                · rw [if_pos h29]
                                                                  obtain ⟨r, s1, s2, e1, e2, h2⟩ := Hcount (20 * i + 1) sg hI hin (xs (x3 + (1 : Int32)).toNatClampNeg)
                                                                  dsimp only at e1 e2
                                                                  simp only [hb1, if_true, e1, e2, Option.bind_some]
                                                                  exact hnx s2 h2
                                                                · rw [if_neg h29]
                                                                  by_cases h30 : ((xs (x3).toNatClampNeg) &&& (31 : Int32)) = (30 : Int32)
                                                                  · rw [if_pos h30]
                                                                    obtain ⟨r, s1, s2, e1, e2, h2⟩ := Hdigest (20 * i + 1) sg hI hin 
                                                                    dsimp only at e1 e2
                                                                    simp only [hb0, if_true, e1, e2, Option.bind_some, lc_self]
                                                                    exact hnx s2 h2
                                                                  · rw [if_neg h30]
                                                                    exact hnx sg (Inv.up hI (by omega))
