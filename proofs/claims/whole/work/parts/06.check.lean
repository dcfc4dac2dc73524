theorem pk_0 : (prL.getD 0 []).all (ckE 0) = true := by decide +kernel
theorem pk_1 : (prL.getD 1 []).all (ckE 1) = true := by decide +kernel
theorem pk_2 : (prL.getD 2 []).all (ckE 2) = true := by decide +kernel
theorem pk_3 : (prL.getD 3 []).all (ckE 3) = true := by decide +kernel
theorem pk_4 : (prL.getD 4 []).all (ckE 4) = true := by decide +kernel
theorem pk_5 : (prL.getD 5 []).all (ckE 5) = true := by decide +kernel
theorem pk_6 : (prL.getD 6 []).all (ckE 6) = true := by decide +kernel
theorem pk_7 : (prL.getD 7 []).all (ckE 7) = true := by decide +kernel
theorem pk_8 : (prL.getD 8 []).all (ckE 8) = true := by decide +kernel
theorem pk_9 : (prL.getD 9 []).all (ckE 9) = true := by decide +kernel
theorem pk_10 : (prL.getD 10 []).all (ckE 10) = true := by decide +kernel
theorem pk_11 : (prL.getD 11 []).all (ckE 11) = true := by decide +kernel
theorem pk_12 : (prL.getD 12 []).all (ckE 12) = true := by decide +kernel
theorem pk_13 : (prL.getD 13 []).all (ckE 13) = true := by decide +kernel
theorem pk_14 : (prL.getD 14 []).all (ckE 14) = true := by decide +kernel
theorem pk_15 : (prL.getD 15 []).all (ckE 15) = true := by decide +kernel
theorem pk_16 : (prL.getD 16 []).all (ckE 16) = true := by decide +kernel
theorem pk_17 : (prL.getD 17 []).all (ckE 17) = true := by decide +kernel
theorem pk_18 : (prL.getD 18 []).all (ckE 18) = true := by decide +kernel
theorem pk_19 : (prL.getD 19 []).all (ckE 19) = true := by decide +kernel
theorem pk_20 : (prL.getD 20 []).all (ckE 20) = true := by decide +kernel
theorem pk_21 : (prL.getD 21 []).all (ckE 21) = true := by decide +kernel
theorem pk_22 : (prL.getD 22 []).all (ckE 22) = true := by decide +kernel
theorem pk_23 : (prL.getD 23 []).all (ckE 23) = true := by decide +kernel
theorem pk_24 : (prL.getD 24 []).all (ckE 24) = true := by decide +kernel
theorem pk_25 : (prL.getD 25 []).all (ckE 25) = true := by decide +kernel
theorem pk_26 : (prL.getD 26 []).all (ckE 26) = true := by decide +kernel
theorem pk_27 : (prL.getD 27 []).all (ckE 27) = true := by decide +kernel
theorem pk_28 : (prL.getD 28 []).all (ckE 28) = true := by decide +kernel
theorem pk_29 : (prL.getD 29 []).all (ckE 29) = true := by decide +kernel
theorem pk_30 : (prL.getD 30 []).all (ckE 30) = true := by decide +kernel
theorem pk_31 : (prL.getD 31 []).all (ckE 31) = true := by decide +kernel
theorem pk_32 : (prL.getD 32 []).all (ckE 32) = true := by decide +kernel
theorem pk_33 : (prL.getD 33 []).all (ckE 33) = true := by decide +kernel
theorem pk_34 : (prL.getD 34 []).all (ckE 34) = true := by decide +kernel
theorem pk_35 : (prL.getD 35 []).all (ckE 35) = true := by decide +kernel
theorem pk_36 : (prL.getD 36 []).all (ckE 36) = true := by decide +kernel
theorem pk_37 : (prL.getD 37 []).all (ckE 37) = true := by decide +kernel
theorem pk_38 : (prL.getD 38 []).all (ckE 38) = true := by decide +kernel
theorem pk_39 : (prL.getD 39 []).all (ckE 39) = true := by decide +kernel
theorem pk_40 : (prL.getD 40 []).all (ckE 40) = true := by decide +kernel
theorem pk_41 : (prL.getD 41 []).all (ckE 41) = true := by decide +kernel
theorem pk_42 : (prL.getD 42 []).all (ckE 42) = true := by decide +kernel
theorem pk_43 : (prL.getD 43 []).all (ckE 43) = true := by decide +kernel
theorem pk_44 : (prL.getD 44 []).all (ckE 44) = true := by decide +kernel
theorem pk_45 : (prL.getD 45 []).all (ckE 45) = true := by decide +kernel
theorem pk_46 : (prL.getD 46 []).all (ckE 46) = true := by decide +kernel
theorem pk_47 : (prL.getD 47 []).all (ckE 47) = true := by decide +kernel
theorem pk_48 : (prL.getD 48 []).all (ckE 48) = true := by decide +kernel
theorem pk_49 : (prL.getD 49 []).all (ckE 49) = true := by decide +kernel
theorem pk_50 : (prL.getD 50 []).all (ckE 50) = true := by decide +kernel
theorem pk_51 : (prL.getD 51 []).all (ckE 51) = true := by decide +kernel
theorem pk_52 : (prL.getD 52 []).all (ckE 52) = true := by decide +kernel
theorem pk_53 : (prL.getD 53 []).all (ckE 53) = true := by decide +kernel
theorem pk_54 : (prL.getD 54 []).all (ckE 54) = true := by decide +kernel
theorem pk_55 : (prL.getD 55 []).all (ckE 55) = true := by decide +kernel
theorem pk_56 : (prL.getD 56 []).all (ckE 56) = true := by decide +kernel
theorem pk_57 : (prL.getD 57 []).all (ckE 57) = true := by decide +kernel
theorem pk_58 : (prL.getD 58 []).all (ckE 58) = true := by decide +kernel
theorem pk_59 : (prL.getD 59 []).all (ckE 59) = true := by decide +kernel
theorem pk_60 : (prL.getD 60 []).all (ckE 60) = true := by decide +kernel
theorem pk_61 : (prL.getD 61 []).all (ckE 61) = true := by decide +kernel
theorem pk_62 : (prL.getD 62 []).all (ckE 62) = true := by decide +kernel
theorem pk_63 : (prL.getD 63 []).all (ckE 63) = true := by decide +kernel
theorem pk_64 : (prL.getD 64 []).all (ckE 64) = true := by decide +kernel
theorem pk_65 : (prL.getD 65 []).all (ckE 65) = true := by decide +kernel
theorem pk_66 : (prL.getD 66 []).all (ckE 66) = true := by decide +kernel
theorem pk_67 : (prL.getD 67 []).all (ckE 67) = true := by decide +kernel
theorem pk_68 : (prL.getD 68 []).all (ckE 68) = true := by decide +kernel
theorem pk_69 : (prL.getD 69 []).all (ckE 69) = true := by decide +kernel
theorem pk_70 : (prL.getD 70 []).all (ckE 70) = true := by decide +kernel
theorem pk_71 : (prL.getD 71 []).all (ckE 71) = true := by decide +kernel
theorem pk_72 : (prL.getD 72 []).all (ckE 72) = true := by decide +kernel
theorem pk_73 : (prL.getD 73 []).all (ckE 73) = true := by decide +kernel
theorem pk_74 : (prL.getD 74 []).all (ckE 74) = true := by decide +kernel
theorem pk_75 : (prL.getD 75 []).all (ckE 75) = true := by decide +kernel
theorem pk_76 : (prL.getD 76 []).all (ckE 76) = true := by decide +kernel
theorem pk_77 : (prL.getD 77 []).all (ckE 77) = true := by decide +kernel
theorem pk_78 : (prL.getD 78 []).all (ckE 78) = true := by decide +kernel
theorem pk_79 : (prL.getD 79 []).all (ckE 79) = true := by decide +kernel
theorem pk_80 : (prL.getD 80 []).all (ckE 80) = true := by decide +kernel
theorem pk_81 : (prL.getD 81 []).all (ckE 81) = true := by decide +kernel
theorem pk_82 : (prL.getD 82 []).all (ckE 82) = true := by decide +kernel
theorem pk_83 : (prL.getD 83 []).all (ckE 83) = true := by decide +kernel
theorem pk_84 : (prL.getD 84 []).all (ckE 84) = true := by decide +kernel
theorem pk_85 : (prL.getD 85 []).all (ckE 85) = true := by decide +kernel
theorem pk_86 : (prL.getD 86 []).all (ckE 86) = true := by decide +kernel
theorem pk_87 : (prL.getD 87 []).all (ckE 87) = true := by decide +kernel
theorem pk_88 : (prL.getD 88 []).all (ckE 88) = true := by decide +kernel
theorem pk_89 : (prL.getD 89 []).all (ckE 89) = true := by decide +kernel
theorem pk_90 : (prL.getD 90 []).all (ckE 90) = true := by decide +kernel
theorem pk_91 : (prL.getD 91 []).all (ckE 91) = true := by decide +kernel
theorem pk_92 : (prL.getD 92 []).all (ckE 92) = true := by decide +kernel
theorem pk_93 : (prL.getD 93 []).all (ckE 93) = true := by decide +kernel
theorem pk_94 : (prL.getD 94 []).all (ckE 94) = true := by decide +kernel
theorem pk_95 : (prL.getD 95 []).all (ckE 95) = true := by decide +kernel
theorem pk_96 : (prL.getD 96 []).all (ckE 96) = true := by decide +kernel
theorem pk_97 : (prL.getD 97 []).all (ckE 97) = true := by decide +kernel
theorem pk_98 : (prL.getD 98 []).all (ckE 98) = true := by decide +kernel
theorem pk_99 : (prL.getD 99 []).all (ckE 99) = true := by decide +kernel
theorem pk_100 : (prL.getD 100 []).all (ckE 100) = true := by decide +kernel
theorem pk_101 : (prL.getD 101 []).all (ckE 101) = true := by decide +kernel
theorem pk_102 : (prL.getD 102 []).all (ckE 102) = true := by decide +kernel
theorem pk_103 : (prL.getD 103 []).all (ckE 103) = true := by decide +kernel
theorem pk_104 : (prL.getD 104 []).all (ckE 104) = true := by decide +kernel
theorem pk_105 : (prL.getD 105 []).all (ckE 105) = true := by decide +kernel
theorem pk_106 : (prL.getD 106 []).all (ckE 106) = true := by decide +kernel
theorem pk_107 : (prL.getD 107 []).all (ckE 107) = true := by decide +kernel
theorem pk_108 : (prL.getD 108 []).all (ckE 108) = true := by decide +kernel
theorem pk_109 : (prL.getD 109 []).all (ckE 109) = true := by decide +kernel
theorem pk_110 : (prL.getD 110 []).all (ckE 110) = true := by decide +kernel
theorem pk_111 : (prL.getD 111 []).all (ckE 111) = true := by decide +kernel
theorem pk_112 : (prL.getD 112 []).all (ckE 112) = true := by decide +kernel
theorem pk_113 : (prL.getD 113 []).all (ckE 113) = true := by decide +kernel
theorem pk_114 : (prL.getD 114 []).all (ckE 114) = true := by decide +kernel
theorem pk_115 : (prL.getD 115 []).all (ckE 115) = true := by decide +kernel
theorem pk_116 : (prL.getD 116 []).all (ckE 116) = true := by decide +kernel
theorem pk_117 : (prL.getD 117 []).all (ckE 117) = true := by decide +kernel
theorem pk_118 : (prL.getD 118 []).all (ckE 118) = true := by decide +kernel
theorem pk_119 : (prL.getD 119 []).all (ckE 119) = true := by decide +kernel
theorem pk_120 : (prL.getD 120 []).all (ckE 120) = true := by decide +kernel
theorem pk_121 : (prL.getD 121 []).all (ckE 121) = true := by decide +kernel
theorem pk_122 : (prL.getD 122 []).all (ckE 122) = true := by decide +kernel
theorem pk_123 : (prL.getD 123 []).all (ckE 123) = true := by decide +kernel
theorem pk_124 : (prL.getD 124 []).all (ckE 124) = true := by decide +kernel
theorem pk_125 : (prL.getD 125 []).all (ckE 125) = true := by decide +kernel
theorem pk_126 : (prL.getD 126 []).all (ckE 126) = true := by decide +kernel
theorem pk_127 : (prL.getD 127 []).all (ckE 127) = true := by decide +kernel
theorem pk_128 : (prL.getD 128 []).all (ckE 128) = true := by decide +kernel
theorem pk_129 : (prL.getD 129 []).all (ckE 129) = true := by decide +kernel
theorem pk_130 : (prL.getD 130 []).all (ckE 130) = true := by decide +kernel
theorem pk_131 : (prL.getD 131 []).all (ckE 131) = true := by decide +kernel
theorem pk_132 : (prL.getD 132 []).all (ckE 132) = true := by decide +kernel
theorem pk_133 : (prL.getD 133 []).all (ckE 133) = true := by decide +kernel
theorem pk_134 : (prL.getD 134 []).all (ckE 134) = true := by decide +kernel
theorem pk_135 : (prL.getD 135 []).all (ckE 135) = true := by decide +kernel
theorem pk_136 : (prL.getD 136 []).all (ckE 136) = true := by decide +kernel
theorem pk_137 : (prL.getD 137 []).all (ckE 137) = true := by decide +kernel
theorem pk_138 : (prL.getD 138 []).all (ckE 138) = true := by decide +kernel
theorem pk_139 : (prL.getD 139 []).all (ckE 139) = true := by decide +kernel
theorem pk_140 : (prL.getD 140 []).all (ckE 140) = true := by decide +kernel
theorem pk_141 : (prL.getD 141 []).all (ckE 141) = true := by decide +kernel
theorem pk_142 : (prL.getD 142 []).all (ckE 142) = true := by decide +kernel
theorem pk_143 : (prL.getD 143 []).all (ckE 143) = true := by decide +kernel
theorem pk_144 : (prL.getD 144 []).all (ckE 144) = true := by decide +kernel
theorem pk_145 : (prL.getD 145 []).all (ckE 145) = true := by decide +kernel
theorem pk_146 : (prL.getD 146 []).all (ckE 146) = true := by decide +kernel
theorem pk_147 : (prL.getD 147 []).all (ckE 147) = true := by decide +kernel
theorem pk_148 : (prL.getD 148 []).all (ckE 148) = true := by decide +kernel
theorem pk_149 : (prL.getD 149 []).all (ckE 149) = true := by decide +kernel
theorem pk_150 : (prL.getD 150 []).all (ckE 150) = true := by decide +kernel
theorem pk_151 : (prL.getD 151 []).all (ckE 151) = true := by decide +kernel
theorem pk_152 : (prL.getD 152 []).all (ckE 152) = true := by decide +kernel
theorem pk_153 : (prL.getD 153 []).all (ckE 153) = true := by decide +kernel
theorem pk_154 : (prL.getD 154 []).all (ckE 154) = true := by decide +kernel
theorem pk_155 : (prL.getD 155 []).all (ckE 155) = true := by decide +kernel
theorem pk_156 : (prL.getD 156 []).all (ckE 156) = true := by decide +kernel
theorem pk_157 : (prL.getD 157 []).all (ckE 157) = true := by decide +kernel
theorem pk_158 : (prL.getD 158 []).all (ckE 158) = true := by decide +kernel
theorem pk_159 : (prL.getD 159 []).all (ckE 159) = true := by decide +kernel
theorem pk_160 : (prL.getD 160 []).all (ckE 160) = true := by decide +kernel
theorem pk_161 : (prL.getD 161 []).all (ckE 161) = true := by decide +kernel
theorem pk_162 : (prL.getD 162 []).all (ckE 162) = true := by decide +kernel
theorem pk_163 : (prL.getD 163 []).all (ckE 163) = true := by decide +kernel
theorem pk_164 : (prL.getD 164 []).all (ckE 164) = true := by decide +kernel
theorem pk_165 : (prL.getD 165 []).all (ckE 165) = true := by decide +kernel
theorem pk_166 : (prL.getD 166 []).all (ckE 166) = true := by decide +kernel
theorem pk_167 : (prL.getD 167 []).all (ckE 167) = true := by decide +kernel
theorem pk_168 : (prL.getD 168 []).all (ckE 168) = true := by decide +kernel
theorem pk_169 : (prL.getD 169 []).all (ckE 169) = true := by decide +kernel
theorem pk_170 : (prL.getD 170 []).all (ckE 170) = true := by decide +kernel
theorem pk_171 : (prL.getD 171 []).all (ckE 171) = true := by decide +kernel
theorem pk_172 : (prL.getD 172 []).all (ckE 172) = true := by decide +kernel
theorem pk_173 : (prL.getD 173 []).all (ckE 173) = true := by decide +kernel
theorem pk_174 : (prL.getD 174 []).all (ckE 174) = true := by decide +kernel
theorem pk_175 : (prL.getD 175 []).all (ckE 175) = true := by decide +kernel
theorem pk_176 : (prL.getD 176 []).all (ckE 176) = true := by decide +kernel
theorem pk_177 : (prL.getD 177 []).all (ckE 177) = true := by decide +kernel
theorem pk_178 : (prL.getD 178 []).all (ckE 178) = true := by decide +kernel
theorem pk_179 : (prL.getD 179 []).all (ckE 179) = true := by decide +kernel
theorem pk_180 : (prL.getD 180 []).all (ckE 180) = true := by decide +kernel
theorem pk_181 : (prL.getD 181 []).all (ckE 181) = true := by decide +kernel
theorem pk_182 : (prL.getD 182 []).all (ckE 182) = true := by decide +kernel
theorem pk_183_0 : ((pr_183.drop 0).take 48).all (ckE 183) = true := by decide +kernel
theorem pk_183_48 : ((pr_183.drop 48).take 48).all (ckE 183) = true := by decide +kernel
theorem pk_183_96 : ((pr_183.drop 96).take 48).all (ckE 183) = true := by decide +kernel
theorem pk_183_144 : ((pr_183.drop 144).take 48).all (ckE 183) = true := by decide +kernel
theorem pk_183_192 : ((pr_183.drop 192).take 48).all (ckE 183) = true := by decide +kernel
theorem pk_183_240 : ((pr_183.drop 240).take 48).all (ckE 183) = true := by decide +kernel
theorem pk_183_288 : ((pr_183.drop 288).take 48).all (ckE 183) = true := by decide +kernel
theorem pk_183_336 : ((pr_183.drop 336).take 48).all (ckE 183) = true := by decide +kernel
theorem pk_183_384 : ((pr_183.drop 384).take 48).all (ckE 183) = true := by decide +kernel
theorem pk_183_432 : ((pr_183.drop 432).take 48).all (ckE 183) = true := by decide +kernel
theorem pk_183_480 : ((pr_183.drop 480).take 48).all (ckE 183) = true := by decide +kernel
theorem pk_183_528 : ((pr_183.drop 528).take 48).all (ckE 183) = true := by decide +kernel
theorem pk_183_576 : ((pr_183.drop 576).take 48).all (ckE 183) = true := by decide +kernel
theorem pk_183_624 : ((pr_183.drop 624).take 48).all (ckE 183) = true := by decide +kernel
theorem pk_183_672 : ((pr_183.drop 672).take 48).all (ckE 183) = true := by decide +kernel
theorem pk_183_720 : ((pr_183.drop 720).take 48).all (ckE 183) = true := by decide +kernel
theorem pk_183_768 : ((pr_183.drop 768).take 48).all (ckE 183) = true := by decide +kernel
theorem pk_183_816 : ((pr_183.drop 816).take 48).all (ckE 183) = true := by decide +kernel
theorem pk_183_864 : ((pr_183.drop 864).take 48).all (ckE 183) = true := by decide +kernel
theorem pk_183_912 : ((pr_183.drop 912).take 2).all (ckE 183) = true := by decide +kernel
theorem pk_183_j : prL.getD 183 [] = (pr_183.drop 0).take 48 ++ ((pr_183.drop 48).take 48 ++ ((pr_183.drop 96).take 48 ++ ((pr_183.drop 144).take 48 ++ ((pr_183.drop 192).take 48 ++ ((pr_183.drop 240).take 48 ++ ((pr_183.drop 288).take 48 ++ ((pr_183.drop 336).take 48 ++ ((pr_183.drop 384).take 48 ++ ((pr_183.drop 432).take 48 ++ ((pr_183.drop 480).take 48 ++ ((pr_183.drop 528).take 48 ++ ((pr_183.drop 576).take 48 ++ ((pr_183.drop 624).take 48 ++ ((pr_183.drop 672).take 48 ++ ((pr_183.drop 720).take 48 ++ ((pr_183.drop 768).take 48 ++ ((pr_183.drop 816).take 48 ++ ((pr_183.drop 864).take 48 ++ ((pr_183.drop 912).take 2))))))))))))))))))) := by decide +kernel
theorem pk_183 : (prL.getD 183 []).all (ckE 183) = true := by
  rw [pk_183_j]
  simp only [List.all_append, Bool.and_eq_true]
  exact ⟨pk_183_0, ⟨pk_183_48, ⟨pk_183_96, ⟨pk_183_144, ⟨pk_183_192, ⟨pk_183_240, ⟨pk_183_288, ⟨pk_183_336, ⟨pk_183_384, ⟨pk_183_432, ⟨pk_183_480, ⟨pk_183_528, ⟨pk_183_576, ⟨pk_183_624, ⟨pk_183_672, ⟨pk_183_720, ⟨pk_183_768, ⟨pk_183_816, ⟨pk_183_864, pk_183_912⟩⟩⟩⟩⟩⟩⟩⟩⟩⟩⟩⟩⟩⟩⟩⟩⟩⟩⟩
def pkP (m : Nat) : Prop := (prL.getD m []).all (ckE m) = true
theorem pkg_0 : ∀ m ∈ ([0, 1, 2, 3, 4, 5, 6, 7, 8, 9, 10, 11, 12, 13, 14, 15] : List Nat), pkP m := List.forall_mem_cons.mpr ⟨pk_0, List.forall_mem_cons.mpr ⟨pk_1, List.forall_mem_cons.mpr ⟨pk_2, List.forall_mem_cons.mpr ⟨pk_3, List.forall_mem_cons.mpr ⟨pk_4, List.forall_mem_cons.mpr ⟨pk_5, List.forall_mem_cons.mpr ⟨pk_6, List.forall_mem_cons.mpr ⟨pk_7, List.forall_mem_cons.mpr ⟨pk_8, List.forall_mem_cons.mpr ⟨pk_9, List.forall_mem_cons.mpr ⟨pk_10, List.forall_mem_cons.mpr ⟨pk_11, List.forall_mem_cons.mpr ⟨pk_12, List.forall_mem_cons.mpr ⟨pk_13, List.forall_mem_cons.mpr ⟨pk_14, List.forall_mem_cons.mpr ⟨pk_15, fun _ h => absurd h List.not_mem_nil⟩⟩⟩⟩⟩⟩⟩⟩⟩⟩⟩⟩⟩⟩⟩⟩
theorem pkg_1 : ∀ m ∈ ([16, 17, 18, 19, 20, 21, 22, 23, 24, 25, 26, 27, 28, 29, 30, 31] : List Nat), pkP m := List.forall_mem_cons.mpr ⟨pk_16, List.forall_mem_cons.mpr ⟨pk_17, List.forall_mem_cons.mpr ⟨pk_18, List.forall_mem_cons.mpr ⟨pk_19, List.forall_mem_cons.mpr ⟨pk_20, List.forall_mem_cons.mpr ⟨pk_21, List.forall_mem_cons.mpr ⟨pk_22, List.forall_mem_cons.mpr ⟨pk_23, List.forall_mem_cons.mpr ⟨pk_24, List.forall_mem_cons.mpr ⟨pk_25, List.forall_mem_cons.mpr ⟨pk_26, List.forall_mem_cons.mpr ⟨pk_27, List.forall_mem_cons.mpr ⟨pk_28, List.forall_mem_cons.mpr ⟨pk_29, List.forall_mem_cons.mpr ⟨pk_30, List.forall_mem_cons.mpr ⟨pk_31, fun _ h => absurd h List.not_mem_nil⟩⟩⟩⟩⟩⟩⟩⟩⟩⟩⟩⟩⟩⟩⟩⟩
theorem pkg_2 : ∀ m ∈ ([32, 33, 34, 35, 36, 37, 38, 39, 40, 41, 42, 43, 44, 45, 46, 47] : List Nat), pkP m := List.forall_mem_cons.mpr ⟨pk_32, List.forall_mem_cons.mpr ⟨pk_33, List.forall_mem_cons.mpr ⟨pk_34, List.forall_mem_cons.mpr ⟨pk_35, List.forall_mem_cons.mpr ⟨pk_36, List.forall_mem_cons.mpr ⟨pk_37, List.forall_mem_cons.mpr ⟨pk_38, List.forall_mem_cons.mpr ⟨pk_39, List.forall_mem_cons.mpr ⟨pk_40, List.forall_mem_cons.mpr ⟨pk_41, List.forall_mem_cons.mpr ⟨pk_42, List.forall_mem_cons.mpr ⟨pk_43, List.forall_mem_cons.mpr ⟨pk_44, List.forall_mem_cons.mpr ⟨pk_45, List.forall_mem_cons.mpr ⟨pk_46, List.forall_mem_cons.mpr ⟨pk_47, fun _ h => absurd h List.not_mem_nil⟩⟩⟩⟩⟩⟩⟩⟩⟩⟩⟩⟩⟩⟩⟩⟩
theorem pkg_3 : ∀ m ∈ ([48, 49, 50, 51, 52, 53, 54, 55, 56, 57, 58, 59, 60, 61, 62, 63] : List Nat), pkP m := List.forall_mem_cons.mpr ⟨pk_48, List.forall_mem_cons.mpr ⟨pk_49, List.forall_mem_cons.mpr ⟨pk_50, List.forall_mem_cons.mpr ⟨pk_51, List.forall_mem_cons.mpr ⟨pk_52, List.forall_mem_cons.mpr ⟨pk_53, List.forall_mem_cons.mpr ⟨pk_54, List.forall_mem_cons.mpr ⟨pk_55, List.forall_mem_cons.mpr ⟨pk_56, List.forall_mem_cons.mpr ⟨pk_57, List.forall_mem_cons.mpr ⟨pk_58, List.forall_mem_cons.mpr ⟨pk_59, List.forall_mem_cons.mpr ⟨pk_60, List.forall_mem_cons.mpr ⟨pk_61, List.forall_mem_cons.mpr ⟨pk_62, List.forall_mem_cons.mpr ⟨pk_63, fun _ h => absurd h List.not_mem_nil⟩⟩⟩⟩⟩⟩⟩⟩⟩⟩⟩⟩⟩⟩⟩⟩
theorem pkg_4 : ∀ m ∈ ([64, 65, 66, 67, 68, 69, 70, 71, 72, 73, 74, 75, 76, 77, 78, 79] : List Nat), pkP m := List.forall_mem_cons.mpr ⟨pk_64, List.forall_mem_cons.mpr ⟨pk_65, List.forall_mem_cons.mpr ⟨pk_66, List.forall_mem_cons.mpr ⟨pk_67, List.forall_mem_cons.mpr ⟨pk_68, List.forall_mem_cons.mpr ⟨pk_69, List.forall_mem_cons.mpr ⟨pk_70, List.forall_mem_cons.mpr ⟨pk_71, List.forall_mem_cons.mpr ⟨pk_72, List.forall_mem_cons.mpr ⟨pk_73, List.forall_mem_cons.mpr ⟨pk_74, List.forall_mem_cons.mpr ⟨pk_75, List.forall_mem_cons.mpr ⟨pk_76, List.forall_mem_cons.mpr ⟨pk_77, List.forall_mem_cons.mpr ⟨pk_78, List.forall_mem_cons.mpr ⟨pk_79, fun _ h => absurd h List.not_mem_nil⟩⟩⟩⟩⟩⟩⟩⟩⟩⟩⟩⟩⟩⟩⟩⟩
theorem pkg_5 : ∀ m ∈ ([80, 81, 82, 83, 84, 85, 86, 87, 88, 89, 90, 91, 92, 93, 94, 95] : List Nat), pkP m := List.forall_mem_cons.mpr ⟨pk_80, List.forall_mem_cons.mpr ⟨pk_81, List.forall_mem_cons.mpr ⟨pk_82, List.forall_mem_cons.mpr ⟨pk_83, List.forall_mem_cons.mpr ⟨pk_84, List.forall_mem_cons.mpr ⟨pk_85, List.forall_mem_cons.mpr ⟨pk_86, List.forall_mem_cons.mpr ⟨pk_87, List.forall_mem_cons.mpr ⟨pk_88, List.forall_mem_cons.mpr ⟨pk_89, List.forall_mem_cons.mpr ⟨pk_90, List.forall_mem_cons.mpr ⟨pk_91, List.forall_mem_cons.mpr ⟨pk_92, List.forall_mem_cons.mpr ⟨pk_93, List.forall_mem_cons.mpr ⟨pk_94, List.forall_mem_cons.mpr ⟨pk_95, fun _ h => absurd h List.not_mem_nil⟩⟩⟩⟩⟩⟩⟩⟩⟩⟩⟩⟩⟩⟩⟩⟩
theorem pkg_6 : ∀ m ∈ ([96, 97, 98, 99, 100, 101, 102, 103, 104, 105, 106, 107, 108, 109, 110, 111] : List Nat), pkP m := List.forall_mem_cons.mpr ⟨pk_96, List.forall_mem_cons.mpr ⟨pk_97, List.forall_mem_cons.mpr ⟨pk_98, List.forall_mem_cons.mpr ⟨pk_99, List.forall_mem_cons.mpr ⟨pk_100, List.forall_mem_cons.mpr ⟨pk_101, List.forall_mem_cons.mpr ⟨pk_102, List.forall_mem_cons.mpr ⟨pk_103, List.forall_mem_cons.mpr ⟨pk_104, List.forall_mem_cons.mpr ⟨pk_105, List.forall_mem_cons.mpr ⟨pk_106, List.forall_mem_cons.mpr ⟨pk_107, List.forall_mem_cons.mpr ⟨pk_108, List.forall_mem_cons.mpr ⟨pk_109, List.forall_mem_cons.mpr ⟨pk_110, List.forall_mem_cons.mpr ⟨pk_111, fun _ h => absurd h List.not_mem_nil⟩⟩⟩⟩⟩⟩⟩⟩⟩⟩⟩⟩⟩⟩⟩⟩
theorem pkg_7 : ∀ m ∈ ([112, 113, 114, 115, 116, 117, 118, 119, 120, 121, 122, 123, 124, 125, 126, 127] : List Nat), pkP m := List.forall_mem_cons.mpr ⟨pk_112, List.forall_mem_cons.mpr ⟨pk_113, List.forall_mem_cons.mpr ⟨pk_114, List.forall_mem_cons.mpr ⟨pk_115, List.forall_mem_cons.mpr ⟨pk_116, List.forall_mem_cons.mpr ⟨pk_117, List.forall_mem_cons.mpr ⟨pk_118, List.forall_mem_cons.mpr ⟨pk_119, List.forall_mem_cons.mpr ⟨pk_120, List.forall_mem_cons.mpr ⟨pk_121, List.forall_mem_cons.mpr ⟨pk_122, List.forall_mem_cons.mpr ⟨pk_123, List.forall_mem_cons.mpr ⟨pk_124, List.forall_mem_cons.mpr ⟨pk_125, List.forall_mem_cons.mpr ⟨pk_126, List.forall_mem_cons.mpr ⟨pk_127, fun _ h => absurd h List.not_mem_nil⟩⟩⟩⟩⟩⟩⟩⟩⟩⟩⟩⟩⟩⟩⟩⟩
theorem pkg_8 : ∀ m ∈ ([128, 129, 130, 131, 132, 133, 134, 135, 136, 137, 138, 139, 140, 141, 142, 143] : List Nat), pkP m := List.forall_mem_cons.mpr ⟨pk_128, List.forall_mem_cons.mpr ⟨pk_129, List.forall_mem_cons.mpr ⟨pk_130, List.forall_mem_cons.mpr ⟨pk_131, List.forall_mem_cons.mpr ⟨pk_132, List.forall_mem_cons.mpr ⟨pk_133, List.forall_mem_cons.mpr ⟨pk_134, List.forall_mem_cons.mpr ⟨pk_135, List.forall_mem_cons.mpr ⟨pk_136, List.forall_mem_cons.mpr ⟨pk_137, List.forall_mem_cons.mpr ⟨pk_138, List.forall_mem_cons.mpr ⟨pk_139, List.forall_mem_cons.mpr ⟨pk_140, List.forall_mem_cons.mpr ⟨pk_141, List.forall_mem_cons.mpr ⟨pk_142, List.forall_mem_cons.mpr ⟨pk_143, fun _ h => absurd h List.not_mem_nil⟩⟩⟩⟩⟩⟩⟩⟩⟩⟩⟩⟩⟩⟩⟩⟩
theorem pkg_9 : ∀ m ∈ ([144, 145, 146, 147, 148, 149, 150, 151, 152, 153, 154, 155, 156, 157, 158, 159] : List Nat), pkP m := List.forall_mem_cons.mpr ⟨pk_144, List.forall_mem_cons.mpr ⟨pk_145, List.forall_mem_cons.mpr ⟨pk_146, List.forall_mem_cons.mpr ⟨pk_147, List.forall_mem_cons.mpr ⟨pk_148, List.forall_mem_cons.mpr ⟨pk_149, List.forall_mem_cons.mpr ⟨pk_150, List.forall_mem_cons.mpr ⟨pk_151, List.forall_mem_cons.mpr ⟨pk_152, List.forall_mem_cons.mpr ⟨pk_153, List.forall_mem_cons.mpr ⟨pk_154, List.forall_mem_cons.mpr ⟨pk_155, List.forall_mem_cons.mpr ⟨pk_156, List.forall_mem_cons.mpr ⟨pk_157, List.forall_mem_cons.mpr ⟨pk_158, List.forall_mem_cons.mpr ⟨pk_159, fun _ h => absurd h List.not_mem_nil⟩⟩⟩⟩⟩⟩⟩⟩⟩⟩⟩⟩⟩⟩⟩⟩
theorem pkg_10 : ∀ m ∈ ([160, 161, 162, 163, 164, 165, 166, 167, 168, 169, 170, 171, 172, 173, 174, 175] : List Nat), pkP m := List.forall_mem_cons.mpr ⟨pk_160, List.forall_mem_cons.mpr ⟨pk_161, List.forall_mem_cons.mpr ⟨pk_162, List.forall_mem_cons.mpr ⟨pk_163, List.forall_mem_cons.mpr ⟨pk_164, List.forall_mem_cons.mpr ⟨pk_165, List.forall_mem_cons.mpr ⟨pk_166, List.forall_mem_cons.mpr ⟨pk_167, List.forall_mem_cons.mpr ⟨pk_168, List.forall_mem_cons.mpr ⟨pk_169, List.forall_mem_cons.mpr ⟨pk_170, List.forall_mem_cons.mpr ⟨pk_171, List.forall_mem_cons.mpr ⟨pk_172, List.forall_mem_cons.mpr ⟨pk_173, List.forall_mem_cons.mpr ⟨pk_174, List.forall_mem_cons.mpr ⟨pk_175, fun _ h => absurd h List.not_mem_nil⟩⟩⟩⟩⟩⟩⟩⟩⟩⟩⟩⟩⟩⟩⟩⟩
theorem pkg_11 : ∀ m ∈ ([176, 177, 178, 179, 180, 181, 182, 183] : List Nat), pkP m := List.forall_mem_cons.mpr ⟨pk_176, List.forall_mem_cons.mpr ⟨pk_177, List.forall_mem_cons.mpr ⟨pk_178, List.forall_mem_cons.mpr ⟨pk_179, List.forall_mem_cons.mpr ⟨pk_180, List.forall_mem_cons.mpr ⟨pk_181, List.forall_mem_cons.mpr ⟨pk_182, List.forall_mem_cons.mpr ⟨pk_183, fun _ h => absurd h List.not_mem_nil⟩⟩⟩⟩⟩⟩⟩⟩
theorem pk_all {m : Nat} (h : m < 184) : (prL.getD m []).all (ckE m) = true := by
  have e : List.range 184 = [0, 1, 2, 3, 4, 5, 6, 7, 8, 9, 10, 11, 12, 13, 14, 15] ++ ([16, 17, 18, 19, 20, 21, 22, 23, 24, 25, 26, 27, 28, 29, 30, 31] ++ ([32, 33, 34, 35, 36, 37, 38, 39, 40, 41, 42, 43, 44, 45, 46, 47] ++ ([48, 49, 50, 51, 52, 53, 54, 55, 56, 57, 58, 59, 60, 61, 62, 63] ++ ([64, 65, 66, 67, 68, 69, 70, 71, 72, 73, 74, 75, 76, 77, 78, 79] ++ ([80, 81, 82, 83, 84, 85, 86, 87, 88, 89, 90, 91, 92, 93, 94, 95] ++ ([96, 97, 98, 99, 100, 101, 102, 103, 104, 105, 106, 107, 108, 109, 110, 111] ++ ([112, 113, 114, 115, 116, 117, 118, 119, 120, 121, 122, 123, 124, 125, 126, 127] ++ ([128, 129, 130, 131, 132, 133, 134, 135, 136, 137, 138, 139, 140, 141, 142, 143] ++ ([144, 145, 146, 147, 148, 149, 150, 151, 152, 153, 154, 155, 156, 157, 158, 159] ++ ([160, 161, 162, 163, 164, 165, 166, 167, 168, 169, 170, 171, 172, 173, 174, 175] ++ ([176, 177, 178, 179, 180, 181, 182, 183]))))))))))) := by decide +kernel
  have h1 := List.mem_range.mpr h
  rw [e] at h1
  have h2 : ∀ m ∈ ([0, 1, 2, 3, 4, 5, 6, 7, 8, 9, 10, 11, 12, 13, 14, 15] : List Nat) ++ (([16, 17, 18, 19, 20, 21, 22, 23, 24, 25, 26, 27, 28, 29, 30, 31] : List Nat) ++ (([32, 33, 34, 35, 36, 37, 38, 39, 40, 41, 42, 43, 44, 45, 46, 47] : List Nat) ++ (([48, 49, 50, 51, 52, 53, 54, 55, 56, 57, 58, 59, 60, 61, 62, 63] : List Nat) ++ (([64, 65, 66, 67, 68, 69, 70, 71, 72, 73, 74, 75, 76, 77, 78, 79] : List Nat) ++ (([80, 81, 82, 83, 84, 85, 86, 87, 88, 89, 90, 91, 92, 93, 94, 95] : List Nat) ++ (([96, 97, 98, 99, 100, 101, 102, 103, 104, 105, 106, 107, 108, 109, 110, 111] : List Nat) ++ (([112, 113, 114, 115, 116, 117, 118, 119, 120, 121, 122, 123, 124, 125, 126, 127] : List Nat) ++ (([128, 129, 130, 131, 132, 133, 134, 135, 136, 137, 138, 139, 140, 141, 142, 143] : List Nat) ++ (([144, 145, 146, 147, 148, 149, 150, 151, 152, 153, 154, 155, 156, 157, 158, 159] : List Nat) ++ (([160, 161, 162, 163, 164, 165, 166, 167, 168, 169, 170, 171, 172, 173, 174, 175] : List Nat) ++ (([176, 177, 178, 179, 180, 181, 182, 183] : List Nat)))))))))))), pkP m := List.forall_mem_append.mpr ⟨pkg_0, List.forall_mem_append.mpr ⟨pkg_1, List.forall_mem_append.mpr ⟨pkg_2, List.forall_mem_append.mpr ⟨pkg_3, List.forall_mem_append.mpr ⟨pkg_4, List.forall_mem_append.mpr ⟨pkg_5, List.forall_mem_append.mpr ⟨pkg_6, List.forall_mem_append.mpr ⟨pkg_7, List.forall_mem_append.mpr ⟨pkg_8, List.forall_mem_append.mpr ⟨pkg_9, List.forall_mem_append.mpr ⟨pkg_10, pkg_11⟩⟩⟩⟩⟩⟩⟩⟩⟩⟩⟩
  exact h2 m h1
