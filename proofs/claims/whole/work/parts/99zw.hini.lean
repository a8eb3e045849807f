/-! level 3: the EmptyHat's constructor -/
theorem dX11_init_0 : decode cX11_init 0 = .ok (.aload_n 0, 1) := by decide +kernel
theorem dX11_init_1 : decode cX11_init 1 = .ok (.invokespecial 1, 3) := by decide +kernel
theorem dX11_init_4 : decode cX11_init 4 = .ok (.aload_n 0, 1) := by decide +kernel
theorem dX11_init_5 : decode cX11_init 5 = .ok (.new 7, 3) := by decide +kernel
theorem dX11_init_8 : decode cX11_init 8 = .ok (.dup, 1) := by decide +kernel
theorem dX11_init_9 : decode cX11_init 9 = .ok (.invokespecial 9, 3) := by decide +kernel
theorem dX11_init_12 : decode cX11_init 12 = .ok (.putfield 10, 3) := by decide +kernel
theorem dX11_init_15 : decode cX11_init 15 = .ok (.aload_n 0, 1) := by decide +kernel
theorem dX11_init_16 : decode cX11_init 16 = .ok (.new 16, 3) := by decide +kernel
theorem dX11_init_19 : decode cX11_init 19 = .ok (.dup, 1) := by decide +kernel
theorem dX11_init_20 : decode cX11_init 20 = .ok (.invokespecial 18, 3) := by decide +kernel
theorem dX11_init_23 : decode cX11_init 23 = .ok (.putfield 19, 3) := by decide +kernel
theorem dX11_init_26 : decode cX11_init 26 = .ok (.aload_n 0, 1) := by decide +kernel
theorem dX11_init_27 : decode cX11_init 27 = .ok (.new 16, 3) := by decide +kernel
theorem dX11_init_30 : decode cX11_init 30 = .ok (.dup, 1) := by decide +kernel
theorem dX11_init_31 : decode cX11_init 31 = .ok (.invokespecial 18, 3) := by decide +kernel
theorem dX11_init_34 : decode cX11_init 34 = .ok (.putfield 23, 3) := by decide +kernel
theorem dX11_init_37 : decode cX11_init 37 = .ok (.aload_n 0, 1) := by decide +kernel
theorem dX11_init_38 : decode cX11_init 38 = .ok (.new 26, 3) := by decide +kernel
theorem dX11_init_41 : decode cX11_init 41 = .ok (.dup, 1) := by decide +kernel
theorem dX11_init_42 : decode cX11_init 42 = .ok (.aload_n 0, 1) := by decide +kernel
theorem dX11_init_43 : decode cX11_init 43 = .ok (.getfield 10, 3) := by decide +kernel
theorem dX11_init_46 : decode cX11_init 46 = .ok (.aload_n 0, 1) := by decide +kernel
theorem dX11_init_47 : decode cX11_init 47 = .ok (.getfield 23, 3) := by decide +kernel
theorem dX11_init_50 : decode cX11_init 50 = .ok (.invokespecial 28, 3) := by decide +kernel
theorem dX11_init_53 : decode cX11_init 53 = .ok (.putfield 31, 3) := by decide +kernel
theorem dX11_init_56 : decode cX11_init 56 = .ok (.aload_n 0, 1) := by decide +kernel
theorem dX11_init_57 : decode cX11_init 57 = .ok (.new 35, 3) := by decide +kernel
theorem dX11_init_60 : decode cX11_init 60 = .ok (.dup, 1) := by decide +kernel
theorem dX11_init_61 : decode cX11_init 61 = .ok (.aload_n 0, 1) := by decide +kernel
theorem dX11_init_62 : decode cX11_init 62 = .ok (.getfield 10, 3) := by decide +kernel
theorem dX11_init_65 : decode cX11_init 65 = .ok (.invokespecial 37, 3) := by decide +kernel
theorem dX11_init_68 : decode cX11_init 68 = .ok (.putfield 40, 3) := by decide +kernel
theorem dX11_init_71 : decode cX11_init 71 = .ok (.aload_n 0, 1) := by decide +kernel
theorem dX11_init_72 : decode cX11_init 72 = .ok (.new 44, 3) := by decide +kernel
theorem dX11_init_75 : decode cX11_init 75 = .ok (.dup, 1) := by decide +kernel
theorem dX11_init_76 : decode cX11_init 76 = .ok (.aload_n 0, 1) := by decide +kernel
theorem dX11_init_77 : decode cX11_init 77 = .ok (.getfield 19, 3) := by decide +kernel
theorem dX11_init_80 : decode cX11_init 80 = .ok (.invokespecial 46, 3) := by decide +kernel
theorem dX11_init_83 : decode cX11_init 83 = .ok (.putfield 49, 3) := by decide +kernel
theorem dX11_init_86 : decode cX11_init 86 = .ok (.aload_n 0, 1) := by decide +kernel
theorem dX11_init_87 : decode cX11_init 87 = .ok (.new 53, 3) := by decide +kernel
theorem dX11_init_90 : decode cX11_init 90 = .ok (.dup, 1) := by decide +kernel
theorem dX11_init_91 : decode cX11_init 91 = .ok (.aload_n 0, 1) := by decide +kernel
theorem dX11_init_92 : decode cX11_init 92 = .ok (.getfield 49, 3) := by decide +kernel
theorem dX11_init_95 : decode cX11_init 95 = .ok (.invokespecial 55, 3) := by decide +kernel
theorem dX11_init_98 : decode cX11_init 98 = .ok (.putfield 58, 3) := by decide +kernel
theorem dX11_init_101 : decode cX11_init 101 = .ok (.aload_n 0, 1) := by decide +kernel
theorem dX11_init_102 : decode cX11_init 102 = .ok (.new 62, 3) := by decide +kernel
theorem dX11_init_105 : decode cX11_init 105 = .ok (.dup, 1) := by decide +kernel
theorem dX11_init_106 : decode cX11_init 106 = .ok (.aload_n 0, 1) := by decide +kernel
theorem dX11_init_107 : decode cX11_init 107 = .ok (.getfield 49, 3) := by decide +kernel
theorem dX11_init_110 : decode cX11_init 110 = .ok (.invokespecial 64, 3) := by decide +kernel
theorem dX11_init_113 : decode cX11_init 113 = .ok (.putfield 65, 3) := by decide +kernel
theorem dX11_init_116 : decode cX11_init 116 = .ok (.aload_n 0, 1) := by decide +kernel
theorem dX11_init_117 : decode cX11_init 117 = .ok (.new 69, 3) := by decide +kernel
theorem dX11_init_120 : decode cX11_init 120 = .ok (.dup, 1) := by decide +kernel
theorem dX11_init_121 : decode cX11_init 121 = .ok (.invokespecial 71, 3) := by decide +kernel
theorem dX11_init_124 : decode cX11_init 124 = .ok (.putfield 72, 3) := by decide +kernel
theorem dX11_init_127 : decode cX11_init 127 = .ok (.aload_n 0, 1) := by decide +kernel
theorem dX11_init_128 : decode cX11_init 128 = .ok (.new 76, 3) := by decide +kernel
theorem dX11_init_131 : decode cX11_init 131 = .ok (.dup, 1) := by decide +kernel
theorem dX11_init_132 : decode cX11_init 132 = .ok (.invokespecial 78, 3) := by decide +kernel
theorem dX11_init_135 : decode cX11_init 135 = .ok (.putfield 79, 3) := by decide +kernel
theorem dX11_init_138 : decode cX11_init 138 = .ok (.aload_n 0, 1) := by decide +kernel
theorem dX11_init_139 : decode cX11_init 139 = .ok (.new 76, 3) := by decide +kernel
theorem dX11_init_142 : decode cX11_init 142 = .ok (.dup, 1) := by decide +kernel
theorem dX11_init_143 : decode cX11_init 143 = .ok (.invokespecial 78, 3) := by decide +kernel
theorem dX11_init_146 : decode cX11_init 146 = .ok (.putfield 83, 3) := by decide +kernel
theorem dX11_init_149 : decode cX11_init 149 = .ok (.aload_n 0, 1) := by decide +kernel
theorem dX11_init_150 : decode cX11_init 150 = .ok (.bipush 20, 2) := by decide +kernel
theorem dX11_init_152 : decode cX11_init 152 = .ok (.anewarray 76, 3) := by decide +kernel
theorem dX11_init_155 : decode cX11_init 155 = .ok (.putfield 86, 3) := by decide +kernel
theorem dX11_init_158 : decode cX11_init 158 = .ok (.aload_n 0, 1) := by decide +kernel
theorem dX11_init_159 : decode cX11_init 159 = .ok (.bipush 6, 2) := by decide +kernel
theorem dX11_init_161 : decode cX11_init 161 = .ok (.newarray .int, 2) := by decide +kernel
theorem dX11_init_163 : decode cX11_init 163 = .ok (.putfield 90, 3) := by decide +kernel
theorem dX11_init_166 : decode cX11_init 166 = .ok (.aload_n 0, 1) := by decide +kernel
theorem dX11_init_167 : decode cX11_init 167 = .ok (.iconst 0, 1) := by decide +kernel
theorem dX11_init_168 : decode cX11_init 168 = .ok (.putfield 94, 3) := by decide +kernel
theorem dX11_init_171 : decode cX11_init 171 = .ok (.aload_n 0, 1) := by decide +kernel
theorem dX11_init_172 : decode cX11_init 172 = .ok (.iconst 0, 1) := by decide +kernel
theorem dX11_init_173 : decode cX11_init 173 = .ok (.putfield 98, 3) := by decide +kernel
theorem dX11_init_176 : decode cX11_init 176 = .ok (.aload_n 0, 1) := by decide +kernel
theorem dX11_init_177 : decode cX11_init 177 = .ok (.iconst 0, 1) := by decide +kernel
theorem dX11_init_178 : decode cX11_init 178 = .ok (.putfield 102, 3) := by decide +kernel
theorem dX11_init_181 : decode cX11_init 181 = .ok (.aload_n 0, 1) := by decide +kernel
theorem dX11_init_182 : decode cX11_init 182 = .ok (.iconst 1, 1) := by decide +kernel
theorem dX11_init_183 : decode cX11_init 183 = .ok (.putfield 105, 3) := by decide +kernel
theorem dX11_init_186 : decode cX11_init 186 = .ok (.iconst 0, 1) := by decide +kernel
theorem dX11_init_187 : decode cX11_init 187 = .ok (.istore_n 1, 1) := by decide +kernel
theorem dX11_init_188 : decode cX11_init 188 = .ok (.iload_n 1, 1) := by decide +kernel
theorem dX11_init_189 : decode cX11_init 189 = .ok (.bipush 20, 2) := by decide +kernel
theorem dX11_init_191 : decode cX11_init 191 = .ok (.if_icmp .ge 22, 3) := by decide +kernel
theorem dX11_init_194 : decode cX11_init 194 = .ok (.aload_n 0, 1) := by decide +kernel
theorem dX11_init_195 : decode cX11_init 195 = .ok (.getfield 86, 3) := by decide +kernel
theorem dX11_init_198 : decode cX11_init 198 = .ok (.iload_n 1, 1) := by decide +kernel
theorem dX11_init_199 : decode cX11_init 199 = .ok (.new 76, 3) := by decide +kernel
theorem dX11_init_202 : decode cX11_init 202 = .ok (.dup, 1) := by decide +kernel
theorem dX11_init_203 : decode cX11_init 203 = .ok (.invokespecial 78, 3) := by decide +kernel
theorem dX11_init_206 : decode cX11_init 206 = .ok (.aastore, 1) := by decide +kernel
theorem dX11_init_207 : decode cX11_init 207 = .ok (.iinc 1 1, 3) := by decide +kernel
theorem dX11_init_210 : decode cX11_init 210 = .ok (.goto (-22), 3) := by decide +kernel
theorem dX11_init_213 : decode cX11_init 213 = .ok (.return_, 1) := by decide +kernel
theorem wo_RX11 : Cond.methodLink RX11 1 Lib.objectInit ∈ gw := gt_1 (i := 27) (by decide +kernel) rfl
theorem wN_RX11_7 : Cond.classLink RX11 7 RX10 ∈ gw ∧ Cond.instantiable RX10 11 ∈ gw ∧ Cond.initialized RX10 ∈ gw := ⟨gt_1 (i := 30) (by decide +kernel) rfl, gt_1 (i := 31) (by decide +kernel) rfl, gt_1 (i := 2) (by decide +kernel) rfl⟩
theorem wK_RX11_9 : Cond.methodLink RX11 9 yX10_init ∈ gw := gt_1 (i := 32) (by decide +kernel) rfl
theorem yi_X10_init : ho_y yX10_init cX10_init 4 none 0 ∧ Cond.instanceMethod yX10_init ∈ gw := ⟨⟨gt_1 (i := 34) rfl rfl, gt_1 (i := 2) (by decide +kernel) rfl, by decide +kernel⟩, gt_1 (i := 33) (by decide +kernel) rfl⟩
theorem fD_RX11_10 : dy_f RX11 11 TX11 17 10 0 2 (.object "EmptyHat$Text") true := ⟨rfl, by decide, gt_3 (i := 52) (by decide +kernel) rfl, rfl, rfl, by decide +kernel, fun _ => rfl⟩
theorem wN_RX11_16 : Cond.classLink RX11 16 RX2 ∈ gw ∧ Cond.instantiable RX2 16 ∈ gw ∧ Cond.initialized RX2 ∈ gw := ⟨gt_1 (i := 130) (by decide +kernel) rfl, gt_1 (i := 131) (by decide +kernel) rfl, gt_1 (i := 7) (by decide +kernel) rfl⟩
theorem wK_RX11_18 : (RX11, 18, yX2_init) ∈ nwL := by unfold nwL; simp
theorem yi_X2_init : ho_y yX2_init cX2_init 1 none 0 ∧ Cond.instanceMethod yX2_init ∈ gw := ⟨⟨gt_1 (i := 134) rfl rfl, gt_1 (i := 7) (by decide +kernel) rfl, by decide +kernel⟩, gt_1 (i := 133) (by decide +kernel) rfl⟩
theorem fD_RX11_19 : dy_f RX11 11 TX11 17 19 1 2 (.object "EmptyHat$Crown") false := ⟨rfl, by decide, gt_3 (i := 53) (by decide +kernel) rfl, rfl, rfl, by decide +kernel, fun _ => rfl⟩
theorem fD_RX11_23 : dy_f RX11 11 TX11 17 23 2 2 (.object "EmptyHat$Crown") false := ⟨rfl, by decide, gt_3 (i := 54) (by decide +kernel) rfl, rfl, rfl, by decide +kernel, fun _ => rfl⟩
theorem wN_RX11_26 : Cond.classLink RX11 26 RX3 ∈ gw ∧ Cond.instantiable RX3 5 ∈ gw ∧ Cond.initialized RX3 ∈ gw := ⟨gt_2 (i := 5) (by decide +kernel) rfl, gt_2 (i := 6) (by decide +kernel) rfl, gt_1 (i := 9) (by decide +kernel) rfl⟩
theorem wK_RX11_28 : Cond.methodLink RX11 28 yX3_init ∈ gw := gt_2 (i := 7) (by decide +kernel) rfl
theorem yi_X3_init : ho_y yX3_init cX3_init 3 none 2 ∧ Cond.instanceMethod yX3_init ∈ gw := ⟨⟨gt_2 (i := 9) rfl rfl, gt_1 (i := 9) (by decide +kernel) rfl, by decide +kernel⟩, gt_2 (i := 8) (by decide +kernel) rfl⟩
theorem fD_RX11_31 : dy_f RX11 11 TX11 17 31 3 2 (.object "EmptyHat$CrownReader") true := ⟨rfl, by decide, gt_3 (i := 55) (by decide +kernel) rfl, rfl, rfl, by decide +kernel, fun _ => rfl⟩
theorem wN_RX11_35 : Cond.classLink RX11 35 RX6 ∈ gw ∧ Cond.instantiable RX6 5 ∈ gw ∧ Cond.initialized RX6 ∈ gw := ⟨gt_2 (i := 44) (by decide +kernel) rfl, gt_2 (i := 45) (by decide +kernel) rfl, gt_1 (i := 11) (by decide +kernel) rfl⟩
theorem wK_RX11_37 : Cond.methodLink RX11 37 yX6_init ∈ gw := gt_2 (i := 46) (by decide +kernel) rfl
theorem yi_X6_init : ho_y yX6_init cX6_init 2 none 1 ∧ Cond.instanceMethod yX6_init ∈ gw := ⟨⟨gt_2 (i := 48) rfl rfl, gt_1 (i := 11) (by decide +kernel) rfl, by decide +kernel⟩, gt_2 (i := 47) (by decide +kernel) rfl⟩
theorem fD_RX11_40 : dy_f RX11 11 TX11 17 40 4 2 (.object "EmptyHat$Question") true := ⟨rfl, by decide, gt_3 (i := 56) (by decide +kernel) rfl, rfl, rfl, by decide +kernel, fun _ => rfl⟩
theorem wN_RX11_44 : Cond.classLink RX11 44 RX8 ∈ gw ∧ Cond.instantiable RX8 8 ∈ gw ∧ Cond.initialized RX8 ∈ gw := ⟨gt_2 (i := 70) (by decide +kernel) rfl, gt_2 (i := 71) (by decide +kernel) rfl, gt_1 (i := 12) (by decide +kernel) rfl⟩
theorem wK_RX11_46 : Cond.methodLink RX11 46 yX8_init ∈ gw := gt_2 (i := 72) (by decide +kernel) rfl
theorem yi_X8_init : ho_y yX8_init cX8_init 2 none 1 ∧ Cond.instanceMethod yX8_init ∈ gw := ⟨⟨gt_2 (i := 74) rfl rfl, gt_1 (i := 12) (by decide +kernel) rfl, by decide +kernel⟩, gt_2 (i := 73) (by decide +kernel) rfl⟩
theorem fD_RX11_49 : dy_f RX11 11 TX11 17 49 5 2 (.object "EmptyHat$Stage") true := ⟨rfl, by decide, gt_3 (i := 57) (by decide +kernel) rfl, rfl, rfl, by decide +kernel, fun _ => rfl⟩
theorem wN_RX11_53 : Cond.classLink RX11 53 RX0 ∈ gw ∧ Cond.instantiable RX0 16 ∈ gw ∧ Cond.initialized RX0 ∈ gw := ⟨gt_2 (i := 110) (by decide +kernel) rfl, gt_2 (i := 111) (by decide +kernel) rfl, gt_1 (i := 13) (by decide +kernel) rfl⟩
theorem wK_RX11_55 : Cond.methodLink RX11 55 yX0_init ∈ gw := gt_2 (i := 112) (by decide +kernel) rfl
theorem yi_X0_init : ho_y yX0_init cX0_init 2 none 1 ∧ Cond.instanceMethod yX0_init ∈ gw := ⟨⟨gt_2 (i := 114) rfl rfl, gt_1 (i := 13) (by decide +kernel) rfl, by decide +kernel⟩, gt_2 (i := 113) (by decide +kernel) rfl⟩
theorem fD_RX11_58 : dy_f RX11 11 TX11 17 58 6 2 (.object "EmptyHat$Ahead") true := ⟨rfl, by decide, gt_3 (i := 58) (by decide +kernel) rfl, rfl, rfl, by decide +kernel, fun _ => rfl⟩
theorem wN_RX11_62 : Cond.classLink RX11 62 RX1 ∈ gw ∧ Cond.instantiable RX1 9 ∈ gw ∧ Cond.initialized RX1 ∈ gw := ⟨gt_2 (i := 232) (by decide +kernel) rfl, gt_2 (i := 233) (by decide +kernel) rfl, gt_1 (i := 15) (by decide +kernel) rfl⟩
theorem wK_RX11_64 : Cond.methodLink RX11 64 yX1_init ∈ gw := gt_2 (i := 234) (by decide +kernel) rfl
theorem yi_X1_init : ho_y yX1_init cX1_init 2 none 1 ∧ Cond.instanceMethod yX1_init ∈ gw := ⟨⟨gt_2 (i := 236) rfl rfl, gt_1 (i := 15) (by decide +kernel) rfl, by decide +kernel⟩, gt_2 (i := 235) (by decide +kernel) rfl⟩
theorem fD_RX11_65 : dy_f RX11 11 TX11 17 65 7 2 (.object "EmptyHat$Counted") true := ⟨rfl, by decide, gt_3 (i := 59) (by decide +kernel) rfl, rfl, rfl, by decide +kernel, fun _ => rfl⟩
theorem wN_RX11_69 : Cond.classLink RX11 69 RX5 ∈ gw ∧ Cond.instantiable RX5 3 ∈ gw ∧ Cond.initialized RX5 ∈ gw := ⟨gt_3 (i := 31) (by decide +kernel) rfl, gt_3 (i := 32) (by decide +kernel) rfl, gt_1 (i := 16) (by decide +kernel) rfl⟩
theorem wK_RX11_71 : (RX11, 71, yX5_init) ∈ nwL := by unfold nwL; simp
theorem yi_X5_init : ho_y yX5_init cX5_init 1 none 0 ∧ Cond.instanceMethod yX5_init ∈ gw := ⟨⟨gt_3 (i := 35) rfl rfl, gt_1 (i := 16) (by decide +kernel) rfl, by decide +kernel⟩, gt_3 (i := 34) (by decide +kernel) rfl⟩
theorem fD_RX11_72 : dy_f RX11 11 TX11 17 72 8 2 (.object "EmptyHat$Image") true := ⟨rfl, by decide, gt_3 (i := 60) (by decide +kernel) rfl, rfl, rfl, by decide +kernel, fun _ => rfl⟩
theorem wN_RX11_76 : Cond.classLink RX11 76 RX9 ∈ gw ∧ Cond.instantiable RX9 9 ∈ gw ∧ Cond.initialized RX9 ∈ gw := ⟨gt_3 (i := 49) (by decide +kernel) rfl, gt_2 (i := 117) (by decide +kernel) rfl, gt_1 (i := 14) (by decide +kernel) rfl⟩
theorem wK_RX11_78 : (RX11, 78, yX9_init) ∈ nwL := by unfold nwL; simp
theorem fD_RX11_79 : dy_f RX11 11 TX11 17 79 9 2 (.object "EmptyHat$State") true := ⟨rfl, by decide, gt_3 (i := 61) (by decide +kernel) rfl, rfl, rfl, by decide +kernel, fun _ => rfl⟩
theorem fD_RX11_83 : dy_f RX11 11 TX11 17 83 10 2 (.object "EmptyHat$State") true := ⟨rfl, by decide, gt_3 (i := 62) (by decide +kernel) rfl, rfl, rfl, by decide +kernel, fun _ => rfl⟩
theorem fD_RX11_86 : dy_f RX11 11 TX11 17 86 11 2 (.array (.object "EmptyHat$State")) true := ⟨rfl, by decide, gt_3 (i := 63) (by decide +kernel) rfl, rfl, rfl, by decide +kernel, fun _ => rfl⟩
theorem fD_RX11_90 : dy_f RX11 11 TX11 17 90 12 2 (.array .int) true := ⟨rfl, by decide, gt_3 (i := 64) (by decide +kernel) rfl, rfl, rfl, by decide +kernel, fun _ => rfl⟩
theorem fD_RX11_94 : dy_f RX11 11 TX11 17 94 13 0 .boolean false := ⟨rfl, by decide, gt_3 (i := 65) (by decide +kernel) rfl, rfl, rfl, by decide +kernel, fun _ => rfl⟩
theorem fD_RX11_98 : dy_f RX11 11 TX11 17 98 14 0 .int false := ⟨rfl, by decide, gt_3 (i := 66) (by decide +kernel) rfl, rfl, rfl, by decide +kernel, fun _ => rfl⟩
theorem fD_RX11_102 : dy_f RX11 11 TX11 17 102 15 0 .int false := ⟨rfl, by decide, gt_3 (i := 67) (by decide +kernel) rfl, rfl, rfl, by decide +kernel, fun _ => rfl⟩
theorem fD_RX11_105 : dy_f RX11 11 TX11 17 105 16 0 .int false := ⟨rfl, by decide, gt_3 (i := 68) (by decide +kernel) rfl, rfl, rfl, by decide +kernel, fun _ => rfl⟩
def fl11 (x n : Nat) : Nat → Nat → Dp → Option Dp
  | 0, _, D => some D
  | d + 1, i, D => le1 (dyN D 1 9) (fun D1 => ob (f_X9_init (n + (115 + 6 * i)) (n + (115 + 6 * i + 1)) D1) (fun D2 => kN D2 (n + (115 + 6 * (i + 1))) (kO D2 x 1 11 (kO D2 (n + 113) 7 20 (kO D2 (n + (115 + 6 * i)) 1 9 (kP D2 x 11 (n + 113) (le1 (dyP D2 (n + 113) i (n + (115 + 6 * i))) (fun D3 => fl11 x n d (i + 1) D3))))))))
set_option maxHeartbeats 4000000 in
set_option maxRecDepth 100000 in
theorem w_X11_188 {p : Program} {l : Launch} {e : Env} {s : State} {m : MethodId} {args : Array Value} {below : List Frame} {meth : Method} {c : Code} {B x n : Nat} {E : Ev} {ak av : Nat → Nat} (I : dy_I p s m args meth c RX11 cX11_init 2 B n ak av) (r : Dp) : ∀ (d i : Nat) (D : Dp), i + d = 20 → D.1 = n + (115 + 6 * i) → (x < D.1 ∧ D.2.1 x = (1, 11)) → (n + 113 < D.1 ∧ D.2.1 (n + 113) = (7, 20)) → D.2.2.2.2 x 11 = some (n + 113) → fl11 x n d i D = some r → ∀ (H : Heap) (locs : List Loc) (ls : Array Slot), dy_R B E s s.heap H locs D → lv_has ls 2 [(1, .int (nI i)), (0, .ref (B + x))] → W p l e (dy_rm 5 235 14294) s m args below meth c H locs (115 + 6 * i) (11854 + 122 * i) (dy_Z B E below args s 235 14294 r) (F0 m 188 ls []) := by
  intro d
  induction d with
  | zero =>
    intro i D hi hn hx ha hp h H locs ls hR hl
    obtain rfl : i = 20 := by omega
    refine lv_iload_n I.1.1 I.1.2.1 dX11_init_188 rfl (lv_at hl 0 rfl) ?_
    refine lv_bipush (v := (20 : Int32)) I.1.1 I.1.2.1 dX11_init_189 (by decide) ?_
    refine lv_icmp_ge (tgt := 213) I.1.1 I.1.2.1 dX11_init_191 (by decide) (fun hc => ?_) (fun hc => absurd (show (20 : Int32) ≤ nI 20 by decide) hc)
    exact dr_ret (d := 0) I hR h (by omega) (by omega) dX11_init_213
  | succ d ih =>
    intro i D hi hn hx ha hp h H locs ls hR hl
    have hi2 : i < 20 := by omega
    rw [fl11] at h
    refine lv_iload_n I.1.1 I.1.2.1 dX11_init_188 rfl (lv_at hl 0 rfl) ?_
    refine lv_bipush (v := (20 : Int32)) I.1.1 I.1.2.1 dX11_init_189 (by decide) ?_
    refine lv_icmp_ge (tgt := 213) I.1.1 I.1.2.1 dX11_init_191 (by decide) (fun hc => absurd ((geL 20 (by omega) (by decide)).mp hc) (by omega)) (fun hc => ?_)
    refine lv_aload_n I.1.1 I.1.2.1 dX11_init_194 rfl (lv_at hl 1 rfl) ?_
    refine dr_getP (x := n + 113) I cf11 fD_RX11_86 hR hx hp dX11_init_195 ?_
    refine lv_iload_n I.1.1 I.1.2.1 dX11_init_198 rfl (lv_at hl 0 rfl) ?_
    obtain ⟨D1, e1, h⟩ := le1_ok h
    refine dr_new I cf9 wN_RX11_76 rfl dfl_9 hR hn rfl (Nat.zero_lt_of_lt hx.1) e1 (by show _ ≤ 235; omega) (by show _ ≤ 14294; omega) dX11_init_199 (fun H hR => ?_)
    replace hx := dr_oN hx e1
    have hn1 : D1.1 = n + (115 + 6 * i + 1) := by rw [tq_N hn e1]; omega
    refine lv_dup I.1.1 I.1.2.1 dX11_init_202 rfl ?_
    obtain ⟨D2, e2, h⟩ := ob_ok h
    obtain ⟨hn2, h⟩ := kN_ok h
    obtain ⟨hx2, h⟩ := kO_ok h
    obtain ⟨ha2, h⟩ := kO_ok h
    obtain ⟨hv2, h⟩ := kO_ok h
    obtain ⟨hp2, h⟩ := kP_ok h
    refine dr_callN (As := []) (rest := [.ref (B + (n + (115 + 6 * i))), .int (nI i), .ref (B + (n + 113))]) I (c_X9_init l B E ak av (n + (115 + 6 * i)) (n + (115 + 6 * i + 1)) D1 D2 e2) yi_X9_init.1 yi_X9_init.2 wK_RX11_78 rfl rfl rfl hl.1 (Nat.le_of_ble_eq_true rfl) (by decide) (by decide) hR hn1 rfl (Nat.zero_lt_of_lt hx.1) ⟨by omega, by omega⟩ dX11_init_203 (fun H locs hR => ?_)
    obtain ⟨D3, e3, h⟩ := le1_ok h
    refine dr_ast (D' := D3) (N := 20) (i := nI i) I hR ha2 hv2 (vp_in_nI hi2 (by decide)) (by rw [nI_clamp (by omega)]; exact e3) dX11_init_206 (fun H locs hR => ?_)
    have q3 := tq_P e3
    refine lv_iinc (v := nI (i + 1)) (lv' := [(1, .int (nI (i + 1))), (0, .ref (B + x))]) I.1.1 I.1.2.1 dX11_init_207 hl (k := 0) rfl (by rw [← nI_1]; rfl) (by decide) rfl (fun ls hl => ?_)
    refine lv_goto (tgt := 188) I.1.1 I.1.2.1 dX11_init_210 (by decide) ?_
    refine W.widen (k := 115 + 6 * (i + 1)) (n := 11854 + 122 * (i + 1)) (by omega) (by omega) ?_
    have hne : x ≠ n + 113 := fun q => by
      have h1 := hx2.2
      rw [q, ha2.2] at h1
      exact absurd h1 (by decide)
    refine ih (i + 1) D3 (by omega) (q3.1.trans hn2) (dr_o hx2 q3.1 q3.2) (dr_o ha2 q3.1 q3.2) ?_ h H locs ls hR hl
    rw [e3]
    show (if x = n + 113 then _ else D2.2.2.2.2 x) 11 = _
    rw [if_neg hne]
    exact hp2
def f_X11_init (x n : Nat) (D : Dp) : Option Dp :=
  kN D n (kO D x 1 11 (le1 (dyN D 1 10) (fun D1 => ob (f_X10_init n (n + 1) D1) (fun D2 => kN D2 (n + 3) (kO D2 x 1 11 (le1 (dyP D2 x 0 n) (fun D3 => le1 (dyN D3 1 2) (fun D4 => ob (f_X2_init (n + 3) (n + 4) D4) (fun D5 => kN D5 (n + 22) (kO D5 x 1 11 (le1 (dyP D5 x 1 (n + 3)) (fun D6 => le1 (dyN D6 1 2) (fun D7 => ob (f_X2_init (n + 22) (n + 23) D7) (fun D8 => kN D8 (n + 41) (kO D8 x 1 11 (le1 (dyP D8 x 2 (n + 22)) (fun D9 => le1 (dyN D9 1 3) (fun D10 => lQ D10 x 0 (fun z11 => lQ D10 x 2 (fun z12 => ob (f_X3_init (n + 41) (n + 42) z11 z12 D10) (fun D13 => kN D13 (n + 43) (kO D13 x 1 11 (le1 (dyP D13 x 3 (n + 41)) (fun D14 => le1 (dyN D14 1 6) (fun D15 => lQ D15 x 0 (fun z16 => ob (f_X6_init (n + 43) (n + 44) z16 D15) (fun D17 => kN D17 (n + 49) (kO D17 x 1 11 (le1 (dyP D17 x 4 (n + 43)) (fun D18 => le1 (dyN D18 1 8) (fun D19 => lQ D19 x 1 (fun z20 => ob (f_X8_init (n + 49) (n + 50) z20 D19) (fun D21 => kN D21 (n + 54) (kO D21 x 1 11 (le1 (dyP D21 x 5 (n + 49)) (fun D22 => le1 (dyN D22 1 0) (fun D23 => lQ D23 x 5 (fun z24 => ob (f_X0_init (n + 54) (n + 55) z24 D23) (fun D25 => kN D25 (n + 88) (kO D25 x 1 11 (le1 (dyP D25 x 6 (n + 54)) (fun D26 => le1 (dyN D26 1 1) (fun D27 => lQ D27 x 5 (fun z28 => ob (f_X1_init (n + 88) (n + 89) z28 D27) (fun D29 => kN D29 (n + 99) (kO D29 x 1 11 (le1 (dyP D29 x 7 (n + 88)) (fun D30 => le1 (dyN D30 1 5) (fun D31 => ob (f_X5_init (n + 99) (n + 100) D31) (fun D32 => kN D32 (n + 101) (kO D32 x 1 11 (le1 (dyP D32 x 8 (n + 99)) (fun D33 => le1 (dyN D33 1 9) (fun D34 => ob (f_X9_init (n + 101) (n + 102) D34) (fun D35 => kN D35 (n + 107) (kO D35 x 1 11 (le1 (dyP D35 x 9 (n + 101)) (fun D36 => le1 (dyN D36 1 9) (fun D37 => ob (f_X9_init (n + 107) (n + 108) D37) (fun D38 => kN D38 (n + 113) (kO D38 x 1 11 (le1 (dyP D38 x 10 (n + 107)) (fun D39 => le1 (dyN D39 7 20) (fun D40 => le1 (dyP D40 x 11 (n + 113)) (fun D41 => le1 (dyN D41 4 6) (fun D42 => le1 (dyP D42 x 12 (n + 114)) (fun D43 => le1 (dyI D43 x 13 (0 : Int32)) (fun D44 => le1 (dyI D44 x 14 (0 : Int32)) (fun D45 => le1 (dyI D45 x 15 (0 : Int32)) (fun D46 => le1 (dyI D46 x 16 (1 : Int32)) (fun D47 => kO D47 (n + 113) 7 20 (kP D47 x 11 (n + 113) (fl11 x n 20 0 D47)))))))))))))))))))))))))))))))))))))))))))))))))))))))))))))))))))))))))
set_option maxHeartbeats 4000000 in
set_option maxRecDepth 100000 in
theorem c_X11_init (l : Launch) (B : Nat) (E : Ev) (ak av : Nat → Nat) (x n : Nat) (D r : Dp) (h : f_X11_init x n D = some r) : dy_M l B E ak av yX11_init cX11_init 2 5 235 14294 [.ref (B + x)] n D r := by
  refine dy_in (by decide) rfl (Nat.le_of_ble_eq_true rfl) ?_
  intro p e s m args below meth c I hR ls hl
  have I : dy_I p s m args meth c RX11 cX11_init 2 B n ak av := I
  have hl : lv_has ls 2 [(0, .ref (B + x))] := hl
  unfold f_X11_init at h
  obtain ⟨hn, h⟩ := kN_ok h
  obtain ⟨hx, h⟩ := kO_ok h
  refine lv_aload_n I.1.1 I.1.2.1 dX11_init_0 rfl (lv_at hl 0 rfl) ?_
  refine dr_obj I wo_RX11 wO_in wO_co hl.1 (by decide) dX11_init_1 ?_
  refine lv_aload_n I.1.1 I.1.2.1 dX11_init_4 rfl (lv_at hl 0 rfl) ?_
  obtain ⟨D1, e1, h⟩ := le1_ok h
  refine dr_new I cf10 wN_RX11_7 rfl dfl_10 hR hn (by omega) (Nat.zero_lt_of_lt hx.1) e1 (Nat.le_of_ble_eq_true rfl) (Nat.le_of_ble_eq_true rfl) dX11_init_5 (fun H hR => ?_)
  replace hx := dr_oN hx e1
  replace hn := tq_N hn e1
  refine W.widen (k := 1) (n := 11) (Nat.le_of_ble_eq_true rfl) (Nat.le_of_ble_eq_true rfl) ?_
  refine lv_dup I.1.1 I.1.2.1 dX11_init_8 rfl ?_
  obtain ⟨D2, e2, h⟩ := ob_ok h
  obtain ⟨hn2, h⟩ := kN_ok h
  obtain ⟨hx2, h⟩ := kO_ok h
  refine dr_callI (As := []) (rest := [.ref (B + n), .ref (B + x)]) I (c_X10_init l B E ak av n (n + 1) D1 D2 e2) yi_X10_init.1 yi_X10_init.2 wK_RX11_9 rfl rfl rfl hl.1 (Nat.le_of_ble_eq_true rfl) (by decide) (by decide) hR hn (by omega) (Nat.zero_lt_of_lt hx.1) ⟨Nat.le_of_ble_eq_true rfl, Nat.le_of_ble_eq_true rfl⟩ dX11_init_9 (fun H locs hR => ?_)
  replace hn := hn2
  replace hx := hx2
  refine W.widen (k := 3) (n := 1646) (Nat.le_of_ble_eq_true rfl) (Nat.le_of_ble_eq_true rfl) ?_
  obtain ⟨D3, e3, h⟩ := le1_ok h
  refine dr_putP (fun _ => ⟨rfl, rfl⟩) I cf11 fD_RX11_10 hR hx e3 dX11_init_12 (fun H locs hR => ?_)
  replace hn := (tq_P e3).1.trans hn
  replace hx := dr_o hx (tq_P e3).1 (tq_P e3).2
  refine lv_aload_n I.1.1 I.1.2.1 dX11_init_15 rfl (lv_at hl 0 rfl) ?_
  obtain ⟨D4, e4, h⟩ := le1_ok h
  refine dr_new I cf2 wN_RX11_16 rfl dfl_2 hR hn (by omega) (Nat.zero_lt_of_lt hx.1) e4 (Nat.le_of_ble_eq_true rfl) (Nat.le_of_ble_eq_true rfl) dX11_init_16 (fun H hR => ?_)
  replace hx := dr_oN hx e4
  replace hn := tq_N hn e4
  refine W.widen (k := 4) (n := 1662) (Nat.le_of_ble_eq_true rfl) (Nat.le_of_ble_eq_true rfl) ?_
  refine lv_dup I.1.1 I.1.2.1 dX11_init_19 rfl ?_
  obtain ⟨D5, e5, h⟩ := ob_ok h
  obtain ⟨hn5, h⟩ := kN_ok h
  obtain ⟨hx5, h⟩ := kO_ok h
  refine dr_callN (As := []) (rest := [.ref (B + (n + 3)), .ref (B + x)]) I (c_X2_init l B E ak av (n + 3) (n + 4) D4 D5 e5) yi_X2_init.1 yi_X2_init.2 wK_RX11_18 rfl rfl rfl hl.1 (Nat.le_of_ble_eq_true rfl) (by decide) (by decide) hR hn (by omega) (Nat.zero_lt_of_lt hx.1) ⟨Nat.le_of_ble_eq_true rfl, Nat.le_of_ble_eq_true rfl⟩ dX11_init_20 (fun H locs hR => ?_)
  replace hn := hn5
  replace hx := hx5
  refine W.widen (k := 22) (n := 5060) (Nat.le_of_ble_eq_true rfl) (Nat.le_of_ble_eq_true rfl) ?_
  obtain ⟨D6, e6, h⟩ := le1_ok h
  refine dr_putP (fun _ => ⟨rfl, rfl⟩) I cf11 fD_RX11_19 hR hx e6 dX11_init_23 (fun H locs hR => ?_)
  replace hn := (tq_P e6).1.trans hn
  replace hx := dr_o hx (tq_P e6).1 (tq_P e6).2
  refine lv_aload_n I.1.1 I.1.2.1 dX11_init_26 rfl (lv_at hl 0 rfl) ?_
  obtain ⟨D7, e7, h⟩ := le1_ok h
  refine dr_new I cf2 wN_RX11_16 rfl dfl_2 hR hn (by omega) (Nat.zero_lt_of_lt hx.1) e7 (Nat.le_of_ble_eq_true rfl) (Nat.le_of_ble_eq_true rfl) dX11_init_27 (fun H hR => ?_)
  replace hx := dr_oN hx e7
  replace hn := tq_N hn e7
  refine W.widen (k := 23) (n := 5076) (Nat.le_of_ble_eq_true rfl) (Nat.le_of_ble_eq_true rfl) ?_
  refine lv_dup I.1.1 I.1.2.1 dX11_init_30 rfl ?_
  obtain ⟨D8, e8, h⟩ := ob_ok h
  obtain ⟨hn8, h⟩ := kN_ok h
  obtain ⟨hx8, h⟩ := kO_ok h
  refine dr_callN (As := []) (rest := [.ref (B + (n + 22)), .ref (B + x)]) I (c_X2_init l B E ak av (n + 22) (n + 23) D7 D8 e8) yi_X2_init.1 yi_X2_init.2 wK_RX11_18 rfl rfl rfl hl.1 (Nat.le_of_ble_eq_true rfl) (by decide) (by decide) hR hn (by omega) (Nat.zero_lt_of_lt hx.1) ⟨Nat.le_of_ble_eq_true rfl, Nat.le_of_ble_eq_true rfl⟩ dX11_init_31 (fun H locs hR => ?_)
  replace hn := hn8
  replace hx := hx8
  refine W.widen (k := 41) (n := 8474) (Nat.le_of_ble_eq_true rfl) (Nat.le_of_ble_eq_true rfl) ?_
  obtain ⟨D9, e9, h⟩ := le1_ok h
  refine dr_putP (fun _ => ⟨rfl, rfl⟩) I cf11 fD_RX11_23 hR hx e9 dX11_init_34 (fun H locs hR => ?_)
  replace hn := (tq_P e9).1.trans hn
  replace hx := dr_o hx (tq_P e9).1 (tq_P e9).2
  refine lv_aload_n I.1.1 I.1.2.1 dX11_init_37 rfl (lv_at hl 0 rfl) ?_
  obtain ⟨D10, e10, h⟩ := le1_ok h
  refine dr_new I cf3 wN_RX11_26 rfl dfl_3 hR hn (by omega) (Nat.zero_lt_of_lt hx.1) e10 (Nat.le_of_ble_eq_true rfl) (Nat.le_of_ble_eq_true rfl) dX11_init_38 (fun H hR => ?_)
  replace hx := dr_oN hx e10
  replace hn := tq_N hn e10
  refine W.widen (k := 42) (n := 8479) (Nat.le_of_ble_eq_true rfl) (Nat.le_of_ble_eq_true rfl) ?_
  refine lv_dup I.1.1 I.1.2.1 dX11_init_41 rfl ?_
  refine lv_aload_n I.1.1 I.1.2.1 dX11_init_42 rfl (lv_at hl 0 rfl) ?_
  obtain ⟨z11, ez11, h⟩ := lQ_ok h
  refine dr_getP I cf11 fD_RX11_10 hR hx ez11 dX11_init_43 ?_
  refine lv_aload_n I.1.1 I.1.2.1 dX11_init_46 rfl (lv_at hl 0 rfl) ?_
  obtain ⟨z12, ez12, h⟩ := lQ_ok h
  refine dr_getP I cf11 fD_RX11_23 hR hx ez12 dX11_init_47 ?_
  obtain ⟨D13, e13, h⟩ := ob_ok h
  obtain ⟨hn13, h⟩ := kN_ok h
  obtain ⟨hx13, h⟩ := kO_ok h
  refine dr_callI (As := [.ref (B + z11), .ref (B + z12)]) (rest := [.ref (B + (n + 41)), .ref (B + x)]) I (c_X3_init l B E ak av (n + 41) (n + 42) z11 z12 D10 D13 e13) yi_X3_init.1 yi_X3_init.2 wK_RX11_28 rfl rfl rfl hl.1 (Nat.le_of_ble_eq_true rfl) (by decide) (by decide) hR hn (by omega) (Nat.zero_lt_of_lt hx.1) ⟨Nat.le_of_ble_eq_true rfl, Nat.le_of_ble_eq_true rfl⟩ dX11_init_50 (fun H locs hR => ?_)
  replace hn := hn13
  replace hx := hx13
  refine W.widen (k := 43) (n := 8482) (Nat.le_of_ble_eq_true rfl) (Nat.le_of_ble_eq_true rfl) ?_
  obtain ⟨D14, e14, h⟩ := le1_ok h
  refine dr_putP (fun _ => ⟨rfl, rfl⟩) I cf11 fD_RX11_31 hR hx e14 dX11_init_53 (fun H locs hR => ?_)
  replace hn := (tq_P e14).1.trans hn
  replace hx := dr_o hx (tq_P e14).1 (tq_P e14).2
  refine lv_aload_n I.1.1 I.1.2.1 dX11_init_56 rfl (lv_at hl 0 rfl) ?_
  obtain ⟨D15, e15, h⟩ := le1_ok h
  refine dr_new I cf6 wN_RX11_35 rfl dfl_6 hR hn (by omega) (Nat.zero_lt_of_lt hx.1) e15 (Nat.le_of_ble_eq_true rfl) (Nat.le_of_ble_eq_true rfl) dX11_init_57 (fun H hR => ?_)
  replace hx := dr_oN hx e15
  replace hn := tq_N hn e15
  refine W.widen (k := 44) (n := 8487) (Nat.le_of_ble_eq_true rfl) (Nat.le_of_ble_eq_true rfl) ?_
  refine lv_dup I.1.1 I.1.2.1 dX11_init_60 rfl ?_
  refine lv_aload_n I.1.1 I.1.2.1 dX11_init_61 rfl (lv_at hl 0 rfl) ?_
  obtain ⟨z16, ez16, h⟩ := lQ_ok h
  refine dr_getP I cf11 fD_RX11_10 hR hx ez16 dX11_init_62 ?_
  obtain ⟨D17, e17, h⟩ := ob_ok h
  obtain ⟨hn17, h⟩ := kN_ok h
  obtain ⟨hx17, h⟩ := kO_ok h
  refine dr_callI (As := [.ref (B + z16)]) (rest := [.ref (B + (n + 43)), .ref (B + x)]) I (c_X6_init l B E ak av (n + 43) (n + 44) z16 D15 D17 e17) yi_X6_init.1 yi_X6_init.2 wK_RX11_37 rfl rfl rfl hl.1 (Nat.le_of_ble_eq_true rfl) (by decide) (by decide) hR hn (by omega) (Nat.zero_lt_of_lt hx.1) ⟨Nat.le_of_ble_eq_true rfl, Nat.le_of_ble_eq_true rfl⟩ dX11_init_65 (fun H locs hR => ?_)
  replace hn := hn17
  replace hx := hx17
  refine W.widen (k := 49) (n := 10197) (Nat.le_of_ble_eq_true rfl) (Nat.le_of_ble_eq_true rfl) ?_
  obtain ⟨D18, e18, h⟩ := le1_ok h
  refine dr_putP (fun _ => ⟨rfl, rfl⟩) I cf11 fD_RX11_40 hR hx e18 dX11_init_68 (fun H locs hR => ?_)
  replace hn := (tq_P e18).1.trans hn
  replace hx := dr_o hx (tq_P e18).1 (tq_P e18).2
  refine lv_aload_n I.1.1 I.1.2.1 dX11_init_71 rfl (lv_at hl 0 rfl) ?_
  obtain ⟨D19, e19, h⟩ := le1_ok h
  refine dr_new I cf8 wN_RX11_44 rfl dfl_8 hR hn (by omega) (Nat.zero_lt_of_lt hx.1) e19 (Nat.le_of_ble_eq_true rfl) (Nat.le_of_ble_eq_true rfl) dX11_init_72 (fun H hR => ?_)
  replace hx := dr_oN hx e19
  replace hn := tq_N hn e19
  refine W.widen (k := 50) (n := 10205) (Nat.le_of_ble_eq_true rfl) (Nat.le_of_ble_eq_true rfl) ?_
  refine lv_dup I.1.1 I.1.2.1 dX11_init_75 rfl ?_
  refine lv_aload_n I.1.1 I.1.2.1 dX11_init_76 rfl (lv_at hl 0 rfl) ?_
  obtain ⟨z20, ez20, h⟩ := lQ_ok h
  refine dr_getP I cf11 fD_RX11_19 hR hx ez20 dX11_init_77 ?_
  obtain ⟨D21, e21, h⟩ := ob_ok h
  obtain ⟨hn21, h⟩ := kN_ok h
  obtain ⟨hx21, h⟩ := kO_ok h
  refine dr_callI (As := [.ref (B + z20)]) (rest := [.ref (B + (n + 49)), .ref (B + x)]) I (c_X8_init l B E ak av (n + 49) (n + 50) z20 D19 D21 e21) yi_X8_init.1 yi_X8_init.2 wK_RX11_46 rfl rfl rfl hl.1 (Nat.le_of_ble_eq_true rfl) (by decide) (by decide) hR hn (by omega) (Nat.zero_lt_of_lt hx.1) ⟨Nat.le_of_ble_eq_true rfl, Nat.le_of_ble_eq_true rfl⟩ dX11_init_80 (fun H locs hR => ?_)
  replace hn := hn21
  replace hx := hx21
  refine W.widen (k := 54) (n := 10262) (Nat.le_of_ble_eq_true rfl) (Nat.le_of_ble_eq_true rfl) ?_
  obtain ⟨D22, e22, h⟩ := le1_ok h
  refine dr_putP (fun _ => ⟨rfl, rfl⟩) I cf11 fD_RX11_49 hR hx e22 dX11_init_83 (fun H locs hR => ?_)
  replace hn := (tq_P e22).1.trans hn
  replace hx := dr_o hx (tq_P e22).1 (tq_P e22).2
  refine lv_aload_n I.1.1 I.1.2.1 dX11_init_86 rfl (lv_at hl 0 rfl) ?_
  obtain ⟨D23, e23, h⟩ := le1_ok h
  refine dr_new I cf0 wN_RX11_53 rfl dfl_0 hR hn (by omega) (Nat.zero_lt_of_lt hx.1) e23 (Nat.le_of_ble_eq_true rfl) (Nat.le_of_ble_eq_true rfl) dX11_init_87 (fun H hR => ?_)
  replace hx := dr_oN hx e23
  replace hn := tq_N hn e23
  refine W.widen (k := 55) (n := 10278) (Nat.le_of_ble_eq_true rfl) (Nat.le_of_ble_eq_true rfl) ?_
  refine lv_dup I.1.1 I.1.2.1 dX11_init_90 rfl ?_
  refine lv_aload_n I.1.1 I.1.2.1 dX11_init_91 rfl (lv_at hl 0 rfl) ?_
  obtain ⟨z24, ez24, h⟩ := lQ_ok h
  refine dr_getP I cf11 fD_RX11_49 hR hx ez24 dX11_init_92 ?_
  obtain ⟨D25, e25, h⟩ := ob_ok h
  obtain ⟨hn25, h⟩ := kN_ok h
  obtain ⟨hx25, h⟩ := kO_ok h
  refine dr_callI (As := [.ref (B + z24)]) (rest := [.ref (B + (n + 54)), .ref (B + x)]) I (c_X0_init l B E ak av (n + 54) (n + 55) z24 D23 D25 e25) yi_X0_init.1 yi_X0_init.2 wK_RX11_55 rfl rfl rfl hl.1 (Nat.le_of_ble_eq_true rfl) (by decide) (by decide) hR hn (by omega) (Nat.zero_lt_of_lt hx.1) ⟨Nat.le_of_ble_eq_true rfl, Nat.le_of_ble_eq_true rfl⟩ dX11_init_95 (fun H locs hR => ?_)
  replace hn := hn25
  replace hx := hx25
  refine W.widen (k := 88) (n := 11038) (Nat.le_of_ble_eq_true rfl) (Nat.le_of_ble_eq_true rfl) ?_
  obtain ⟨D26, e26, h⟩ := le1_ok h
  refine dr_putP (fun _ => ⟨rfl, rfl⟩) I cf11 fD_RX11_58 hR hx e26 dX11_init_98 (fun H locs hR => ?_)
  replace hn := (tq_P e26).1.trans hn
  replace hx := dr_o hx (tq_P e26).1 (tq_P e26).2
  refine lv_aload_n I.1.1 I.1.2.1 dX11_init_101 rfl (lv_at hl 0 rfl) ?_
  obtain ⟨D27, e27, h⟩ := le1_ok h
  refine dr_new I cf1 wN_RX11_62 rfl dfl_1 hR hn (by omega) (Nat.zero_lt_of_lt hx.1) e27 (Nat.le_of_ble_eq_true rfl) (Nat.le_of_ble_eq_true rfl) dX11_init_102 (fun H hR => ?_)
  replace hx := dr_oN hx e27
  replace hn := tq_N hn e27
  refine W.widen (k := 89) (n := 11047) (Nat.le_of_ble_eq_true rfl) (Nat.le_of_ble_eq_true rfl) ?_
  refine lv_dup I.1.1 I.1.2.1 dX11_init_105 rfl ?_
  refine lv_aload_n I.1.1 I.1.2.1 dX11_init_106 rfl (lv_at hl 0 rfl) ?_
  obtain ⟨z28, ez28, h⟩ := lQ_ok h
  refine dr_getP I cf11 fD_RX11_49 hR hx ez28 dX11_init_107 ?_
  obtain ⟨D29, e29, h⟩ := ob_ok h
  obtain ⟨hn29, h⟩ := kN_ok h
  obtain ⟨hx29, h⟩ := kO_ok h
  refine dr_callI (As := [.ref (B + z28)]) (rest := [.ref (B + (n + 88)), .ref (B + x)]) I (c_X1_init l B E ak av (n + 88) (n + 89) z28 D27 D29 e29) yi_X1_init.1 yi_X1_init.2 wK_RX11_64 rfl rfl rfl hl.1 (Nat.le_of_ble_eq_true rfl) (by decide) (by decide) hR hn (by omega) (Nat.zero_lt_of_lt hx.1) ⟨Nat.le_of_ble_eq_true rfl, Nat.le_of_ble_eq_true rfl⟩ dX11_init_110 (fun H locs hR => ?_)
  replace hn := hn29
  replace hx := hx29
  refine W.widen (k := 99) (n := 11533) (Nat.le_of_ble_eq_true rfl) (Nat.le_of_ble_eq_true rfl) ?_
  obtain ⟨D30, e30, h⟩ := le1_ok h
  refine dr_putP (fun _ => ⟨rfl, rfl⟩) I cf11 fD_RX11_65 hR hx e30 dX11_init_113 (fun H locs hR => ?_)
  replace hn := (tq_P e30).1.trans hn
  replace hx := dr_o hx (tq_P e30).1 (tq_P e30).2
  refine lv_aload_n I.1.1 I.1.2.1 dX11_init_116 rfl (lv_at hl 0 rfl) ?_
  obtain ⟨D31, e31, h⟩ := le1_ok h
  refine dr_new I cf5 wN_RX11_69 rfl dfl_5 hR hn (by omega) (Nat.zero_lt_of_lt hx.1) e31 (Nat.le_of_ble_eq_true rfl) (Nat.le_of_ble_eq_true rfl) dX11_init_117 (fun H hR => ?_)
  replace hx := dr_oN hx e31
  replace hn := tq_N hn e31
  refine W.widen (k := 100) (n := 11536) (Nat.le_of_ble_eq_true rfl) (Nat.le_of_ble_eq_true rfl) ?_
  refine lv_dup I.1.1 I.1.2.1 dX11_init_120 rfl ?_
  obtain ⟨D32, e32, h⟩ := ob_ok h
  obtain ⟨hn32, h⟩ := kN_ok h
  obtain ⟨hx32, h⟩ := kO_ok h
  refine dr_callN (As := []) (rest := [.ref (B + (n + 99)), .ref (B + x)]) I (c_X5_init l B E ak av (n + 99) (n + 100) D31 D32 e32) yi_X5_init.1 yi_X5_init.2 wK_RX11_71 rfl rfl rfl hl.1 (Nat.le_of_ble_eq_true rfl) (by decide) (by decide) hR hn (by omega) (Nat.zero_lt_of_lt hx.1) ⟨Nat.le_of_ble_eq_true rfl, Nat.le_of_ble_eq_true rfl⟩ dX11_init_121 (fun H locs hR => ?_)
  replace hn := hn32
  replace hx := hx32
  refine W.widen (k := 101) (n := 11584) (Nat.le_of_ble_eq_true rfl) (Nat.le_of_ble_eq_true rfl) ?_
  obtain ⟨D33, e33, h⟩ := le1_ok h
  refine dr_putP (fun _ => ⟨rfl, rfl⟩) I cf11 fD_RX11_72 hR hx e33 dX11_init_124 (fun H locs hR => ?_)
  replace hn := (tq_P e33).1.trans hn
  replace hx := dr_o hx (tq_P e33).1 (tq_P e33).2
  refine lv_aload_n I.1.1 I.1.2.1 dX11_init_127 rfl (lv_at hl 0 rfl) ?_
  obtain ⟨D34, e34, h⟩ := le1_ok h
  refine dr_new I cf9 wN_RX11_76 rfl dfl_9 hR hn (by omega) (Nat.zero_lt_of_lt hx.1) e34 (Nat.le_of_ble_eq_true rfl) (Nat.le_of_ble_eq_true rfl) dX11_init_128 (fun H hR => ?_)
  replace hx := dr_oN hx e34
  replace hn := tq_N hn e34
  refine W.widen (k := 102) (n := 11593) (Nat.le_of_ble_eq_true rfl) (Nat.le_of_ble_eq_true rfl) ?_
  refine lv_dup I.1.1 I.1.2.1 dX11_init_131 rfl ?_
  obtain ⟨D35, e35, h⟩ := ob_ok h
  obtain ⟨hn35, h⟩ := kN_ok h
  obtain ⟨hx35, h⟩ := kO_ok h
  refine dr_callN (As := []) (rest := [.ref (B + (n + 101)), .ref (B + x)]) I (c_X9_init l B E ak av (n + 101) (n + 102) D34 D35 e35) yi_X9_init.1 yi_X9_init.2 wK_RX11_78 rfl rfl rfl hl.1 (Nat.le_of_ble_eq_true rfl) (by decide) (by decide) hR hn (by omega) (Nat.zero_lt_of_lt hx.1) ⟨Nat.le_of_ble_eq_true rfl, Nat.le_of_ble_eq_true rfl⟩ dX11_init_132 (fun H locs hR => ?_)
  replace hn := hn35
  replace hx := hx35
  refine W.widen (k := 107) (n := 11706) (Nat.le_of_ble_eq_true rfl) (Nat.le_of_ble_eq_true rfl) ?_
  obtain ⟨D36, e36, h⟩ := le1_ok h
  refine dr_putP (fun _ => ⟨rfl, rfl⟩) I cf11 fD_RX11_79 hR hx e36 dX11_init_135 (fun H locs hR => ?_)
  replace hn := (tq_P e36).1.trans hn
  replace hx := dr_o hx (tq_P e36).1 (tq_P e36).2
  refine lv_aload_n I.1.1 I.1.2.1 dX11_init_138 rfl (lv_at hl 0 rfl) ?_
  obtain ⟨D37, e37, h⟩ := le1_ok h
  refine dr_new I cf9 wN_RX11_76 rfl dfl_9 hR hn (by omega) (Nat.zero_lt_of_lt hx.1) e37 (Nat.le_of_ble_eq_true rfl) (Nat.le_of_ble_eq_true rfl) dX11_init_139 (fun H hR => ?_)
  replace hx := dr_oN hx e37
  replace hn := tq_N hn e37
  refine W.widen (k := 108) (n := 11715) (Nat.le_of_ble_eq_true rfl) (Nat.le_of_ble_eq_true rfl) ?_
  refine lv_dup I.1.1 I.1.2.1 dX11_init_142 rfl ?_
  obtain ⟨D38, e38, h⟩ := ob_ok h
  obtain ⟨hn38, h⟩ := kN_ok h
  obtain ⟨hx38, h⟩ := kO_ok h
  refine dr_callN (As := []) (rest := [.ref (B + (n + 107)), .ref (B + x)]) I (c_X9_init l B E ak av (n + 107) (n + 108) D37 D38 e38) yi_X9_init.1 yi_X9_init.2 wK_RX11_78 rfl rfl rfl hl.1 (Nat.le_of_ble_eq_true rfl) (by decide) (by decide) hR hn (by omega) (Nat.zero_lt_of_lt hx.1) ⟨Nat.le_of_ble_eq_true rfl, Nat.le_of_ble_eq_true rfl⟩ dX11_init_143 (fun H locs hR => ?_)
  replace hn := hn38
  replace hx := hx38
  refine W.widen (k := 113) (n := 11828) (Nat.le_of_ble_eq_true rfl) (Nat.le_of_ble_eq_true rfl) ?_
  obtain ⟨D39, e39, h⟩ := le1_ok h
  refine dr_putP (fun _ => ⟨rfl, rfl⟩) I cf11 fD_RX11_83 hR hx e39 dX11_init_146 (fun H locs hR => ?_)
  replace hn := (tq_P e39).1.trans hn
  replace hx := dr_o hx (tq_P e39).1 (tq_P e39).2
  refine lv_aload_n I.1.1 I.1.2.1 dX11_init_149 rfl (lv_at hl 0 rfl) ?_
  refine lv_bipush (v := (20 : Int32)) I.1.1 I.1.2.1 dX11_init_150 (by decide) ?_
  obtain ⟨D40, e40, h⟩ := le1_ok h
  refine dr_newq (N := 20) I wN_RX11_76.1 (by decide) rfl (by decide) hR hn (by omega) (Nat.zero_lt_of_lt hx.1) e40 (Nat.le_of_ble_eq_true rfl) (Nat.le_of_ble_eq_true rfl) dX11_init_152 (fun H hR => ?_)
  replace hx := dr_oN hx e40
  replace hn := tq_N hn e40
  refine W.widen (k := 114) (n := 11848) (Nat.le_of_ble_eq_true rfl) (Nat.le_of_ble_eq_true rfl) ?_
  obtain ⟨D41, e41, h⟩ := le1_ok h
  refine dr_putP (fun _ => ⟨rfl, rfl⟩) I cf11 fD_RX11_86 hR hx e41 dX11_init_155 (fun H locs hR => ?_)
  replace hn := (tq_P e41).1.trans hn
  replace hx := dr_o hx (tq_P e41).1 (tq_P e41).2
  refine lv_aload_n I.1.1 I.1.2.1 dX11_init_158 rfl (lv_at hl 0 rfl) ?_
  refine lv_bipush (v := (6 : Int32)) I.1.1 I.1.2.1 dX11_init_159 (by decide) ?_
  obtain ⟨D42, e42, h⟩ := le1_ok h
  refine dr_newI (N := 6) I wA_int (by decide) rfl (by decide) hR hn (by omega) (Nat.zero_lt_of_lt hx.1) e42 (Nat.le_of_ble_eq_true rfl) (Nat.le_of_ble_eq_true rfl) dX11_init_161 (fun H hR => ?_)
  replace hx := dr_oN hx e42
  have hv42 := dr_new1 hn e42
  replace hn := tq_N hn e42
  refine W.widen (k := 115) (n := 11854) (Nat.le_of_ble_eq_true rfl) (Nat.le_of_ble_eq_true rfl) ?_
  obtain ⟨D43, e43, h⟩ := le1_ok h
  refine dr_putP (fun _ => ⟨rfl, rfl⟩) I cf11 fD_RX11_90 hR hx e43 dX11_init_163 (fun H locs hR => ?_)
  replace hn := (tq_P e43).1.trans hn
  replace hx := dr_o hx (tq_P e43).1 (tq_P e43).2
  refine lv_aload_n I.1.1 I.1.2.1 dX11_init_166 rfl (lv_at hl 0 rfl) ?_
  refine lv_iconst (v := (0 : Int32)) I.1.1 I.1.2.1 dX11_init_167 (by decide) ?_
  obtain ⟨D44, e44, h⟩ := le1_ok h
  refine dr_putZ (Or.inl rfl) I cf11 fD_RX11_94 hR hx e44 dX11_init_168 (fun H locs hR => ?_)
  replace hn := (tq_I e44).1.trans hn
  replace hx := dr_o hx (tq_I e44).1 (tq_I e44).2
  refine lv_aload_n I.1.1 I.1.2.1 dX11_init_171 rfl (lv_at hl 0 rfl) ?_
  refine lv_iconst (v := (0 : Int32)) I.1.1 I.1.2.1 dX11_init_172 (by decide) ?_
  obtain ⟨D45, e45, h⟩ := le1_ok h
  refine dr_putI I cf11 fD_RX11_98 hR hx e45 dX11_init_173 (fun H locs hR => ?_)
  replace hn := (tq_I e45).1.trans hn
  replace hx := dr_o hx (tq_I e45).1 (tq_I e45).2
  refine lv_aload_n I.1.1 I.1.2.1 dX11_init_176 rfl (lv_at hl 0 rfl) ?_
  refine lv_iconst (v := (0 : Int32)) I.1.1 I.1.2.1 dX11_init_177 (by decide) ?_
  obtain ⟨D46, e46, h⟩ := le1_ok h
  refine dr_putI I cf11 fD_RX11_102 hR hx e46 dX11_init_178 (fun H locs hR => ?_)
  replace hn := (tq_I e46).1.trans hn
  replace hx := dr_o hx (tq_I e46).1 (tq_I e46).2
  refine lv_aload_n I.1.1 I.1.2.1 dX11_init_181 rfl (lv_at hl 0 rfl) ?_
  refine lv_iconst (v := (1 : Int32)) I.1.1 I.1.2.1 dX11_init_182 (by decide) ?_
  obtain ⟨D47, e47, h⟩ := le1_ok h
  refine dr_putI I cf11 fD_RX11_105 hR hx e47 dX11_init_183 (fun H locs hR => ?_)
  replace hn := (tq_I e47).1.trans hn
  replace hx := dr_o hx (tq_I e47).1 (tq_I e47).2
  obtain ⟨ha, h⟩ := kO_ok h
  obtain ⟨hp, h⟩ := kP_ok h
  refine lv_iconst (v := (0 : Int32)) I.1.1 I.1.2.1 dX11_init_186 (by decide) ?_
  refine lv_istore_n (lv' := [(1, .int (0 : Int32)), (0, .ref (B + x))]) I.1.1 I.1.2.1 dX11_init_187 rfl hl (by decide) rfl (fun ls hl => ?_)
  exact w_X11_188 I r 20 0 D47 rfl hn hx ha hp h H locs ls hR hl
