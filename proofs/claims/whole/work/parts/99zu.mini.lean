/-! level 3: the reference's constructor, in pieces -/
theorem wo_RX12 : Cond.methodLink RX12 1 Lib.objectInit ∈ gw := gt_6 (i := 15) (by decide +kernel) rfl
theorem fD_RX12_7 : dy_f RX12 12 TX12 111 7 0 2 (.array .int) true := ⟨rfl, by decide, gt_6 (i := 16) (by decide +kernel) rfl, rfl, rfl, by decide +kernel, fun _ => rfl⟩
theorem fD_RX12_13 : dy_f RX12 12 TX12 111 13 8 0 .int false := ⟨rfl, by decide, gt_6 (i := 24) (by decide +kernel) rfl, rfl, rfl, by decide +kernel, fun _ => rfl⟩
theorem fD_RX12_17 : dy_f RX12 12 TX12 111 17 9 2 (.array .int) true := ⟨rfl, by decide, gt_6 (i := 25) (by decide +kernel) rfl, rfl, rfl, by decide +kernel, fun _ => rfl⟩
theorem fD_RX12_20 : dy_f RX12 12 TX12 111 20 10 2 (.array .char) true := ⟨rfl, by decide, gt_6 (i := 26) (by decide +kernel) rfl, rfl, rfl, by decide +kernel, fun _ => rfl⟩
theorem fD_RX12_24 : dy_f RX12 12 TX12 111 24 11 2 (.array .char) true := ⟨rfl, by decide, gt_6 (i := 27) (by decide +kernel) rfl, rfl, rfl, by decide +kernel, fun _ => rfl⟩
theorem fD_RX12_27 : dy_f RX12 12 TX12 111 27 12 2 (.array .char) true := ⟨rfl, by decide, gt_6 (i := 28) (by decide +kernel) rfl, rfl, rfl, by decide +kernel, fun _ => rfl⟩
theorem fD_RX12_30 : dy_f RX12 12 TX12 111 30 13 2 (.array .char) true := ⟨rfl, by decide, gt_6 (i := 29) (by decide +kernel) rfl, rfl, rfl, by decide +kernel, fun _ => rfl⟩
theorem fD_RX12_33 : dy_f RX12 12 TX12 111 33 14 2 (.array .char) true := ⟨rfl, by decide, gt_6 (i := 30) (by decide +kernel) rfl, rfl, rfl, by decide +kernel, fun _ => rfl⟩
theorem fD_RX12_36 : dy_f RX12 12 TX12 111 36 15 2 (.array .char) true := ⟨rfl, by decide, gt_6 (i := 31) (by decide +kernel) rfl, rfl, rfl, by decide +kernel, fun _ => rfl⟩
theorem fD_RX12_39 : dy_f RX12 12 TX12 111 39 16 2 (.array .char) true := ⟨rfl, by decide, gt_6 (i := 32) (by decide +kernel) rfl, rfl, rfl, by decide +kernel, fun _ => rfl⟩
theorem fD_RX12_42 : dy_f RX12 12 TX12 111 42 17 2 (.array .char) true := ⟨rfl, by decide, gt_6 (i := 33) (by decide +kernel) rfl, rfl, rfl, by decide +kernel, fun _ => rfl⟩
theorem fD_RX12_45 : dy_f RX12 12 TX12 111 45 18 2 (.array .char) true := ⟨rfl, by decide, gt_6 (i := 34) (by decide +kernel) rfl, rfl, rfl, by decide +kernel, fun _ => rfl⟩
theorem fD_RX12_48 : dy_f RX12 12 TX12 111 48 19 2 (.array .char) true := ⟨rfl, by decide, gt_6 (i := 35) (by decide +kernel) rfl, rfl, rfl, by decide +kernel, fun _ => rfl⟩
theorem fD_RX12_51 : dy_f RX12 12 TX12 111 51 20 2 (.array .char) true := ⟨rfl, by decide, gt_6 (i := 36) (by decide +kernel) rfl, rfl, rfl, by decide +kernel, fun _ => rfl⟩
theorem fD_RX12_54 : dy_f RX12 12 TX12 111 54 21 2 (.array .char) true := ⟨rfl, by decide, gt_6 (i := 37) (by decide +kernel) rfl, rfl, rfl, by decide +kernel, fun _ => rfl⟩
theorem fD_RX12_57 : dy_f RX12 12 TX12 111 57 22 2 (.array .char) true := ⟨rfl, by decide, gt_6 (i := 38) (by decide +kernel) rfl, rfl, rfl, by decide +kernel, fun _ => rfl⟩
theorem fD_RX12_60 : dy_f RX12 12 TX12 111 60 23 2 (.array .char) true := ⟨rfl, by decide, gt_6 (i := 39) (by decide +kernel) rfl, rfl, rfl, by decide +kernel, fun _ => rfl⟩
theorem fD_RX12_63 : dy_f RX12 12 TX12 111 63 24 2 (.array .char) true := ⟨rfl, by decide, gt_6 (i := 40) (by decide +kernel) rfl, rfl, rfl, by decide +kernel, fun _ => rfl⟩
theorem fD_RX12_66 : dy_f RX12 12 TX12 111 66 25 2 (.array .char) true := ⟨rfl, by decide, gt_6 (i := 41) (by decide +kernel) rfl, rfl, rfl, by decide +kernel, fun _ => rfl⟩
theorem fD_RX12_69 : dy_f RX12 12 TX12 111 69 26 2 (.array .char) true := ⟨rfl, by decide, gt_6 (i := 42) (by decide +kernel) rfl, rfl, rfl, by decide +kernel, fun _ => rfl⟩
theorem fD_RX12_72 : dy_f RX12 12 TX12 111 72 27 2 (.array .char) true := ⟨rfl, by decide, gt_6 (i := 43) (by decide +kernel) rfl, rfl, rfl, by decide +kernel, fun _ => rfl⟩
theorem fD_RX12_75 : dy_f RX12 12 TX12 111 75 28 2 (.array .char) true := ⟨rfl, by decide, gt_6 (i := 44) (by decide +kernel) rfl, rfl, rfl, by decide +kernel, fun _ => rfl⟩
theorem fD_RX12_78 : dy_f RX12 12 TX12 111 78 29 2 (.array .char) true := ⟨rfl, by decide, gt_6 (i := 45) (by decide +kernel) rfl, rfl, rfl, by decide +kernel, fun _ => rfl⟩
theorem fD_RX12_81 : dy_f RX12 12 TX12 111 81 30 2 (.array .char) true := ⟨rfl, by decide, gt_6 (i := 46) (by decide +kernel) rfl, rfl, rfl, by decide +kernel, fun _ => rfl⟩
theorem fD_RX12_84 : dy_f RX12 12 TX12 111 84 31 2 (.array .char) true := ⟨rfl, by decide, gt_6 (i := 47) (by decide +kernel) rfl, rfl, rfl, by decide +kernel, fun _ => rfl⟩
theorem fD_RX12_87 : dy_f RX12 12 TX12 111 87 32 2 (.array .char) true := ⟨rfl, by decide, gt_6 (i := 48) (by decide +kernel) rfl, rfl, rfl, by decide +kernel, fun _ => rfl⟩
theorem fD_RX12_90 : dy_f RX12 12 TX12 111 90 33 2 (.array .char) true := ⟨rfl, by decide, gt_6 (i := 49) (by decide +kernel) rfl, rfl, rfl, by decide +kernel, fun _ => rfl⟩
theorem fD_RX12_93 : dy_f RX12 12 TX12 111 93 34 2 (.array .char) true := ⟨rfl, by decide, gt_6 (i := 50) (by decide +kernel) rfl, rfl, rfl, by decide +kernel, fun _ => rfl⟩
theorem fD_RX12_96 : dy_f RX12 12 TX12 111 96 35 2 (.array .char) true := ⟨rfl, by decide, gt_6 (i := 51) (by decide +kernel) rfl, rfl, rfl, by decide +kernel, fun _ => rfl⟩
theorem fD_RX12_99 : dy_f RX12 12 TX12 111 99 36 2 (.array .char) true := ⟨rfl, by decide, gt_6 (i := 52) (by decide +kernel) rfl, rfl, rfl, by decide +kernel, fun _ => rfl⟩
theorem fD_RX12_102 : dy_f RX12 12 TX12 111 102 37 2 (.array .char) true := ⟨rfl, by decide, gt_6 (i := 53) (by decide +kernel) rfl, rfl, rfl, by decide +kernel, fun _ => rfl⟩
theorem fD_RX12_105 : dy_f RX12 12 TX12 111 105 38 2 (.array .char) true := ⟨rfl, by decide, gt_6 (i := 54) (by decide +kernel) rfl, rfl, rfl, by decide +kernel, fun _ => rfl⟩
theorem fD_RX12_108 : dy_f RX12 12 TX12 111 108 40 2 (.array .int) true := ⟨rfl, by decide, gt_6 (i := 56) (by decide +kernel) rfl, rfl, rfl, by decide +kernel, fun _ => rfl⟩
theorem fD_RX12_111 : dy_f RX12 12 TX12 111 111 41 2 (.array .long) true := ⟨rfl, by decide, gt_6 (i := 57) (by decide +kernel) rfl, rfl, rfl, by decide +kernel, fun _ => rfl⟩
theorem fD_RX12_115 : dy_f RX12 12 TX12 111 115 42 2 (.array .int) true := ⟨rfl, by decide, gt_6 (i := 58) (by decide +kernel) rfl, rfl, rfl, by decide +kernel, fun _ => rfl⟩
theorem fD_RX12_118 : dy_f RX12 12 TX12 111 118 43 2 (.array .int) true := ⟨rfl, by decide, gt_6 (i := 59) (by decide +kernel) rfl, rfl, rfl, by decide +kernel, fun _ => rfl⟩
theorem fD_RX12_121 : dy_f RX12 12 TX12 111 121 44 2 (.array .int) true := ⟨rfl, by decide, gt_6 (i := 60) (by decide +kernel) rfl, rfl, rfl, by decide +kernel, fun _ => rfl⟩
theorem fD_RX12_124 : dy_f RX12 12 TX12 111 124 45 2 (.array .int) true := ⟨rfl, by decide, gt_6 (i := 61) (by decide +kernel) rfl, rfl, rfl, by decide +kernel, fun _ => rfl⟩
theorem fD_RX12_127 : dy_f RX12 12 TX12 111 127 46 2 (.array .int) true := ⟨rfl, by decide, gt_6 (i := 62) (by decide +kernel) rfl, rfl, rfl, by decide +kernel, fun _ => rfl⟩
theorem fD_RX12_130 : dy_f RX12 12 TX12 111 130 47 2 (.array .int) true := ⟨rfl, by decide, gt_6 (i := 63) (by decide +kernel) rfl, rfl, rfl, by decide +kernel, fun _ => rfl⟩
theorem fD_RX12_133 : dy_f RX12 12 TX12 111 133 48 2 (.array .int) true := ⟨rfl, by decide, gt_6 (i := 64) (by decide +kernel) rfl, rfl, rfl, by decide +kernel, fun _ => rfl⟩
theorem fD_RX12_136 : dy_f RX12 12 TX12 111 136 49 2 (.array .int) true := ⟨rfl, by decide, gt_6 (i := 65) (by decide +kernel) rfl, rfl, rfl, by decide +kernel, fun _ => rfl⟩
theorem fD_RX12_139 : dy_f RX12 12 TX12 111 139 54 2 (.array .int) true := ⟨rfl, by decide, gt_6 (i := 70) (by decide +kernel) rfl, rfl, rfl, by decide +kernel, fun _ => rfl⟩
theorem fD_RX12_142 : dy_f RX12 12 TX12 111 142 55 2 (.array .int) true := ⟨rfl, by decide, gt_6 (i := 71) (by decide +kernel) rfl, rfl, rfl, by decide +kernel, fun _ => rfl⟩
theorem fD_RX12_145 : dy_f RX12 12 TX12 111 145 58 2 (.array .int) true := ⟨rfl, by decide, gt_6 (i := 74) (by decide +kernel) rfl, rfl, rfl, by decide +kernel, fun _ => rfl⟩
theorem fD_RX12_148 : dy_f RX12 12 TX12 111 148 59 2 (.array .int) true := ⟨rfl, by decide, gt_6 (i := 75) (by decide +kernel) rfl, rfl, rfl, by decide +kernel, fun _ => rfl⟩
theorem fD_RX12_151 : dy_f RX12 12 TX12 111 151 60 2 (.array .int) true := ⟨rfl, by decide, gt_6 (i := 76) (by decide +kernel) rfl, rfl, rfl, by decide +kernel, fun _ => rfl⟩
theorem fD_RX12_154 : dy_f RX12 12 TX12 111 154 61 2 (.array .int) true := ⟨rfl, by decide, gt_6 (i := 77) (by decide +kernel) rfl, rfl, rfl, by decide +kernel, fun _ => rfl⟩
theorem fD_RX12_157 : dy_f RX12 12 TX12 111 157 65 2 (.array .int) true := ⟨rfl, by decide, gt_6 (i := 81) (by decide +kernel) rfl, rfl, rfl, by decide +kernel, fun _ => rfl⟩
theorem fD_RX12_160 : dy_f RX12 12 TX12 111 160 67 2 (.array .int) true := ⟨rfl, by decide, gt_6 (i := 83) (by decide +kernel) rfl, rfl, rfl, by decide +kernel, fun _ => rfl⟩
theorem fD_RX12_163 : dy_f RX12 12 TX12 111 163 68 2 (.array .int) true := ⟨rfl, by decide, gt_6 (i := 84) (by decide +kernel) rfl, rfl, rfl, by decide +kernel, fun _ => rfl⟩
theorem fD_RX12_166 : dy_f RX12 12 TX12 111 166 69 2 (.array .boolean) true := ⟨rfl, by decide, gt_6 (i := 85) (by decide +kernel) rfl, rfl, rfl, by decide +kernel, fun _ => rfl⟩
theorem fD_RX12_170 : dy_f RX12 12 TX12 111 170 71 2 (.array .int) true := ⟨rfl, by decide, gt_6 (i := 87) (by decide +kernel) rfl, rfl, rfl, by decide +kernel, fun _ => rfl⟩
theorem fD_RX12_173 : dy_f RX12 12 TX12 111 173 74 1 .long false := ⟨rfl, by decide, gt_6 (i := 90) (by decide +kernel) rfl, rfl, rfl, by decide +kernel, fun _ => rfl⟩
theorem fD_RX12_177 : dy_f RX12 12 TX12 111 177 75 2 (.array .char) true := ⟨rfl, by decide, gt_6 (i := 91) (by decide +kernel) rfl, rfl, rfl, by decide +kernel, fun _ => rfl⟩
theorem fD_RX12_180 : dy_f RX12 12 TX12 111 180 76 2 (.array .char) true := ⟨rfl, by decide, gt_6 (i := 92) (by decide +kernel) rfl, rfl, rfl, by decide +kernel, fun _ => rfl⟩
theorem fD_RX12_183 : dy_f RX12 12 TX12 111 183 77 2 (.array .char) true := ⟨rfl, by decide, gt_6 (i := 93) (by decide +kernel) rfl, rfl, rfl, by decide +kernel, fun _ => rfl⟩
theorem fD_RX12_186 : dy_f RX12 12 TX12 111 186 78 2 (.array .char) true := ⟨rfl, by decide, gt_6 (i := 94) (by decide +kernel) rfl, rfl, rfl, by decide +kernel, fun _ => rfl⟩
theorem fD_RX12_189 : dy_f RX12 12 TX12 111 189 79 2 (.array .char) true := ⟨rfl, by decide, gt_6 (i := 95) (by decide +kernel) rfl, rfl, rfl, by decide +kernel, fun _ => rfl⟩
theorem fD_RX12_192 : dy_f RX12 12 TX12 111 192 80 2 (.array .char) true := ⟨rfl, by decide, gt_6 (i := 96) (by decide +kernel) rfl, rfl, rfl, by decide +kernel, fun _ => rfl⟩
theorem fD_RX12_195 : dy_f RX12 12 TX12 111 195 81 2 (.array .char) true := ⟨rfl, by decide, gt_6 (i := 97) (by decide +kernel) rfl, rfl, rfl, by decide +kernel, fun _ => rfl⟩
theorem fD_RX12_198 : dy_f RX12 12 TX12 111 198 82 2 (.array .char) true := ⟨rfl, by decide, gt_6 (i := 98) (by decide +kernel) rfl, rfl, rfl, by decide +kernel, fun _ => rfl⟩
theorem fD_RX12_201 : dy_f RX12 12 TX12 111 201 83 2 (.array .char) true := ⟨rfl, by decide, gt_6 (i := 99) (by decide +kernel) rfl, rfl, rfl, by decide +kernel, fun _ => rfl⟩
theorem fD_RX12_204 : dy_f RX12 12 TX12 111 204 84 2 (.array .char) true := ⟨rfl, by decide, gt_6 (i := 100) (by decide +kernel) rfl, rfl, rfl, by decide +kernel, fun _ => rfl⟩
theorem fD_RX12_207 : dy_f RX12 12 TX12 111 207 85 2 (.array .char) true := ⟨rfl, by decide, gt_6 (i := 101) (by decide +kernel) rfl, rfl, rfl, by decide +kernel, fun _ => rfl⟩
theorem fD_RX12_210 : dy_f RX12 12 TX12 111 210 86 2 (.array .char) true := ⟨rfl, by decide, gt_6 (i := 102) (by decide +kernel) rfl, rfl, rfl, by decide +kernel, fun _ => rfl⟩
theorem fD_RX12_213 : dy_f RX12 12 TX12 111 213 87 2 (.array .char) true := ⟨rfl, by decide, gt_6 (i := 103) (by decide +kernel) rfl, rfl, rfl, by decide +kernel, fun _ => rfl⟩
theorem fD_RX12_216 : dy_f RX12 12 TX12 111 216 88 2 (.array .char) true := ⟨rfl, by decide, gt_6 (i := 104) (by decide +kernel) rfl, rfl, rfl, by decide +kernel, fun _ => rfl⟩
theorem fD_RX12_219 : dy_f RX12 12 TX12 111 219 89 2 (.array .char) true := ⟨rfl, by decide, gt_6 (i := 105) (by decide +kernel) rfl, rfl, rfl, by decide +kernel, fun _ => rfl⟩
theorem fD_RX12_222 : dy_f RX12 12 TX12 111 222 90 2 (.array .char) true := ⟨rfl, by decide, gt_6 (i := 106) (by decide +kernel) rfl, rfl, rfl, by decide +kernel, fun _ => rfl⟩
theorem fD_RX12_225 : dy_f RX12 12 TX12 111 225 91 2 (.array .char) true := ⟨rfl, by decide, gt_6 (i := 107) (by decide +kernel) rfl, rfl, rfl, by decide +kernel, fun _ => rfl⟩
theorem fD_RX12_228 : dy_f RX12 12 TX12 111 228 92 2 (.array .char) true := ⟨rfl, by decide, gt_6 (i := 108) (by decide +kernel) rfl, rfl, rfl, by decide +kernel, fun _ => rfl⟩
theorem fD_RX12_231 : dy_f RX12 12 TX12 111 231 93 2 (.array .char) true := ⟨rfl, by decide, gt_6 (i := 109) (by decide +kernel) rfl, rfl, rfl, by decide +kernel, fun _ => rfl⟩
theorem fD_RX12_234 : dy_f RX12 12 TX12 111 234 94 2 (.array .char) true := ⟨rfl, by decide, gt_6 (i := 110) (by decide +kernel) rfl, rfl, rfl, by decide +kernel, fun _ => rfl⟩
theorem fD_RX12_237 : dy_f RX12 12 TX12 111 237 95 2 (.array .char) true := ⟨rfl, by decide, gt_6 (i := 111) (by decide +kernel) rfl, rfl, rfl, by decide +kernel, fun _ => rfl⟩
theorem fD_RX12_240 : dy_f RX12 12 TX12 111 240 96 2 (.array .char) true := ⟨rfl, by decide, gt_6 (i := 112) (by decide +kernel) rfl, rfl, rfl, by decide +kernel, fun _ => rfl⟩
theorem fD_RX12_243 : dy_f RX12 12 TX12 111 243 97 2 (.array .char) true := ⟨rfl, by decide, gt_6 (i := 113) (by decide +kernel) rfl, rfl, rfl, by decide +kernel, fun _ => rfl⟩
theorem fD_RX12_246 : dy_f RX12 12 TX12 111 246 98 2 (.array .char) true := ⟨rfl, by decide, gt_6 (i := 114) (by decide +kernel) rfl, rfl, rfl, by decide +kernel, fun _ => rfl⟩
theorem fD_RX12_249 : dy_f RX12 12 TX12 111 249 99 2 (.array .int) true := ⟨rfl, by decide, gt_6 (i := 115) (by decide +kernel) rfl, rfl, rfl, by decide +kernel, fun _ => rfl⟩
theorem fD_RX12_252 : dy_f RX12 12 TX12 111 252 101 2 (.array .int) true := ⟨rfl, by decide, gt_6 (i := 117) (by decide +kernel) rfl, rfl, rfl, by decide +kernel, fun _ => rfl⟩
theorem fD_RX12_255 : dy_f RX12 12 TX12 111 255 105 2 (.array .long) true := ⟨rfl, by decide, gt_6 (i := 121) (by decide +kernel) rfl, rfl, rfl, by decide +kernel, fun _ => rfl⟩
theorem fD_RX12_258 : dy_f RX12 12 TX12 111 258 109 2 (.array .int) true := ⟨rfl, by decide, gt_6 (i := 125) (by decide +kernel) rfl, rfl, rfl, by decide +kernel, fun _ => rfl⟩
set_option maxRecDepth 100000 in
def fg_8 (x n : Nat) (D : Dp) : Option Dp :=
  le1 (dyN D 3 4) (fun D1 => le1 (dyI D1 (n + 74) 0 (vp_nar .char (108 : Int32))) (fun D2 => le1 (dyI D2 (n + 74) 1 (vp_nar .char (101 : Int32))) (fun D3 => le1 (dyI D3 (n + 74) 2 (vp_nar .char (102 : Int32))) (fun D4 => le1 (dyI D4 (n + 74) 3 (vp_nar .char (116 : Int32))) (fun D5 => le1 (dyP D5 x 97 (n + 74)) (fun D6 => le1 (dyN D6 3 4) (fun D7 => le1 (dyI D7 (n + 75) 0 (vp_nar .char (115 : Int32))) (fun D8 => le1 (dyI D8 (n + 75) 1 (vp_nar .char (101 : Int32))) (fun D9 => le1 (dyI D9 (n + 75) 2 (vp_nar .char (101 : Int32))) (fun D10 => le1 (dyI D10 (n + 75) 3 (vp_nar .char (110 : Int32))) (fun D11 => le1 (dyP D11 x 98 (n + 75)) (fun D12 => le1 (dyN D12 4 1700) (fun D13 => le1 (dyP D13 x 99 (n + 76)) (fun D14 => le1 (dyN D14 4 1700) (fun D15 => le1 (dyP D15 x 101 (n + 77)) (fun D16 => le1 (dyN D16 5 1700) (fun D17 => le1 (dyP D17 x 105 (n + 78)) (fun D18 => le1 (dyN D18 4 48) (fun D19 => le1 (dyP D19 x 109 (n + 79)) (fun D20 => some D20))))))))))))))))))))
set_option maxHeartbeats 4000000 in
set_option maxRecDepth 100000 in
theorem wg_8 {p : Program} {l : Launch} {e : Env} {s : State} {m : MethodId} {args : Array Value} {below : List Frame} {meth : Method} {c : Code} {B x n : Nat} {E : Ev} {ak av : Nat → Nat} (I : dy_I p s m args meth c RX12 cX12_init 1 B n ak av) (D r : Dp) (h : fg_8 x n D = some r) (hn : D.1 = (n + 74)) (hx : x < D.1 ∧ D.2.1 x = (1, 12)) (H : Heap) (locs : List Loc) (ls : Array Slot) (hR : dy_R B E s s.heap H locs D) (hl : lv_has ls 1 [(0, .ref (B + x))]) : W p l e (dy_rm 1 80 13380) s m args below meth c H locs 74 8224 (dy_Z B E below args s 80 13380 r) (F0 m 1691 ls []) := by
  unfold fg_8 at h
  refine lv_aload_n I.1.1 I.1.2.1 dX12_init_1691 rfl (lv_at hl 0 rfl) ?_
  refine lv_iconst (v := (4 : Int32)) I.1.1 I.1.2.1 dX12_init_1692 (by decide) ?_
  obtain ⟨D1, e1, h⟩ := le1_ok h
  refine dr_newC (N := 4) I wA_char (by decide) rfl (by decide) hR hn (by omega) (Nat.zero_lt_of_lt hx.1) e1 (Nat.le_of_ble_eq_true rfl) (Nat.le_of_ble_eq_true rfl) dX12_init_1693 (fun H hR => ?_)
  replace hx := dr_oN hx e1
  have hv1 := dr_new1 hn e1
  replace hn := tq_N hn e1
  refine W.widen (k := 75) (n := 8228) (Nat.le_of_ble_eq_true rfl) (Nat.le_of_ble_eq_true rfl) ?_
  refine lv_dup I.1.1 I.1.2.1 dX12_init_1695 rfl ?_
  refine lv_iconst (v := (0 : Int32)) I.1.1 I.1.2.1 dX12_init_1696 (by decide) ?_
  refine lv_bipush (v := (108 : Int32)) I.1.1 I.1.2.1 dX12_init_1697 (by decide) ?_
  obtain ⟨D2, e2, h⟩ := le1_ok h
  refine dr_cst I hR hv1 (by unfold vp_in; decide) e2 dX12_init_1699 (fun H locs hR => ?_)
  replace hn := (tq_I e2).1.trans hn
  replace hx := dr_o hx (tq_I e2).1 (tq_I e2).2
  replace hv1 := dr_o hv1 (tq_I e2).1 (tq_I e2).2
  refine lv_dup I.1.1 I.1.2.1 dX12_init_1700 rfl ?_
  refine lv_iconst (v := (1 : Int32)) I.1.1 I.1.2.1 dX12_init_1701 (by decide) ?_
  refine lv_bipush (v := (101 : Int32)) I.1.1 I.1.2.1 dX12_init_1702 (by decide) ?_
  obtain ⟨D3, e3, h⟩ := le1_ok h
  refine dr_cst I hR hv1 (by unfold vp_in; decide) e3 dX12_init_1704 (fun H locs hR => ?_)
  replace hn := (tq_I e3).1.trans hn
  replace hx := dr_o hx (tq_I e3).1 (tq_I e3).2
  replace hv1 := dr_o hv1 (tq_I e3).1 (tq_I e3).2
  refine lv_dup I.1.1 I.1.2.1 dX12_init_1705 rfl ?_
  refine lv_iconst (v := (2 : Int32)) I.1.1 I.1.2.1 dX12_init_1706 (by decide) ?_
  refine lv_bipush (v := (102 : Int32)) I.1.1 I.1.2.1 dX12_init_1707 (by decide) ?_
  obtain ⟨D4, e4, h⟩ := le1_ok h
  refine dr_cst I hR hv1 (by unfold vp_in; decide) e4 dX12_init_1709 (fun H locs hR => ?_)
  replace hn := (tq_I e4).1.trans hn
  replace hx := dr_o hx (tq_I e4).1 (tq_I e4).2
  replace hv1 := dr_o hv1 (tq_I e4).1 (tq_I e4).2
  refine lv_dup I.1.1 I.1.2.1 dX12_init_1710 rfl ?_
  refine lv_iconst (v := (3 : Int32)) I.1.1 I.1.2.1 dX12_init_1711 (by decide) ?_
  refine lv_bipush (v := (116 : Int32)) I.1.1 I.1.2.1 dX12_init_1712 (by decide) ?_
  obtain ⟨D5, e5, h⟩ := le1_ok h
  refine dr_cst I hR hv1 (by unfold vp_in; decide) e5 dX12_init_1714 (fun H locs hR => ?_)
  replace hn := (tq_I e5).1.trans hn
  replace hx := dr_o hx (tq_I e5).1 (tq_I e5).2
  replace hv1 := dr_o hv1 (tq_I e5).1 (tq_I e5).2
  obtain ⟨D6, e6, h⟩ := le1_ok h
  refine dr_putP (fun _ => ⟨rfl, rfl⟩) I cf12 fD_RX12_243 hR hx e6 dX12_init_1715 (fun H locs hR => ?_)
  replace hn := (tq_P e6).1.trans hn
  replace hx := dr_o hx (tq_P e6).1 (tq_P e6).2
  refine lv_aload_n I.1.1 I.1.2.1 dX12_init_1718 rfl (lv_at hl 0 rfl) ?_
  refine lv_iconst (v := (4 : Int32)) I.1.1 I.1.2.1 dX12_init_1719 (by decide) ?_
  obtain ⟨D7, e7, h⟩ := le1_ok h
  refine dr_newC (N := 4) I wA_char (by decide) rfl (by decide) hR hn (by omega) (Nat.zero_lt_of_lt hx.1) e7 (Nat.le_of_ble_eq_true rfl) (Nat.le_of_ble_eq_true rfl) dX12_init_1720 (fun H hR => ?_)
  replace hx := dr_oN hx e7
  have hv7 := dr_new1 hn e7
  replace hn := tq_N hn e7
  refine W.widen (k := 76) (n := 8232) (Nat.le_of_ble_eq_true rfl) (Nat.le_of_ble_eq_true rfl) ?_
  refine lv_dup I.1.1 I.1.2.1 dX12_init_1722 rfl ?_
  refine lv_iconst (v := (0 : Int32)) I.1.1 I.1.2.1 dX12_init_1723 (by decide) ?_
  refine lv_bipush (v := (115 : Int32)) I.1.1 I.1.2.1 dX12_init_1724 (by decide) ?_
  obtain ⟨D8, e8, h⟩ := le1_ok h
  refine dr_cst I hR hv7 (by unfold vp_in; decide) e8 dX12_init_1726 (fun H locs hR => ?_)
  replace hn := (tq_I e8).1.trans hn
  replace hx := dr_o hx (tq_I e8).1 (tq_I e8).2
  replace hv7 := dr_o hv7 (tq_I e8).1 (tq_I e8).2
  refine lv_dup I.1.1 I.1.2.1 dX12_init_1727 rfl ?_
  refine lv_iconst (v := (1 : Int32)) I.1.1 I.1.2.1 dX12_init_1728 (by decide) ?_
  refine lv_bipush (v := (101 : Int32)) I.1.1 I.1.2.1 dX12_init_1729 (by decide) ?_
  obtain ⟨D9, e9, h⟩ := le1_ok h
  refine dr_cst I hR hv7 (by unfold vp_in; decide) e9 dX12_init_1731 (fun H locs hR => ?_)
  replace hn := (tq_I e9).1.trans hn
  replace hx := dr_o hx (tq_I e9).1 (tq_I e9).2
  replace hv7 := dr_o hv7 (tq_I e9).1 (tq_I e9).2
  refine lv_dup I.1.1 I.1.2.1 dX12_init_1732 rfl ?_
  refine lv_iconst (v := (2 : Int32)) I.1.1 I.1.2.1 dX12_init_1733 (by decide) ?_
  refine lv_bipush (v := (101 : Int32)) I.1.1 I.1.2.1 dX12_init_1734 (by decide) ?_
  obtain ⟨D10, e10, h⟩ := le1_ok h
  refine dr_cst I hR hv7 (by unfold vp_in; decide) e10 dX12_init_1736 (fun H locs hR => ?_)
  replace hn := (tq_I e10).1.trans hn
  replace hx := dr_o hx (tq_I e10).1 (tq_I e10).2
  replace hv7 := dr_o hv7 (tq_I e10).1 (tq_I e10).2
  refine lv_dup I.1.1 I.1.2.1 dX12_init_1737 rfl ?_
  refine lv_iconst (v := (3 : Int32)) I.1.1 I.1.2.1 dX12_init_1738 (by decide) ?_
  refine lv_bipush (v := (110 : Int32)) I.1.1 I.1.2.1 dX12_init_1739 (by decide) ?_
  obtain ⟨D11, e11, h⟩ := le1_ok h
  refine dr_cst I hR hv7 (by unfold vp_in; decide) e11 dX12_init_1741 (fun H locs hR => ?_)
  replace hn := (tq_I e11).1.trans hn
  replace hx := dr_o hx (tq_I e11).1 (tq_I e11).2
  replace hv7 := dr_o hv7 (tq_I e11).1 (tq_I e11).2
  obtain ⟨D12, e12, h⟩ := le1_ok h
  refine dr_putP (fun _ => ⟨rfl, rfl⟩) I cf12 fD_RX12_246 hR hx e12 dX12_init_1742 (fun H locs hR => ?_)
  replace hn := (tq_P e12).1.trans hn
  replace hx := dr_o hx (tq_P e12).1 (tq_P e12).2
  refine lv_aload_n I.1.1 I.1.2.1 dX12_init_1745 rfl (lv_at hl 0 rfl) ?_
  refine lv_sipush (v := (1700 : Int32)) I.1.1 I.1.2.1 dX12_init_1746 (by decide) ?_
  obtain ⟨D13, e13, h⟩ := le1_ok h
  refine dr_newI (N := 1700) I wA_int (by decide) rfl (by decide) hR hn (by omega) (Nat.zero_lt_of_lt hx.1) e13 (Nat.le_of_ble_eq_true rfl) (Nat.le_of_ble_eq_true rfl) dX12_init_1749 (fun H hR => ?_)
  replace hx := dr_oN hx e13
  have hv13 := dr_new1 hn e13
  replace hn := tq_N hn e13
  refine W.widen (k := 77) (n := 9932) (Nat.le_of_ble_eq_true rfl) (Nat.le_of_ble_eq_true rfl) ?_
  obtain ⟨D14, e14, h⟩ := le1_ok h
  refine dr_putP (fun _ => ⟨rfl, rfl⟩) I cf12 fD_RX12_249 hR hx e14 dX12_init_1751 (fun H locs hR => ?_)
  replace hn := (tq_P e14).1.trans hn
  replace hx := dr_o hx (tq_P e14).1 (tq_P e14).2
  refine lv_aload_n I.1.1 I.1.2.1 dX12_init_1754 rfl (lv_at hl 0 rfl) ?_
  refine lv_sipush (v := (1700 : Int32)) I.1.1 I.1.2.1 dX12_init_1755 (by decide) ?_
  obtain ⟨D15, e15, h⟩ := le1_ok h
  refine dr_newI (N := 1700) I wA_int (by decide) rfl (by decide) hR hn (by omega) (Nat.zero_lt_of_lt hx.1) e15 (Nat.le_of_ble_eq_true rfl) (Nat.le_of_ble_eq_true rfl) dX12_init_1758 (fun H hR => ?_)
  replace hx := dr_oN hx e15
  have hv15 := dr_new1 hn e15
  replace hn := tq_N hn e15
  refine W.widen (k := 78) (n := 11632) (Nat.le_of_ble_eq_true rfl) (Nat.le_of_ble_eq_true rfl) ?_
  obtain ⟨D16, e16, h⟩ := le1_ok h
  refine dr_putP (fun _ => ⟨rfl, rfl⟩) I cf12 fD_RX12_252 hR hx e16 dX12_init_1760 (fun H locs hR => ?_)
  replace hn := (tq_P e16).1.trans hn
  replace hx := dr_o hx (tq_P e16).1 (tq_P e16).2
  refine lv_aload_n I.1.1 I.1.2.1 dX12_init_1763 rfl (lv_at hl 0 rfl) ?_
  refine lv_sipush (v := (1700 : Int32)) I.1.1 I.1.2.1 dX12_init_1764 (by decide) ?_
  obtain ⟨D17, e17, h⟩ := le1_ok h
  refine dr_newL (N := 1700) I wA_long (by decide) rfl (by decide) hR hn (by omega) (Nat.zero_lt_of_lt hx.1) e17 (Nat.le_of_ble_eq_true rfl) (Nat.le_of_ble_eq_true rfl) dX12_init_1767 (fun H hR => ?_)
  replace hx := dr_oN hx e17
  replace hn := tq_N hn e17
  refine W.widen (k := 79) (n := 13332) (Nat.le_of_ble_eq_true rfl) (Nat.le_of_ble_eq_true rfl) ?_
  obtain ⟨D18, e18, h⟩ := le1_ok h
  refine dr_putP (fun _ => ⟨rfl, rfl⟩) I cf12 fD_RX12_255 hR hx e18 dX12_init_1769 (fun H locs hR => ?_)
  replace hn := (tq_P e18).1.trans hn
  replace hx := dr_o hx (tq_P e18).1 (tq_P e18).2
  refine lv_aload_n I.1.1 I.1.2.1 dX12_init_1772 rfl (lv_at hl 0 rfl) ?_
  refine lv_bipush (v := (48 : Int32)) I.1.1 I.1.2.1 dX12_init_1773 (by decide) ?_
  obtain ⟨D19, e19, h⟩ := le1_ok h
  refine dr_newI (N := 48) I wA_int (by decide) rfl (by decide) hR hn (by omega) (Nat.zero_lt_of_lt hx.1) e19 (Nat.le_of_ble_eq_true rfl) (Nat.le_of_ble_eq_true rfl) dX12_init_1775 (fun H hR => ?_)
  replace hx := dr_oN hx e19
  have hv19 := dr_new1 hn e19
  replace hn := tq_N hn e19
  refine W.widen (k := 80) (n := 13380) (Nat.le_of_ble_eq_true rfl) (Nat.le_of_ble_eq_true rfl) ?_
  obtain ⟨D20, e20, h⟩ := le1_ok h
  refine dr_putP (fun _ => ⟨rfl, rfl⟩) I cf12 fD_RX12_258 hR hx e20 dX12_init_1777 (fun H locs hR => ?_)
  replace hn := (tq_P e20).1.trans hn
  replace hx := dr_o hx (tq_P e20).1 (tq_P e20).2
  exact dr_ret (d := 0) I hR h (Nat.le_of_ble_eq_true rfl) (Nat.le_of_ble_eq_true rfl) dX12_init_1780
set_option maxRecDepth 100000 in
def fg_7 (x n : Nat) (D : Dp) : Option Dp :=
  le1 (dyN D 3 4) (fun D1 => le1 (dyI D1 (n + 67) 0 (vp_nar .char (115 : Int32))) (fun D2 => le1 (dyI D2 (n + 67) 1 (vp_nar .char (101 : Int32))) (fun D3 => le1 (dyI D3 (n + 67) 2 (vp_nar .char (97 : Int32))) (fun D4 => le1 (dyI D4 (n + 67) 3 (vp_nar .char (116 : Int32))) (fun D5 => le1 (dyP D5 x 90 (n + 67)) (fun D6 => le1 (dyN D6 3 5) (fun D7 => le1 (dyI D7 (n + 68) 0 (vp_nar .char (103 : Int32))) (fun D8 => le1 (dyI D8 (n + 68) 1 (vp_nar .char (108 : Int32))) (fun D9 => le1 (dyI D9 (n + 68) 2 (vp_nar .char (97 : Int32))) (fun D10 => le1 (dyI D10 (n + 68) 3 (vp_nar .char (115 : Int32))) (fun D11 => le1 (dyI D11 (n + 68) 4 (vp_nar .char (115 : Int32))) (fun D12 => le1 (dyP D12 x 91 (n + 68)) (fun D13 => le1 (dyN D13 3 5) (fun D14 => le1 (dyI D14 (n + 69) 0 (vp_nar .char (116 : Int32))) (fun D15 => le1 (dyI D15 (n + 69) 1 (vp_nar .char (97 : Int32))) (fun D16 => le1 (dyI D16 (n + 69) 2 (vp_nar .char (107 : Int32))) (fun D17 => le1 (dyI D17 (n + 69) 3 (vp_nar .char (101 : Int32))) (fun D18 => le1 (dyI D18 (n + 69) 4 (vp_nar .char (115 : Int32))) (fun D19 => le1 (dyP D19 x 92 (n + 69)) (fun D20 => le1 (dyN D20 3 6) (fun D21 => le1 (dyI D21 (n + 70) 0 (vp_nar .char (98 : Int32))) (fun D22 => le1 (dyI D22 (n + 70) 1 (vp_nar .char (101 : Int32))) (fun D23 => le1 (dyI D23 (n + 70) 2 (vp_nar .char (108 : Int32))) (fun D24 => le1 (dyI D24 (n + 70) 3 (vp_nar .char (105 : Int32))) (fun D25 => le1 (dyI D25 (n + 70) 4 (vp_nar .char (101 : Int32))) (fun D26 => le1 (dyI D26 (n + 70) 5 (vp_nar .char (102 : Int32))) (fun D27 => le1 (dyP D27 x 93 (n + 70)) (fun D28 => le1 (dyN D28 3 6) (fun D29 => le1 (dyI D29 (n + 71) 0 (vp_nar .char (110 : Int32))) (fun D30 => le1 (dyI D30 (n + 71) 1 (vp_nar .char (117 : Int32))) (fun D31 => le1 (dyI D31 (n + 71) 2 (vp_nar .char (109 : Int32))) (fun D32 => le1 (dyI D32 (n + 71) 3 (vp_nar .char (98 : Int32))) (fun D33 => le1 (dyI D33 (n + 71) 4 (vp_nar .char (101 : Int32))) (fun D34 => le1 (dyI D34 (n + 71) 5 (vp_nar .char (114 : Int32))) (fun D35 => le1 (dyP D35 x 94 (n + 71)) (fun D36 => le1 (dyN D36 3 5) (fun D37 => le1 (dyI D37 (n + 72) 0 (vp_nar .char (107 : Int32))) (fun D38 => le1 (dyI D38 (n + 72) 1 (vp_nar .char (110 : Int32))) (fun D39 => le1 (dyI D39 (n + 72) 2 (vp_nar .char (111 : Int32))) (fun D40 => le1 (dyI D40 (n + 72) 3 (vp_nar .char (119 : Int32))) (fun D41 => le1 (dyI D41 (n + 72) 4 (vp_nar .char (110 : Int32))) (fun D42 => le1 (dyP D42 x 95 (n + 72)) (fun D43 => le1 (dyN D43 3 5) (fun D44 => le1 (dyI D44 (n + 73) 0 (vp_nar .char (115 : Int32))) (fun D45 => le1 (dyI D45 (n + 73) 1 (vp_nar .char (105 : Int32))) (fun D46 => le1 (dyI D46 (n + 73) 2 (vp_nar .char (103 : Int32))) (fun D47 => le1 (dyI D47 (n + 73) 3 (vp_nar .char (104 : Int32))) (fun D48 => le1 (dyI D48 (n + 73) 4 (vp_nar .char (116 : Int32))) (fun D49 => le1 (dyP D49 x 96 (n + 73)) (fun D50 => fg_8 x n D50))))))))))))))))))))))))))))))))))))))))))))))))))
set_option maxHeartbeats 4000000 in
set_option maxRecDepth 100000 in
theorem wg_7 {p : Program} {l : Launch} {e : Env} {s : State} {m : MethodId} {args : Array Value} {below : List Frame} {meth : Method} {c : Code} {B x n : Nat} {E : Ev} {ak av : Nat → Nat} (I : dy_I p s m args meth c RX12 cX12_init 1 B n ak av) (D r : Dp) (h : fg_7 x n D = some r) (hn : D.1 = (n + 67)) (hx : x < D.1 ∧ D.2.1 x = (1, 12)) (H : Heap) (locs : List Loc) (ls : Array Slot) (hR : dy_R B E s s.heap H locs D) (hl : lv_has ls 1 [(0, .ref (B + x))]) : W p l e (dy_rm 1 80 13380) s m args below meth c H locs 67 8188 (dy_Z B E below args s 80 13380 r) (F0 m 1460 ls []) := by
  unfold fg_7 at h
  refine lv_aload_n I.1.1 I.1.2.1 dX12_init_1460 rfl (lv_at hl 0 rfl) ?_
  refine lv_iconst (v := (4 : Int32)) I.1.1 I.1.2.1 dX12_init_1461 (by decide) ?_
  obtain ⟨D1, e1, h⟩ := le1_ok h
  refine dr_newC (N := 4) I wA_char (by decide) rfl (by decide) hR hn (by omega) (Nat.zero_lt_of_lt hx.1) e1 (Nat.le_of_ble_eq_true rfl) (Nat.le_of_ble_eq_true rfl) dX12_init_1462 (fun H hR => ?_)
  replace hx := dr_oN hx e1
  have hv1 := dr_new1 hn e1
  replace hn := tq_N hn e1
  refine W.widen (k := 68) (n := 8192) (Nat.le_of_ble_eq_true rfl) (Nat.le_of_ble_eq_true rfl) ?_
  refine lv_dup I.1.1 I.1.2.1 dX12_init_1464 rfl ?_
  refine lv_iconst (v := (0 : Int32)) I.1.1 I.1.2.1 dX12_init_1465 (by decide) ?_
  refine lv_bipush (v := (115 : Int32)) I.1.1 I.1.2.1 dX12_init_1466 (by decide) ?_
  obtain ⟨D2, e2, h⟩ := le1_ok h
  refine dr_cst I hR hv1 (by unfold vp_in; decide) e2 dX12_init_1468 (fun H locs hR => ?_)
  replace hn := (tq_I e2).1.trans hn
  replace hx := dr_o hx (tq_I e2).1 (tq_I e2).2
  replace hv1 := dr_o hv1 (tq_I e2).1 (tq_I e2).2
  refine lv_dup I.1.1 I.1.2.1 dX12_init_1469 rfl ?_
  refine lv_iconst (v := (1 : Int32)) I.1.1 I.1.2.1 dX12_init_1470 (by decide) ?_
  refine lv_bipush (v := (101 : Int32)) I.1.1 I.1.2.1 dX12_init_1471 (by decide) ?_
  obtain ⟨D3, e3, h⟩ := le1_ok h
  refine dr_cst I hR hv1 (by unfold vp_in; decide) e3 dX12_init_1473 (fun H locs hR => ?_)
  replace hn := (tq_I e3).1.trans hn
  replace hx := dr_o hx (tq_I e3).1 (tq_I e3).2
  replace hv1 := dr_o hv1 (tq_I e3).1 (tq_I e3).2
  refine lv_dup I.1.1 I.1.2.1 dX12_init_1474 rfl ?_
  refine lv_iconst (v := (2 : Int32)) I.1.1 I.1.2.1 dX12_init_1475 (by decide) ?_
  refine lv_bipush (v := (97 : Int32)) I.1.1 I.1.2.1 dX12_init_1476 (by decide) ?_
  obtain ⟨D4, e4, h⟩ := le1_ok h
  refine dr_cst I hR hv1 (by unfold vp_in; decide) e4 dX12_init_1478 (fun H locs hR => ?_)
  replace hn := (tq_I e4).1.trans hn
  replace hx := dr_o hx (tq_I e4).1 (tq_I e4).2
  replace hv1 := dr_o hv1 (tq_I e4).1 (tq_I e4).2
  refine lv_dup I.1.1 I.1.2.1 dX12_init_1479 rfl ?_
  refine lv_iconst (v := (3 : Int32)) I.1.1 I.1.2.1 dX12_init_1480 (by decide) ?_
  refine lv_bipush (v := (116 : Int32)) I.1.1 I.1.2.1 dX12_init_1481 (by decide) ?_
  obtain ⟨D5, e5, h⟩ := le1_ok h
  refine dr_cst I hR hv1 (by unfold vp_in; decide) e5 dX12_init_1483 (fun H locs hR => ?_)
  replace hn := (tq_I e5).1.trans hn
  replace hx := dr_o hx (tq_I e5).1 (tq_I e5).2
  replace hv1 := dr_o hv1 (tq_I e5).1 (tq_I e5).2
  obtain ⟨D6, e6, h⟩ := le1_ok h
  refine dr_putP (fun _ => ⟨rfl, rfl⟩) I cf12 fD_RX12_222 hR hx e6 dX12_init_1484 (fun H locs hR => ?_)
  replace hn := (tq_P e6).1.trans hn
  replace hx := dr_o hx (tq_P e6).1 (tq_P e6).2
  refine lv_aload_n I.1.1 I.1.2.1 dX12_init_1487 rfl (lv_at hl 0 rfl) ?_
  refine lv_iconst (v := (5 : Int32)) I.1.1 I.1.2.1 dX12_init_1488 (by decide) ?_
  obtain ⟨D7, e7, h⟩ := le1_ok h
  refine dr_newC (N := 5) I wA_char (by decide) rfl (by decide) hR hn (by omega) (Nat.zero_lt_of_lt hx.1) e7 (Nat.le_of_ble_eq_true rfl) (Nat.le_of_ble_eq_true rfl) dX12_init_1489 (fun H hR => ?_)
  replace hx := dr_oN hx e7
  have hv7 := dr_new1 hn e7
  replace hn := tq_N hn e7
  refine W.widen (k := 69) (n := 8197) (Nat.le_of_ble_eq_true rfl) (Nat.le_of_ble_eq_true rfl) ?_
  refine lv_dup I.1.1 I.1.2.1 dX12_init_1491 rfl ?_
  refine lv_iconst (v := (0 : Int32)) I.1.1 I.1.2.1 dX12_init_1492 (by decide) ?_
  refine lv_bipush (v := (103 : Int32)) I.1.1 I.1.2.1 dX12_init_1493 (by decide) ?_
  obtain ⟨D8, e8, h⟩ := le1_ok h
  refine dr_cst I hR hv7 (by unfold vp_in; decide) e8 dX12_init_1495 (fun H locs hR => ?_)
  replace hn := (tq_I e8).1.trans hn
  replace hx := dr_o hx (tq_I e8).1 (tq_I e8).2
  replace hv7 := dr_o hv7 (tq_I e8).1 (tq_I e8).2
  refine lv_dup I.1.1 I.1.2.1 dX12_init_1496 rfl ?_
  refine lv_iconst (v := (1 : Int32)) I.1.1 I.1.2.1 dX12_init_1497 (by decide) ?_
  refine lv_bipush (v := (108 : Int32)) I.1.1 I.1.2.1 dX12_init_1498 (by decide) ?_
  obtain ⟨D9, e9, h⟩ := le1_ok h
  refine dr_cst I hR hv7 (by unfold vp_in; decide) e9 dX12_init_1500 (fun H locs hR => ?_)
  replace hn := (tq_I e9).1.trans hn
  replace hx := dr_o hx (tq_I e9).1 (tq_I e9).2
  replace hv7 := dr_o hv7 (tq_I e9).1 (tq_I e9).2
  refine lv_dup I.1.1 I.1.2.1 dX12_init_1501 rfl ?_
  refine lv_iconst (v := (2 : Int32)) I.1.1 I.1.2.1 dX12_init_1502 (by decide) ?_
  refine lv_bipush (v := (97 : Int32)) I.1.1 I.1.2.1 dX12_init_1503 (by decide) ?_
  obtain ⟨D10, e10, h⟩ := le1_ok h
  refine dr_cst I hR hv7 (by unfold vp_in; decide) e10 dX12_init_1505 (fun H locs hR => ?_)
  replace hn := (tq_I e10).1.trans hn
  replace hx := dr_o hx (tq_I e10).1 (tq_I e10).2
  replace hv7 := dr_o hv7 (tq_I e10).1 (tq_I e10).2
  refine lv_dup I.1.1 I.1.2.1 dX12_init_1506 rfl ?_
  refine lv_iconst (v := (3 : Int32)) I.1.1 I.1.2.1 dX12_init_1507 (by decide) ?_
  refine lv_bipush (v := (115 : Int32)) I.1.1 I.1.2.1 dX12_init_1508 (by decide) ?_
  obtain ⟨D11, e11, h⟩ := le1_ok h
  refine dr_cst I hR hv7 (by unfold vp_in; decide) e11 dX12_init_1510 (fun H locs hR => ?_)
  replace hn := (tq_I e11).1.trans hn
  replace hx := dr_o hx (tq_I e11).1 (tq_I e11).2
  replace hv7 := dr_o hv7 (tq_I e11).1 (tq_I e11).2
  refine lv_dup I.1.1 I.1.2.1 dX12_init_1511 rfl ?_
  refine lv_iconst (v := (4 : Int32)) I.1.1 I.1.2.1 dX12_init_1512 (by decide) ?_
  refine lv_bipush (v := (115 : Int32)) I.1.1 I.1.2.1 dX12_init_1513 (by decide) ?_
  obtain ⟨D12, e12, h⟩ := le1_ok h
  refine dr_cst I hR hv7 (by unfold vp_in; decide) e12 dX12_init_1515 (fun H locs hR => ?_)
  replace hn := (tq_I e12).1.trans hn
  replace hx := dr_o hx (tq_I e12).1 (tq_I e12).2
  replace hv7 := dr_o hv7 (tq_I e12).1 (tq_I e12).2
  obtain ⟨D13, e13, h⟩ := le1_ok h
  refine dr_putP (fun _ => ⟨rfl, rfl⟩) I cf12 fD_RX12_225 hR hx e13 dX12_init_1516 (fun H locs hR => ?_)
  replace hn := (tq_P e13).1.trans hn
  replace hx := dr_o hx (tq_P e13).1 (tq_P e13).2
  refine lv_aload_n I.1.1 I.1.2.1 dX12_init_1519 rfl (lv_at hl 0 rfl) ?_
  refine lv_iconst (v := (5 : Int32)) I.1.1 I.1.2.1 dX12_init_1520 (by decide) ?_
  obtain ⟨D14, e14, h⟩ := le1_ok h
  refine dr_newC (N := 5) I wA_char (by decide) rfl (by decide) hR hn (by omega) (Nat.zero_lt_of_lt hx.1) e14 (Nat.le_of_ble_eq_true rfl) (Nat.le_of_ble_eq_true rfl) dX12_init_1521 (fun H hR => ?_)
  replace hx := dr_oN hx e14
  have hv14 := dr_new1 hn e14
  replace hn := tq_N hn e14
  refine W.widen (k := 70) (n := 8202) (Nat.le_of_ble_eq_true rfl) (Nat.le_of_ble_eq_true rfl) ?_
  refine lv_dup I.1.1 I.1.2.1 dX12_init_1523 rfl ?_
  refine lv_iconst (v := (0 : Int32)) I.1.1 I.1.2.1 dX12_init_1524 (by decide) ?_
  refine lv_bipush (v := (116 : Int32)) I.1.1 I.1.2.1 dX12_init_1525 (by decide) ?_
  obtain ⟨D15, e15, h⟩ := le1_ok h
  refine dr_cst I hR hv14 (by unfold vp_in; decide) e15 dX12_init_1527 (fun H locs hR => ?_)
  replace hn := (tq_I e15).1.trans hn
  replace hx := dr_o hx (tq_I e15).1 (tq_I e15).2
  replace hv14 := dr_o hv14 (tq_I e15).1 (tq_I e15).2
  refine lv_dup I.1.1 I.1.2.1 dX12_init_1528 rfl ?_
  refine lv_iconst (v := (1 : Int32)) I.1.1 I.1.2.1 dX12_init_1529 (by decide) ?_
  refine lv_bipush (v := (97 : Int32)) I.1.1 I.1.2.1 dX12_init_1530 (by decide) ?_
  obtain ⟨D16, e16, h⟩ := le1_ok h
  refine dr_cst I hR hv14 (by unfold vp_in; decide) e16 dX12_init_1532 (fun H locs hR => ?_)
  replace hn := (tq_I e16).1.trans hn
  replace hx := dr_o hx (tq_I e16).1 (tq_I e16).2
  replace hv14 := dr_o hv14 (tq_I e16).1 (tq_I e16).2
  refine lv_dup I.1.1 I.1.2.1 dX12_init_1533 rfl ?_
  refine lv_iconst (v := (2 : Int32)) I.1.1 I.1.2.1 dX12_init_1534 (by decide) ?_
  refine lv_bipush (v := (107 : Int32)) I.1.1 I.1.2.1 dX12_init_1535 (by decide) ?_
  obtain ⟨D17, e17, h⟩ := le1_ok h
  refine dr_cst I hR hv14 (by unfold vp_in; decide) e17 dX12_init_1537 (fun H locs hR => ?_)
  replace hn := (tq_I e17).1.trans hn
  replace hx := dr_o hx (tq_I e17).1 (tq_I e17).2
  replace hv14 := dr_o hv14 (tq_I e17).1 (tq_I e17).2
  refine lv_dup I.1.1 I.1.2.1 dX12_init_1538 rfl ?_
  refine lv_iconst (v := (3 : Int32)) I.1.1 I.1.2.1 dX12_init_1539 (by decide) ?_
  refine lv_bipush (v := (101 : Int32)) I.1.1 I.1.2.1 dX12_init_1540 (by decide) ?_
  obtain ⟨D18, e18, h⟩ := le1_ok h
  refine dr_cst I hR hv14 (by unfold vp_in; decide) e18 dX12_init_1542 (fun H locs hR => ?_)
  replace hn := (tq_I e18).1.trans hn
  replace hx := dr_o hx (tq_I e18).1 (tq_I e18).2
  replace hv14 := dr_o hv14 (tq_I e18).1 (tq_I e18).2
  refine lv_dup I.1.1 I.1.2.1 dX12_init_1543 rfl ?_
  refine lv_iconst (v := (4 : Int32)) I.1.1 I.1.2.1 dX12_init_1544 (by decide) ?_
  refine lv_bipush (v := (115 : Int32)) I.1.1 I.1.2.1 dX12_init_1545 (by decide) ?_
  obtain ⟨D19, e19, h⟩ := le1_ok h
  refine dr_cst I hR hv14 (by unfold vp_in; decide) e19 dX12_init_1547 (fun H locs hR => ?_)
  replace hn := (tq_I e19).1.trans hn
  replace hx := dr_o hx (tq_I e19).1 (tq_I e19).2
  replace hv14 := dr_o hv14 (tq_I e19).1 (tq_I e19).2
  obtain ⟨D20, e20, h⟩ := le1_ok h
  refine dr_putP (fun _ => ⟨rfl, rfl⟩) I cf12 fD_RX12_228 hR hx e20 dX12_init_1548 (fun H locs hR => ?_)
  replace hn := (tq_P e20).1.trans hn
  replace hx := dr_o hx (tq_P e20).1 (tq_P e20).2
  refine lv_aload_n I.1.1 I.1.2.1 dX12_init_1551 rfl (lv_at hl 0 rfl) ?_
  refine lv_bipush (v := (6 : Int32)) I.1.1 I.1.2.1 dX12_init_1552 (by decide) ?_
  obtain ⟨D21, e21, h⟩ := le1_ok h
  refine dr_newC (N := 6) I wA_char (by decide) rfl (by decide) hR hn (by omega) (Nat.zero_lt_of_lt hx.1) e21 (Nat.le_of_ble_eq_true rfl) (Nat.le_of_ble_eq_true rfl) dX12_init_1554 (fun H hR => ?_)
  replace hx := dr_oN hx e21
  have hv21 := dr_new1 hn e21
  replace hn := tq_N hn e21
  refine W.widen (k := 71) (n := 8208) (Nat.le_of_ble_eq_true rfl) (Nat.le_of_ble_eq_true rfl) ?_
  refine lv_dup I.1.1 I.1.2.1 dX12_init_1556 rfl ?_
  refine lv_iconst (v := (0 : Int32)) I.1.1 I.1.2.1 dX12_init_1557 (by decide) ?_
  refine lv_bipush (v := (98 : Int32)) I.1.1 I.1.2.1 dX12_init_1558 (by decide) ?_
  obtain ⟨D22, e22, h⟩ := le1_ok h
  refine dr_cst I hR hv21 (by unfold vp_in; decide) e22 dX12_init_1560 (fun H locs hR => ?_)
  replace hn := (tq_I e22).1.trans hn
  replace hx := dr_o hx (tq_I e22).1 (tq_I e22).2
  replace hv21 := dr_o hv21 (tq_I e22).1 (tq_I e22).2
  refine lv_dup I.1.1 I.1.2.1 dX12_init_1561 rfl ?_
  refine lv_iconst (v := (1 : Int32)) I.1.1 I.1.2.1 dX12_init_1562 (by decide) ?_
  refine lv_bipush (v := (101 : Int32)) I.1.1 I.1.2.1 dX12_init_1563 (by decide) ?_
  obtain ⟨D23, e23, h⟩ := le1_ok h
  refine dr_cst I hR hv21 (by unfold vp_in; decide) e23 dX12_init_1565 (fun H locs hR => ?_)
  replace hn := (tq_I e23).1.trans hn
  replace hx := dr_o hx (tq_I e23).1 (tq_I e23).2
  replace hv21 := dr_o hv21 (tq_I e23).1 (tq_I e23).2
  refine lv_dup I.1.1 I.1.2.1 dX12_init_1566 rfl ?_
  refine lv_iconst (v := (2 : Int32)) I.1.1 I.1.2.1 dX12_init_1567 (by decide) ?_
  refine lv_bipush (v := (108 : Int32)) I.1.1 I.1.2.1 dX12_init_1568 (by decide) ?_
  obtain ⟨D24, e24, h⟩ := le1_ok h
  refine dr_cst I hR hv21 (by unfold vp_in; decide) e24 dX12_init_1570 (fun H locs hR => ?_)
  replace hn := (tq_I e24).1.trans hn
  replace hx := dr_o hx (tq_I e24).1 (tq_I e24).2
  replace hv21 := dr_o hv21 (tq_I e24).1 (tq_I e24).2
  refine lv_dup I.1.1 I.1.2.1 dX12_init_1571 rfl ?_
  refine lv_iconst (v := (3 : Int32)) I.1.1 I.1.2.1 dX12_init_1572 (by decide) ?_
  refine lv_bipush (v := (105 : Int32)) I.1.1 I.1.2.1 dX12_init_1573 (by decide) ?_
  obtain ⟨D25, e25, h⟩ := le1_ok h
  refine dr_cst I hR hv21 (by unfold vp_in; decide) e25 dX12_init_1575 (fun H locs hR => ?_)
  replace hn := (tq_I e25).1.trans hn
  replace hx := dr_o hx (tq_I e25).1 (tq_I e25).2
  replace hv21 := dr_o hv21 (tq_I e25).1 (tq_I e25).2
  refine lv_dup I.1.1 I.1.2.1 dX12_init_1576 rfl ?_
  refine lv_iconst (v := (4 : Int32)) I.1.1 I.1.2.1 dX12_init_1577 (by decide) ?_
  refine lv_bipush (v := (101 : Int32)) I.1.1 I.1.2.1 dX12_init_1578 (by decide) ?_
  obtain ⟨D26, e26, h⟩ := le1_ok h
  refine dr_cst I hR hv21 (by unfold vp_in; decide) e26 dX12_init_1580 (fun H locs hR => ?_)
  replace hn := (tq_I e26).1.trans hn
  replace hx := dr_o hx (tq_I e26).1 (tq_I e26).2
  replace hv21 := dr_o hv21 (tq_I e26).1 (tq_I e26).2
  refine lv_dup I.1.1 I.1.2.1 dX12_init_1581 rfl ?_
  refine lv_iconst (v := (5 : Int32)) I.1.1 I.1.2.1 dX12_init_1582 (by decide) ?_
  refine lv_bipush (v := (102 : Int32)) I.1.1 I.1.2.1 dX12_init_1583 (by decide) ?_
  obtain ⟨D27, e27, h⟩ := le1_ok h
  refine dr_cst I hR hv21 (by unfold vp_in; decide) e27 dX12_init_1585 (fun H locs hR => ?_)
  replace hn := (tq_I e27).1.trans hn
  replace hx := dr_o hx (tq_I e27).1 (tq_I e27).2
  replace hv21 := dr_o hv21 (tq_I e27).1 (tq_I e27).2
  obtain ⟨D28, e28, h⟩ := le1_ok h
  refine dr_putP (fun _ => ⟨rfl, rfl⟩) I cf12 fD_RX12_231 hR hx e28 dX12_init_1586 (fun H locs hR => ?_)
  replace hn := (tq_P e28).1.trans hn
  replace hx := dr_o hx (tq_P e28).1 (tq_P e28).2
  refine lv_aload_n I.1.1 I.1.2.1 dX12_init_1589 rfl (lv_at hl 0 rfl) ?_
  refine lv_bipush (v := (6 : Int32)) I.1.1 I.1.2.1 dX12_init_1590 (by decide) ?_
  obtain ⟨D29, e29, h⟩ := le1_ok h
  refine dr_newC (N := 6) I wA_char (by decide) rfl (by decide) hR hn (by omega) (Nat.zero_lt_of_lt hx.1) e29 (Nat.le_of_ble_eq_true rfl) (Nat.le_of_ble_eq_true rfl) dX12_init_1592 (fun H hR => ?_)
  replace hx := dr_oN hx e29
  have hv29 := dr_new1 hn e29
  replace hn := tq_N hn e29
  refine W.widen (k := 72) (n := 8214) (Nat.le_of_ble_eq_true rfl) (Nat.le_of_ble_eq_true rfl) ?_
  refine lv_dup I.1.1 I.1.2.1 dX12_init_1594 rfl ?_
  refine lv_iconst (v := (0 : Int32)) I.1.1 I.1.2.1 dX12_init_1595 (by decide) ?_
  refine lv_bipush (v := (110 : Int32)) I.1.1 I.1.2.1 dX12_init_1596 (by decide) ?_
  obtain ⟨D30, e30, h⟩ := le1_ok h
  refine dr_cst I hR hv29 (by unfold vp_in; decide) e30 dX12_init_1598 (fun H locs hR => ?_)
  replace hn := (tq_I e30).1.trans hn
  replace hx := dr_o hx (tq_I e30).1 (tq_I e30).2
  replace hv29 := dr_o hv29 (tq_I e30).1 (tq_I e30).2
  refine lv_dup I.1.1 I.1.2.1 dX12_init_1599 rfl ?_
  refine lv_iconst (v := (1 : Int32)) I.1.1 I.1.2.1 dX12_init_1600 (by decide) ?_
  refine lv_bipush (v := (117 : Int32)) I.1.1 I.1.2.1 dX12_init_1601 (by decide) ?_
  obtain ⟨D31, e31, h⟩ := le1_ok h
  refine dr_cst I hR hv29 (by unfold vp_in; decide) e31 dX12_init_1603 (fun H locs hR => ?_)
  replace hn := (tq_I e31).1.trans hn
  replace hx := dr_o hx (tq_I e31).1 (tq_I e31).2
  replace hv29 := dr_o hv29 (tq_I e31).1 (tq_I e31).2
  refine lv_dup I.1.1 I.1.2.1 dX12_init_1604 rfl ?_
  refine lv_iconst (v := (2 : Int32)) I.1.1 I.1.2.1 dX12_init_1605 (by decide) ?_
  refine lv_bipush (v := (109 : Int32)) I.1.1 I.1.2.1 dX12_init_1606 (by decide) ?_
  obtain ⟨D32, e32, h⟩ := le1_ok h
  refine dr_cst I hR hv29 (by unfold vp_in; decide) e32 dX12_init_1608 (fun H locs hR => ?_)
  replace hn := (tq_I e32).1.trans hn
  replace hx := dr_o hx (tq_I e32).1 (tq_I e32).2
  replace hv29 := dr_o hv29 (tq_I e32).1 (tq_I e32).2
  refine lv_dup I.1.1 I.1.2.1 dX12_init_1609 rfl ?_
  refine lv_iconst (v := (3 : Int32)) I.1.1 I.1.2.1 dX12_init_1610 (by decide) ?_
  refine lv_bipush (v := (98 : Int32)) I.1.1 I.1.2.1 dX12_init_1611 (by decide) ?_
  obtain ⟨D33, e33, h⟩ := le1_ok h
  refine dr_cst I hR hv29 (by unfold vp_in; decide) e33 dX12_init_1613 (fun H locs hR => ?_)
  replace hn := (tq_I e33).1.trans hn
  replace hx := dr_o hx (tq_I e33).1 (tq_I e33).2
  replace hv29 := dr_o hv29 (tq_I e33).1 (tq_I e33).2
  refine lv_dup I.1.1 I.1.2.1 dX12_init_1614 rfl ?_
  refine lv_iconst (v := (4 : Int32)) I.1.1 I.1.2.1 dX12_init_1615 (by decide) ?_
  refine lv_bipush (v := (101 : Int32)) I.1.1 I.1.2.1 dX12_init_1616 (by decide) ?_
  obtain ⟨D34, e34, h⟩ := le1_ok h
  refine dr_cst I hR hv29 (by unfold vp_in; decide) e34 dX12_init_1618 (fun H locs hR => ?_)
  replace hn := (tq_I e34).1.trans hn
  replace hx := dr_o hx (tq_I e34).1 (tq_I e34).2
  replace hv29 := dr_o hv29 (tq_I e34).1 (tq_I e34).2
  refine lv_dup I.1.1 I.1.2.1 dX12_init_1619 rfl ?_
  refine lv_iconst (v := (5 : Int32)) I.1.1 I.1.2.1 dX12_init_1620 (by decide) ?_
  refine lv_bipush (v := (114 : Int32)) I.1.1 I.1.2.1 dX12_init_1621 (by decide) ?_
  obtain ⟨D35, e35, h⟩ := le1_ok h
  refine dr_cst I hR hv29 (by unfold vp_in; decide) e35 dX12_init_1623 (fun H locs hR => ?_)
  replace hn := (tq_I e35).1.trans hn
  replace hx := dr_o hx (tq_I e35).1 (tq_I e35).2
  replace hv29 := dr_o hv29 (tq_I e35).1 (tq_I e35).2
  obtain ⟨D36, e36, h⟩ := le1_ok h
  refine dr_putP (fun _ => ⟨rfl, rfl⟩) I cf12 fD_RX12_234 hR hx e36 dX12_init_1624 (fun H locs hR => ?_)
  replace hn := (tq_P e36).1.trans hn
  replace hx := dr_o hx (tq_P e36).1 (tq_P e36).2
  refine lv_aload_n I.1.1 I.1.2.1 dX12_init_1627 rfl (lv_at hl 0 rfl) ?_
  refine lv_iconst (v := (5 : Int32)) I.1.1 I.1.2.1 dX12_init_1628 (by decide) ?_
  obtain ⟨D37, e37, h⟩ := le1_ok h
  refine dr_newC (N := 5) I wA_char (by decide) rfl (by decide) hR hn (by omega) (Nat.zero_lt_of_lt hx.1) e37 (Nat.le_of_ble_eq_true rfl) (Nat.le_of_ble_eq_true rfl) dX12_init_1629 (fun H hR => ?_)
  replace hx := dr_oN hx e37
  have hv37 := dr_new1 hn e37
  replace hn := tq_N hn e37
  refine W.widen (k := 73) (n := 8219) (Nat.le_of_ble_eq_true rfl) (Nat.le_of_ble_eq_true rfl) ?_
  refine lv_dup I.1.1 I.1.2.1 dX12_init_1631 rfl ?_
  refine lv_iconst (v := (0 : Int32)) I.1.1 I.1.2.1 dX12_init_1632 (by decide) ?_
  refine lv_bipush (v := (107 : Int32)) I.1.1 I.1.2.1 dX12_init_1633 (by decide) ?_
  obtain ⟨D38, e38, h⟩ := le1_ok h
  refine dr_cst I hR hv37 (by unfold vp_in; decide) e38 dX12_init_1635 (fun H locs hR => ?_)
  replace hn := (tq_I e38).1.trans hn
  replace hx := dr_o hx (tq_I e38).1 (tq_I e38).2
  replace hv37 := dr_o hv37 (tq_I e38).1 (tq_I e38).2
  refine lv_dup I.1.1 I.1.2.1 dX12_init_1636 rfl ?_
  refine lv_iconst (v := (1 : Int32)) I.1.1 I.1.2.1 dX12_init_1637 (by decide) ?_
  refine lv_bipush (v := (110 : Int32)) I.1.1 I.1.2.1 dX12_init_1638 (by decide) ?_
  obtain ⟨D39, e39, h⟩ := le1_ok h
  refine dr_cst I hR hv37 (by unfold vp_in; decide) e39 dX12_init_1640 (fun H locs hR => ?_)
  replace hn := (tq_I e39).1.trans hn
  replace hx := dr_o hx (tq_I e39).1 (tq_I e39).2
  replace hv37 := dr_o hv37 (tq_I e39).1 (tq_I e39).2
  refine lv_dup I.1.1 I.1.2.1 dX12_init_1641 rfl ?_
  refine lv_iconst (v := (2 : Int32)) I.1.1 I.1.2.1 dX12_init_1642 (by decide) ?_
  refine lv_bipush (v := (111 : Int32)) I.1.1 I.1.2.1 dX12_init_1643 (by decide) ?_
  obtain ⟨D40, e40, h⟩ := le1_ok h
  refine dr_cst I hR hv37 (by unfold vp_in; decide) e40 dX12_init_1645 (fun H locs hR => ?_)
  replace hn := (tq_I e40).1.trans hn
  replace hx := dr_o hx (tq_I e40).1 (tq_I e40).2
  replace hv37 := dr_o hv37 (tq_I e40).1 (tq_I e40).2
  refine lv_dup I.1.1 I.1.2.1 dX12_init_1646 rfl ?_
  refine lv_iconst (v := (3 : Int32)) I.1.1 I.1.2.1 dX12_init_1647 (by decide) ?_
  refine lv_bipush (v := (119 : Int32)) I.1.1 I.1.2.1 dX12_init_1648 (by decide) ?_
  obtain ⟨D41, e41, h⟩ := le1_ok h
  refine dr_cst I hR hv37 (by unfold vp_in; decide) e41 dX12_init_1650 (fun H locs hR => ?_)
  replace hn := (tq_I e41).1.trans hn
  replace hx := dr_o hx (tq_I e41).1 (tq_I e41).2
  replace hv37 := dr_o hv37 (tq_I e41).1 (tq_I e41).2
  refine lv_dup I.1.1 I.1.2.1 dX12_init_1651 rfl ?_
  refine lv_iconst (v := (4 : Int32)) I.1.1 I.1.2.1 dX12_init_1652 (by decide) ?_
  refine lv_bipush (v := (110 : Int32)) I.1.1 I.1.2.1 dX12_init_1653 (by decide) ?_
  obtain ⟨D42, e42, h⟩ := le1_ok h
  refine dr_cst I hR hv37 (by unfold vp_in; decide) e42 dX12_init_1655 (fun H locs hR => ?_)
  replace hn := (tq_I e42).1.trans hn
  replace hx := dr_o hx (tq_I e42).1 (tq_I e42).2
  replace hv37 := dr_o hv37 (tq_I e42).1 (tq_I e42).2
  obtain ⟨D43, e43, h⟩ := le1_ok h
  refine dr_putP (fun _ => ⟨rfl, rfl⟩) I cf12 fD_RX12_237 hR hx e43 dX12_init_1656 (fun H locs hR => ?_)
  replace hn := (tq_P e43).1.trans hn
  replace hx := dr_o hx (tq_P e43).1 (tq_P e43).2
  refine lv_aload_n I.1.1 I.1.2.1 dX12_init_1659 rfl (lv_at hl 0 rfl) ?_
  refine lv_iconst (v := (5 : Int32)) I.1.1 I.1.2.1 dX12_init_1660 (by decide) ?_
  obtain ⟨D44, e44, h⟩ := le1_ok h
  refine dr_newC (N := 5) I wA_char (by decide) rfl (by decide) hR hn (by omega) (Nat.zero_lt_of_lt hx.1) e44 (Nat.le_of_ble_eq_true rfl) (Nat.le_of_ble_eq_true rfl) dX12_init_1661 (fun H hR => ?_)
  replace hx := dr_oN hx e44
  have hv44 := dr_new1 hn e44
  replace hn := tq_N hn e44
  refine W.widen (k := 74) (n := 8224) (Nat.le_of_ble_eq_true rfl) (Nat.le_of_ble_eq_true rfl) ?_
  refine lv_dup I.1.1 I.1.2.1 dX12_init_1663 rfl ?_
  refine lv_iconst (v := (0 : Int32)) I.1.1 I.1.2.1 dX12_init_1664 (by decide) ?_
  refine lv_bipush (v := (115 : Int32)) I.1.1 I.1.2.1 dX12_init_1665 (by decide) ?_
  obtain ⟨D45, e45, h⟩ := le1_ok h
  refine dr_cst I hR hv44 (by unfold vp_in; decide) e45 dX12_init_1667 (fun H locs hR => ?_)
  replace hn := (tq_I e45).1.trans hn
  replace hx := dr_o hx (tq_I e45).1 (tq_I e45).2
  replace hv44 := dr_o hv44 (tq_I e45).1 (tq_I e45).2
  refine lv_dup I.1.1 I.1.2.1 dX12_init_1668 rfl ?_
  refine lv_iconst (v := (1 : Int32)) I.1.1 I.1.2.1 dX12_init_1669 (by decide) ?_
  refine lv_bipush (v := (105 : Int32)) I.1.1 I.1.2.1 dX12_init_1670 (by decide) ?_
  obtain ⟨D46, e46, h⟩ := le1_ok h
  refine dr_cst I hR hv44 (by unfold vp_in; decide) e46 dX12_init_1672 (fun H locs hR => ?_)
  replace hn := (tq_I e46).1.trans hn
  replace hx := dr_o hx (tq_I e46).1 (tq_I e46).2
  replace hv44 := dr_o hv44 (tq_I e46).1 (tq_I e46).2
  refine lv_dup I.1.1 I.1.2.1 dX12_init_1673 rfl ?_
  refine lv_iconst (v := (2 : Int32)) I.1.1 I.1.2.1 dX12_init_1674 (by decide) ?_
  refine lv_bipush (v := (103 : Int32)) I.1.1 I.1.2.1 dX12_init_1675 (by decide) ?_
  obtain ⟨D47, e47, h⟩ := le1_ok h
  refine dr_cst I hR hv44 (by unfold vp_in; decide) e47 dX12_init_1677 (fun H locs hR => ?_)
  replace hn := (tq_I e47).1.trans hn
  replace hx := dr_o hx (tq_I e47).1 (tq_I e47).2
  replace hv44 := dr_o hv44 (tq_I e47).1 (tq_I e47).2
  refine lv_dup I.1.1 I.1.2.1 dX12_init_1678 rfl ?_
  refine lv_iconst (v := (3 : Int32)) I.1.1 I.1.2.1 dX12_init_1679 (by decide) ?_
  refine lv_bipush (v := (104 : Int32)) I.1.1 I.1.2.1 dX12_init_1680 (by decide) ?_
  obtain ⟨D48, e48, h⟩ := le1_ok h
  refine dr_cst I hR hv44 (by unfold vp_in; decide) e48 dX12_init_1682 (fun H locs hR => ?_)
  replace hn := (tq_I e48).1.trans hn
  replace hx := dr_o hx (tq_I e48).1 (tq_I e48).2
  replace hv44 := dr_o hv44 (tq_I e48).1 (tq_I e48).2
  refine lv_dup I.1.1 I.1.2.1 dX12_init_1683 rfl ?_
  refine lv_iconst (v := (4 : Int32)) I.1.1 I.1.2.1 dX12_init_1684 (by decide) ?_
  refine lv_bipush (v := (116 : Int32)) I.1.1 I.1.2.1 dX12_init_1685 (by decide) ?_
  obtain ⟨D49, e49, h⟩ := le1_ok h
  refine dr_cst I hR hv44 (by unfold vp_in; decide) e49 dX12_init_1687 (fun H locs hR => ?_)
  replace hn := (tq_I e49).1.trans hn
  replace hx := dr_o hx (tq_I e49).1 (tq_I e49).2
  replace hv44 := dr_o hv44 (tq_I e49).1 (tq_I e49).2
  obtain ⟨D50, e50, h⟩ := le1_ok h
  refine dr_putP (fun _ => ⟨rfl, rfl⟩) I cf12 fD_RX12_240 hR hx e50 dX12_init_1688 (fun H locs hR => ?_)
  replace hn := (tq_P e50).1.trans hn
  replace hx := dr_o hx (tq_P e50).1 (tq_P e50).2
  exact wg_8 I _ r h hn hx _ _ _ hR hl
set_option maxRecDepth 100000 in
def fg_6 (x n : Nat) (D : Dp) : Option Dp :=
  le1 (dyN D 3 3) (fun D1 => le1 (dyI D1 (n + 58) 0 (vp_nar .char (110 : Int32))) (fun D2 => le1 (dyI D2 (n + 58) 1 (vp_nar .char (111 : Int32))) (fun D3 => le1 (dyI D3 (n + 58) 2 (vp_nar .char (116 : Int32))) (fun D4 => le1 (dyP D4 x 81 (n + 58)) (fun D5 => le1 (dyN D5 3 3) (fun D6 => le1 (dyI D6 (n + 59) 0 (vp_nar .char (97 : Int32))) (fun D7 => le1 (dyI D7 (n + 59) 1 (vp_nar .char (110 : Int32))) (fun D8 => le1 (dyI D8 (n + 59) 2 (vp_nar .char (100 : Int32))) (fun D9 => le1 (dyP D9 x 82 (n + 59)) (fun D10 => le1 (dyN D10 3 2) (fun D11 => le1 (dyI D11 (n + 60) 0 (vp_nar .char (111 : Int32))) (fun D12 => le1 (dyI D12 (n + 60) 1 (vp_nar .char (114 : Int32))) (fun D13 => le1 (dyP D13 x 83 (n + 60)) (fun D14 => le1 (dyN D14 3 3) (fun D15 => le1 (dyI D15 (n + 61) 0 (vp_nar .char (97 : Int32))) (fun D16 => le1 (dyI D16 (n + 61) 1 (vp_nar .char (108 : Int32))) (fun D17 => le1 (dyI D17 (n + 61) 2 (vp_nar .char (108 : Int32))) (fun D18 => le1 (dyP D18 x 84 (n + 61)) (fun D19 => le1 (dyN D19 3 3) (fun D20 => le1 (dyI D20 (n + 62) 0 (vp_nar .char (109 : Int32))) (fun D21 => le1 (dyI D21 (n + 62) 1 (vp_nar .char (105 : Int32))) (fun D22 => le1 (dyI D22 (n + 62) 2 (vp_nar .char (110 : Int32))) (fun D23 => le1 (dyP D23 x 85 (n + 62)) (fun D24 => le1 (dyN D24 3 3) (fun D25 => le1 (dyI D25 (n + 63) 0 (vp_nar .char (109 : Int32))) (fun D26 => le1 (dyI D26 (n + 63) 1 (vp_nar .char (97 : Int32))) (fun D27 => le1 (dyI D27 (n + 63) 2 (vp_nar .char (120 : Int32))) (fun D28 => le1 (dyP D28 x 86 (n + 63)) (fun D29 => le1 (dyN D29 3 4) (fun D30 => le1 (dyI D30 (n + 64) 0 (vp_nar .char (108 : Int32))) (fun D31 => le1 (dyI D31 (n + 64) 1 (vp_nar .char (111 : Int32))) (fun D32 => le1 (dyI D32 (n + 64) 2 (vp_nar .char (111 : Int32))) (fun D33 => le1 (dyI D33 (n + 64) 3 (vp_nar .char (107 : Int32))) (fun D34 => le1 (dyP D34 x 87 (n + 64)) (fun D35 => le1 (dyN D35 3 5) (fun D36 => le1 (dyI D36 (n + 65) 0 (vp_nar .char (116 : Int32))) (fun D37 => le1 (dyI D37 (n + 65) 1 (vp_nar .char (105 : Int32))) (fun D38 => le1 (dyI D38 (n + 65) 2 (vp_nar .char (109 : Int32))) (fun D39 => le1 (dyI D39 (n + 65) 3 (vp_nar .char (101 : Int32))) (fun D40 => le1 (dyI D40 (n + 65) 4 (vp_nar .char (115 : Int32))) (fun D41 => le1 (dyP D41 x 88 (n + 65)) (fun D42 => le1 (dyN D42 3 4) (fun D43 => le1 (dyI D43 (n + 66) 0 (vp_nar .char (121 : Int32))) (fun D44 => le1 (dyI D44 (n + 66) 1 (vp_nar .char (101 : Int32))) (fun D45 => le1 (dyI D45 (n + 66) 2 (vp_nar .char (97 : Int32))) (fun D46 => le1 (dyI D46 (n + 66) 3 (vp_nar .char (114 : Int32))) (fun D47 => le1 (dyP D47 x 89 (n + 66)) (fun D48 => fg_7 x n D48))))))))))))))))))))))))))))))))))))))))))))))))
set_option maxHeartbeats 4000000 in
set_option maxRecDepth 100000 in
theorem wg_6 {p : Program} {l : Launch} {e : Env} {s : State} {m : MethodId} {args : Array Value} {below : List Frame} {meth : Method} {c : Code} {B x n : Nat} {E : Ev} {ak av : Nat → Nat} (I : dy_I p s m args meth c RX12 cX12_init 1 B n ak av) (D r : Dp) (h : fg_6 x n D = some r) (hn : D.1 = (n + 58)) (hx : x < D.1 ∧ D.2.1 x = (1, 12)) (H : Heap) (locs : List Loc) (ls : Array Slot) (hR : dy_R B E s s.heap H locs D) (hl : lv_has ls 1 [(0, .ref (B + x))]) : W p l e (dy_rm 1 80 13380) s m args below meth c H locs 58 8158 (dy_Z B E below args s 80 13380 r) (F0 m 1247 ls []) := by
  unfold fg_6 at h
  refine lv_aload_n I.1.1 I.1.2.1 dX12_init_1247 rfl (lv_at hl 0 rfl) ?_
  refine lv_iconst (v := (3 : Int32)) I.1.1 I.1.2.1 dX12_init_1248 (by decide) ?_
  obtain ⟨D1, e1, h⟩ := le1_ok h
  refine dr_newC (N := 3) I wA_char (by decide) rfl (by decide) hR hn (by omega) (Nat.zero_lt_of_lt hx.1) e1 (Nat.le_of_ble_eq_true rfl) (Nat.le_of_ble_eq_true rfl) dX12_init_1249 (fun H hR => ?_)
  replace hx := dr_oN hx e1
  have hv1 := dr_new1 hn e1
  replace hn := tq_N hn e1
  refine W.widen (k := 59) (n := 8161) (Nat.le_of_ble_eq_true rfl) (Nat.le_of_ble_eq_true rfl) ?_
  refine lv_dup I.1.1 I.1.2.1 dX12_init_1251 rfl ?_
  refine lv_iconst (v := (0 : Int32)) I.1.1 I.1.2.1 dX12_init_1252 (by decide) ?_
  refine lv_bipush (v := (110 : Int32)) I.1.1 I.1.2.1 dX12_init_1253 (by decide) ?_
  obtain ⟨D2, e2, h⟩ := le1_ok h
  refine dr_cst I hR hv1 (by unfold vp_in; decide) e2 dX12_init_1255 (fun H locs hR => ?_)
  replace hn := (tq_I e2).1.trans hn
  replace hx := dr_o hx (tq_I e2).1 (tq_I e2).2
  replace hv1 := dr_o hv1 (tq_I e2).1 (tq_I e2).2
  refine lv_dup I.1.1 I.1.2.1 dX12_init_1256 rfl ?_
  refine lv_iconst (v := (1 : Int32)) I.1.1 I.1.2.1 dX12_init_1257 (by decide) ?_
  refine lv_bipush (v := (111 : Int32)) I.1.1 I.1.2.1 dX12_init_1258 (by decide) ?_
  obtain ⟨D3, e3, h⟩ := le1_ok h
  refine dr_cst I hR hv1 (by unfold vp_in; decide) e3 dX12_init_1260 (fun H locs hR => ?_)
  replace hn := (tq_I e3).1.trans hn
  replace hx := dr_o hx (tq_I e3).1 (tq_I e3).2
  replace hv1 := dr_o hv1 (tq_I e3).1 (tq_I e3).2
  refine lv_dup I.1.1 I.1.2.1 dX12_init_1261 rfl ?_
  refine lv_iconst (v := (2 : Int32)) I.1.1 I.1.2.1 dX12_init_1262 (by decide) ?_
  refine lv_bipush (v := (116 : Int32)) I.1.1 I.1.2.1 dX12_init_1263 (by decide) ?_
  obtain ⟨D4, e4, h⟩ := le1_ok h
  refine dr_cst I hR hv1 (by unfold vp_in; decide) e4 dX12_init_1265 (fun H locs hR => ?_)
  replace hn := (tq_I e4).1.trans hn
  replace hx := dr_o hx (tq_I e4).1 (tq_I e4).2
  replace hv1 := dr_o hv1 (tq_I e4).1 (tq_I e4).2
  obtain ⟨D5, e5, h⟩ := le1_ok h
  refine dr_putP (fun _ => ⟨rfl, rfl⟩) I cf12 fD_RX12_195 hR hx e5 dX12_init_1266 (fun H locs hR => ?_)
  replace hn := (tq_P e5).1.trans hn
  replace hx := dr_o hx (tq_P e5).1 (tq_P e5).2
  refine lv_aload_n I.1.1 I.1.2.1 dX12_init_1269 rfl (lv_at hl 0 rfl) ?_
  refine lv_iconst (v := (3 : Int32)) I.1.1 I.1.2.1 dX12_init_1270 (by decide) ?_
  obtain ⟨D6, e6, h⟩ := le1_ok h
  refine dr_newC (N := 3) I wA_char (by decide) rfl (by decide) hR hn (by omega) (Nat.zero_lt_of_lt hx.1) e6 (Nat.le_of_ble_eq_true rfl) (Nat.le_of_ble_eq_true rfl) dX12_init_1271 (fun H hR => ?_)
  replace hx := dr_oN hx e6
  have hv6 := dr_new1 hn e6
  replace hn := tq_N hn e6
  refine W.widen (k := 60) (n := 8164) (Nat.le_of_ble_eq_true rfl) (Nat.le_of_ble_eq_true rfl) ?_
  refine lv_dup I.1.1 I.1.2.1 dX12_init_1273 rfl ?_
  refine lv_iconst (v := (0 : Int32)) I.1.1 I.1.2.1 dX12_init_1274 (by decide) ?_
  refine lv_bipush (v := (97 : Int32)) I.1.1 I.1.2.1 dX12_init_1275 (by decide) ?_
  obtain ⟨D7, e7, h⟩ := le1_ok h
  refine dr_cst I hR hv6 (by unfold vp_in; decide) e7 dX12_init_1277 (fun H locs hR => ?_)
  replace hn := (tq_I e7).1.trans hn
  replace hx := dr_o hx (tq_I e7).1 (tq_I e7).2
  replace hv6 := dr_o hv6 (tq_I e7).1 (tq_I e7).2
  refine lv_dup I.1.1 I.1.2.1 dX12_init_1278 rfl ?_
  refine lv_iconst (v := (1 : Int32)) I.1.1 I.1.2.1 dX12_init_1279 (by decide) ?_
  refine lv_bipush (v := (110 : Int32)) I.1.1 I.1.2.1 dX12_init_1280 (by decide) ?_
  obtain ⟨D8, e8, h⟩ := le1_ok h
  refine dr_cst I hR hv6 (by unfold vp_in; decide) e8 dX12_init_1282 (fun H locs hR => ?_)
  replace hn := (tq_I e8).1.trans hn
  replace hx := dr_o hx (tq_I e8).1 (tq_I e8).2
  replace hv6 := dr_o hv6 (tq_I e8).1 (tq_I e8).2
  refine lv_dup I.1.1 I.1.2.1 dX12_init_1283 rfl ?_
  refine lv_iconst (v := (2 : Int32)) I.1.1 I.1.2.1 dX12_init_1284 (by decide) ?_
  refine lv_bipush (v := (100 : Int32)) I.1.1 I.1.2.1 dX12_init_1285 (by decide) ?_
  obtain ⟨D9, e9, h⟩ := le1_ok h
  refine dr_cst I hR hv6 (by unfold vp_in; decide) e9 dX12_init_1287 (fun H locs hR => ?_)
  replace hn := (tq_I e9).1.trans hn
  replace hx := dr_o hx (tq_I e9).1 (tq_I e9).2
  replace hv6 := dr_o hv6 (tq_I e9).1 (tq_I e9).2
  obtain ⟨D10, e10, h⟩ := le1_ok h
  refine dr_putP (fun _ => ⟨rfl, rfl⟩) I cf12 fD_RX12_198 hR hx e10 dX12_init_1288 (fun H locs hR => ?_)
  replace hn := (tq_P e10).1.trans hn
  replace hx := dr_o hx (tq_P e10).1 (tq_P e10).2
  refine lv_aload_n I.1.1 I.1.2.1 dX12_init_1291 rfl (lv_at hl 0 rfl) ?_
  refine lv_iconst (v := (2 : Int32)) I.1.1 I.1.2.1 dX12_init_1292 (by decide) ?_
  obtain ⟨D11, e11, h⟩ := le1_ok h
  refine dr_newC (N := 2) I wA_char (by decide) rfl (by decide) hR hn (by omega) (Nat.zero_lt_of_lt hx.1) e11 (Nat.le_of_ble_eq_true rfl) (Nat.le_of_ble_eq_true rfl) dX12_init_1293 (fun H hR => ?_)
  replace hx := dr_oN hx e11
  have hv11 := dr_new1 hn e11
  replace hn := tq_N hn e11
  refine W.widen (k := 61) (n := 8166) (Nat.le_of_ble_eq_true rfl) (Nat.le_of_ble_eq_true rfl) ?_
  refine lv_dup I.1.1 I.1.2.1 dX12_init_1295 rfl ?_
  refine lv_iconst (v := (0 : Int32)) I.1.1 I.1.2.1 dX12_init_1296 (by decide) ?_
  refine lv_bipush (v := (111 : Int32)) I.1.1 I.1.2.1 dX12_init_1297 (by decide) ?_
  obtain ⟨D12, e12, h⟩ := le1_ok h
  refine dr_cst I hR hv11 (by unfold vp_in; decide) e12 dX12_init_1299 (fun H locs hR => ?_)
  replace hn := (tq_I e12).1.trans hn
  replace hx := dr_o hx (tq_I e12).1 (tq_I e12).2
  replace hv11 := dr_o hv11 (tq_I e12).1 (tq_I e12).2
  refine lv_dup I.1.1 I.1.2.1 dX12_init_1300 rfl ?_
  refine lv_iconst (v := (1 : Int32)) I.1.1 I.1.2.1 dX12_init_1301 (by decide) ?_
  refine lv_bipush (v := (114 : Int32)) I.1.1 I.1.2.1 dX12_init_1302 (by decide) ?_
  obtain ⟨D13, e13, h⟩ := le1_ok h
  refine dr_cst I hR hv11 (by unfold vp_in; decide) e13 dX12_init_1304 (fun H locs hR => ?_)
  replace hn := (tq_I e13).1.trans hn
  replace hx := dr_o hx (tq_I e13).1 (tq_I e13).2
  replace hv11 := dr_o hv11 (tq_I e13).1 (tq_I e13).2
  obtain ⟨D14, e14, h⟩ := le1_ok h
  refine dr_putP (fun _ => ⟨rfl, rfl⟩) I cf12 fD_RX12_201 hR hx e14 dX12_init_1305 (fun H locs hR => ?_)
  replace hn := (tq_P e14).1.trans hn
  replace hx := dr_o hx (tq_P e14).1 (tq_P e14).2
  refine lv_aload_n I.1.1 I.1.2.1 dX12_init_1308 rfl (lv_at hl 0 rfl) ?_
  refine lv_iconst (v := (3 : Int32)) I.1.1 I.1.2.1 dX12_init_1309 (by decide) ?_
  obtain ⟨D15, e15, h⟩ := le1_ok h
  refine dr_newC (N := 3) I wA_char (by decide) rfl (by decide) hR hn (by omega) (Nat.zero_lt_of_lt hx.1) e15 (Nat.le_of_ble_eq_true rfl) (Nat.le_of_ble_eq_true rfl) dX12_init_1310 (fun H hR => ?_)
  replace hx := dr_oN hx e15
  have hv15 := dr_new1 hn e15
  replace hn := tq_N hn e15
  refine W.widen (k := 62) (n := 8169) (Nat.le_of_ble_eq_true rfl) (Nat.le_of_ble_eq_true rfl) ?_
  refine lv_dup I.1.1 I.1.2.1 dX12_init_1312 rfl ?_
  refine lv_iconst (v := (0 : Int32)) I.1.1 I.1.2.1 dX12_init_1313 (by decide) ?_
  refine lv_bipush (v := (97 : Int32)) I.1.1 I.1.2.1 dX12_init_1314 (by decide) ?_
  obtain ⟨D16, e16, h⟩ := le1_ok h
  refine dr_cst I hR hv15 (by unfold vp_in; decide) e16 dX12_init_1316 (fun H locs hR => ?_)
  replace hn := (tq_I e16).1.trans hn
  replace hx := dr_o hx (tq_I e16).1 (tq_I e16).2
  replace hv15 := dr_o hv15 (tq_I e16).1 (tq_I e16).2
  refine lv_dup I.1.1 I.1.2.1 dX12_init_1317 rfl ?_
  refine lv_iconst (v := (1 : Int32)) I.1.1 I.1.2.1 dX12_init_1318 (by decide) ?_
  refine lv_bipush (v := (108 : Int32)) I.1.1 I.1.2.1 dX12_init_1319 (by decide) ?_
  obtain ⟨D17, e17, h⟩ := le1_ok h
  refine dr_cst I hR hv15 (by unfold vp_in; decide) e17 dX12_init_1321 (fun H locs hR => ?_)
  replace hn := (tq_I e17).1.trans hn
  replace hx := dr_o hx (tq_I e17).1 (tq_I e17).2
  replace hv15 := dr_o hv15 (tq_I e17).1 (tq_I e17).2
  refine lv_dup I.1.1 I.1.2.1 dX12_init_1322 rfl ?_
  refine lv_iconst (v := (2 : Int32)) I.1.1 I.1.2.1 dX12_init_1323 (by decide) ?_
  refine lv_bipush (v := (108 : Int32)) I.1.1 I.1.2.1 dX12_init_1324 (by decide) ?_
  obtain ⟨D18, e18, h⟩ := le1_ok h
  refine dr_cst I hR hv15 (by unfold vp_in; decide) e18 dX12_init_1326 (fun H locs hR => ?_)
  replace hn := (tq_I e18).1.trans hn
  replace hx := dr_o hx (tq_I e18).1 (tq_I e18).2
  replace hv15 := dr_o hv15 (tq_I e18).1 (tq_I e18).2
  obtain ⟨D19, e19, h⟩ := le1_ok h
  refine dr_putP (fun _ => ⟨rfl, rfl⟩) I cf12 fD_RX12_204 hR hx e19 dX12_init_1327 (fun H locs hR => ?_)
  replace hn := (tq_P e19).1.trans hn
  replace hx := dr_o hx (tq_P e19).1 (tq_P e19).2
  refine lv_aload_n I.1.1 I.1.2.1 dX12_init_1330 rfl (lv_at hl 0 rfl) ?_
  refine lv_iconst (v := (3 : Int32)) I.1.1 I.1.2.1 dX12_init_1331 (by decide) ?_
  obtain ⟨D20, e20, h⟩ := le1_ok h
  refine dr_newC (N := 3) I wA_char (by decide) rfl (by decide) hR hn (by omega) (Nat.zero_lt_of_lt hx.1) e20 (Nat.le_of_ble_eq_true rfl) (Nat.le_of_ble_eq_true rfl) dX12_init_1332 (fun H hR => ?_)
  replace hx := dr_oN hx e20
  have hv20 := dr_new1 hn e20
  replace hn := tq_N hn e20
  refine W.widen (k := 63) (n := 8172) (Nat.le_of_ble_eq_true rfl) (Nat.le_of_ble_eq_true rfl) ?_
  refine lv_dup I.1.1 I.1.2.1 dX12_init_1334 rfl ?_
  refine lv_iconst (v := (0 : Int32)) I.1.1 I.1.2.1 dX12_init_1335 (by decide) ?_
  refine lv_bipush (v := (109 : Int32)) I.1.1 I.1.2.1 dX12_init_1336 (by decide) ?_
  obtain ⟨D21, e21, h⟩ := le1_ok h
  refine dr_cst I hR hv20 (by unfold vp_in; decide) e21 dX12_init_1338 (fun H locs hR => ?_)
  replace hn := (tq_I e21).1.trans hn
  replace hx := dr_o hx (tq_I e21).1 (tq_I e21).2
  replace hv20 := dr_o hv20 (tq_I e21).1 (tq_I e21).2
  refine lv_dup I.1.1 I.1.2.1 dX12_init_1339 rfl ?_
  refine lv_iconst (v := (1 : Int32)) I.1.1 I.1.2.1 dX12_init_1340 (by decide) ?_
  refine lv_bipush (v := (105 : Int32)) I.1.1 I.1.2.1 dX12_init_1341 (by decide) ?_
  obtain ⟨D22, e22, h⟩ := le1_ok h
  refine dr_cst I hR hv20 (by unfold vp_in; decide) e22 dX12_init_1343 (fun H locs hR => ?_)
  replace hn := (tq_I e22).1.trans hn
  replace hx := dr_o hx (tq_I e22).1 (tq_I e22).2
  replace hv20 := dr_o hv20 (tq_I e22).1 (tq_I e22).2
  refine lv_dup I.1.1 I.1.2.1 dX12_init_1344 rfl ?_
  refine lv_iconst (v := (2 : Int32)) I.1.1 I.1.2.1 dX12_init_1345 (by decide) ?_
  refine lv_bipush (v := (110 : Int32)) I.1.1 I.1.2.1 dX12_init_1346 (by decide) ?_
  obtain ⟨D23, e23, h⟩ := le1_ok h
  refine dr_cst I hR hv20 (by unfold vp_in; decide) e23 dX12_init_1348 (fun H locs hR => ?_)
  replace hn := (tq_I e23).1.trans hn
  replace hx := dr_o hx (tq_I e23).1 (tq_I e23).2
  replace hv20 := dr_o hv20 (tq_I e23).1 (tq_I e23).2
  obtain ⟨D24, e24, h⟩ := le1_ok h
  refine dr_putP (fun _ => ⟨rfl, rfl⟩) I cf12 fD_RX12_207 hR hx e24 dX12_init_1349 (fun H locs hR => ?_)
  replace hn := (tq_P e24).1.trans hn
  replace hx := dr_o hx (tq_P e24).1 (tq_P e24).2
  refine lv_aload_n I.1.1 I.1.2.1 dX12_init_1352 rfl (lv_at hl 0 rfl) ?_
  refine lv_iconst (v := (3 : Int32)) I.1.1 I.1.2.1 dX12_init_1353 (by decide) ?_
  obtain ⟨D25, e25, h⟩ := le1_ok h
  refine dr_newC (N := 3) I wA_char (by decide) rfl (by decide) hR hn (by omega) (Nat.zero_lt_of_lt hx.1) e25 (Nat.le_of_ble_eq_true rfl) (Nat.le_of_ble_eq_true rfl) dX12_init_1354 (fun H hR => ?_)
  replace hx := dr_oN hx e25
  have hv25 := dr_new1 hn e25
  replace hn := tq_N hn e25
  refine W.widen (k := 64) (n := 8175) (Nat.le_of_ble_eq_true rfl) (Nat.le_of_ble_eq_true rfl) ?_
  refine lv_dup I.1.1 I.1.2.1 dX12_init_1356 rfl ?_
  refine lv_iconst (v := (0 : Int32)) I.1.1 I.1.2.1 dX12_init_1357 (by decide) ?_
  refine lv_bipush (v := (109 : Int32)) I.1.1 I.1.2.1 dX12_init_1358 (by decide) ?_
  obtain ⟨D26, e26, h⟩ := le1_ok h
  refine dr_cst I hR hv25 (by unfold vp_in; decide) e26 dX12_init_1360 (fun H locs hR => ?_)
  replace hn := (tq_I e26).1.trans hn
  replace hx := dr_o hx (tq_I e26).1 (tq_I e26).2
  replace hv25 := dr_o hv25 (tq_I e26).1 (tq_I e26).2
  refine lv_dup I.1.1 I.1.2.1 dX12_init_1361 rfl ?_
  refine lv_iconst (v := (1 : Int32)) I.1.1 I.1.2.1 dX12_init_1362 (by decide) ?_
  refine lv_bipush (v := (97 : Int32)) I.1.1 I.1.2.1 dX12_init_1363 (by decide) ?_
  obtain ⟨D27, e27, h⟩ := le1_ok h
  refine dr_cst I hR hv25 (by unfold vp_in; decide) e27 dX12_init_1365 (fun H locs hR => ?_)
  replace hn := (tq_I e27).1.trans hn
  replace hx := dr_o hx (tq_I e27).1 (tq_I e27).2
  replace hv25 := dr_o hv25 (tq_I e27).1 (tq_I e27).2
  refine lv_dup I.1.1 I.1.2.1 dX12_init_1366 rfl ?_
  refine lv_iconst (v := (2 : Int32)) I.1.1 I.1.2.1 dX12_init_1367 (by decide) ?_
  refine lv_bipush (v := (120 : Int32)) I.1.1 I.1.2.1 dX12_init_1368 (by decide) ?_
  obtain ⟨D28, e28, h⟩ := le1_ok h
  refine dr_cst I hR hv25 (by unfold vp_in; decide) e28 dX12_init_1370 (fun H locs hR => ?_)
  replace hn := (tq_I e28).1.trans hn
  replace hx := dr_o hx (tq_I e28).1 (tq_I e28).2
  replace hv25 := dr_o hv25 (tq_I e28).1 (tq_I e28).2
  obtain ⟨D29, e29, h⟩ := le1_ok h
  refine dr_putP (fun _ => ⟨rfl, rfl⟩) I cf12 fD_RX12_210 hR hx e29 dX12_init_1371 (fun H locs hR => ?_)
  replace hn := (tq_P e29).1.trans hn
  replace hx := dr_o hx (tq_P e29).1 (tq_P e29).2
  refine lv_aload_n I.1.1 I.1.2.1 dX12_init_1374 rfl (lv_at hl 0 rfl) ?_
  refine lv_iconst (v := (4 : Int32)) I.1.1 I.1.2.1 dX12_init_1375 (by decide) ?_
  obtain ⟨D30, e30, h⟩ := le1_ok h
  refine dr_newC (N := 4) I wA_char (by decide) rfl (by decide) hR hn (by omega) (Nat.zero_lt_of_lt hx.1) e30 (Nat.le_of_ble_eq_true rfl) (Nat.le_of_ble_eq_true rfl) dX12_init_1376 (fun H hR => ?_)
  replace hx := dr_oN hx e30
  have hv30 := dr_new1 hn e30
  replace hn := tq_N hn e30
  refine W.widen (k := 65) (n := 8179) (Nat.le_of_ble_eq_true rfl) (Nat.le_of_ble_eq_true rfl) ?_
  refine lv_dup I.1.1 I.1.2.1 dX12_init_1378 rfl ?_
  refine lv_iconst (v := (0 : Int32)) I.1.1 I.1.2.1 dX12_init_1379 (by decide) ?_
  refine lv_bipush (v := (108 : Int32)) I.1.1 I.1.2.1 dX12_init_1380 (by decide) ?_
  obtain ⟨D31, e31, h⟩ := le1_ok h
  refine dr_cst I hR hv30 (by unfold vp_in; decide) e31 dX12_init_1382 (fun H locs hR => ?_)
  replace hn := (tq_I e31).1.trans hn
  replace hx := dr_o hx (tq_I e31).1 (tq_I e31).2
  replace hv30 := dr_o hv30 (tq_I e31).1 (tq_I e31).2
  refine lv_dup I.1.1 I.1.2.1 dX12_init_1383 rfl ?_
  refine lv_iconst (v := (1 : Int32)) I.1.1 I.1.2.1 dX12_init_1384 (by decide) ?_
  refine lv_bipush (v := (111 : Int32)) I.1.1 I.1.2.1 dX12_init_1385 (by decide) ?_
  obtain ⟨D32, e32, h⟩ := le1_ok h
  refine dr_cst I hR hv30 (by unfold vp_in; decide) e32 dX12_init_1387 (fun H locs hR => ?_)
  replace hn := (tq_I e32).1.trans hn
  replace hx := dr_o hx (tq_I e32).1 (tq_I e32).2
  replace hv30 := dr_o hv30 (tq_I e32).1 (tq_I e32).2
  refine lv_dup I.1.1 I.1.2.1 dX12_init_1388 rfl ?_
  refine lv_iconst (v := (2 : Int32)) I.1.1 I.1.2.1 dX12_init_1389 (by decide) ?_
  refine lv_bipush (v := (111 : Int32)) I.1.1 I.1.2.1 dX12_init_1390 (by decide) ?_
  obtain ⟨D33, e33, h⟩ := le1_ok h
  refine dr_cst I hR hv30 (by unfold vp_in; decide) e33 dX12_init_1392 (fun H locs hR => ?_)
  replace hn := (tq_I e33).1.trans hn
  replace hx := dr_o hx (tq_I e33).1 (tq_I e33).2
  replace hv30 := dr_o hv30 (tq_I e33).1 (tq_I e33).2
  refine lv_dup I.1.1 I.1.2.1 dX12_init_1393 rfl ?_
  refine lv_iconst (v := (3 : Int32)) I.1.1 I.1.2.1 dX12_init_1394 (by decide) ?_
  refine lv_bipush (v := (107 : Int32)) I.1.1 I.1.2.1 dX12_init_1395 (by decide) ?_
  obtain ⟨D34, e34, h⟩ := le1_ok h
  refine dr_cst I hR hv30 (by unfold vp_in; decide) e34 dX12_init_1397 (fun H locs hR => ?_)
  replace hn := (tq_I e34).1.trans hn
  replace hx := dr_o hx (tq_I e34).1 (tq_I e34).2
  replace hv30 := dr_o hv30 (tq_I e34).1 (tq_I e34).2
  obtain ⟨D35, e35, h⟩ := le1_ok h
  refine dr_putP (fun _ => ⟨rfl, rfl⟩) I cf12 fD_RX12_213 hR hx e35 dX12_init_1398 (fun H locs hR => ?_)
  replace hn := (tq_P e35).1.trans hn
  replace hx := dr_o hx (tq_P e35).1 (tq_P e35).2
  refine lv_aload_n I.1.1 I.1.2.1 dX12_init_1401 rfl (lv_at hl 0 rfl) ?_
  refine lv_iconst (v := (5 : Int32)) I.1.1 I.1.2.1 dX12_init_1402 (by decide) ?_
  obtain ⟨D36, e36, h⟩ := le1_ok h
  refine dr_newC (N := 5) I wA_char (by decide) rfl (by decide) hR hn (by omega) (Nat.zero_lt_of_lt hx.1) e36 (Nat.le_of_ble_eq_true rfl) (Nat.le_of_ble_eq_true rfl) dX12_init_1403 (fun H hR => ?_)
  replace hx := dr_oN hx e36
  have hv36 := dr_new1 hn e36
  replace hn := tq_N hn e36
  refine W.widen (k := 66) (n := 8184) (Nat.le_of_ble_eq_true rfl) (Nat.le_of_ble_eq_true rfl) ?_
  refine lv_dup I.1.1 I.1.2.1 dX12_init_1405 rfl ?_
  refine lv_iconst (v := (0 : Int32)) I.1.1 I.1.2.1 dX12_init_1406 (by decide) ?_
  refine lv_bipush (v := (116 : Int32)) I.1.1 I.1.2.1 dX12_init_1407 (by decide) ?_
  obtain ⟨D37, e37, h⟩ := le1_ok h
  refine dr_cst I hR hv36 (by unfold vp_in; decide) e37 dX12_init_1409 (fun H locs hR => ?_)
  replace hn := (tq_I e37).1.trans hn
  replace hx := dr_o hx (tq_I e37).1 (tq_I e37).2
  replace hv36 := dr_o hv36 (tq_I e37).1 (tq_I e37).2
  refine lv_dup I.1.1 I.1.2.1 dX12_init_1410 rfl ?_
  refine lv_iconst (v := (1 : Int32)) I.1.1 I.1.2.1 dX12_init_1411 (by decide) ?_
  refine lv_bipush (v := (105 : Int32)) I.1.1 I.1.2.1 dX12_init_1412 (by decide) ?_
  obtain ⟨D38, e38, h⟩ := le1_ok h
  refine dr_cst I hR hv36 (by unfold vp_in; decide) e38 dX12_init_1414 (fun H locs hR => ?_)
  replace hn := (tq_I e38).1.trans hn
  replace hx := dr_o hx (tq_I e38).1 (tq_I e38).2
  replace hv36 := dr_o hv36 (tq_I e38).1 (tq_I e38).2
  refine lv_dup I.1.1 I.1.2.1 dX12_init_1415 rfl ?_
  refine lv_iconst (v := (2 : Int32)) I.1.1 I.1.2.1 dX12_init_1416 (by decide) ?_
  refine lv_bipush (v := (109 : Int32)) I.1.1 I.1.2.1 dX12_init_1417 (by decide) ?_
  obtain ⟨D39, e39, h⟩ := le1_ok h
  refine dr_cst I hR hv36 (by unfold vp_in; decide) e39 dX12_init_1419 (fun H locs hR => ?_)
  replace hn := (tq_I e39).1.trans hn
  replace hx := dr_o hx (tq_I e39).1 (tq_I e39).2
  replace hv36 := dr_o hv36 (tq_I e39).1 (tq_I e39).2
  refine lv_dup I.1.1 I.1.2.1 dX12_init_1420 rfl ?_
  refine lv_iconst (v := (3 : Int32)) I.1.1 I.1.2.1 dX12_init_1421 (by decide) ?_
  refine lv_bipush (v := (101 : Int32)) I.1.1 I.1.2.1 dX12_init_1422 (by decide) ?_
  obtain ⟨D40, e40, h⟩ := le1_ok h
  refine dr_cst I hR hv36 (by unfold vp_in; decide) e40 dX12_init_1424 (fun H locs hR => ?_)
  replace hn := (tq_I e40).1.trans hn
  replace hx := dr_o hx (tq_I e40).1 (tq_I e40).2
  replace hv36 := dr_o hv36 (tq_I e40).1 (tq_I e40).2
  refine lv_dup I.1.1 I.1.2.1 dX12_init_1425 rfl ?_
  refine lv_iconst (v := (4 : Int32)) I.1.1 I.1.2.1 dX12_init_1426 (by decide) ?_
  refine lv_bipush (v := (115 : Int32)) I.1.1 I.1.2.1 dX12_init_1427 (by decide) ?_
  obtain ⟨D41, e41, h⟩ := le1_ok h
  refine dr_cst I hR hv36 (by unfold vp_in; decide) e41 dX12_init_1429 (fun H locs hR => ?_)
  replace hn := (tq_I e41).1.trans hn
  replace hx := dr_o hx (tq_I e41).1 (tq_I e41).2
  replace hv36 := dr_o hv36 (tq_I e41).1 (tq_I e41).2
  obtain ⟨D42, e42, h⟩ := le1_ok h
  refine dr_putP (fun _ => ⟨rfl, rfl⟩) I cf12 fD_RX12_216 hR hx e42 dX12_init_1430 (fun H locs hR => ?_)
  replace hn := (tq_P e42).1.trans hn
  replace hx := dr_o hx (tq_P e42).1 (tq_P e42).2
  refine lv_aload_n I.1.1 I.1.2.1 dX12_init_1433 rfl (lv_at hl 0 rfl) ?_
  refine lv_iconst (v := (4 : Int32)) I.1.1 I.1.2.1 dX12_init_1434 (by decide) ?_
  obtain ⟨D43, e43, h⟩ := le1_ok h
  refine dr_newC (N := 4) I wA_char (by decide) rfl (by decide) hR hn (by omega) (Nat.zero_lt_of_lt hx.1) e43 (Nat.le_of_ble_eq_true rfl) (Nat.le_of_ble_eq_true rfl) dX12_init_1435 (fun H hR => ?_)
  replace hx := dr_oN hx e43
  have hv43 := dr_new1 hn e43
  replace hn := tq_N hn e43
  refine W.widen (k := 67) (n := 8188) (Nat.le_of_ble_eq_true rfl) (Nat.le_of_ble_eq_true rfl) ?_
  refine lv_dup I.1.1 I.1.2.1 dX12_init_1437 rfl ?_
  refine lv_iconst (v := (0 : Int32)) I.1.1 I.1.2.1 dX12_init_1438 (by decide) ?_
  refine lv_bipush (v := (121 : Int32)) I.1.1 I.1.2.1 dX12_init_1439 (by decide) ?_
  obtain ⟨D44, e44, h⟩ := le1_ok h
  refine dr_cst I hR hv43 (by unfold vp_in; decide) e44 dX12_init_1441 (fun H locs hR => ?_)
  replace hn := (tq_I e44).1.trans hn
  replace hx := dr_o hx (tq_I e44).1 (tq_I e44).2
  replace hv43 := dr_o hv43 (tq_I e44).1 (tq_I e44).2
  refine lv_dup I.1.1 I.1.2.1 dX12_init_1442 rfl ?_
  refine lv_iconst (v := (1 : Int32)) I.1.1 I.1.2.1 dX12_init_1443 (by decide) ?_
  refine lv_bipush (v := (101 : Int32)) I.1.1 I.1.2.1 dX12_init_1444 (by decide) ?_
  obtain ⟨D45, e45, h⟩ := le1_ok h
  refine dr_cst I hR hv43 (by unfold vp_in; decide) e45 dX12_init_1446 (fun H locs hR => ?_)
  replace hn := (tq_I e45).1.trans hn
  replace hx := dr_o hx (tq_I e45).1 (tq_I e45).2
  replace hv43 := dr_o hv43 (tq_I e45).1 (tq_I e45).2
  refine lv_dup I.1.1 I.1.2.1 dX12_init_1447 rfl ?_
  refine lv_iconst (v := (2 : Int32)) I.1.1 I.1.2.1 dX12_init_1448 (by decide) ?_
  refine lv_bipush (v := (97 : Int32)) I.1.1 I.1.2.1 dX12_init_1449 (by decide) ?_
  obtain ⟨D46, e46, h⟩ := le1_ok h
  refine dr_cst I hR hv43 (by unfold vp_in; decide) e46 dX12_init_1451 (fun H locs hR => ?_)
  replace hn := (tq_I e46).1.trans hn
  replace hx := dr_o hx (tq_I e46).1 (tq_I e46).2
  replace hv43 := dr_o hv43 (tq_I e46).1 (tq_I e46).2
  refine lv_dup I.1.1 I.1.2.1 dX12_init_1452 rfl ?_
  refine lv_iconst (v := (3 : Int32)) I.1.1 I.1.2.1 dX12_init_1453 (by decide) ?_
  refine lv_bipush (v := (114 : Int32)) I.1.1 I.1.2.1 dX12_init_1454 (by decide) ?_
  obtain ⟨D47, e47, h⟩ := le1_ok h
  refine dr_cst I hR hv43 (by unfold vp_in; decide) e47 dX12_init_1456 (fun H locs hR => ?_)
  replace hn := (tq_I e47).1.trans hn
  replace hx := dr_o hx (tq_I e47).1 (tq_I e47).2
  replace hv43 := dr_o hv43 (tq_I e47).1 (tq_I e47).2
  obtain ⟨D48, e48, h⟩ := le1_ok h
  refine dr_putP (fun _ => ⟨rfl, rfl⟩) I cf12 fD_RX12_219 hR hx e48 dX12_init_1457 (fun H locs hR => ?_)
  replace hn := (tq_P e48).1.trans hn
  replace hx := dr_o hx (tq_P e48).1 (tq_P e48).2
  exact wg_7 I _ r h hn hx _ _ _ hR hl
set_option maxRecDepth 100000 in
def fg_5 (x n : Nat) (D : Dp) : Option Dp :=
  le1 (dyN D 6 64) (fun D1 => le1 (dyP D1 x 69 (n + 50)) (fun D2 => le1 (dyN D2 4 2340) (fun D3 => le1 (dyP D3 x 71 (n + 51)) (fun D4 => le1 (dyJ D4 x 74 (1 : Int64)) (fun D5 => le1 (dyN D5 3 5) (fun D6 => le1 (dyI D6 (n + 52) 0 (vp_nar .char (102 : Int32))) (fun D7 => le1 (dyI D7 (n + 52) 1 (vp_nar .char (105 : Int32))) (fun D8 => le1 (dyI D8 (n + 52) 2 (vp_nar .char (114 : Int32))) (fun D9 => le1 (dyI D9 (n + 52) 3 (vp_nar .char (115 : Int32))) (fun D10 => le1 (dyI D10 (n + 52) 4 (vp_nar .char (116 : Int32))) (fun D11 => le1 (dyP D11 x 75 (n + 52)) (fun D12 => le1 (dyN D12 3 4) (fun D13 => le1 (dyI D13 (n + 53) 0 (vp_nar .char (108 : Int32))) (fun D14 => le1 (dyI D14 (n + 53) 1 (vp_nar .char (97 : Int32))) (fun D15 => le1 (dyI D15 (n + 53) 2 (vp_nar .char (115 : Int32))) (fun D16 => le1 (dyI D16 (n + 53) 3 (vp_nar .char (116 : Int32))) (fun D17 => le1 (dyP D17 x 76 (n + 53)) (fun D18 => le1 (dyN D18 3 5) (fun D19 => le1 (dyI D19 (n + 54) 0 (vp_nar .char (111 : Int32))) (fun D20 => le1 (dyI D20 (n + 54) 1 (vp_nar .char (102 : Int32))) (fun D21 => le1 (dyI D21 (n + 54) 2 (vp_nar .char (116 : Int32))) (fun D22 => le1 (dyI D22 (n + 54) 3 (vp_nar .char (101 : Int32))) (fun D23 => le1 (dyI D23 (n + 54) 4 (vp_nar .char (110 : Int32))) (fun D24 => le1 (dyP D24 x 77 (n + 54)) (fun D25 => le1 (dyN D25 3 5) (fun D26 => le1 (dyI D26 (n + 55) 0 (vp_nar .char (116 : Int32))) (fun D27 => le1 (dyI D27 (n + 55) 1 (vp_nar .char (111 : Int32))) (fun D28 => le1 (dyI D28 (n + 55) 2 (vp_nar .char (116 : Int32))) (fun D29 => le1 (dyI D29 (n + 55) 3 (vp_nar .char (97 : Int32))) (fun D30 => le1 (dyI D30 (n + 55) 4 (vp_nar .char (108 : Int32))) (fun D31 => le1 (dyP D31 x 78 (n + 55)) (fun D32 => le1 (dyN D32 3 4) (fun D33 => le1 (dyI D33 (n + 56) 0 (vp_nar .char (109 : Int32))) (fun D34 => le1 (dyI D34 (n + 56) 1 (vp_nar .char (111 : Int32))) (fun D35 => le1 (dyI D35 (n + 56) 2 (vp_nar .char (115 : Int32))) (fun D36 => le1 (dyI D36 (n + 56) 3 (vp_nar .char (116 : Int32))) (fun D37 => le1 (dyP D37 x 79 (n + 56)) (fun D38 => le1 (dyN D38 3 5) (fun D39 => le1 (dyI D39 (n + 57) 0 (vp_nar .char (108 : Int32))) (fun D40 => le1 (dyI D40 (n + 57) 1 (vp_nar .char (101 : Int32))) (fun D41 => le1 (dyI D41 (n + 57) 2 (vp_nar .char (97 : Int32))) (fun D42 => le1 (dyI D42 (n + 57) 3 (vp_nar .char (115 : Int32))) (fun D43 => le1 (dyI D43 (n + 57) 4 (vp_nar .char (116 : Int32))) (fun D44 => le1 (dyP D44 x 80 (n + 57)) (fun D45 => fg_6 x n D45)))))))))))))))))))))))))))))))))))))))))))))
set_option maxHeartbeats 4000000 in
set_option maxRecDepth 100000 in
theorem wg_5 {p : Program} {l : Launch} {e : Env} {s : State} {m : MethodId} {args : Array Value} {below : List Frame} {meth : Method} {c : Code} {B x n : Nat} {E : Ev} {ak av : Nat → Nat} (I : dy_I p s m args meth c RX12 cX12_init 1 B n ak av) (D r : Dp) (h : fg_5 x n D = some r) (hn : D.1 = (n + 50)) (hx : x < D.1 ∧ D.2.1 x = (1, 12)) (H : Heap) (locs : List Loc) (ls : Array Slot) (hR : dy_R B E s s.heap H locs D) (hl : lv_has ls 1 [(0, .ref (B + x))]) : W p l e (dy_rm 1 80 13380) s m args below meth c H locs 50 5726 (dy_Z B E below args s 80 13380 r) (F0 m 1043 ls []) := by
  unfold fg_5 at h
  refine lv_aload_n I.1.1 I.1.2.1 dX12_init_1043 rfl (lv_at hl 0 rfl) ?_
  refine lv_bipush (v := (64 : Int32)) I.1.1 I.1.2.1 dX12_init_1044 (by decide) ?_
  obtain ⟨D1, e1, h⟩ := le1_ok h
  refine dr_newZ (N := 64) I wA_boolean (by decide) rfl (by decide) hR hn (by omega) (Nat.zero_lt_of_lt hx.1) e1 (Nat.le_of_ble_eq_true rfl) (Nat.le_of_ble_eq_true rfl) dX12_init_1046 (fun H hR => ?_)
  replace hx := dr_oN hx e1
  replace hn := tq_N hn e1
  refine W.widen (k := 51) (n := 5790) (Nat.le_of_ble_eq_true rfl) (Nat.le_of_ble_eq_true rfl) ?_
  obtain ⟨D2, e2, h⟩ := le1_ok h
  refine dr_putP (fun _ => ⟨rfl, rfl⟩) I cf12 fD_RX12_166 hR hx e2 dX12_init_1048 (fun H locs hR => ?_)
  replace hn := (tq_P e2).1.trans hn
  replace hx := dr_o hx (tq_P e2).1 (tq_P e2).2
  refine lv_aload_n I.1.1 I.1.2.1 dX12_init_1051 rfl (lv_at hl 0 rfl) ?_
  refine lv_sipush (v := (2340 : Int32)) I.1.1 I.1.2.1 dX12_init_1052 (by decide) ?_
  obtain ⟨D3, e3, h⟩ := le1_ok h
  refine dr_newI (N := 2340) I wA_int (by decide) rfl (by decide) hR hn (by omega) (Nat.zero_lt_of_lt hx.1) e3 (Nat.le_of_ble_eq_true rfl) (Nat.le_of_ble_eq_true rfl) dX12_init_1055 (fun H hR => ?_)
  replace hx := dr_oN hx e3
  have hv3 := dr_new1 hn e3
  replace hn := tq_N hn e3
  refine W.widen (k := 52) (n := 8130) (Nat.le_of_ble_eq_true rfl) (Nat.le_of_ble_eq_true rfl) ?_
  obtain ⟨D4, e4, h⟩ := le1_ok h
  refine dr_putP (fun _ => ⟨rfl, rfl⟩) I cf12 fD_RX12_170 hR hx e4 dX12_init_1057 (fun H locs hR => ?_)
  replace hn := (tq_P e4).1.trans hn
  replace hx := dr_o hx (tq_P e4).1 (tq_P e4).2
  refine lv_aload_n I.1.1 I.1.2.1 dX12_init_1060 rfl (lv_at hl 0 rfl) ?_
  refine lv_lconst (v := (1 : Int64)) I.1.1 I.1.2.1 dX12_init_1061 (by decide) ?_
  obtain ⟨D5, e5, h⟩ := le1_ok h
  refine dr_putJ I cf12 fD_RX12_173 hR hx e5 dX12_init_1062 (fun H locs hR => ?_)
  replace hn := (tq_J e5).1.trans hn
  replace hx := dr_o hx (tq_J e5).1 (tq_J e5).2
  refine lv_aload_n I.1.1 I.1.2.1 dX12_init_1065 rfl (lv_at hl 0 rfl) ?_
  refine lv_iconst (v := (5 : Int32)) I.1.1 I.1.2.1 dX12_init_1066 (by decide) ?_
  obtain ⟨D6, e6, h⟩ := le1_ok h
  refine dr_newC (N := 5) I wA_char (by decide) rfl (by decide) hR hn (by omega) (Nat.zero_lt_of_lt hx.1) e6 (Nat.le_of_ble_eq_true rfl) (Nat.le_of_ble_eq_true rfl) dX12_init_1067 (fun H hR => ?_)
  replace hx := dr_oN hx e6
  have hv6 := dr_new1 hn e6
  replace hn := tq_N hn e6
  refine W.widen (k := 53) (n := 8135) (Nat.le_of_ble_eq_true rfl) (Nat.le_of_ble_eq_true rfl) ?_
  refine lv_dup I.1.1 I.1.2.1 dX12_init_1069 rfl ?_
  refine lv_iconst (v := (0 : Int32)) I.1.1 I.1.2.1 dX12_init_1070 (by decide) ?_
  refine lv_bipush (v := (102 : Int32)) I.1.1 I.1.2.1 dX12_init_1071 (by decide) ?_
  obtain ⟨D7, e7, h⟩ := le1_ok h
  refine dr_cst I hR hv6 (by unfold vp_in; decide) e7 dX12_init_1073 (fun H locs hR => ?_)
  replace hn := (tq_I e7).1.trans hn
  replace hx := dr_o hx (tq_I e7).1 (tq_I e7).2
  replace hv6 := dr_o hv6 (tq_I e7).1 (tq_I e7).2
  refine lv_dup I.1.1 I.1.2.1 dX12_init_1074 rfl ?_
  refine lv_iconst (v := (1 : Int32)) I.1.1 I.1.2.1 dX12_init_1075 (by decide) ?_
  refine lv_bipush (v := (105 : Int32)) I.1.1 I.1.2.1 dX12_init_1076 (by decide) ?_
  obtain ⟨D8, e8, h⟩ := le1_ok h
  refine dr_cst I hR hv6 (by unfold vp_in; decide) e8 dX12_init_1078 (fun H locs hR => ?_)
  replace hn := (tq_I e8).1.trans hn
  replace hx := dr_o hx (tq_I e8).1 (tq_I e8).2
  replace hv6 := dr_o hv6 (tq_I e8).1 (tq_I e8).2
  refine lv_dup I.1.1 I.1.2.1 dX12_init_1079 rfl ?_
  refine lv_iconst (v := (2 : Int32)) I.1.1 I.1.2.1 dX12_init_1080 (by decide) ?_
  refine lv_bipush (v := (114 : Int32)) I.1.1 I.1.2.1 dX12_init_1081 (by decide) ?_
  obtain ⟨D9, e9, h⟩ := le1_ok h
  refine dr_cst I hR hv6 (by unfold vp_in; decide) e9 dX12_init_1083 (fun H locs hR => ?_)
  replace hn := (tq_I e9).1.trans hn
  replace hx := dr_o hx (tq_I e9).1 (tq_I e9).2
  replace hv6 := dr_o hv6 (tq_I e9).1 (tq_I e9).2
  refine lv_dup I.1.1 I.1.2.1 dX12_init_1084 rfl ?_
  refine lv_iconst (v := (3 : Int32)) I.1.1 I.1.2.1 dX12_init_1085 (by decide) ?_
  refine lv_bipush (v := (115 : Int32)) I.1.1 I.1.2.1 dX12_init_1086 (by decide) ?_
  obtain ⟨D10, e10, h⟩ := le1_ok h
  refine dr_cst I hR hv6 (by unfold vp_in; decide) e10 dX12_init_1088 (fun H locs hR => ?_)
  replace hn := (tq_I e10).1.trans hn
  replace hx := dr_o hx (tq_I e10).1 (tq_I e10).2
  replace hv6 := dr_o hv6 (tq_I e10).1 (tq_I e10).2
  refine lv_dup I.1.1 I.1.2.1 dX12_init_1089 rfl ?_
  refine lv_iconst (v := (4 : Int32)) I.1.1 I.1.2.1 dX12_init_1090 (by decide) ?_
  refine lv_bipush (v := (116 : Int32)) I.1.1 I.1.2.1 dX12_init_1091 (by decide) ?_
  obtain ⟨D11, e11, h⟩ := le1_ok h
  refine dr_cst I hR hv6 (by unfold vp_in; decide) e11 dX12_init_1093 (fun H locs hR => ?_)
  replace hn := (tq_I e11).1.trans hn
  replace hx := dr_o hx (tq_I e11).1 (tq_I e11).2
  replace hv6 := dr_o hv6 (tq_I e11).1 (tq_I e11).2
  obtain ⟨D12, e12, h⟩ := le1_ok h
  refine dr_putP (fun _ => ⟨rfl, rfl⟩) I cf12 fD_RX12_177 hR hx e12 dX12_init_1094 (fun H locs hR => ?_)
  replace hn := (tq_P e12).1.trans hn
  replace hx := dr_o hx (tq_P e12).1 (tq_P e12).2
  refine lv_aload_n I.1.1 I.1.2.1 dX12_init_1097 rfl (lv_at hl 0 rfl) ?_
  refine lv_iconst (v := (4 : Int32)) I.1.1 I.1.2.1 dX12_init_1098 (by decide) ?_
  obtain ⟨D13, e13, h⟩ := le1_ok h
  refine dr_newC (N := 4) I wA_char (by decide) rfl (by decide) hR hn (by omega) (Nat.zero_lt_of_lt hx.1) e13 (Nat.le_of_ble_eq_true rfl) (Nat.le_of_ble_eq_true rfl) dX12_init_1099 (fun H hR => ?_)
  replace hx := dr_oN hx e13
  have hv13 := dr_new1 hn e13
  replace hn := tq_N hn e13
  refine W.widen (k := 54) (n := 8139) (Nat.le_of_ble_eq_true rfl) (Nat.le_of_ble_eq_true rfl) ?_
  refine lv_dup I.1.1 I.1.2.1 dX12_init_1101 rfl ?_
  refine lv_iconst (v := (0 : Int32)) I.1.1 I.1.2.1 dX12_init_1102 (by decide) ?_
  refine lv_bipush (v := (108 : Int32)) I.1.1 I.1.2.1 dX12_init_1103 (by decide) ?_
  obtain ⟨D14, e14, h⟩ := le1_ok h
  refine dr_cst I hR hv13 (by unfold vp_in; decide) e14 dX12_init_1105 (fun H locs hR => ?_)
  replace hn := (tq_I e14).1.trans hn
  replace hx := dr_o hx (tq_I e14).1 (tq_I e14).2
  replace hv13 := dr_o hv13 (tq_I e14).1 (tq_I e14).2
  refine lv_dup I.1.1 I.1.2.1 dX12_init_1106 rfl ?_
  refine lv_iconst (v := (1 : Int32)) I.1.1 I.1.2.1 dX12_init_1107 (by decide) ?_
  refine lv_bipush (v := (97 : Int32)) I.1.1 I.1.2.1 dX12_init_1108 (by decide) ?_
  obtain ⟨D15, e15, h⟩ := le1_ok h
  refine dr_cst I hR hv13 (by unfold vp_in; decide) e15 dX12_init_1110 (fun H locs hR => ?_)
  replace hn := (tq_I e15).1.trans hn
  replace hx := dr_o hx (tq_I e15).1 (tq_I e15).2
  replace hv13 := dr_o hv13 (tq_I e15).1 (tq_I e15).2
  refine lv_dup I.1.1 I.1.2.1 dX12_init_1111 rfl ?_
  refine lv_iconst (v := (2 : Int32)) I.1.1 I.1.2.1 dX12_init_1112 (by decide) ?_
  refine lv_bipush (v := (115 : Int32)) I.1.1 I.1.2.1 dX12_init_1113 (by decide) ?_
  obtain ⟨D16, e16, h⟩ := le1_ok h
  refine dr_cst I hR hv13 (by unfold vp_in; decide) e16 dX12_init_1115 (fun H locs hR => ?_)
  replace hn := (tq_I e16).1.trans hn
  replace hx := dr_o hx (tq_I e16).1 (tq_I e16).2
  replace hv13 := dr_o hv13 (tq_I e16).1 (tq_I e16).2
  refine lv_dup I.1.1 I.1.2.1 dX12_init_1116 rfl ?_
  refine lv_iconst (v := (3 : Int32)) I.1.1 I.1.2.1 dX12_init_1117 (by decide) ?_
  refine lv_bipush (v := (116 : Int32)) I.1.1 I.1.2.1 dX12_init_1118 (by decide) ?_
  obtain ⟨D17, e17, h⟩ := le1_ok h
  refine dr_cst I hR hv13 (by unfold vp_in; decide) e17 dX12_init_1120 (fun H locs hR => ?_)
  replace hn := (tq_I e17).1.trans hn
  replace hx := dr_o hx (tq_I e17).1 (tq_I e17).2
  replace hv13 := dr_o hv13 (tq_I e17).1 (tq_I e17).2
  obtain ⟨D18, e18, h⟩ := le1_ok h
  refine dr_putP (fun _ => ⟨rfl, rfl⟩) I cf12 fD_RX12_180 hR hx e18 dX12_init_1121 (fun H locs hR => ?_)
  replace hn := (tq_P e18).1.trans hn
  replace hx := dr_o hx (tq_P e18).1 (tq_P e18).2
  refine lv_aload_n I.1.1 I.1.2.1 dX12_init_1124 rfl (lv_at hl 0 rfl) ?_
  refine lv_iconst (v := (5 : Int32)) I.1.1 I.1.2.1 dX12_init_1125 (by decide) ?_
  obtain ⟨D19, e19, h⟩ := le1_ok h
  refine dr_newC (N := 5) I wA_char (by decide) rfl (by decide) hR hn (by omega) (Nat.zero_lt_of_lt hx.1) e19 (Nat.le_of_ble_eq_true rfl) (Nat.le_of_ble_eq_true rfl) dX12_init_1126 (fun H hR => ?_)
  replace hx := dr_oN hx e19
  have hv19 := dr_new1 hn e19
  replace hn := tq_N hn e19
  refine W.widen (k := 55) (n := 8144) (Nat.le_of_ble_eq_true rfl) (Nat.le_of_ble_eq_true rfl) ?_
  refine lv_dup I.1.1 I.1.2.1 dX12_init_1128 rfl ?_
  refine lv_iconst (v := (0 : Int32)) I.1.1 I.1.2.1 dX12_init_1129 (by decide) ?_
  refine lv_bipush (v := (111 : Int32)) I.1.1 I.1.2.1 dX12_init_1130 (by decide) ?_
  obtain ⟨D20, e20, h⟩ := le1_ok h
  refine dr_cst I hR hv19 (by unfold vp_in; decide) e20 dX12_init_1132 (fun H locs hR => ?_)
  replace hn := (tq_I e20).1.trans hn
  replace hx := dr_o hx (tq_I e20).1 (tq_I e20).2
  replace hv19 := dr_o hv19 (tq_I e20).1 (tq_I e20).2
  refine lv_dup I.1.1 I.1.2.1 dX12_init_1133 rfl ?_
  refine lv_iconst (v := (1 : Int32)) I.1.1 I.1.2.1 dX12_init_1134 (by decide) ?_
  refine lv_bipush (v := (102 : Int32)) I.1.1 I.1.2.1 dX12_init_1135 (by decide) ?_
  obtain ⟨D21, e21, h⟩ := le1_ok h
  refine dr_cst I hR hv19 (by unfold vp_in; decide) e21 dX12_init_1137 (fun H locs hR => ?_)
  replace hn := (tq_I e21).1.trans hn
  replace hx := dr_o hx (tq_I e21).1 (tq_I e21).2
  replace hv19 := dr_o hv19 (tq_I e21).1 (tq_I e21).2
  refine lv_dup I.1.1 I.1.2.1 dX12_init_1138 rfl ?_
  refine lv_iconst (v := (2 : Int32)) I.1.1 I.1.2.1 dX12_init_1139 (by decide) ?_
  refine lv_bipush (v := (116 : Int32)) I.1.1 I.1.2.1 dX12_init_1140 (by decide) ?_
  obtain ⟨D22, e22, h⟩ := le1_ok h
  refine dr_cst I hR hv19 (by unfold vp_in; decide) e22 dX12_init_1142 (fun H locs hR => ?_)
  replace hn := (tq_I e22).1.trans hn
  replace hx := dr_o hx (tq_I e22).1 (tq_I e22).2
  replace hv19 := dr_o hv19 (tq_I e22).1 (tq_I e22).2
  refine lv_dup I.1.1 I.1.2.1 dX12_init_1143 rfl ?_
  refine lv_iconst (v := (3 : Int32)) I.1.1 I.1.2.1 dX12_init_1144 (by decide) ?_
  refine lv_bipush (v := (101 : Int32)) I.1.1 I.1.2.1 dX12_init_1145 (by decide) ?_
  obtain ⟨D23, e23, h⟩ := le1_ok h
  refine dr_cst I hR hv19 (by unfold vp_in; decide) e23 dX12_init_1147 (fun H locs hR => ?_)
  replace hn := (tq_I e23).1.trans hn
  replace hx := dr_o hx (tq_I e23).1 (tq_I e23).2
  replace hv19 := dr_o hv19 (tq_I e23).1 (tq_I e23).2
  refine lv_dup I.1.1 I.1.2.1 dX12_init_1148 rfl ?_
  refine lv_iconst (v := (4 : Int32)) I.1.1 I.1.2.1 dX12_init_1149 (by decide) ?_
  refine lv_bipush (v := (110 : Int32)) I.1.1 I.1.2.1 dX12_init_1150 (by decide) ?_
  obtain ⟨D24, e24, h⟩ := le1_ok h
  refine dr_cst I hR hv19 (by unfold vp_in; decide) e24 dX12_init_1152 (fun H locs hR => ?_)
  replace hn := (tq_I e24).1.trans hn
  replace hx := dr_o hx (tq_I e24).1 (tq_I e24).2
  replace hv19 := dr_o hv19 (tq_I e24).1 (tq_I e24).2
  obtain ⟨D25, e25, h⟩ := le1_ok h
  refine dr_putP (fun _ => ⟨rfl, rfl⟩) I cf12 fD_RX12_183 hR hx e25 dX12_init_1153 (fun H locs hR => ?_)
  replace hn := (tq_P e25).1.trans hn
  replace hx := dr_o hx (tq_P e25).1 (tq_P e25).2
  refine lv_aload_n I.1.1 I.1.2.1 dX12_init_1156 rfl (lv_at hl 0 rfl) ?_
  refine lv_iconst (v := (5 : Int32)) I.1.1 I.1.2.1 dX12_init_1157 (by decide) ?_
  obtain ⟨D26, e26, h⟩ := le1_ok h
  refine dr_newC (N := 5) I wA_char (by decide) rfl (by decide) hR hn (by omega) (Nat.zero_lt_of_lt hx.1) e26 (Nat.le_of_ble_eq_true rfl) (Nat.le_of_ble_eq_true rfl) dX12_init_1158 (fun H hR => ?_)
  replace hx := dr_oN hx e26
  have hv26 := dr_new1 hn e26
  replace hn := tq_N hn e26
  refine W.widen (k := 56) (n := 8149) (Nat.le_of_ble_eq_true rfl) (Nat.le_of_ble_eq_true rfl) ?_
  refine lv_dup I.1.1 I.1.2.1 dX12_init_1160 rfl ?_
  refine lv_iconst (v := (0 : Int32)) I.1.1 I.1.2.1 dX12_init_1161 (by decide) ?_
  refine lv_bipush (v := (116 : Int32)) I.1.1 I.1.2.1 dX12_init_1162 (by decide) ?_
  obtain ⟨D27, e27, h⟩ := le1_ok h
  refine dr_cst I hR hv26 (by unfold vp_in; decide) e27 dX12_init_1164 (fun H locs hR => ?_)
  replace hn := (tq_I e27).1.trans hn
  replace hx := dr_o hx (tq_I e27).1 (tq_I e27).2
  replace hv26 := dr_o hv26 (tq_I e27).1 (tq_I e27).2
  refine lv_dup I.1.1 I.1.2.1 dX12_init_1165 rfl ?_
  refine lv_iconst (v := (1 : Int32)) I.1.1 I.1.2.1 dX12_init_1166 (by decide) ?_
  refine lv_bipush (v := (111 : Int32)) I.1.1 I.1.2.1 dX12_init_1167 (by decide) ?_
  obtain ⟨D28, e28, h⟩ := le1_ok h
  refine dr_cst I hR hv26 (by unfold vp_in; decide) e28 dX12_init_1169 (fun H locs hR => ?_)
  replace hn := (tq_I e28).1.trans hn
  replace hx := dr_o hx (tq_I e28).1 (tq_I e28).2
  replace hv26 := dr_o hv26 (tq_I e28).1 (tq_I e28).2
  refine lv_dup I.1.1 I.1.2.1 dX12_init_1170 rfl ?_
  refine lv_iconst (v := (2 : Int32)) I.1.1 I.1.2.1 dX12_init_1171 (by decide) ?_
  refine lv_bipush (v := (116 : Int32)) I.1.1 I.1.2.1 dX12_init_1172 (by decide) ?_
  obtain ⟨D29, e29, h⟩ := le1_ok h
  refine dr_cst I hR hv26 (by unfold vp_in; decide) e29 dX12_init_1174 (fun H locs hR => ?_)
  replace hn := (tq_I e29).1.trans hn
  replace hx := dr_o hx (tq_I e29).1 (tq_I e29).2
  replace hv26 := dr_o hv26 (tq_I e29).1 (tq_I e29).2
  refine lv_dup I.1.1 I.1.2.1 dX12_init_1175 rfl ?_
  refine lv_iconst (v := (3 : Int32)) I.1.1 I.1.2.1 dX12_init_1176 (by decide) ?_
  refine lv_bipush (v := (97 : Int32)) I.1.1 I.1.2.1 dX12_init_1177 (by decide) ?_
  obtain ⟨D30, e30, h⟩ := le1_ok h
  refine dr_cst I hR hv26 (by unfold vp_in; decide) e30 dX12_init_1179 (fun H locs hR => ?_)
  replace hn := (tq_I e30).1.trans hn
  replace hx := dr_o hx (tq_I e30).1 (tq_I e30).2
  replace hv26 := dr_o hv26 (tq_I e30).1 (tq_I e30).2
  refine lv_dup I.1.1 I.1.2.1 dX12_init_1180 rfl ?_
  refine lv_iconst (v := (4 : Int32)) I.1.1 I.1.2.1 dX12_init_1181 (by decide) ?_
  refine lv_bipush (v := (108 : Int32)) I.1.1 I.1.2.1 dX12_init_1182 (by decide) ?_
  obtain ⟨D31, e31, h⟩ := le1_ok h
  refine dr_cst I hR hv26 (by unfold vp_in; decide) e31 dX12_init_1184 (fun H locs hR => ?_)
  replace hn := (tq_I e31).1.trans hn
  replace hx := dr_o hx (tq_I e31).1 (tq_I e31).2
  replace hv26 := dr_o hv26 (tq_I e31).1 (tq_I e31).2
  obtain ⟨D32, e32, h⟩ := le1_ok h
  refine dr_putP (fun _ => ⟨rfl, rfl⟩) I cf12 fD_RX12_186 hR hx e32 dX12_init_1185 (fun H locs hR => ?_)
  replace hn := (tq_P e32).1.trans hn
  replace hx := dr_o hx (tq_P e32).1 (tq_P e32).2
  refine lv_aload_n I.1.1 I.1.2.1 dX12_init_1188 rfl (lv_at hl 0 rfl) ?_
  refine lv_iconst (v := (4 : Int32)) I.1.1 I.1.2.1 dX12_init_1189 (by decide) ?_
  obtain ⟨D33, e33, h⟩ := le1_ok h
  refine dr_newC (N := 4) I wA_char (by decide) rfl (by decide) hR hn (by omega) (Nat.zero_lt_of_lt hx.1) e33 (Nat.le_of_ble_eq_true rfl) (Nat.le_of_ble_eq_true rfl) dX12_init_1190 (fun H hR => ?_)
  replace hx := dr_oN hx e33
  have hv33 := dr_new1 hn e33
  replace hn := tq_N hn e33
  refine W.widen (k := 57) (n := 8153) (Nat.le_of_ble_eq_true rfl) (Nat.le_of_ble_eq_true rfl) ?_
  refine lv_dup I.1.1 I.1.2.1 dX12_init_1192 rfl ?_
  refine lv_iconst (v := (0 : Int32)) I.1.1 I.1.2.1 dX12_init_1193 (by decide) ?_
  refine lv_bipush (v := (109 : Int32)) I.1.1 I.1.2.1 dX12_init_1194 (by decide) ?_
  obtain ⟨D34, e34, h⟩ := le1_ok h
  refine dr_cst I hR hv33 (by unfold vp_in; decide) e34 dX12_init_1196 (fun H locs hR => ?_)
  replace hn := (tq_I e34).1.trans hn
  replace hx := dr_o hx (tq_I e34).1 (tq_I e34).2
  replace hv33 := dr_o hv33 (tq_I e34).1 (tq_I e34).2
  refine lv_dup I.1.1 I.1.2.1 dX12_init_1197 rfl ?_
  refine lv_iconst (v := (1 : Int32)) I.1.1 I.1.2.1 dX12_init_1198 (by decide) ?_
  refine lv_bipush (v := (111 : Int32)) I.1.1 I.1.2.1 dX12_init_1199 (by decide) ?_
  obtain ⟨D35, e35, h⟩ := le1_ok h
  refine dr_cst I hR hv33 (by unfold vp_in; decide) e35 dX12_init_1201 (fun H locs hR => ?_)
  replace hn := (tq_I e35).1.trans hn
  replace hx := dr_o hx (tq_I e35).1 (tq_I e35).2
  replace hv33 := dr_o hv33 (tq_I e35).1 (tq_I e35).2
  refine lv_dup I.1.1 I.1.2.1 dX12_init_1202 rfl ?_
  refine lv_iconst (v := (2 : Int32)) I.1.1 I.1.2.1 dX12_init_1203 (by decide) ?_
  refine lv_bipush (v := (115 : Int32)) I.1.1 I.1.2.1 dX12_init_1204 (by decide) ?_
  obtain ⟨D36, e36, h⟩ := le1_ok h
  refine dr_cst I hR hv33 (by unfold vp_in; decide) e36 dX12_init_1206 (fun H locs hR => ?_)
  replace hn := (tq_I e36).1.trans hn
  replace hx := dr_o hx (tq_I e36).1 (tq_I e36).2
  replace hv33 := dr_o hv33 (tq_I e36).1 (tq_I e36).2
  refine lv_dup I.1.1 I.1.2.1 dX12_init_1207 rfl ?_
  refine lv_iconst (v := (3 : Int32)) I.1.1 I.1.2.1 dX12_init_1208 (by decide) ?_
  refine lv_bipush (v := (116 : Int32)) I.1.1 I.1.2.1 dX12_init_1209 (by decide) ?_
  obtain ⟨D37, e37, h⟩ := le1_ok h
  refine dr_cst I hR hv33 (by unfold vp_in; decide) e37 dX12_init_1211 (fun H locs hR => ?_)
  replace hn := (tq_I e37).1.trans hn
  replace hx := dr_o hx (tq_I e37).1 (tq_I e37).2
  replace hv33 := dr_o hv33 (tq_I e37).1 (tq_I e37).2
  obtain ⟨D38, e38, h⟩ := le1_ok h
  refine dr_putP (fun _ => ⟨rfl, rfl⟩) I cf12 fD_RX12_189 hR hx e38 dX12_init_1212 (fun H locs hR => ?_)
  replace hn := (tq_P e38).1.trans hn
  replace hx := dr_o hx (tq_P e38).1 (tq_P e38).2
  refine lv_aload_n I.1.1 I.1.2.1 dX12_init_1215 rfl (lv_at hl 0 rfl) ?_
  refine lv_iconst (v := (5 : Int32)) I.1.1 I.1.2.1 dX12_init_1216 (by decide) ?_
  obtain ⟨D39, e39, h⟩ := le1_ok h
  refine dr_newC (N := 5) I wA_char (by decide) rfl (by decide) hR hn (by omega) (Nat.zero_lt_of_lt hx.1) e39 (Nat.le_of_ble_eq_true rfl) (Nat.le_of_ble_eq_true rfl) dX12_init_1217 (fun H hR => ?_)
  replace hx := dr_oN hx e39
  have hv39 := dr_new1 hn e39
  replace hn := tq_N hn e39
  refine W.widen (k := 58) (n := 8158) (Nat.le_of_ble_eq_true rfl) (Nat.le_of_ble_eq_true rfl) ?_
  refine lv_dup I.1.1 I.1.2.1 dX12_init_1219 rfl ?_
  refine lv_iconst (v := (0 : Int32)) I.1.1 I.1.2.1 dX12_init_1220 (by decide) ?_
  refine lv_bipush (v := (108 : Int32)) I.1.1 I.1.2.1 dX12_init_1221 (by decide) ?_
  obtain ⟨D40, e40, h⟩ := le1_ok h
  refine dr_cst I hR hv39 (by unfold vp_in; decide) e40 dX12_init_1223 (fun H locs hR => ?_)
  replace hn := (tq_I e40).1.trans hn
  replace hx := dr_o hx (tq_I e40).1 (tq_I e40).2
  replace hv39 := dr_o hv39 (tq_I e40).1 (tq_I e40).2
  refine lv_dup I.1.1 I.1.2.1 dX12_init_1224 rfl ?_
  refine lv_iconst (v := (1 : Int32)) I.1.1 I.1.2.1 dX12_init_1225 (by decide) ?_
  refine lv_bipush (v := (101 : Int32)) I.1.1 I.1.2.1 dX12_init_1226 (by decide) ?_
  obtain ⟨D41, e41, h⟩ := le1_ok h
  refine dr_cst I hR hv39 (by unfold vp_in; decide) e41 dX12_init_1228 (fun H locs hR => ?_)
  replace hn := (tq_I e41).1.trans hn
  replace hx := dr_o hx (tq_I e41).1 (tq_I e41).2
  replace hv39 := dr_o hv39 (tq_I e41).1 (tq_I e41).2
  refine lv_dup I.1.1 I.1.2.1 dX12_init_1229 rfl ?_
  refine lv_iconst (v := (2 : Int32)) I.1.1 I.1.2.1 dX12_init_1230 (by decide) ?_
  refine lv_bipush (v := (97 : Int32)) I.1.1 I.1.2.1 dX12_init_1231 (by decide) ?_
  obtain ⟨D42, e42, h⟩ := le1_ok h
  refine dr_cst I hR hv39 (by unfold vp_in; decide) e42 dX12_init_1233 (fun H locs hR => ?_)
  replace hn := (tq_I e42).1.trans hn
  replace hx := dr_o hx (tq_I e42).1 (tq_I e42).2
  replace hv39 := dr_o hv39 (tq_I e42).1 (tq_I e42).2
  refine lv_dup I.1.1 I.1.2.1 dX12_init_1234 rfl ?_
  refine lv_iconst (v := (3 : Int32)) I.1.1 I.1.2.1 dX12_init_1235 (by decide) ?_
  refine lv_bipush (v := (115 : Int32)) I.1.1 I.1.2.1 dX12_init_1236 (by decide) ?_
  obtain ⟨D43, e43, h⟩ := le1_ok h
  refine dr_cst I hR hv39 (by unfold vp_in; decide) e43 dX12_init_1238 (fun H locs hR => ?_)
  replace hn := (tq_I e43).1.trans hn
  replace hx := dr_o hx (tq_I e43).1 (tq_I e43).2
  replace hv39 := dr_o hv39 (tq_I e43).1 (tq_I e43).2
  refine lv_dup I.1.1 I.1.2.1 dX12_init_1239 rfl ?_
  refine lv_iconst (v := (4 : Int32)) I.1.1 I.1.2.1 dX12_init_1240 (by decide) ?_
  refine lv_bipush (v := (116 : Int32)) I.1.1 I.1.2.1 dX12_init_1241 (by decide) ?_
  obtain ⟨D44, e44, h⟩ := le1_ok h
  refine dr_cst I hR hv39 (by unfold vp_in; decide) e44 dX12_init_1243 (fun H locs hR => ?_)
  replace hn := (tq_I e44).1.trans hn
  replace hx := dr_o hx (tq_I e44).1 (tq_I e44).2
  replace hv39 := dr_o hv39 (tq_I e44).1 (tq_I e44).2
  obtain ⟨D45, e45, h⟩ := le1_ok h
  refine dr_putP (fun _ => ⟨rfl, rfl⟩) I cf12 fD_RX12_192 hR hx e45 dX12_init_1244 (fun H locs hR => ?_)
  replace hn := (tq_P e45).1.trans hn
  replace hx := dr_o hx (tq_P e45).1 (tq_P e45).2
  exact wg_6 I _ r h hn hx _ _ _ hR hl
set_option maxRecDepth 100000 in
def fg_4 (x n : Nat) (D : Dp) : Option Dp :=
  le1 (dyN D 4 6) (fun D1 => le1 (dyP D1 x 40 (n + 31)) (fun D2 => le1 (dyN D2 5 36) (fun D3 => le1 (dyP D3 x 41 (n + 32)) (fun D4 => le1 (dyN D4 4 6) (fun D5 => le1 (dyP D5 x 42 (n + 33)) (fun D6 => le1 (dyN D6 4 24) (fun D7 => le1 (dyP D7 x 43 (n + 34)) (fun D8 => le1 (dyN D8 4 36) (fun D9 => le1 (dyP D9 x 44 (n + 35)) (fun D10 => le1 (dyN D10 4 20) (fun D11 => le1 (dyP D11 x 45 (n + 36)) (fun D12 => le1 (dyN D12 4 4) (fun D13 => le1 (dyI D13 (n + 37) 0 (50 : Int32)) (fun D14 => le1 (dyI D14 (n + 37) 1 (0 : Int32)) (fun D15 => le1 (dyI D15 (n + 37) 2 (50 : Int32)) (fun D16 => le1 (dyI D16 (n + 37) 3 (0 : Int32)) (fun D17 => le1 (dyP D17 x 46 (n + 37)) (fun D18 => le1 (dyN D18 4 4) (fun D19 => le1 (dyI D19 (n + 38) 0 (-1 : Int32)) (fun D20 => le1 (dyI D20 (n + 38) 1 (-1 : Int32)) (fun D21 => le1 (dyI D21 (n + 38) 2 (-1 : Int32)) (fun D22 => le1 (dyI D22 (n + 38) 3 (-1 : Int32)) (fun D23 => le1 (dyP D23 x 47 (n + 38)) (fun D24 => le1 (dyN D24 4 4) (fun D25 => le1 (dyP D25 x 48 (n + 39)) (fun D26 => le1 (dyN D26 4 3200) (fun D27 => le1 (dyP D27 x 49 (n + 40)) (fun D28 => le1 (dyN D28 4 117) (fun D29 => le1 (dyP D29 x 54 (n + 41)) (fun D30 => le1 (dyN D30 4 26) (fun D31 => le1 (dyP D31 x 55 (n + 42)) (fun D32 => le1 (dyN D32 4 36) (fun D33 => le1 (dyP D33 x 58 (n + 43)) (fun D34 => le1 (dyN D34 4 6) (fun D35 => le1 (dyP D35 x 59 (n + 44)) (fun D36 => le1 (dyN D36 4 6) (fun D37 => le1 (dyP D37 x 60 (n + 45)) (fun D38 => le1 (dyN D38 4 6) (fun D39 => le1 (dyP D39 x 61 (n + 46)) (fun D40 => le1 (dyN D40 4 26) (fun D41 => le1 (dyP D41 x 65 (n + 47)) (fun D42 => le1 (dyN D42 4 48) (fun D43 => le1 (dyP D43 x 67 (n + 48)) (fun D44 => le1 (dyN D44 4 384) (fun D45 => le1 (dyP D45 x 68 (n + 49)) (fun D46 => fg_5 x n D46))))))))))))))))))))))))))))))))))))))))))))))
set_option maxHeartbeats 4000000 in
set_option maxRecDepth 100000 in
theorem wg_4 {p : Program} {l : Launch} {e : Env} {s : State} {m : MethodId} {args : Array Value} {below : List Frame} {meth : Method} {c : Code} {B x n : Nat} {E : Ev} {ak av : Nat → Nat} (I : dy_I p s m args meth c RX12 cX12_init 1 B n ak av) (D r : Dp) (h : fg_4 x n D = some r) (hn : D.1 = (n + 31)) (hx : x < D.1 ∧ D.2.1 x = (1, 12)) (H : Heap) (locs : List Loc) (ls : Array Slot) (hR : dy_R B E s s.heap H locs D) (hl : lv_has ls 1 [(0, .ref (B + x))]) : W p l e (dy_rm 1 80 13380) s m args below meth c H locs 31 1731 (dy_Z B E below args s 80 13380 r) (F0 m 858 ls []) := by
  unfold fg_4 at h
  refine lv_aload_n I.1.1 I.1.2.1 dX12_init_858 rfl (lv_at hl 0 rfl) ?_
  refine lv_bipush (v := (6 : Int32)) I.1.1 I.1.2.1 dX12_init_859 (by decide) ?_
  obtain ⟨D1, e1, h⟩ := le1_ok h
  refine dr_newI (N := 6) I wA_int (by decide) rfl (by decide) hR hn (by omega) (Nat.zero_lt_of_lt hx.1) e1 (Nat.le_of_ble_eq_true rfl) (Nat.le_of_ble_eq_true rfl) dX12_init_861 (fun H hR => ?_)
  replace hx := dr_oN hx e1
  have hv1 := dr_new1 hn e1
  replace hn := tq_N hn e1
  refine W.widen (k := 32) (n := 1737) (Nat.le_of_ble_eq_true rfl) (Nat.le_of_ble_eq_true rfl) ?_
  obtain ⟨D2, e2, h⟩ := le1_ok h
  refine dr_putP (fun _ => ⟨rfl, rfl⟩) I cf12 fD_RX12_108 hR hx e2 dX12_init_863 (fun H locs hR => ?_)
  replace hn := (tq_P e2).1.trans hn
  replace hx := dr_o hx (tq_P e2).1 (tq_P e2).2
  refine lv_aload_n I.1.1 I.1.2.1 dX12_init_866 rfl (lv_at hl 0 rfl) ?_
  refine lv_bipush (v := (36 : Int32)) I.1.1 I.1.2.1 dX12_init_867 (by decide) ?_
  obtain ⟨D3, e3, h⟩ := le1_ok h
  refine dr_newL (N := 36) I wA_long (by decide) rfl (by decide) hR hn (by omega) (Nat.zero_lt_of_lt hx.1) e3 (Nat.le_of_ble_eq_true rfl) (Nat.le_of_ble_eq_true rfl) dX12_init_869 (fun H hR => ?_)
  replace hx := dr_oN hx e3
  replace hn := tq_N hn e3
  refine W.widen (k := 33) (n := 1773) (Nat.le_of_ble_eq_true rfl) (Nat.le_of_ble_eq_true rfl) ?_
  obtain ⟨D4, e4, h⟩ := le1_ok h
  refine dr_putP (fun _ => ⟨rfl, rfl⟩) I cf12 fD_RX12_111 hR hx e4 dX12_init_871 (fun H locs hR => ?_)
  replace hn := (tq_P e4).1.trans hn
  replace hx := dr_o hx (tq_P e4).1 (tq_P e4).2
  refine lv_aload_n I.1.1 I.1.2.1 dX12_init_874 rfl (lv_at hl 0 rfl) ?_
  refine lv_bipush (v := (6 : Int32)) I.1.1 I.1.2.1 dX12_init_875 (by decide) ?_
  obtain ⟨D5, e5, h⟩ := le1_ok h
  refine dr_newI (N := 6) I wA_int (by decide) rfl (by decide) hR hn (by omega) (Nat.zero_lt_of_lt hx.1) e5 (Nat.le_of_ble_eq_true rfl) (Nat.le_of_ble_eq_true rfl) dX12_init_877 (fun H hR => ?_)
  replace hx := dr_oN hx e5
  have hv5 := dr_new1 hn e5
  replace hn := tq_N hn e5
  refine W.widen (k := 34) (n := 1779) (Nat.le_of_ble_eq_true rfl) (Nat.le_of_ble_eq_true rfl) ?_
  obtain ⟨D6, e6, h⟩ := le1_ok h
  refine dr_putP (fun _ => ⟨rfl, rfl⟩) I cf12 fD_RX12_115 hR hx e6 dX12_init_879 (fun H locs hR => ?_)
  replace hn := (tq_P e6).1.trans hn
  replace hx := dr_o hx (tq_P e6).1 (tq_P e6).2
  refine lv_aload_n I.1.1 I.1.2.1 dX12_init_882 rfl (lv_at hl 0 rfl) ?_
  refine lv_bipush (v := (24 : Int32)) I.1.1 I.1.2.1 dX12_init_883 (by decide) ?_
  obtain ⟨D7, e7, h⟩ := le1_ok h
  refine dr_newI (N := 24) I wA_int (by decide) rfl (by decide) hR hn (by omega) (Nat.zero_lt_of_lt hx.1) e7 (Nat.le_of_ble_eq_true rfl) (Nat.le_of_ble_eq_true rfl) dX12_init_885 (fun H hR => ?_)
  replace hx := dr_oN hx e7
  have hv7 := dr_new1 hn e7
  replace hn := tq_N hn e7
  refine W.widen (k := 35) (n := 1803) (Nat.le_of_ble_eq_true rfl) (Nat.le_of_ble_eq_true rfl) ?_
  obtain ⟨D8, e8, h⟩ := le1_ok h
  refine dr_putP (fun _ => ⟨rfl, rfl⟩) I cf12 fD_RX12_118 hR hx e8 dX12_init_887 (fun H locs hR => ?_)
  replace hn := (tq_P e8).1.trans hn
  replace hx := dr_o hx (tq_P e8).1 (tq_P e8).2
  refine lv_aload_n I.1.1 I.1.2.1 dX12_init_890 rfl (lv_at hl 0 rfl) ?_
  refine lv_bipush (v := (36 : Int32)) I.1.1 I.1.2.1 dX12_init_891 (by decide) ?_
  obtain ⟨D9, e9, h⟩ := le1_ok h
  refine dr_newI (N := 36) I wA_int (by decide) rfl (by decide) hR hn (by omega) (Nat.zero_lt_of_lt hx.1) e9 (Nat.le_of_ble_eq_true rfl) (Nat.le_of_ble_eq_true rfl) dX12_init_893 (fun H hR => ?_)
  replace hx := dr_oN hx e9
  have hv9 := dr_new1 hn e9
  replace hn := tq_N hn e9
  refine W.widen (k := 36) (n := 1839) (Nat.le_of_ble_eq_true rfl) (Nat.le_of_ble_eq_true rfl) ?_
  obtain ⟨D10, e10, h⟩ := le1_ok h
  refine dr_putP (fun _ => ⟨rfl, rfl⟩) I cf12 fD_RX12_121 hR hx e10 dX12_init_895 (fun H locs hR => ?_)
  replace hn := (tq_P e10).1.trans hn
  replace hx := dr_o hx (tq_P e10).1 (tq_P e10).2
  refine lv_aload_n I.1.1 I.1.2.1 dX12_init_898 rfl (lv_at hl 0 rfl) ?_
  refine lv_bipush (v := (20 : Int32)) I.1.1 I.1.2.1 dX12_init_899 (by decide) ?_
  obtain ⟨D11, e11, h⟩ := le1_ok h
  refine dr_newI (N := 20) I wA_int (by decide) rfl (by decide) hR hn (by omega) (Nat.zero_lt_of_lt hx.1) e11 (Nat.le_of_ble_eq_true rfl) (Nat.le_of_ble_eq_true rfl) dX12_init_901 (fun H hR => ?_)
  replace hx := dr_oN hx e11
  have hv11 := dr_new1 hn e11
  replace hn := tq_N hn e11
  refine W.widen (k := 37) (n := 1859) (Nat.le_of_ble_eq_true rfl) (Nat.le_of_ble_eq_true rfl) ?_
  obtain ⟨D12, e12, h⟩ := le1_ok h
  refine dr_putP (fun _ => ⟨rfl, rfl⟩) I cf12 fD_RX12_124 hR hx e12 dX12_init_903 (fun H locs hR => ?_)
  replace hn := (tq_P e12).1.trans hn
  replace hx := dr_o hx (tq_P e12).1 (tq_P e12).2
  refine lv_aload_n I.1.1 I.1.2.1 dX12_init_906 rfl (lv_at hl 0 rfl) ?_
  refine lv_iconst (v := (4 : Int32)) I.1.1 I.1.2.1 dX12_init_907 (by decide) ?_
  obtain ⟨D13, e13, h⟩ := le1_ok h
  refine dr_newI (N := 4) I wA_int (by decide) rfl (by decide) hR hn (by omega) (Nat.zero_lt_of_lt hx.1) e13 (Nat.le_of_ble_eq_true rfl) (Nat.le_of_ble_eq_true rfl) dX12_init_908 (fun H hR => ?_)
  replace hx := dr_oN hx e13
  have hv13 := dr_new1 hn e13
  replace hn := tq_N hn e13
  refine W.widen (k := 38) (n := 1863) (Nat.le_of_ble_eq_true rfl) (Nat.le_of_ble_eq_true rfl) ?_
  refine lv_dup I.1.1 I.1.2.1 dX12_init_910 rfl ?_
  refine lv_iconst (v := (0 : Int32)) I.1.1 I.1.2.1 dX12_init_911 (by decide) ?_
  refine lv_bipush (v := (50 : Int32)) I.1.1 I.1.2.1 dX12_init_912 (by decide) ?_
  obtain ⟨D14, e14, h⟩ := le1_ok h
  refine dr_ist I hR hv13 (by unfold vp_in; decide) e14 dX12_init_914 (fun H locs hR => ?_)
  replace hn := (tq_I e14).1.trans hn
  replace hx := dr_o hx (tq_I e14).1 (tq_I e14).2
  replace hv13 := dr_o hv13 (tq_I e14).1 (tq_I e14).2
  refine lv_dup I.1.1 I.1.2.1 dX12_init_915 rfl ?_
  refine lv_iconst (v := (1 : Int32)) I.1.1 I.1.2.1 dX12_init_916 (by decide) ?_
  refine lv_iconst (v := (0 : Int32)) I.1.1 I.1.2.1 dX12_init_917 (by decide) ?_
  obtain ⟨D15, e15, h⟩ := le1_ok h
  refine dr_ist I hR hv13 (by unfold vp_in; decide) e15 dX12_init_918 (fun H locs hR => ?_)
  replace hn := (tq_I e15).1.trans hn
  replace hx := dr_o hx (tq_I e15).1 (tq_I e15).2
  replace hv13 := dr_o hv13 (tq_I e15).1 (tq_I e15).2
  refine lv_dup I.1.1 I.1.2.1 dX12_init_919 rfl ?_
  refine lv_iconst (v := (2 : Int32)) I.1.1 I.1.2.1 dX12_init_920 (by decide) ?_
  refine lv_bipush (v := (50 : Int32)) I.1.1 I.1.2.1 dX12_init_921 (by decide) ?_
  obtain ⟨D16, e16, h⟩ := le1_ok h
  refine dr_ist I hR hv13 (by unfold vp_in; decide) e16 dX12_init_923 (fun H locs hR => ?_)
  replace hn := (tq_I e16).1.trans hn
  replace hx := dr_o hx (tq_I e16).1 (tq_I e16).2
  replace hv13 := dr_o hv13 (tq_I e16).1 (tq_I e16).2
  refine lv_dup I.1.1 I.1.2.1 dX12_init_924 rfl ?_
  refine lv_iconst (v := (3 : Int32)) I.1.1 I.1.2.1 dX12_init_925 (by decide) ?_
  refine lv_iconst (v := (0 : Int32)) I.1.1 I.1.2.1 dX12_init_926 (by decide) ?_
  obtain ⟨D17, e17, h⟩ := le1_ok h
  refine dr_ist I hR hv13 (by unfold vp_in; decide) e17 dX12_init_927 (fun H locs hR => ?_)
  replace hn := (tq_I e17).1.trans hn
  replace hx := dr_o hx (tq_I e17).1 (tq_I e17).2
  replace hv13 := dr_o hv13 (tq_I e17).1 (tq_I e17).2
  obtain ⟨D18, e18, h⟩ := le1_ok h
  refine dr_putP (fun _ => ⟨rfl, rfl⟩) I cf12 fD_RX12_127 hR hx e18 dX12_init_928 (fun H locs hR => ?_)
  replace hn := (tq_P e18).1.trans hn
  replace hx := dr_o hx (tq_P e18).1 (tq_P e18).2
  refine lv_aload_n I.1.1 I.1.2.1 dX12_init_931 rfl (lv_at hl 0 rfl) ?_
  refine lv_iconst (v := (4 : Int32)) I.1.1 I.1.2.1 dX12_init_932 (by decide) ?_
  obtain ⟨D19, e19, h⟩ := le1_ok h
  refine dr_newI (N := 4) I wA_int (by decide) rfl (by decide) hR hn (by omega) (Nat.zero_lt_of_lt hx.1) e19 (Nat.le_of_ble_eq_true rfl) (Nat.le_of_ble_eq_true rfl) dX12_init_933 (fun H hR => ?_)
  replace hx := dr_oN hx e19
  have hv19 := dr_new1 hn e19
  replace hn := tq_N hn e19
  refine W.widen (k := 39) (n := 1867) (Nat.le_of_ble_eq_true rfl) (Nat.le_of_ble_eq_true rfl) ?_
  refine lv_dup I.1.1 I.1.2.1 dX12_init_935 rfl ?_
  refine lv_iconst (v := (0 : Int32)) I.1.1 I.1.2.1 dX12_init_936 (by decide) ?_
  refine lv_iconst (v := (-1 : Int32)) I.1.1 I.1.2.1 dX12_init_937 (by decide) ?_
  obtain ⟨D20, e20, h⟩ := le1_ok h
  refine dr_ist I hR hv19 (by unfold vp_in; decide) e20 dX12_init_938 (fun H locs hR => ?_)
  replace hn := (tq_I e20).1.trans hn
  replace hx := dr_o hx (tq_I e20).1 (tq_I e20).2
  replace hv19 := dr_o hv19 (tq_I e20).1 (tq_I e20).2
  refine lv_dup I.1.1 I.1.2.1 dX12_init_939 rfl ?_
  refine lv_iconst (v := (1 : Int32)) I.1.1 I.1.2.1 dX12_init_940 (by decide) ?_
  refine lv_iconst (v := (-1 : Int32)) I.1.1 I.1.2.1 dX12_init_941 (by decide) ?_
  obtain ⟨D21, e21, h⟩ := le1_ok h
  refine dr_ist I hR hv19 (by unfold vp_in; decide) e21 dX12_init_942 (fun H locs hR => ?_)
  replace hn := (tq_I e21).1.trans hn
  replace hx := dr_o hx (tq_I e21).1 (tq_I e21).2
  replace hv19 := dr_o hv19 (tq_I e21).1 (tq_I e21).2
  refine lv_dup I.1.1 I.1.2.1 dX12_init_943 rfl ?_
  refine lv_iconst (v := (2 : Int32)) I.1.1 I.1.2.1 dX12_init_944 (by decide) ?_
  refine lv_iconst (v := (-1 : Int32)) I.1.1 I.1.2.1 dX12_init_945 (by decide) ?_
  obtain ⟨D22, e22, h⟩ := le1_ok h
  refine dr_ist I hR hv19 (by unfold vp_in; decide) e22 dX12_init_946 (fun H locs hR => ?_)
  replace hn := (tq_I e22).1.trans hn
  replace hx := dr_o hx (tq_I e22).1 (tq_I e22).2
  replace hv19 := dr_o hv19 (tq_I e22).1 (tq_I e22).2
  refine lv_dup I.1.1 I.1.2.1 dX12_init_947 rfl ?_
  refine lv_iconst (v := (3 : Int32)) I.1.1 I.1.2.1 dX12_init_948 (by decide) ?_
  refine lv_iconst (v := (-1 : Int32)) I.1.1 I.1.2.1 dX12_init_949 (by decide) ?_
  obtain ⟨D23, e23, h⟩ := le1_ok h
  refine dr_ist I hR hv19 (by unfold vp_in; decide) e23 dX12_init_950 (fun H locs hR => ?_)
  replace hn := (tq_I e23).1.trans hn
  replace hx := dr_o hx (tq_I e23).1 (tq_I e23).2
  replace hv19 := dr_o hv19 (tq_I e23).1 (tq_I e23).2
  obtain ⟨D24, e24, h⟩ := le1_ok h
  refine dr_putP (fun _ => ⟨rfl, rfl⟩) I cf12 fD_RX12_130 hR hx e24 dX12_init_951 (fun H locs hR => ?_)
  replace hn := (tq_P e24).1.trans hn
  replace hx := dr_o hx (tq_P e24).1 (tq_P e24).2
  refine lv_aload_n I.1.1 I.1.2.1 dX12_init_954 rfl (lv_at hl 0 rfl) ?_
  refine lv_iconst (v := (4 : Int32)) I.1.1 I.1.2.1 dX12_init_955 (by decide) ?_
  obtain ⟨D25, e25, h⟩ := le1_ok h
  refine dr_newI (N := 4) I wA_int (by decide) rfl (by decide) hR hn (by omega) (Nat.zero_lt_of_lt hx.1) e25 (Nat.le_of_ble_eq_true rfl) (Nat.le_of_ble_eq_true rfl) dX12_init_956 (fun H hR => ?_)
  replace hx := dr_oN hx e25
  have hv25 := dr_new1 hn e25
  replace hn := tq_N hn e25
  refine W.widen (k := 40) (n := 1871) (Nat.le_of_ble_eq_true rfl) (Nat.le_of_ble_eq_true rfl) ?_
  obtain ⟨D26, e26, h⟩ := le1_ok h
  refine dr_putP (fun _ => ⟨rfl, rfl⟩) I cf12 fD_RX12_133 hR hx e26 dX12_init_958 (fun H locs hR => ?_)
  replace hn := (tq_P e26).1.trans hn
  replace hx := dr_o hx (tq_P e26).1 (tq_P e26).2
  refine lv_aload_n I.1.1 I.1.2.1 dX12_init_961 rfl (lv_at hl 0 rfl) ?_
  refine lv_sipush (v := (3200 : Int32)) I.1.1 I.1.2.1 dX12_init_962 (by decide) ?_
  obtain ⟨D27, e27, h⟩ := le1_ok h
  refine dr_newI (N := 3200) I wA_int (by decide) rfl (by decide) hR hn (by omega) (Nat.zero_lt_of_lt hx.1) e27 (Nat.le_of_ble_eq_true rfl) (Nat.le_of_ble_eq_true rfl) dX12_init_965 (fun H hR => ?_)
  replace hx := dr_oN hx e27
  have hv27 := dr_new1 hn e27
  replace hn := tq_N hn e27
  refine W.widen (k := 41) (n := 5071) (Nat.le_of_ble_eq_true rfl) (Nat.le_of_ble_eq_true rfl) ?_
  obtain ⟨D28, e28, h⟩ := le1_ok h
  refine dr_putP (fun _ => ⟨rfl, rfl⟩) I cf12 fD_RX12_136 hR hx e28 dX12_init_967 (fun H locs hR => ?_)
  replace hn := (tq_P e28).1.trans hn
  replace hx := dr_o hx (tq_P e28).1 (tq_P e28).2
  refine lv_aload_n I.1.1 I.1.2.1 dX12_init_970 rfl (lv_at hl 0 rfl) ?_
  refine lv_bipush (v := (117 : Int32)) I.1.1 I.1.2.1 dX12_init_971 (by decide) ?_
  obtain ⟨D29, e29, h⟩ := le1_ok h
  refine dr_newI (N := 117) I wA_int (by decide) rfl (by decide) hR hn (by omega) (Nat.zero_lt_of_lt hx.1) e29 (Nat.le_of_ble_eq_true rfl) (Nat.le_of_ble_eq_true rfl) dX12_init_973 (fun H hR => ?_)
  replace hx := dr_oN hx e29
  have hv29 := dr_new1 hn e29
  replace hn := tq_N hn e29
  refine W.widen (k := 42) (n := 5188) (Nat.le_of_ble_eq_true rfl) (Nat.le_of_ble_eq_true rfl) ?_
  obtain ⟨D30, e30, h⟩ := le1_ok h
  refine dr_putP (fun _ => ⟨rfl, rfl⟩) I cf12 fD_RX12_139 hR hx e30 dX12_init_975 (fun H locs hR => ?_)
  replace hn := (tq_P e30).1.trans hn
  replace hx := dr_o hx (tq_P e30).1 (tq_P e30).2
  refine lv_aload_n I.1.1 I.1.2.1 dX12_init_978 rfl (lv_at hl 0 rfl) ?_
  refine lv_bipush (v := (26 : Int32)) I.1.1 I.1.2.1 dX12_init_979 (by decide) ?_
  obtain ⟨D31, e31, h⟩ := le1_ok h
  refine dr_newI (N := 26) I wA_int (by decide) rfl (by decide) hR hn (by omega) (Nat.zero_lt_of_lt hx.1) e31 (Nat.le_of_ble_eq_true rfl) (Nat.le_of_ble_eq_true rfl) dX12_init_981 (fun H hR => ?_)
  replace hx := dr_oN hx e31
  have hv31 := dr_new1 hn e31
  replace hn := tq_N hn e31
  refine W.widen (k := 43) (n := 5214) (Nat.le_of_ble_eq_true rfl) (Nat.le_of_ble_eq_true rfl) ?_
  obtain ⟨D32, e32, h⟩ := le1_ok h
  refine dr_putP (fun _ => ⟨rfl, rfl⟩) I cf12 fD_RX12_142 hR hx e32 dX12_init_983 (fun H locs hR => ?_)
  replace hn := (tq_P e32).1.trans hn
  replace hx := dr_o hx (tq_P e32).1 (tq_P e32).2
  refine lv_aload_n I.1.1 I.1.2.1 dX12_init_986 rfl (lv_at hl 0 rfl) ?_
  refine lv_bipush (v := (36 : Int32)) I.1.1 I.1.2.1 dX12_init_987 (by decide) ?_
  obtain ⟨D33, e33, h⟩ := le1_ok h
  refine dr_newI (N := 36) I wA_int (by decide) rfl (by decide) hR hn (by omega) (Nat.zero_lt_of_lt hx.1) e33 (Nat.le_of_ble_eq_true rfl) (Nat.le_of_ble_eq_true rfl) dX12_init_989 (fun H hR => ?_)
  replace hx := dr_oN hx e33
  have hv33 := dr_new1 hn e33
  replace hn := tq_N hn e33
  refine W.widen (k := 44) (n := 5250) (Nat.le_of_ble_eq_true rfl) (Nat.le_of_ble_eq_true rfl) ?_
  obtain ⟨D34, e34, h⟩ := le1_ok h
  refine dr_putP (fun _ => ⟨rfl, rfl⟩) I cf12 fD_RX12_145 hR hx e34 dX12_init_991 (fun H locs hR => ?_)
  replace hn := (tq_P e34).1.trans hn
  replace hx := dr_o hx (tq_P e34).1 (tq_P e34).2
  refine lv_aload_n I.1.1 I.1.2.1 dX12_init_994 rfl (lv_at hl 0 rfl) ?_
  refine lv_bipush (v := (6 : Int32)) I.1.1 I.1.2.1 dX12_init_995 (by decide) ?_
  obtain ⟨D35, e35, h⟩ := le1_ok h
  refine dr_newI (N := 6) I wA_int (by decide) rfl (by decide) hR hn (by omega) (Nat.zero_lt_of_lt hx.1) e35 (Nat.le_of_ble_eq_true rfl) (Nat.le_of_ble_eq_true rfl) dX12_init_997 (fun H hR => ?_)
  replace hx := dr_oN hx e35
  have hv35 := dr_new1 hn e35
  replace hn := tq_N hn e35
  refine W.widen (k := 45) (n := 5256) (Nat.le_of_ble_eq_true rfl) (Nat.le_of_ble_eq_true rfl) ?_
  obtain ⟨D36, e36, h⟩ := le1_ok h
  refine dr_putP (fun _ => ⟨rfl, rfl⟩) I cf12 fD_RX12_148 hR hx e36 dX12_init_999 (fun H locs hR => ?_)
  replace hn := (tq_P e36).1.trans hn
  replace hx := dr_o hx (tq_P e36).1 (tq_P e36).2
  refine lv_aload_n I.1.1 I.1.2.1 dX12_init_1002 rfl (lv_at hl 0 rfl) ?_
  refine lv_bipush (v := (6 : Int32)) I.1.1 I.1.2.1 dX12_init_1003 (by decide) ?_
  obtain ⟨D37, e37, h⟩ := le1_ok h
  refine dr_newI (N := 6) I wA_int (by decide) rfl (by decide) hR hn (by omega) (Nat.zero_lt_of_lt hx.1) e37 (Nat.le_of_ble_eq_true rfl) (Nat.le_of_ble_eq_true rfl) dX12_init_1005 (fun H hR => ?_)
  replace hx := dr_oN hx e37
  have hv37 := dr_new1 hn e37
  replace hn := tq_N hn e37
  refine W.widen (k := 46) (n := 5262) (Nat.le_of_ble_eq_true rfl) (Nat.le_of_ble_eq_true rfl) ?_
  obtain ⟨D38, e38, h⟩ := le1_ok h
  refine dr_putP (fun _ => ⟨rfl, rfl⟩) I cf12 fD_RX12_151 hR hx e38 dX12_init_1007 (fun H locs hR => ?_)
  replace hn := (tq_P e38).1.trans hn
  replace hx := dr_o hx (tq_P e38).1 (tq_P e38).2
  refine lv_aload_n I.1.1 I.1.2.1 dX12_init_1010 rfl (lv_at hl 0 rfl) ?_
  refine lv_bipush (v := (6 : Int32)) I.1.1 I.1.2.1 dX12_init_1011 (by decide) ?_
  obtain ⟨D39, e39, h⟩ := le1_ok h
  refine dr_newI (N := 6) I wA_int (by decide) rfl (by decide) hR hn (by omega) (Nat.zero_lt_of_lt hx.1) e39 (Nat.le_of_ble_eq_true rfl) (Nat.le_of_ble_eq_true rfl) dX12_init_1013 (fun H hR => ?_)
  replace hx := dr_oN hx e39
  have hv39 := dr_new1 hn e39
  replace hn := tq_N hn e39
  refine W.widen (k := 47) (n := 5268) (Nat.le_of_ble_eq_true rfl) (Nat.le_of_ble_eq_true rfl) ?_
  obtain ⟨D40, e40, h⟩ := le1_ok h
  refine dr_putP (fun _ => ⟨rfl, rfl⟩) I cf12 fD_RX12_154 hR hx e40 dX12_init_1015 (fun H locs hR => ?_)
  replace hn := (tq_P e40).1.trans hn
  replace hx := dr_o hx (tq_P e40).1 (tq_P e40).2
  refine lv_aload_n I.1.1 I.1.2.1 dX12_init_1018 rfl (lv_at hl 0 rfl) ?_
  refine lv_bipush (v := (26 : Int32)) I.1.1 I.1.2.1 dX12_init_1019 (by decide) ?_
  obtain ⟨D41, e41, h⟩ := le1_ok h
  refine dr_newI (N := 26) I wA_int (by decide) rfl (by decide) hR hn (by omega) (Nat.zero_lt_of_lt hx.1) e41 (Nat.le_of_ble_eq_true rfl) (Nat.le_of_ble_eq_true rfl) dX12_init_1021 (fun H hR => ?_)
  replace hx := dr_oN hx e41
  have hv41 := dr_new1 hn e41
  replace hn := tq_N hn e41
  refine W.widen (k := 48) (n := 5294) (Nat.le_of_ble_eq_true rfl) (Nat.le_of_ble_eq_true rfl) ?_
  obtain ⟨D42, e42, h⟩ := le1_ok h
  refine dr_putP (fun _ => ⟨rfl, rfl⟩) I cf12 fD_RX12_157 hR hx e42 dX12_init_1023 (fun H locs hR => ?_)
  replace hn := (tq_P e42).1.trans hn
  replace hx := dr_o hx (tq_P e42).1 (tq_P e42).2
  refine lv_aload_n I.1.1 I.1.2.1 dX12_init_1026 rfl (lv_at hl 0 rfl) ?_
  refine lv_bipush (v := (48 : Int32)) I.1.1 I.1.2.1 dX12_init_1027 (by decide) ?_
  obtain ⟨D43, e43, h⟩ := le1_ok h
  refine dr_newI (N := 48) I wA_int (by decide) rfl (by decide) hR hn (by omega) (Nat.zero_lt_of_lt hx.1) e43 (Nat.le_of_ble_eq_true rfl) (Nat.le_of_ble_eq_true rfl) dX12_init_1029 (fun H hR => ?_)
  replace hx := dr_oN hx e43
  have hv43 := dr_new1 hn e43
  replace hn := tq_N hn e43
  refine W.widen (k := 49) (n := 5342) (Nat.le_of_ble_eq_true rfl) (Nat.le_of_ble_eq_true rfl) ?_
  obtain ⟨D44, e44, h⟩ := le1_ok h
  refine dr_putP (fun _ => ⟨rfl, rfl⟩) I cf12 fD_RX12_160 hR hx e44 dX12_init_1031 (fun H locs hR => ?_)
  replace hn := (tq_P e44).1.trans hn
  replace hx := dr_o hx (tq_P e44).1 (tq_P e44).2
  refine lv_aload_n I.1.1 I.1.2.1 dX12_init_1034 rfl (lv_at hl 0 rfl) ?_
  refine lv_sipush (v := (384 : Int32)) I.1.1 I.1.2.1 dX12_init_1035 (by decide) ?_
  obtain ⟨D45, e45, h⟩ := le1_ok h
  refine dr_newI (N := 384) I wA_int (by decide) rfl (by decide) hR hn (by omega) (Nat.zero_lt_of_lt hx.1) e45 (Nat.le_of_ble_eq_true rfl) (Nat.le_of_ble_eq_true rfl) dX12_init_1038 (fun H hR => ?_)
  replace hx := dr_oN hx e45
  have hv45 := dr_new1 hn e45
  replace hn := tq_N hn e45
  refine W.widen (k := 50) (n := 5726) (Nat.le_of_ble_eq_true rfl) (Nat.le_of_ble_eq_true rfl) ?_
  obtain ⟨D46, e46, h⟩ := le1_ok h
  refine dr_putP (fun _ => ⟨rfl, rfl⟩) I cf12 fD_RX12_163 hR hx e46 dX12_init_1040 (fun H locs hR => ?_)
  replace hn := (tq_P e46).1.trans hn
  replace hx := dr_o hx (tq_P e46).1 (tq_P e46).2
  exact wg_5 I _ r h hn hx _ _ _ hR hl
set_option maxRecDepth 100000 in
def fg_3 (x n : Nat) (D : Dp) : Option Dp :=
  le1 (dyN D 3 5) (fun D1 => le1 (dyI D1 (n + 22) 0 (vp_nar .char (115 : Int32))) (fun D2 => le1 (dyI D2 (n + 22) 1 (vp_nar .char (105 : Int32))) (fun D3 => le1 (dyI D3 (n + 22) 2 (vp_nar .char (103 : Int32))) (fun D4 => le1 (dyI D4 (n + 22) 3 (vp_nar .char (104 : Int32))) (fun D5 => le1 (dyI D5 (n + 22) 4 (vp_nar .char (116 : Int32))) (fun D6 => le1 (dyP D6 x 30 (n + 22)) (fun D7 => le1 (dyN D7 3 4) (fun D8 => le1 (dyI D8 (n + 23) 0 (vp_nar .char (108 : Int32))) (fun D9 => le1 (dyI D9 (n + 23) 1 (vp_nar .char (101 : Int32))) (fun D10 => le1 (dyI D10 (n + 23) 2 (vp_nar .char (102 : Int32))) (fun D11 => le1 (dyI D11 (n + 23) 3 (vp_nar .char (116 : Int32))) (fun D12 => le1 (dyP D12 x 31 (n + 23)) (fun D13 => le1 (dyN D13 3 4) (fun D14 => le1 (dyI D14 (n + 24) 0 (vp_nar .char (115 : Int32))) (fun D15 => le1 (dyI D15 (n + 24) 1 (vp_nar .char (101 : Int32))) (fun D16 => le1 (dyI D16 (n + 24) 2 (vp_nar .char (101 : Int32))) (fun D17 => le1 (dyI D17 (n + 24) 3 (vp_nar .char (110 : Int32))) (fun D18 => le1 (dyP D18 x 32 (n + 24)) (fun D19 => le1 (dyN D19 3 2) (fun D20 => le1 (dyI D20 (n + 25) 0 (vp_nar .char (111 : Int32))) (fun D21 => le1 (dyI D21 (n + 25) 1 (vp_nar .char (114 : Int32))) (fun D22 => le1 (dyP D22 x 33 (n + 25)) (fun D23 => le1 (dyN D23 3 3) (fun D24 => le1 (dyI D24 (n + 26) 0 (vp_nar .char (97 : Int32))) (fun D25 => le1 (dyI D25 (n + 26) 1 (vp_nar .char (110 : Int32))) (fun D26 => le1 (dyI D26 (n + 26) 2 (vp_nar .char (100 : Int32))) (fun D27 => le1 (dyP D27 x 34 (n + 26)) (fun D28 => le1 (dyN D28 3 3) (fun D29 => le1 (dyI D29 (n + 27) 0 (vp_nar .char (110 : Int32))) (fun D30 => le1 (dyI D30 (n + 27) 1 (vp_nar .char (111 : Int32))) (fun D31 => le1 (dyI D31 (n + 27) 2 (vp_nar .char (116 : Int32))) (fun D32 => le1 (dyP D32 x 35 (n + 27)) (fun D33 => le1 (dyN D33 3 3) (fun D34 => le1 (dyI D34 (n + 28) 0 (vp_nar .char (97 : Int32))) (fun D35 => le1 (dyI D35 (n + 28) 1 (vp_nar .char (108 : Int32))) (fun D36 => le1 (dyI D36 (n + 28) 2 (vp_nar .char (108 : Int32))) (fun D37 => le1 (dyP D37 x 36 (n + 28)) (fun D38 => le1 (dyN D38 3 3) (fun D39 => le1 (dyI D39 (n + 29) 0 (vp_nar .char (109 : Int32))) (fun D40 => le1 (dyI D40 (n + 29) 1 (vp_nar .char (105 : Int32))) (fun D41 => le1 (dyI D41 (n + 29) 2 (vp_nar .char (110 : Int32))) (fun D42 => le1 (dyP D42 x 37 (n + 29)) (fun D43 => le1 (dyN D43 3 3) (fun D44 => le1 (dyI D44 (n + 30) 0 (vp_nar .char (109 : Int32))) (fun D45 => le1 (dyI D45 (n + 30) 1 (vp_nar .char (97 : Int32))) (fun D46 => le1 (dyI D46 (n + 30) 2 (vp_nar .char (120 : Int32))) (fun D47 => le1 (dyP D47 x 38 (n + 30)) (fun D48 => fg_4 x n D48))))))))))))))))))))))))))))))))))))))))))))))))
set_option maxHeartbeats 4000000 in
set_option maxRecDepth 100000 in
theorem wg_3 {p : Program} {l : Launch} {e : Env} {s : State} {m : MethodId} {args : Array Value} {below : List Frame} {meth : Method} {c : Code} {B x n : Nat} {E : Ev} {ak av : Nat → Nat} (I : dy_I p s m args meth c RX12 cX12_init 1 B n ak av) (D r : Dp) (h : fg_3 x n D = some r) (hn : D.1 = (n + 22)) (hx : x < D.1 ∧ D.2.1 x = (1, 12)) (H : Heap) (locs : List Loc) (ls : Array Slot) (hR : dy_R B E s s.heap H locs D) (hl : lv_has ls 1 [(0, .ref (B + x))]) : W p l e (dy_rm 1 80 13380) s m args below meth c H locs 22 1701 (dy_Z B E below args s 80 13380 r) (F0 m 645 ls []) := by
  unfold fg_3 at h
  refine lv_aload_n I.1.1 I.1.2.1 dX12_init_645 rfl (lv_at hl 0 rfl) ?_
  refine lv_iconst (v := (5 : Int32)) I.1.1 I.1.2.1 dX12_init_646 (by decide) ?_
  obtain ⟨D1, e1, h⟩ := le1_ok h
  refine dr_newC (N := 5) I wA_char (by decide) rfl (by decide) hR hn (by omega) (Nat.zero_lt_of_lt hx.1) e1 (Nat.le_of_ble_eq_true rfl) (Nat.le_of_ble_eq_true rfl) dX12_init_647 (fun H hR => ?_)
  replace hx := dr_oN hx e1
  have hv1 := dr_new1 hn e1
  replace hn := tq_N hn e1
  refine W.widen (k := 23) (n := 1706) (Nat.le_of_ble_eq_true rfl) (Nat.le_of_ble_eq_true rfl) ?_
  refine lv_dup I.1.1 I.1.2.1 dX12_init_649 rfl ?_
  refine lv_iconst (v := (0 : Int32)) I.1.1 I.1.2.1 dX12_init_650 (by decide) ?_
  refine lv_bipush (v := (115 : Int32)) I.1.1 I.1.2.1 dX12_init_651 (by decide) ?_
  obtain ⟨D2, e2, h⟩ := le1_ok h
  refine dr_cst I hR hv1 (by unfold vp_in; decide) e2 dX12_init_653 (fun H locs hR => ?_)
  replace hn := (tq_I e2).1.trans hn
  replace hx := dr_o hx (tq_I e2).1 (tq_I e2).2
  replace hv1 := dr_o hv1 (tq_I e2).1 (tq_I e2).2
  refine lv_dup I.1.1 I.1.2.1 dX12_init_654 rfl ?_
  refine lv_iconst (v := (1 : Int32)) I.1.1 I.1.2.1 dX12_init_655 (by decide) ?_
  refine lv_bipush (v := (105 : Int32)) I.1.1 I.1.2.1 dX12_init_656 (by decide) ?_
  obtain ⟨D3, e3, h⟩ := le1_ok h
  refine dr_cst I hR hv1 (by unfold vp_in; decide) e3 dX12_init_658 (fun H locs hR => ?_)
  replace hn := (tq_I e3).1.trans hn
  replace hx := dr_o hx (tq_I e3).1 (tq_I e3).2
  replace hv1 := dr_o hv1 (tq_I e3).1 (tq_I e3).2
  refine lv_dup I.1.1 I.1.2.1 dX12_init_659 rfl ?_
  refine lv_iconst (v := (2 : Int32)) I.1.1 I.1.2.1 dX12_init_660 (by decide) ?_
  refine lv_bipush (v := (103 : Int32)) I.1.1 I.1.2.1 dX12_init_661 (by decide) ?_
  obtain ⟨D4, e4, h⟩ := le1_ok h
  refine dr_cst I hR hv1 (by unfold vp_in; decide) e4 dX12_init_663 (fun H locs hR => ?_)
  replace hn := (tq_I e4).1.trans hn
  replace hx := dr_o hx (tq_I e4).1 (tq_I e4).2
  replace hv1 := dr_o hv1 (tq_I e4).1 (tq_I e4).2
  refine lv_dup I.1.1 I.1.2.1 dX12_init_664 rfl ?_
  refine lv_iconst (v := (3 : Int32)) I.1.1 I.1.2.1 dX12_init_665 (by decide) ?_
  refine lv_bipush (v := (104 : Int32)) I.1.1 I.1.2.1 dX12_init_666 (by decide) ?_
  obtain ⟨D5, e5, h⟩ := le1_ok h
  refine dr_cst I hR hv1 (by unfold vp_in; decide) e5 dX12_init_668 (fun H locs hR => ?_)
  replace hn := (tq_I e5).1.trans hn
  replace hx := dr_o hx (tq_I e5).1 (tq_I e5).2
  replace hv1 := dr_o hv1 (tq_I e5).1 (tq_I e5).2
  refine lv_dup I.1.1 I.1.2.1 dX12_init_669 rfl ?_
  refine lv_iconst (v := (4 : Int32)) I.1.1 I.1.2.1 dX12_init_670 (by decide) ?_
  refine lv_bipush (v := (116 : Int32)) I.1.1 I.1.2.1 dX12_init_671 (by decide) ?_
  obtain ⟨D6, e6, h⟩ := le1_ok h
  refine dr_cst I hR hv1 (by unfold vp_in; decide) e6 dX12_init_673 (fun H locs hR => ?_)
  replace hn := (tq_I e6).1.trans hn
  replace hx := dr_o hx (tq_I e6).1 (tq_I e6).2
  replace hv1 := dr_o hv1 (tq_I e6).1 (tq_I e6).2
  obtain ⟨D7, e7, h⟩ := le1_ok h
  refine dr_putP (fun _ => ⟨rfl, rfl⟩) I cf12 fD_RX12_81 hR hx e7 dX12_init_674 (fun H locs hR => ?_)
  replace hn := (tq_P e7).1.trans hn
  replace hx := dr_o hx (tq_P e7).1 (tq_P e7).2
  refine lv_aload_n I.1.1 I.1.2.1 dX12_init_677 rfl (lv_at hl 0 rfl) ?_
  refine lv_iconst (v := (4 : Int32)) I.1.1 I.1.2.1 dX12_init_678 (by decide) ?_
  obtain ⟨D8, e8, h⟩ := le1_ok h
  refine dr_newC (N := 4) I wA_char (by decide) rfl (by decide) hR hn (by omega) (Nat.zero_lt_of_lt hx.1) e8 (Nat.le_of_ble_eq_true rfl) (Nat.le_of_ble_eq_true rfl) dX12_init_679 (fun H hR => ?_)
  replace hx := dr_oN hx e8
  have hv8 := dr_new1 hn e8
  replace hn := tq_N hn e8
  refine W.widen (k := 24) (n := 1710) (Nat.le_of_ble_eq_true rfl) (Nat.le_of_ble_eq_true rfl) ?_
  refine lv_dup I.1.1 I.1.2.1 dX12_init_681 rfl ?_
  refine lv_iconst (v := (0 : Int32)) I.1.1 I.1.2.1 dX12_init_682 (by decide) ?_
  refine lv_bipush (v := (108 : Int32)) I.1.1 I.1.2.1 dX12_init_683 (by decide) ?_
  obtain ⟨D9, e9, h⟩ := le1_ok h
  refine dr_cst I hR hv8 (by unfold vp_in; decide) e9 dX12_init_685 (fun H locs hR => ?_)
  replace hn := (tq_I e9).1.trans hn
  replace hx := dr_o hx (tq_I e9).1 (tq_I e9).2
  replace hv8 := dr_o hv8 (tq_I e9).1 (tq_I e9).2
  refine lv_dup I.1.1 I.1.2.1 dX12_init_686 rfl ?_
  refine lv_iconst (v := (1 : Int32)) I.1.1 I.1.2.1 dX12_init_687 (by decide) ?_
  refine lv_bipush (v := (101 : Int32)) I.1.1 I.1.2.1 dX12_init_688 (by decide) ?_
  obtain ⟨D10, e10, h⟩ := le1_ok h
  refine dr_cst I hR hv8 (by unfold vp_in; decide) e10 dX12_init_690 (fun H locs hR => ?_)
  replace hn := (tq_I e10).1.trans hn
  replace hx := dr_o hx (tq_I e10).1 (tq_I e10).2
  replace hv8 := dr_o hv8 (tq_I e10).1 (tq_I e10).2
  refine lv_dup I.1.1 I.1.2.1 dX12_init_691 rfl ?_
  refine lv_iconst (v := (2 : Int32)) I.1.1 I.1.2.1 dX12_init_692 (by decide) ?_
  refine lv_bipush (v := (102 : Int32)) I.1.1 I.1.2.1 dX12_init_693 (by decide) ?_
  obtain ⟨D11, e11, h⟩ := le1_ok h
  refine dr_cst I hR hv8 (by unfold vp_in; decide) e11 dX12_init_695 (fun H locs hR => ?_)
  replace hn := (tq_I e11).1.trans hn
  replace hx := dr_o hx (tq_I e11).1 (tq_I e11).2
  replace hv8 := dr_o hv8 (tq_I e11).1 (tq_I e11).2
  refine lv_dup I.1.1 I.1.2.1 dX12_init_696 rfl ?_
  refine lv_iconst (v := (3 : Int32)) I.1.1 I.1.2.1 dX12_init_697 (by decide) ?_
  refine lv_bipush (v := (116 : Int32)) I.1.1 I.1.2.1 dX12_init_698 (by decide) ?_
  obtain ⟨D12, e12, h⟩ := le1_ok h
  refine dr_cst I hR hv8 (by unfold vp_in; decide) e12 dX12_init_700 (fun H locs hR => ?_)
  replace hn := (tq_I e12).1.trans hn
  replace hx := dr_o hx (tq_I e12).1 (tq_I e12).2
  replace hv8 := dr_o hv8 (tq_I e12).1 (tq_I e12).2
  obtain ⟨D13, e13, h⟩ := le1_ok h
  refine dr_putP (fun _ => ⟨rfl, rfl⟩) I cf12 fD_RX12_84 hR hx e13 dX12_init_701 (fun H locs hR => ?_)
  replace hn := (tq_P e13).1.trans hn
  replace hx := dr_o hx (tq_P e13).1 (tq_P e13).2
  refine lv_aload_n I.1.1 I.1.2.1 dX12_init_704 rfl (lv_at hl 0 rfl) ?_
  refine lv_iconst (v := (4 : Int32)) I.1.1 I.1.2.1 dX12_init_705 (by decide) ?_
  obtain ⟨D14, e14, h⟩ := le1_ok h
  refine dr_newC (N := 4) I wA_char (by decide) rfl (by decide) hR hn (by omega) (Nat.zero_lt_of_lt hx.1) e14 (Nat.le_of_ble_eq_true rfl) (Nat.le_of_ble_eq_true rfl) dX12_init_706 (fun H hR => ?_)
  replace hx := dr_oN hx e14
  have hv14 := dr_new1 hn e14
  replace hn := tq_N hn e14
  refine W.widen (k := 25) (n := 1714) (Nat.le_of_ble_eq_true rfl) (Nat.le_of_ble_eq_true rfl) ?_
  refine lv_dup I.1.1 I.1.2.1 dX12_init_708 rfl ?_
  refine lv_iconst (v := (0 : Int32)) I.1.1 I.1.2.1 dX12_init_709 (by decide) ?_
  refine lv_bipush (v := (115 : Int32)) I.1.1 I.1.2.1 dX12_init_710 (by decide) ?_
  obtain ⟨D15, e15, h⟩ := le1_ok h
  refine dr_cst I hR hv14 (by unfold vp_in; decide) e15 dX12_init_712 (fun H locs hR => ?_)
  replace hn := (tq_I e15).1.trans hn
  replace hx := dr_o hx (tq_I e15).1 (tq_I e15).2
  replace hv14 := dr_o hv14 (tq_I e15).1 (tq_I e15).2
  refine lv_dup I.1.1 I.1.2.1 dX12_init_713 rfl ?_
  refine lv_iconst (v := (1 : Int32)) I.1.1 I.1.2.1 dX12_init_714 (by decide) ?_
  refine lv_bipush (v := (101 : Int32)) I.1.1 I.1.2.1 dX12_init_715 (by decide) ?_
  obtain ⟨D16, e16, h⟩ := le1_ok h
  refine dr_cst I hR hv14 (by unfold vp_in; decide) e16 dX12_init_717 (fun H locs hR => ?_)
  replace hn := (tq_I e16).1.trans hn
  replace hx := dr_o hx (tq_I e16).1 (tq_I e16).2
  replace hv14 := dr_o hv14 (tq_I e16).1 (tq_I e16).2
  refine lv_dup I.1.1 I.1.2.1 dX12_init_718 rfl ?_
  refine lv_iconst (v := (2 : Int32)) I.1.1 I.1.2.1 dX12_init_719 (by decide) ?_
  refine lv_bipush (v := (101 : Int32)) I.1.1 I.1.2.1 dX12_init_720 (by decide) ?_
  obtain ⟨D17, e17, h⟩ := le1_ok h
  refine dr_cst I hR hv14 (by unfold vp_in; decide) e17 dX12_init_722 (fun H locs hR => ?_)
  replace hn := (tq_I e17).1.trans hn
  replace hx := dr_o hx (tq_I e17).1 (tq_I e17).2
  replace hv14 := dr_o hv14 (tq_I e17).1 (tq_I e17).2
  refine lv_dup I.1.1 I.1.2.1 dX12_init_723 rfl ?_
  refine lv_iconst (v := (3 : Int32)) I.1.1 I.1.2.1 dX12_init_724 (by decide) ?_
  refine lv_bipush (v := (110 : Int32)) I.1.1 I.1.2.1 dX12_init_725 (by decide) ?_
  obtain ⟨D18, e18, h⟩ := le1_ok h
  refine dr_cst I hR hv14 (by unfold vp_in; decide) e18 dX12_init_727 (fun H locs hR => ?_)
  replace hn := (tq_I e18).1.trans hn
  replace hx := dr_o hx (tq_I e18).1 (tq_I e18).2
  replace hv14 := dr_o hv14 (tq_I e18).1 (tq_I e18).2
  obtain ⟨D19, e19, h⟩ := le1_ok h
  refine dr_putP (fun _ => ⟨rfl, rfl⟩) I cf12 fD_RX12_87 hR hx e19 dX12_init_728 (fun H locs hR => ?_)
  replace hn := (tq_P e19).1.trans hn
  replace hx := dr_o hx (tq_P e19).1 (tq_P e19).2
  refine lv_aload_n I.1.1 I.1.2.1 dX12_init_731 rfl (lv_at hl 0 rfl) ?_
  refine lv_iconst (v := (2 : Int32)) I.1.1 I.1.2.1 dX12_init_732 (by decide) ?_
  obtain ⟨D20, e20, h⟩ := le1_ok h
  refine dr_newC (N := 2) I wA_char (by decide) rfl (by decide) hR hn (by omega) (Nat.zero_lt_of_lt hx.1) e20 (Nat.le_of_ble_eq_true rfl) (Nat.le_of_ble_eq_true rfl) dX12_init_733 (fun H hR => ?_)
  replace hx := dr_oN hx e20
  have hv20 := dr_new1 hn e20
  replace hn := tq_N hn e20
  refine W.widen (k := 26) (n := 1716) (Nat.le_of_ble_eq_true rfl) (Nat.le_of_ble_eq_true rfl) ?_
  refine lv_dup I.1.1 I.1.2.1 dX12_init_735 rfl ?_
  refine lv_iconst (v := (0 : Int32)) I.1.1 I.1.2.1 dX12_init_736 (by decide) ?_
  refine lv_bipush (v := (111 : Int32)) I.1.1 I.1.2.1 dX12_init_737 (by decide) ?_
  obtain ⟨D21, e21, h⟩ := le1_ok h
  refine dr_cst I hR hv20 (by unfold vp_in; decide) e21 dX12_init_739 (fun H locs hR => ?_)
  replace hn := (tq_I e21).1.trans hn
  replace hx := dr_o hx (tq_I e21).1 (tq_I e21).2
  replace hv20 := dr_o hv20 (tq_I e21).1 (tq_I e21).2
  refine lv_dup I.1.1 I.1.2.1 dX12_init_740 rfl ?_
  refine lv_iconst (v := (1 : Int32)) I.1.1 I.1.2.1 dX12_init_741 (by decide) ?_
  refine lv_bipush (v := (114 : Int32)) I.1.1 I.1.2.1 dX12_init_742 (by decide) ?_
  obtain ⟨D22, e22, h⟩ := le1_ok h
  refine dr_cst I hR hv20 (by unfold vp_in; decide) e22 dX12_init_744 (fun H locs hR => ?_)
  replace hn := (tq_I e22).1.trans hn
  replace hx := dr_o hx (tq_I e22).1 (tq_I e22).2
  replace hv20 := dr_o hv20 (tq_I e22).1 (tq_I e22).2
  obtain ⟨D23, e23, h⟩ := le1_ok h
  refine dr_putP (fun _ => ⟨rfl, rfl⟩) I cf12 fD_RX12_90 hR hx e23 dX12_init_745 (fun H locs hR => ?_)
  replace hn := (tq_P e23).1.trans hn
  replace hx := dr_o hx (tq_P e23).1 (tq_P e23).2
  refine lv_aload_n I.1.1 I.1.2.1 dX12_init_748 rfl (lv_at hl 0 rfl) ?_
  refine lv_iconst (v := (3 : Int32)) I.1.1 I.1.2.1 dX12_init_749 (by decide) ?_
  obtain ⟨D24, e24, h⟩ := le1_ok h
  refine dr_newC (N := 3) I wA_char (by decide) rfl (by decide) hR hn (by omega) (Nat.zero_lt_of_lt hx.1) e24 (Nat.le_of_ble_eq_true rfl) (Nat.le_of_ble_eq_true rfl) dX12_init_750 (fun H hR => ?_)
  replace hx := dr_oN hx e24
  have hv24 := dr_new1 hn e24
  replace hn := tq_N hn e24
  refine W.widen (k := 27) (n := 1719) (Nat.le_of_ble_eq_true rfl) (Nat.le_of_ble_eq_true rfl) ?_
  refine lv_dup I.1.1 I.1.2.1 dX12_init_752 rfl ?_
  refine lv_iconst (v := (0 : Int32)) I.1.1 I.1.2.1 dX12_init_753 (by decide) ?_
  refine lv_bipush (v := (97 : Int32)) I.1.1 I.1.2.1 dX12_init_754 (by decide) ?_
  obtain ⟨D25, e25, h⟩ := le1_ok h
  refine dr_cst I hR hv24 (by unfold vp_in; decide) e25 dX12_init_756 (fun H locs hR => ?_)
  replace hn := (tq_I e25).1.trans hn
  replace hx := dr_o hx (tq_I e25).1 (tq_I e25).2
  replace hv24 := dr_o hv24 (tq_I e25).1 (tq_I e25).2
  refine lv_dup I.1.1 I.1.2.1 dX12_init_757 rfl ?_
  refine lv_iconst (v := (1 : Int32)) I.1.1 I.1.2.1 dX12_init_758 (by decide) ?_
  refine lv_bipush (v := (110 : Int32)) I.1.1 I.1.2.1 dX12_init_759 (by decide) ?_
  obtain ⟨D26, e26, h⟩ := le1_ok h
  refine dr_cst I hR hv24 (by unfold vp_in; decide) e26 dX12_init_761 (fun H locs hR => ?_)
  replace hn := (tq_I e26).1.trans hn
  replace hx := dr_o hx (tq_I e26).1 (tq_I e26).2
  replace hv24 := dr_o hv24 (tq_I e26).1 (tq_I e26).2
  refine lv_dup I.1.1 I.1.2.1 dX12_init_762 rfl ?_
  refine lv_iconst (v := (2 : Int32)) I.1.1 I.1.2.1 dX12_init_763 (by decide) ?_
  refine lv_bipush (v := (100 : Int32)) I.1.1 I.1.2.1 dX12_init_764 (by decide) ?_
  obtain ⟨D27, e27, h⟩ := le1_ok h
  refine dr_cst I hR hv24 (by unfold vp_in; decide) e27 dX12_init_766 (fun H locs hR => ?_)
  replace hn := (tq_I e27).1.trans hn
  replace hx := dr_o hx (tq_I e27).1 (tq_I e27).2
  replace hv24 := dr_o hv24 (tq_I e27).1 (tq_I e27).2
  obtain ⟨D28, e28, h⟩ := le1_ok h
  refine dr_putP (fun _ => ⟨rfl, rfl⟩) I cf12 fD_RX12_93 hR hx e28 dX12_init_767 (fun H locs hR => ?_)
  replace hn := (tq_P e28).1.trans hn
  replace hx := dr_o hx (tq_P e28).1 (tq_P e28).2
  refine lv_aload_n I.1.1 I.1.2.1 dX12_init_770 rfl (lv_at hl 0 rfl) ?_
  refine lv_iconst (v := (3 : Int32)) I.1.1 I.1.2.1 dX12_init_771 (by decide) ?_
  obtain ⟨D29, e29, h⟩ := le1_ok h
  refine dr_newC (N := 3) I wA_char (by decide) rfl (by decide) hR hn (by omega) (Nat.zero_lt_of_lt hx.1) e29 (Nat.le_of_ble_eq_true rfl) (Nat.le_of_ble_eq_true rfl) dX12_init_772 (fun H hR => ?_)
  replace hx := dr_oN hx e29
  have hv29 := dr_new1 hn e29
  replace hn := tq_N hn e29
  refine W.widen (k := 28) (n := 1722) (Nat.le_of_ble_eq_true rfl) (Nat.le_of_ble_eq_true rfl) ?_
  refine lv_dup I.1.1 I.1.2.1 dX12_init_774 rfl ?_
  refine lv_iconst (v := (0 : Int32)) I.1.1 I.1.2.1 dX12_init_775 (by decide) ?_
  refine lv_bipush (v := (110 : Int32)) I.1.1 I.1.2.1 dX12_init_776 (by decide) ?_
  obtain ⟨D30, e30, h⟩ := le1_ok h
  refine dr_cst I hR hv29 (by unfold vp_in; decide) e30 dX12_init_778 (fun H locs hR => ?_)
  replace hn := (tq_I e30).1.trans hn
  replace hx := dr_o hx (tq_I e30).1 (tq_I e30).2
  replace hv29 := dr_o hv29 (tq_I e30).1 (tq_I e30).2
  refine lv_dup I.1.1 I.1.2.1 dX12_init_779 rfl ?_
  refine lv_iconst (v := (1 : Int32)) I.1.1 I.1.2.1 dX12_init_780 (by decide) ?_
  refine lv_bipush (v := (111 : Int32)) I.1.1 I.1.2.1 dX12_init_781 (by decide) ?_
  obtain ⟨D31, e31, h⟩ := le1_ok h
  refine dr_cst I hR hv29 (by unfold vp_in; decide) e31 dX12_init_783 (fun H locs hR => ?_)
  replace hn := (tq_I e31).1.trans hn
  replace hx := dr_o hx (tq_I e31).1 (tq_I e31).2
  replace hv29 := dr_o hv29 (tq_I e31).1 (tq_I e31).2
  refine lv_dup I.1.1 I.1.2.1 dX12_init_784 rfl ?_
  refine lv_iconst (v := (2 : Int32)) I.1.1 I.1.2.1 dX12_init_785 (by decide) ?_
  refine lv_bipush (v := (116 : Int32)) I.1.1 I.1.2.1 dX12_init_786 (by decide) ?_
  obtain ⟨D32, e32, h⟩ := le1_ok h
  refine dr_cst I hR hv29 (by unfold vp_in; decide) e32 dX12_init_788 (fun H locs hR => ?_)
  replace hn := (tq_I e32).1.trans hn
  replace hx := dr_o hx (tq_I e32).1 (tq_I e32).2
  replace hv29 := dr_o hv29 (tq_I e32).1 (tq_I e32).2
  obtain ⟨D33, e33, h⟩ := le1_ok h
  refine dr_putP (fun _ => ⟨rfl, rfl⟩) I cf12 fD_RX12_96 hR hx e33 dX12_init_789 (fun H locs hR => ?_)
  replace hn := (tq_P e33).1.trans hn
  replace hx := dr_o hx (tq_P e33).1 (tq_P e33).2
  refine lv_aload_n I.1.1 I.1.2.1 dX12_init_792 rfl (lv_at hl 0 rfl) ?_
  refine lv_iconst (v := (3 : Int32)) I.1.1 I.1.2.1 dX12_init_793 (by decide) ?_
  obtain ⟨D34, e34, h⟩ := le1_ok h
  refine dr_newC (N := 3) I wA_char (by decide) rfl (by decide) hR hn (by omega) (Nat.zero_lt_of_lt hx.1) e34 (Nat.le_of_ble_eq_true rfl) (Nat.le_of_ble_eq_true rfl) dX12_init_794 (fun H hR => ?_)
  replace hx := dr_oN hx e34
  have hv34 := dr_new1 hn e34
  replace hn := tq_N hn e34
  refine W.widen (k := 29) (n := 1725) (Nat.le_of_ble_eq_true rfl) (Nat.le_of_ble_eq_true rfl) ?_
  refine lv_dup I.1.1 I.1.2.1 dX12_init_796 rfl ?_
  refine lv_iconst (v := (0 : Int32)) I.1.1 I.1.2.1 dX12_init_797 (by decide) ?_
  refine lv_bipush (v := (97 : Int32)) I.1.1 I.1.2.1 dX12_init_798 (by decide) ?_
  obtain ⟨D35, e35, h⟩ := le1_ok h
  refine dr_cst I hR hv34 (by unfold vp_in; decide) e35 dX12_init_800 (fun H locs hR => ?_)
  replace hn := (tq_I e35).1.trans hn
  replace hx := dr_o hx (tq_I e35).1 (tq_I e35).2
  replace hv34 := dr_o hv34 (tq_I e35).1 (tq_I e35).2
  refine lv_dup I.1.1 I.1.2.1 dX12_init_801 rfl ?_
  refine lv_iconst (v := (1 : Int32)) I.1.1 I.1.2.1 dX12_init_802 (by decide) ?_
  refine lv_bipush (v := (108 : Int32)) I.1.1 I.1.2.1 dX12_init_803 (by decide) ?_
  obtain ⟨D36, e36, h⟩ := le1_ok h
  refine dr_cst I hR hv34 (by unfold vp_in; decide) e36 dX12_init_805 (fun H locs hR => ?_)
  replace hn := (tq_I e36).1.trans hn
  replace hx := dr_o hx (tq_I e36).1 (tq_I e36).2
  replace hv34 := dr_o hv34 (tq_I e36).1 (tq_I e36).2
  refine lv_dup I.1.1 I.1.2.1 dX12_init_806 rfl ?_
  refine lv_iconst (v := (2 : Int32)) I.1.1 I.1.2.1 dX12_init_807 (by decide) ?_
  refine lv_bipush (v := (108 : Int32)) I.1.1 I.1.2.1 dX12_init_808 (by decide) ?_
  obtain ⟨D37, e37, h⟩ := le1_ok h
  refine dr_cst I hR hv34 (by unfold vp_in; decide) e37 dX12_init_810 (fun H locs hR => ?_)
  replace hn := (tq_I e37).1.trans hn
  replace hx := dr_o hx (tq_I e37).1 (tq_I e37).2
  replace hv34 := dr_o hv34 (tq_I e37).1 (tq_I e37).2
  obtain ⟨D38, e38, h⟩ := le1_ok h
  refine dr_putP (fun _ => ⟨rfl, rfl⟩) I cf12 fD_RX12_99 hR hx e38 dX12_init_811 (fun H locs hR => ?_)
  replace hn := (tq_P e38).1.trans hn
  replace hx := dr_o hx (tq_P e38).1 (tq_P e38).2
  refine lv_aload_n I.1.1 I.1.2.1 dX12_init_814 rfl (lv_at hl 0 rfl) ?_
  refine lv_iconst (v := (3 : Int32)) I.1.1 I.1.2.1 dX12_init_815 (by decide) ?_
  obtain ⟨D39, e39, h⟩ := le1_ok h
  refine dr_newC (N := 3) I wA_char (by decide) rfl (by decide) hR hn (by omega) (Nat.zero_lt_of_lt hx.1) e39 (Nat.le_of_ble_eq_true rfl) (Nat.le_of_ble_eq_true rfl) dX12_init_816 (fun H hR => ?_)
  replace hx := dr_oN hx e39
  have hv39 := dr_new1 hn e39
  replace hn := tq_N hn e39
  refine W.widen (k := 30) (n := 1728) (Nat.le_of_ble_eq_true rfl) (Nat.le_of_ble_eq_true rfl) ?_
  refine lv_dup I.1.1 I.1.2.1 dX12_init_818 rfl ?_
  refine lv_iconst (v := (0 : Int32)) I.1.1 I.1.2.1 dX12_init_819 (by decide) ?_
  refine lv_bipush (v := (109 : Int32)) I.1.1 I.1.2.1 dX12_init_820 (by decide) ?_
  obtain ⟨D40, e40, h⟩ := le1_ok h
  refine dr_cst I hR hv39 (by unfold vp_in; decide) e40 dX12_init_822 (fun H locs hR => ?_)
  replace hn := (tq_I e40).1.trans hn
  replace hx := dr_o hx (tq_I e40).1 (tq_I e40).2
  replace hv39 := dr_o hv39 (tq_I e40).1 (tq_I e40).2
  refine lv_dup I.1.1 I.1.2.1 dX12_init_823 rfl ?_
  refine lv_iconst (v := (1 : Int32)) I.1.1 I.1.2.1 dX12_init_824 (by decide) ?_
  refine lv_bipush (v := (105 : Int32)) I.1.1 I.1.2.1 dX12_init_825 (by decide) ?_
  obtain ⟨D41, e41, h⟩ := le1_ok h
  refine dr_cst I hR hv39 (by unfold vp_in; decide) e41 dX12_init_827 (fun H locs hR => ?_)
  replace hn := (tq_I e41).1.trans hn
  replace hx := dr_o hx (tq_I e41).1 (tq_I e41).2
  replace hv39 := dr_o hv39 (tq_I e41).1 (tq_I e41).2
  refine lv_dup I.1.1 I.1.2.1 dX12_init_828 rfl ?_
  refine lv_iconst (v := (2 : Int32)) I.1.1 I.1.2.1 dX12_init_829 (by decide) ?_
  refine lv_bipush (v := (110 : Int32)) I.1.1 I.1.2.1 dX12_init_830 (by decide) ?_
  obtain ⟨D42, e42, h⟩ := le1_ok h
  refine dr_cst I hR hv39 (by unfold vp_in; decide) e42 dX12_init_832 (fun H locs hR => ?_)
  replace hn := (tq_I e42).1.trans hn
  replace hx := dr_o hx (tq_I e42).1 (tq_I e42).2
  replace hv39 := dr_o hv39 (tq_I e42).1 (tq_I e42).2
  obtain ⟨D43, e43, h⟩ := le1_ok h
  refine dr_putP (fun _ => ⟨rfl, rfl⟩) I cf12 fD_RX12_102 hR hx e43 dX12_init_833 (fun H locs hR => ?_)
  replace hn := (tq_P e43).1.trans hn
  replace hx := dr_o hx (tq_P e43).1 (tq_P e43).2
  refine lv_aload_n I.1.1 I.1.2.1 dX12_init_836 rfl (lv_at hl 0 rfl) ?_
  refine lv_iconst (v := (3 : Int32)) I.1.1 I.1.2.1 dX12_init_837 (by decide) ?_
  obtain ⟨D44, e44, h⟩ := le1_ok h
  refine dr_newC (N := 3) I wA_char (by decide) rfl (by decide) hR hn (by omega) (Nat.zero_lt_of_lt hx.1) e44 (Nat.le_of_ble_eq_true rfl) (Nat.le_of_ble_eq_true rfl) dX12_init_838 (fun H hR => ?_)
  replace hx := dr_oN hx e44
  have hv44 := dr_new1 hn e44
  replace hn := tq_N hn e44
  refine W.widen (k := 31) (n := 1731) (Nat.le_of_ble_eq_true rfl) (Nat.le_of_ble_eq_true rfl) ?_
  refine lv_dup I.1.1 I.1.2.1 dX12_init_840 rfl ?_
  refine lv_iconst (v := (0 : Int32)) I.1.1 I.1.2.1 dX12_init_841 (by decide) ?_
  refine lv_bipush (v := (109 : Int32)) I.1.1 I.1.2.1 dX12_init_842 (by decide) ?_
  obtain ⟨D45, e45, h⟩ := le1_ok h
  refine dr_cst I hR hv44 (by unfold vp_in; decide) e45 dX12_init_844 (fun H locs hR => ?_)
  replace hn := (tq_I e45).1.trans hn
  replace hx := dr_o hx (tq_I e45).1 (tq_I e45).2
  replace hv44 := dr_o hv44 (tq_I e45).1 (tq_I e45).2
  refine lv_dup I.1.1 I.1.2.1 dX12_init_845 rfl ?_
  refine lv_iconst (v := (1 : Int32)) I.1.1 I.1.2.1 dX12_init_846 (by decide) ?_
  refine lv_bipush (v := (97 : Int32)) I.1.1 I.1.2.1 dX12_init_847 (by decide) ?_
  obtain ⟨D46, e46, h⟩ := le1_ok h
  refine dr_cst I hR hv44 (by unfold vp_in; decide) e46 dX12_init_849 (fun H locs hR => ?_)
  replace hn := (tq_I e46).1.trans hn
  replace hx := dr_o hx (tq_I e46).1 (tq_I e46).2
  replace hv44 := dr_o hv44 (tq_I e46).1 (tq_I e46).2
  refine lv_dup I.1.1 I.1.2.1 dX12_init_850 rfl ?_
  refine lv_iconst (v := (2 : Int32)) I.1.1 I.1.2.1 dX12_init_851 (by decide) ?_
  refine lv_bipush (v := (120 : Int32)) I.1.1 I.1.2.1 dX12_init_852 (by decide) ?_
  obtain ⟨D47, e47, h⟩ := le1_ok h
  refine dr_cst I hR hv44 (by unfold vp_in; decide) e47 dX12_init_854 (fun H locs hR => ?_)
  replace hn := (tq_I e47).1.trans hn
  replace hx := dr_o hx (tq_I e47).1 (tq_I e47).2
  replace hv44 := dr_o hv44 (tq_I e47).1 (tq_I e47).2
  obtain ⟨D48, e48, h⟩ := le1_ok h
  refine dr_putP (fun _ => ⟨rfl, rfl⟩) I cf12 fD_RX12_105 hR hx e48 dX12_init_855 (fun H locs hR => ?_)
  replace hn := (tq_P e48).1.trans hn
  replace hx := dr_o hx (tq_P e48).1 (tq_P e48).2
  exact wg_4 I _ r h hn hx _ _ _ hR hl
set_option maxRecDepth 100000 in
def fg_2 (x n : Nat) (D : Dp) : Option Dp :=
  le1 (dyN D 3 5) (fun D1 => le1 (dyI D1 (n + 15) 0 (vp_nar .char (108 : Int32))) (fun D2 => le1 (dyI D2 (n + 15) 1 (vp_nar .char (111 : Int32))) (fun D3 => le1 (dyI D3 (n + 15) 2 (vp_nar .char (115 : Int32))) (fun D4 => le1 (dyI D4 (n + 15) 3 (vp_nar .char (101 : Int32))) (fun D5 => le1 (dyI D5 (n + 15) 4 (vp_nar .char (115 : Int32))) (fun D6 => le1 (dyP D6 x 23 (n + 15)) (fun D7 => le1 (dyN D7 3 6) (fun D8 => le1 (dyI D8 (n + 16) 0 (vp_nar .char (98 : Int32))) (fun D9 => le1 (dyI D9 (n + 16) 1 (vp_nar .char (101 : Int32))) (fun D10 => le1 (dyI D10 (n + 16) 2 (vp_nar .char (108 : Int32))) (fun D11 => le1 (dyI D11 (n + 16) 3 (vp_nar .char (105 : Int32))) (fun D12 => le1 (dyI D12 (n + 16) 4 (vp_nar .char (101 : Int32))) (fun D13 => le1 (dyI D13 (n + 16) 5 (vp_nar .char (102 : Int32))) (fun D14 => le1 (dyP D14 x 24 (n + 16)) (fun D15 => le1 (dyN D15 3 4) (fun D16 => le1 (dyI D16 (n + 17) 0 (vp_nar .char (98 : Int32))) (fun D17 => le1 (dyI D17 (n + 17) 1 (vp_nar .char (111 : Int32))) (fun D18 => le1 (dyI D18 (n + 17) 2 (vp_nar .char (121 : Int32))) (fun D19 => le1 (dyI D19 (n + 17) 3 (vp_nar .char (115 : Int32))) (fun D20 => le1 (dyP D20 x 25 (n + 17)) (fun D21 => le1 (dyN D21 3 5) (fun D22 => le1 (dyI D22 (n + 18) 0 (vp_nar .char (116 : Int32))) (fun D23 => le1 (dyI D23 (n + 18) 1 (vp_nar .char (105 : Int32))) (fun D24 => le1 (dyI D24 (n + 18) 2 (vp_nar .char (109 : Int32))) (fun D25 => le1 (dyI D25 (n + 18) 3 (vp_nar .char (101 : Int32))) (fun D26 => le1 (dyI D26 (n + 18) 4 (vp_nar .char (115 : Int32))) (fun D27 => le1 (dyP D27 x 26 (n + 18)) (fun D28 => le1 (dyN D28 3 4) (fun D29 => le1 (dyI D29 (n + 19) 0 (vp_nar .char (121 : Int32))) (fun D30 => le1 (dyI D30 (n + 19) 1 (vp_nar .char (101 : Int32))) (fun D31 => le1 (dyI D31 (n + 19) 2 (vp_nar .char (97 : Int32))) (fun D32 => le1 (dyI D32 (n + 19) 3 (vp_nar .char (114 : Int32))) (fun D33 => le1 (dyP D33 x 27 (n + 19)) (fun D34 => le1 (dyN D34 3 6) (fun D35 => le1 (dyI D35 (n + 20) 0 (vp_nar .char (110 : Int32))) (fun D36 => le1 (dyI D36 (n + 20) 1 (vp_nar .char (117 : Int32))) (fun D37 => le1 (dyI D37 (n + 20) 2 (vp_nar .char (109 : Int32))) (fun D38 => le1 (dyI D38 (n + 20) 3 (vp_nar .char (98 : Int32))) (fun D39 => le1 (dyI D39 (n + 20) 4 (vp_nar .char (101 : Int32))) (fun D40 => le1 (dyI D40 (n + 20) 5 (vp_nar .char (114 : Int32))) (fun D41 => le1 (dyP D41 x 28 (n + 20)) (fun D42 => le1 (dyN D42 3 5) (fun D43 => le1 (dyI D43 (n + 21) 0 (vp_nar .char (107 : Int32))) (fun D44 => le1 (dyI D44 (n + 21) 1 (vp_nar .char (110 : Int32))) (fun D45 => le1 (dyI D45 (n + 21) 2 (vp_nar .char (111 : Int32))) (fun D46 => le1 (dyI D46 (n + 21) 3 (vp_nar .char (119 : Int32))) (fun D47 => le1 (dyI D47 (n + 21) 4 (vp_nar .char (110 : Int32))) (fun D48 => le1 (dyP D48 x 29 (n + 21)) (fun D49 => fg_3 x n D49)))))))))))))))))))))))))))))))))))))))))))))))))
set_option maxHeartbeats 4000000 in
set_option maxRecDepth 100000 in
theorem wg_2 {p : Program} {l : Launch} {e : Env} {s : State} {m : MethodId} {args : Array Value} {below : List Frame} {meth : Method} {c : Code} {B x n : Nat} {E : Ev} {ak av : Nat → Nat} (I : dy_I p s m args meth c RX12 cX12_init 1 B n ak av) (D r : Dp) (h : fg_2 x n D = some r) (hn : D.1 = (n + 15)) (hx : x < D.1 ∧ D.2.1 x = (1, 12)) (H : Heap) (locs : List Loc) (ls : Array Slot) (hR : dy_R B E s s.heap H locs D) (hl : lv_has ls 1 [(0, .ref (B + x))]) : W p l e (dy_rm 1 80 13380) s m args below meth c H locs 15 1666 (dy_Z B E below args s 80 13380 r) (F0 m 419 ls []) := by
  unfold fg_2 at h
  refine lv_aload_n I.1.1 I.1.2.1 dX12_init_419 rfl (lv_at hl 0 rfl) ?_
  refine lv_iconst (v := (5 : Int32)) I.1.1 I.1.2.1 dX12_init_420 (by decide) ?_
  obtain ⟨D1, e1, h⟩ := le1_ok h
  refine dr_newC (N := 5) I wA_char (by decide) rfl (by decide) hR hn (by omega) (Nat.zero_lt_of_lt hx.1) e1 (Nat.le_of_ble_eq_true rfl) (Nat.le_of_ble_eq_true rfl) dX12_init_421 (fun H hR => ?_)
  replace hx := dr_oN hx e1
  have hv1 := dr_new1 hn e1
  replace hn := tq_N hn e1
  refine W.widen (k := 16) (n := 1671) (Nat.le_of_ble_eq_true rfl) (Nat.le_of_ble_eq_true rfl) ?_
  refine lv_dup I.1.1 I.1.2.1 dX12_init_423 rfl ?_
  refine lv_iconst (v := (0 : Int32)) I.1.1 I.1.2.1 dX12_init_424 (by decide) ?_
  refine lv_bipush (v := (108 : Int32)) I.1.1 I.1.2.1 dX12_init_425 (by decide) ?_
  obtain ⟨D2, e2, h⟩ := le1_ok h
  refine dr_cst I hR hv1 (by unfold vp_in; decide) e2 dX12_init_427 (fun H locs hR => ?_)
  replace hn := (tq_I e2).1.trans hn
  replace hx := dr_o hx (tq_I e2).1 (tq_I e2).2
  replace hv1 := dr_o hv1 (tq_I e2).1 (tq_I e2).2
  refine lv_dup I.1.1 I.1.2.1 dX12_init_428 rfl ?_
  refine lv_iconst (v := (1 : Int32)) I.1.1 I.1.2.1 dX12_init_429 (by decide) ?_
  refine lv_bipush (v := (111 : Int32)) I.1.1 I.1.2.1 dX12_init_430 (by decide) ?_
  obtain ⟨D3, e3, h⟩ := le1_ok h
  refine dr_cst I hR hv1 (by unfold vp_in; decide) e3 dX12_init_432 (fun H locs hR => ?_)
  replace hn := (tq_I e3).1.trans hn
  replace hx := dr_o hx (tq_I e3).1 (tq_I e3).2
  replace hv1 := dr_o hv1 (tq_I e3).1 (tq_I e3).2
  refine lv_dup I.1.1 I.1.2.1 dX12_init_433 rfl ?_
  refine lv_iconst (v := (2 : Int32)) I.1.1 I.1.2.1 dX12_init_434 (by decide) ?_
  refine lv_bipush (v := (115 : Int32)) I.1.1 I.1.2.1 dX12_init_435 (by decide) ?_
  obtain ⟨D4, e4, h⟩ := le1_ok h
  refine dr_cst I hR hv1 (by unfold vp_in; decide) e4 dX12_init_437 (fun H locs hR => ?_)
  replace hn := (tq_I e4).1.trans hn
  replace hx := dr_o hx (tq_I e4).1 (tq_I e4).2
  replace hv1 := dr_o hv1 (tq_I e4).1 (tq_I e4).2
  refine lv_dup I.1.1 I.1.2.1 dX12_init_438 rfl ?_
  refine lv_iconst (v := (3 : Int32)) I.1.1 I.1.2.1 dX12_init_439 (by decide) ?_
  refine lv_bipush (v := (101 : Int32)) I.1.1 I.1.2.1 dX12_init_440 (by decide) ?_
  obtain ⟨D5, e5, h⟩ := le1_ok h
  refine dr_cst I hR hv1 (by unfold vp_in; decide) e5 dX12_init_442 (fun H locs hR => ?_)
  replace hn := (tq_I e5).1.trans hn
  replace hx := dr_o hx (tq_I e5).1 (tq_I e5).2
  replace hv1 := dr_o hv1 (tq_I e5).1 (tq_I e5).2
  refine lv_dup I.1.1 I.1.2.1 dX12_init_443 rfl ?_
  refine lv_iconst (v := (4 : Int32)) I.1.1 I.1.2.1 dX12_init_444 (by decide) ?_
  refine lv_bipush (v := (115 : Int32)) I.1.1 I.1.2.1 dX12_init_445 (by decide) ?_
  obtain ⟨D6, e6, h⟩ := le1_ok h
  refine dr_cst I hR hv1 (by unfold vp_in; decide) e6 dX12_init_447 (fun H locs hR => ?_)
  replace hn := (tq_I e6).1.trans hn
  replace hx := dr_o hx (tq_I e6).1 (tq_I e6).2
  replace hv1 := dr_o hv1 (tq_I e6).1 (tq_I e6).2
  obtain ⟨D7, e7, h⟩ := le1_ok h
  refine dr_putP (fun _ => ⟨rfl, rfl⟩) I cf12 fD_RX12_60 hR hx e7 dX12_init_448 (fun H locs hR => ?_)
  replace hn := (tq_P e7).1.trans hn
  replace hx := dr_o hx (tq_P e7).1 (tq_P e7).2
  refine lv_aload_n I.1.1 I.1.2.1 dX12_init_451 rfl (lv_at hl 0 rfl) ?_
  refine lv_bipush (v := (6 : Int32)) I.1.1 I.1.2.1 dX12_init_452 (by decide) ?_
  obtain ⟨D8, e8, h⟩ := le1_ok h
  refine dr_newC (N := 6) I wA_char (by decide) rfl (by decide) hR hn (by omega) (Nat.zero_lt_of_lt hx.1) e8 (Nat.le_of_ble_eq_true rfl) (Nat.le_of_ble_eq_true rfl) dX12_init_454 (fun H hR => ?_)
  replace hx := dr_oN hx e8
  have hv8 := dr_new1 hn e8
  replace hn := tq_N hn e8
  refine W.widen (k := 17) (n := 1677) (Nat.le_of_ble_eq_true rfl) (Nat.le_of_ble_eq_true rfl) ?_
  refine lv_dup I.1.1 I.1.2.1 dX12_init_456 rfl ?_
  refine lv_iconst (v := (0 : Int32)) I.1.1 I.1.2.1 dX12_init_457 (by decide) ?_
  refine lv_bipush (v := (98 : Int32)) I.1.1 I.1.2.1 dX12_init_458 (by decide) ?_
  obtain ⟨D9, e9, h⟩ := le1_ok h
  refine dr_cst I hR hv8 (by unfold vp_in; decide) e9 dX12_init_460 (fun H locs hR => ?_)
  replace hn := (tq_I e9).1.trans hn
  replace hx := dr_o hx (tq_I e9).1 (tq_I e9).2
  replace hv8 := dr_o hv8 (tq_I e9).1 (tq_I e9).2
  refine lv_dup I.1.1 I.1.2.1 dX12_init_461 rfl ?_
  refine lv_iconst (v := (1 : Int32)) I.1.1 I.1.2.1 dX12_init_462 (by decide) ?_
  refine lv_bipush (v := (101 : Int32)) I.1.1 I.1.2.1 dX12_init_463 (by decide) ?_
  obtain ⟨D10, e10, h⟩ := le1_ok h
  refine dr_cst I hR hv8 (by unfold vp_in; decide) e10 dX12_init_465 (fun H locs hR => ?_)
  replace hn := (tq_I e10).1.trans hn
  replace hx := dr_o hx (tq_I e10).1 (tq_I e10).2
  replace hv8 := dr_o hv8 (tq_I e10).1 (tq_I e10).2
  refine lv_dup I.1.1 I.1.2.1 dX12_init_466 rfl ?_
  refine lv_iconst (v := (2 : Int32)) I.1.1 I.1.2.1 dX12_init_467 (by decide) ?_
  refine lv_bipush (v := (108 : Int32)) I.1.1 I.1.2.1 dX12_init_468 (by decide) ?_
  obtain ⟨D11, e11, h⟩ := le1_ok h
  refine dr_cst I hR hv8 (by unfold vp_in; decide) e11 dX12_init_470 (fun H locs hR => ?_)
  replace hn := (tq_I e11).1.trans hn
  replace hx := dr_o hx (tq_I e11).1 (tq_I e11).2
  replace hv8 := dr_o hv8 (tq_I e11).1 (tq_I e11).2
  refine lv_dup I.1.1 I.1.2.1 dX12_init_471 rfl ?_
  refine lv_iconst (v := (3 : Int32)) I.1.1 I.1.2.1 dX12_init_472 (by decide) ?_
  refine lv_bipush (v := (105 : Int32)) I.1.1 I.1.2.1 dX12_init_473 (by decide) ?_
  obtain ⟨D12, e12, h⟩ := le1_ok h
  refine dr_cst I hR hv8 (by unfold vp_in; decide) e12 dX12_init_475 (fun H locs hR => ?_)
  replace hn := (tq_I e12).1.trans hn
  replace hx := dr_o hx (tq_I e12).1 (tq_I e12).2
  replace hv8 := dr_o hv8 (tq_I e12).1 (tq_I e12).2
  refine lv_dup I.1.1 I.1.2.1 dX12_init_476 rfl ?_
  refine lv_iconst (v := (4 : Int32)) I.1.1 I.1.2.1 dX12_init_477 (by decide) ?_
  refine lv_bipush (v := (101 : Int32)) I.1.1 I.1.2.1 dX12_init_478 (by decide) ?_
  obtain ⟨D13, e13, h⟩ := le1_ok h
  refine dr_cst I hR hv8 (by unfold vp_in; decide) e13 dX12_init_480 (fun H locs hR => ?_)
  replace hn := (tq_I e13).1.trans hn
  replace hx := dr_o hx (tq_I e13).1 (tq_I e13).2
  replace hv8 := dr_o hv8 (tq_I e13).1 (tq_I e13).2
  refine lv_dup I.1.1 I.1.2.1 dX12_init_481 rfl ?_
  refine lv_iconst (v := (5 : Int32)) I.1.1 I.1.2.1 dX12_init_482 (by decide) ?_
  refine lv_bipush (v := (102 : Int32)) I.1.1 I.1.2.1 dX12_init_483 (by decide) ?_
  obtain ⟨D14, e14, h⟩ := le1_ok h
  refine dr_cst I hR hv8 (by unfold vp_in; decide) e14 dX12_init_485 (fun H locs hR => ?_)
  replace hn := (tq_I e14).1.trans hn
  replace hx := dr_o hx (tq_I e14).1 (tq_I e14).2
  replace hv8 := dr_o hv8 (tq_I e14).1 (tq_I e14).2
  obtain ⟨D15, e15, h⟩ := le1_ok h
  refine dr_putP (fun _ => ⟨rfl, rfl⟩) I cf12 fD_RX12_63 hR hx e15 dX12_init_486 (fun H locs hR => ?_)
  replace hn := (tq_P e15).1.trans hn
  replace hx := dr_o hx (tq_P e15).1 (tq_P e15).2
  refine lv_aload_n I.1.1 I.1.2.1 dX12_init_489 rfl (lv_at hl 0 rfl) ?_
  refine lv_iconst (v := (4 : Int32)) I.1.1 I.1.2.1 dX12_init_490 (by decide) ?_
  obtain ⟨D16, e16, h⟩ := le1_ok h
  refine dr_newC (N := 4) I wA_char (by decide) rfl (by decide) hR hn (by omega) (Nat.zero_lt_of_lt hx.1) e16 (Nat.le_of_ble_eq_true rfl) (Nat.le_of_ble_eq_true rfl) dX12_init_491 (fun H hR => ?_)
  replace hx := dr_oN hx e16
  have hv16 := dr_new1 hn e16
  replace hn := tq_N hn e16
  refine W.widen (k := 18) (n := 1681) (Nat.le_of_ble_eq_true rfl) (Nat.le_of_ble_eq_true rfl) ?_
  refine lv_dup I.1.1 I.1.2.1 dX12_init_493 rfl ?_
  refine lv_iconst (v := (0 : Int32)) I.1.1 I.1.2.1 dX12_init_494 (by decide) ?_
  refine lv_bipush (v := (98 : Int32)) I.1.1 I.1.2.1 dX12_init_495 (by decide) ?_
  obtain ⟨D17, e17, h⟩ := le1_ok h
  refine dr_cst I hR hv16 (by unfold vp_in; decide) e17 dX12_init_497 (fun H locs hR => ?_)
  replace hn := (tq_I e17).1.trans hn
  replace hx := dr_o hx (tq_I e17).1 (tq_I e17).2
  replace hv16 := dr_o hv16 (tq_I e17).1 (tq_I e17).2
  refine lv_dup I.1.1 I.1.2.1 dX12_init_498 rfl ?_
  refine lv_iconst (v := (1 : Int32)) I.1.1 I.1.2.1 dX12_init_499 (by decide) ?_
  refine lv_bipush (v := (111 : Int32)) I.1.1 I.1.2.1 dX12_init_500 (by decide) ?_
  obtain ⟨D18, e18, h⟩ := le1_ok h
  refine dr_cst I hR hv16 (by unfold vp_in; decide) e18 dX12_init_502 (fun H locs hR => ?_)
  replace hn := (tq_I e18).1.trans hn
  replace hx := dr_o hx (tq_I e18).1 (tq_I e18).2
  replace hv16 := dr_o hv16 (tq_I e18).1 (tq_I e18).2
  refine lv_dup I.1.1 I.1.2.1 dX12_init_503 rfl ?_
  refine lv_iconst (v := (2 : Int32)) I.1.1 I.1.2.1 dX12_init_504 (by decide) ?_
  refine lv_bipush (v := (121 : Int32)) I.1.1 I.1.2.1 dX12_init_505 (by decide) ?_
  obtain ⟨D19, e19, h⟩ := le1_ok h
  refine dr_cst I hR hv16 (by unfold vp_in; decide) e19 dX12_init_507 (fun H locs hR => ?_)
  replace hn := (tq_I e19).1.trans hn
  replace hx := dr_o hx (tq_I e19).1 (tq_I e19).2
  replace hv16 := dr_o hv16 (tq_I e19).1 (tq_I e19).2
  refine lv_dup I.1.1 I.1.2.1 dX12_init_508 rfl ?_
  refine lv_iconst (v := (3 : Int32)) I.1.1 I.1.2.1 dX12_init_509 (by decide) ?_
  refine lv_bipush (v := (115 : Int32)) I.1.1 I.1.2.1 dX12_init_510 (by decide) ?_
  obtain ⟨D20, e20, h⟩ := le1_ok h
  refine dr_cst I hR hv16 (by unfold vp_in; decide) e20 dX12_init_512 (fun H locs hR => ?_)
  replace hn := (tq_I e20).1.trans hn
  replace hx := dr_o hx (tq_I e20).1 (tq_I e20).2
  replace hv16 := dr_o hv16 (tq_I e20).1 (tq_I e20).2
  obtain ⟨D21, e21, h⟩ := le1_ok h
  refine dr_putP (fun _ => ⟨rfl, rfl⟩) I cf12 fD_RX12_66 hR hx e21 dX12_init_513 (fun H locs hR => ?_)
  replace hn := (tq_P e21).1.trans hn
  replace hx := dr_o hx (tq_P e21).1 (tq_P e21).2
  refine lv_aload_n I.1.1 I.1.2.1 dX12_init_516 rfl (lv_at hl 0 rfl) ?_
  refine lv_iconst (v := (5 : Int32)) I.1.1 I.1.2.1 dX12_init_517 (by decide) ?_
  obtain ⟨D22, e22, h⟩ := le1_ok h
  refine dr_newC (N := 5) I wA_char (by decide) rfl (by decide) hR hn (by omega) (Nat.zero_lt_of_lt hx.1) e22 (Nat.le_of_ble_eq_true rfl) (Nat.le_of_ble_eq_true rfl) dX12_init_518 (fun H hR => ?_)
  replace hx := dr_oN hx e22
  have hv22 := dr_new1 hn e22
  replace hn := tq_N hn e22
  refine W.widen (k := 19) (n := 1686) (Nat.le_of_ble_eq_true rfl) (Nat.le_of_ble_eq_true rfl) ?_
  refine lv_dup I.1.1 I.1.2.1 dX12_init_520 rfl ?_
  refine lv_iconst (v := (0 : Int32)) I.1.1 I.1.2.1 dX12_init_521 (by decide) ?_
  refine lv_bipush (v := (116 : Int32)) I.1.1 I.1.2.1 dX12_init_522 (by decide) ?_
  obtain ⟨D23, e23, h⟩ := le1_ok h
  refine dr_cst I hR hv22 (by unfold vp_in; decide) e23 dX12_init_524 (fun H locs hR => ?_)
  replace hn := (tq_I e23).1.trans hn
  replace hx := dr_o hx (tq_I e23).1 (tq_I e23).2
  replace hv22 := dr_o hv22 (tq_I e23).1 (tq_I e23).2
  refine lv_dup I.1.1 I.1.2.1 dX12_init_525 rfl ?_
  refine lv_iconst (v := (1 : Int32)) I.1.1 I.1.2.1 dX12_init_526 (by decide) ?_
  refine lv_bipush (v := (105 : Int32)) I.1.1 I.1.2.1 dX12_init_527 (by decide) ?_
  obtain ⟨D24, e24, h⟩ := le1_ok h
  refine dr_cst I hR hv22 (by unfold vp_in; decide) e24 dX12_init_529 (fun H locs hR => ?_)
  replace hn := (tq_I e24).1.trans hn
  replace hx := dr_o hx (tq_I e24).1 (tq_I e24).2
  replace hv22 := dr_o hv22 (tq_I e24).1 (tq_I e24).2
  refine lv_dup I.1.1 I.1.2.1 dX12_init_530 rfl ?_
  refine lv_iconst (v := (2 : Int32)) I.1.1 I.1.2.1 dX12_init_531 (by decide) ?_
  refine lv_bipush (v := (109 : Int32)) I.1.1 I.1.2.1 dX12_init_532 (by decide) ?_
  obtain ⟨D25, e25, h⟩ := le1_ok h
  refine dr_cst I hR hv22 (by unfold vp_in; decide) e25 dX12_init_534 (fun H locs hR => ?_)
  replace hn := (tq_I e25).1.trans hn
  replace hx := dr_o hx (tq_I e25).1 (tq_I e25).2
  replace hv22 := dr_o hv22 (tq_I e25).1 (tq_I e25).2
  refine lv_dup I.1.1 I.1.2.1 dX12_init_535 rfl ?_
  refine lv_iconst (v := (3 : Int32)) I.1.1 I.1.2.1 dX12_init_536 (by decide) ?_
  refine lv_bipush (v := (101 : Int32)) I.1.1 I.1.2.1 dX12_init_537 (by decide) ?_
  obtain ⟨D26, e26, h⟩ := le1_ok h
  refine dr_cst I hR hv22 (by unfold vp_in; decide) e26 dX12_init_539 (fun H locs hR => ?_)
  replace hn := (tq_I e26).1.trans hn
  replace hx := dr_o hx (tq_I e26).1 (tq_I e26).2
  replace hv22 := dr_o hv22 (tq_I e26).1 (tq_I e26).2
  refine lv_dup I.1.1 I.1.2.1 dX12_init_540 rfl ?_
  refine lv_iconst (v := (4 : Int32)) I.1.1 I.1.2.1 dX12_init_541 (by decide) ?_
  refine lv_bipush (v := (115 : Int32)) I.1.1 I.1.2.1 dX12_init_542 (by decide) ?_
  obtain ⟨D27, e27, h⟩ := le1_ok h
  refine dr_cst I hR hv22 (by unfold vp_in; decide) e27 dX12_init_544 (fun H locs hR => ?_)
  replace hn := (tq_I e27).1.trans hn
  replace hx := dr_o hx (tq_I e27).1 (tq_I e27).2
  replace hv22 := dr_o hv22 (tq_I e27).1 (tq_I e27).2
  obtain ⟨D28, e28, h⟩ := le1_ok h
  refine dr_putP (fun _ => ⟨rfl, rfl⟩) I cf12 fD_RX12_69 hR hx e28 dX12_init_545 (fun H locs hR => ?_)
  replace hn := (tq_P e28).1.trans hn
  replace hx := dr_o hx (tq_P e28).1 (tq_P e28).2
  refine lv_aload_n I.1.1 I.1.2.1 dX12_init_548 rfl (lv_at hl 0 rfl) ?_
  refine lv_iconst (v := (4 : Int32)) I.1.1 I.1.2.1 dX12_init_549 (by decide) ?_
  obtain ⟨D29, e29, h⟩ := le1_ok h
  refine dr_newC (N := 4) I wA_char (by decide) rfl (by decide) hR hn (by omega) (Nat.zero_lt_of_lt hx.1) e29 (Nat.le_of_ble_eq_true rfl) (Nat.le_of_ble_eq_true rfl) dX12_init_550 (fun H hR => ?_)
  replace hx := dr_oN hx e29
  have hv29 := dr_new1 hn e29
  replace hn := tq_N hn e29
  refine W.widen (k := 20) (n := 1690) (Nat.le_of_ble_eq_true rfl) (Nat.le_of_ble_eq_true rfl) ?_
  refine lv_dup I.1.1 I.1.2.1 dX12_init_552 rfl ?_
  refine lv_iconst (v := (0 : Int32)) I.1.1 I.1.2.1 dX12_init_553 (by decide) ?_
  refine lv_bipush (v := (121 : Int32)) I.1.1 I.1.2.1 dX12_init_554 (by decide) ?_
  obtain ⟨D30, e30, h⟩ := le1_ok h
  refine dr_cst I hR hv29 (by unfold vp_in; decide) e30 dX12_init_556 (fun H locs hR => ?_)
  replace hn := (tq_I e30).1.trans hn
  replace hx := dr_o hx (tq_I e30).1 (tq_I e30).2
  replace hv29 := dr_o hv29 (tq_I e30).1 (tq_I e30).2
  refine lv_dup I.1.1 I.1.2.1 dX12_init_557 rfl ?_
  refine lv_iconst (v := (1 : Int32)) I.1.1 I.1.2.1 dX12_init_558 (by decide) ?_
  refine lv_bipush (v := (101 : Int32)) I.1.1 I.1.2.1 dX12_init_559 (by decide) ?_
  obtain ⟨D31, e31, h⟩ := le1_ok h
  refine dr_cst I hR hv29 (by unfold vp_in; decide) e31 dX12_init_561 (fun H locs hR => ?_)
  replace hn := (tq_I e31).1.trans hn
  replace hx := dr_o hx (tq_I e31).1 (tq_I e31).2
  replace hv29 := dr_o hv29 (tq_I e31).1 (tq_I e31).2
  refine lv_dup I.1.1 I.1.2.1 dX12_init_562 rfl ?_
  refine lv_iconst (v := (2 : Int32)) I.1.1 I.1.2.1 dX12_init_563 (by decide) ?_
  refine lv_bipush (v := (97 : Int32)) I.1.1 I.1.2.1 dX12_init_564 (by decide) ?_
  obtain ⟨D32, e32, h⟩ := le1_ok h
  refine dr_cst I hR hv29 (by unfold vp_in; decide) e32 dX12_init_566 (fun H locs hR => ?_)
  replace hn := (tq_I e32).1.trans hn
  replace hx := dr_o hx (tq_I e32).1 (tq_I e32).2
  replace hv29 := dr_o hv29 (tq_I e32).1 (tq_I e32).2
  refine lv_dup I.1.1 I.1.2.1 dX12_init_567 rfl ?_
  refine lv_iconst (v := (3 : Int32)) I.1.1 I.1.2.1 dX12_init_568 (by decide) ?_
  refine lv_bipush (v := (114 : Int32)) I.1.1 I.1.2.1 dX12_init_569 (by decide) ?_
  obtain ⟨D33, e33, h⟩ := le1_ok h
  refine dr_cst I hR hv29 (by unfold vp_in; decide) e33 dX12_init_571 (fun H locs hR => ?_)
  replace hn := (tq_I e33).1.trans hn
  replace hx := dr_o hx (tq_I e33).1 (tq_I e33).2
  replace hv29 := dr_o hv29 (tq_I e33).1 (tq_I e33).2
  obtain ⟨D34, e34, h⟩ := le1_ok h
  refine dr_putP (fun _ => ⟨rfl, rfl⟩) I cf12 fD_RX12_72 hR hx e34 dX12_init_572 (fun H locs hR => ?_)
  replace hn := (tq_P e34).1.trans hn
  replace hx := dr_o hx (tq_P e34).1 (tq_P e34).2
  refine lv_aload_n I.1.1 I.1.2.1 dX12_init_575 rfl (lv_at hl 0 rfl) ?_
  refine lv_bipush (v := (6 : Int32)) I.1.1 I.1.2.1 dX12_init_576 (by decide) ?_
  obtain ⟨D35, e35, h⟩ := le1_ok h
  refine dr_newC (N := 6) I wA_char (by decide) rfl (by decide) hR hn (by omega) (Nat.zero_lt_of_lt hx.1) e35 (Nat.le_of_ble_eq_true rfl) (Nat.le_of_ble_eq_true rfl) dX12_init_578 (fun H hR => ?_)
  replace hx := dr_oN hx e35
  have hv35 := dr_new1 hn e35
  replace hn := tq_N hn e35
  refine W.widen (k := 21) (n := 1696) (Nat.le_of_ble_eq_true rfl) (Nat.le_of_ble_eq_true rfl) ?_
  refine lv_dup I.1.1 I.1.2.1 dX12_init_580 rfl ?_
  refine lv_iconst (v := (0 : Int32)) I.1.1 I.1.2.1 dX12_init_581 (by decide) ?_
  refine lv_bipush (v := (110 : Int32)) I.1.1 I.1.2.1 dX12_init_582 (by decide) ?_
  obtain ⟨D36, e36, h⟩ := le1_ok h
  refine dr_cst I hR hv35 (by unfold vp_in; decide) e36 dX12_init_584 (fun H locs hR => ?_)
  replace hn := (tq_I e36).1.trans hn
  replace hx := dr_o hx (tq_I e36).1 (tq_I e36).2
  replace hv35 := dr_o hv35 (tq_I e36).1 (tq_I e36).2
  refine lv_dup I.1.1 I.1.2.1 dX12_init_585 rfl ?_
  refine lv_iconst (v := (1 : Int32)) I.1.1 I.1.2.1 dX12_init_586 (by decide) ?_
  refine lv_bipush (v := (117 : Int32)) I.1.1 I.1.2.1 dX12_init_587 (by decide) ?_
  obtain ⟨D37, e37, h⟩ := le1_ok h
  refine dr_cst I hR hv35 (by unfold vp_in; decide) e37 dX12_init_589 (fun H locs hR => ?_)
  replace hn := (tq_I e37).1.trans hn
  replace hx := dr_o hx (tq_I e37).1 (tq_I e37).2
  replace hv35 := dr_o hv35 (tq_I e37).1 (tq_I e37).2
  refine lv_dup I.1.1 I.1.2.1 dX12_init_590 rfl ?_
  refine lv_iconst (v := (2 : Int32)) I.1.1 I.1.2.1 dX12_init_591 (by decide) ?_
  refine lv_bipush (v := (109 : Int32)) I.1.1 I.1.2.1 dX12_init_592 (by decide) ?_
  obtain ⟨D38, e38, h⟩ := le1_ok h
  refine dr_cst I hR hv35 (by unfold vp_in; decide) e38 dX12_init_594 (fun H locs hR => ?_)
  replace hn := (tq_I e38).1.trans hn
  replace hx := dr_o hx (tq_I e38).1 (tq_I e38).2
  replace hv35 := dr_o hv35 (tq_I e38).1 (tq_I e38).2
  refine lv_dup I.1.1 I.1.2.1 dX12_init_595 rfl ?_
  refine lv_iconst (v := (3 : Int32)) I.1.1 I.1.2.1 dX12_init_596 (by decide) ?_
  refine lv_bipush (v := (98 : Int32)) I.1.1 I.1.2.1 dX12_init_597 (by decide) ?_
  obtain ⟨D39, e39, h⟩ := le1_ok h
  refine dr_cst I hR hv35 (by unfold vp_in; decide) e39 dX12_init_599 (fun H locs hR => ?_)
  replace hn := (tq_I e39).1.trans hn
  replace hx := dr_o hx (tq_I e39).1 (tq_I e39).2
  replace hv35 := dr_o hv35 (tq_I e39).1 (tq_I e39).2
  refine lv_dup I.1.1 I.1.2.1 dX12_init_600 rfl ?_
  refine lv_iconst (v := (4 : Int32)) I.1.1 I.1.2.1 dX12_init_601 (by decide) ?_
  refine lv_bipush (v := (101 : Int32)) I.1.1 I.1.2.1 dX12_init_602 (by decide) ?_
  obtain ⟨D40, e40, h⟩ := le1_ok h
  refine dr_cst I hR hv35 (by unfold vp_in; decide) e40 dX12_init_604 (fun H locs hR => ?_)
  replace hn := (tq_I e40).1.trans hn
  replace hx := dr_o hx (tq_I e40).1 (tq_I e40).2
  replace hv35 := dr_o hv35 (tq_I e40).1 (tq_I e40).2
  refine lv_dup I.1.1 I.1.2.1 dX12_init_605 rfl ?_
  refine lv_iconst (v := (5 : Int32)) I.1.1 I.1.2.1 dX12_init_606 (by decide) ?_
  refine lv_bipush (v := (114 : Int32)) I.1.1 I.1.2.1 dX12_init_607 (by decide) ?_
  obtain ⟨D41, e41, h⟩ := le1_ok h
  refine dr_cst I hR hv35 (by unfold vp_in; decide) e41 dX12_init_609 (fun H locs hR => ?_)
  replace hn := (tq_I e41).1.trans hn
  replace hx := dr_o hx (tq_I e41).1 (tq_I e41).2
  replace hv35 := dr_o hv35 (tq_I e41).1 (tq_I e41).2
  obtain ⟨D42, e42, h⟩ := le1_ok h
  refine dr_putP (fun _ => ⟨rfl, rfl⟩) I cf12 fD_RX12_75 hR hx e42 dX12_init_610 (fun H locs hR => ?_)
  replace hn := (tq_P e42).1.trans hn
  replace hx := dr_o hx (tq_P e42).1 (tq_P e42).2
  refine lv_aload_n I.1.1 I.1.2.1 dX12_init_613 rfl (lv_at hl 0 rfl) ?_
  refine lv_iconst (v := (5 : Int32)) I.1.1 I.1.2.1 dX12_init_614 (by decide) ?_
  obtain ⟨D43, e43, h⟩ := le1_ok h
  refine dr_newC (N := 5) I wA_char (by decide) rfl (by decide) hR hn (by omega) (Nat.zero_lt_of_lt hx.1) e43 (Nat.le_of_ble_eq_true rfl) (Nat.le_of_ble_eq_true rfl) dX12_init_615 (fun H hR => ?_)
  replace hx := dr_oN hx e43
  have hv43 := dr_new1 hn e43
  replace hn := tq_N hn e43
  refine W.widen (k := 22) (n := 1701) (Nat.le_of_ble_eq_true rfl) (Nat.le_of_ble_eq_true rfl) ?_
  refine lv_dup I.1.1 I.1.2.1 dX12_init_617 rfl ?_
  refine lv_iconst (v := (0 : Int32)) I.1.1 I.1.2.1 dX12_init_618 (by decide) ?_
  refine lv_bipush (v := (107 : Int32)) I.1.1 I.1.2.1 dX12_init_619 (by decide) ?_
  obtain ⟨D44, e44, h⟩ := le1_ok h
  refine dr_cst I hR hv43 (by unfold vp_in; decide) e44 dX12_init_621 (fun H locs hR => ?_)
  replace hn := (tq_I e44).1.trans hn
  replace hx := dr_o hx (tq_I e44).1 (tq_I e44).2
  replace hv43 := dr_o hv43 (tq_I e44).1 (tq_I e44).2
  refine lv_dup I.1.1 I.1.2.1 dX12_init_622 rfl ?_
  refine lv_iconst (v := (1 : Int32)) I.1.1 I.1.2.1 dX12_init_623 (by decide) ?_
  refine lv_bipush (v := (110 : Int32)) I.1.1 I.1.2.1 dX12_init_624 (by decide) ?_
  obtain ⟨D45, e45, h⟩ := le1_ok h
  refine dr_cst I hR hv43 (by unfold vp_in; decide) e45 dX12_init_626 (fun H locs hR => ?_)
  replace hn := (tq_I e45).1.trans hn
  replace hx := dr_o hx (tq_I e45).1 (tq_I e45).2
  replace hv43 := dr_o hv43 (tq_I e45).1 (tq_I e45).2
  refine lv_dup I.1.1 I.1.2.1 dX12_init_627 rfl ?_
  refine lv_iconst (v := (2 : Int32)) I.1.1 I.1.2.1 dX12_init_628 (by decide) ?_
  refine lv_bipush (v := (111 : Int32)) I.1.1 I.1.2.1 dX12_init_629 (by decide) ?_
  obtain ⟨D46, e46, h⟩ := le1_ok h
  refine dr_cst I hR hv43 (by unfold vp_in; decide) e46 dX12_init_631 (fun H locs hR => ?_)
  replace hn := (tq_I e46).1.trans hn
  replace hx := dr_o hx (tq_I e46).1 (tq_I e46).2
  replace hv43 := dr_o hv43 (tq_I e46).1 (tq_I e46).2
  refine lv_dup I.1.1 I.1.2.1 dX12_init_632 rfl ?_
  refine lv_iconst (v := (3 : Int32)) I.1.1 I.1.2.1 dX12_init_633 (by decide) ?_
  refine lv_bipush (v := (119 : Int32)) I.1.1 I.1.2.1 dX12_init_634 (by decide) ?_
  obtain ⟨D47, e47, h⟩ := le1_ok h
  refine dr_cst I hR hv43 (by unfold vp_in; decide) e47 dX12_init_636 (fun H locs hR => ?_)
  replace hn := (tq_I e47).1.trans hn
  replace hx := dr_o hx (tq_I e47).1 (tq_I e47).2
  replace hv43 := dr_o hv43 (tq_I e47).1 (tq_I e47).2
  refine lv_dup I.1.1 I.1.2.1 dX12_init_637 rfl ?_
  refine lv_iconst (v := (4 : Int32)) I.1.1 I.1.2.1 dX12_init_638 (by decide) ?_
  refine lv_bipush (v := (110 : Int32)) I.1.1 I.1.2.1 dX12_init_639 (by decide) ?_
  obtain ⟨D48, e48, h⟩ := le1_ok h
  refine dr_cst I hR hv43 (by unfold vp_in; decide) e48 dX12_init_641 (fun H locs hR => ?_)
  replace hn := (tq_I e48).1.trans hn
  replace hx := dr_o hx (tq_I e48).1 (tq_I e48).2
  replace hv43 := dr_o hv43 (tq_I e48).1 (tq_I e48).2
  obtain ⟨D49, e49, h⟩ := le1_ok h
  refine dr_putP (fun _ => ⟨rfl, rfl⟩) I cf12 fD_RX12_78 hR hx e49 dX12_init_642 (fun H locs hR => ?_)
  replace hn := (tq_P e49).1.trans hn
  replace hx := dr_o hx (tq_P e49).1 (tq_P e49).2
  exact wg_3 I _ r h hn hx _ _ _ hR hl
set_option maxRecDepth 100000 in
def fg_1 (x n : Nat) (D : Dp) : Option Dp :=
  le1 (dyN D 3 5) (fun D1 => le1 (dyI D1 (n + 8) 0 (vp_nar .char (116 : Int32))) (fun D2 => le1 (dyI D2 (n + 8) 1 (vp_nar .char (97 : Int32))) (fun D3 => le1 (dyI D3 (n + 8) 2 (vp_nar .char (107 : Int32))) (fun D4 => le1 (dyI D4 (n + 8) 3 (vp_nar .char (101 : Int32))) (fun D5 => le1 (dyI D5 (n + 8) 4 (vp_nar .char (115 : Int32))) (fun D6 => le1 (dyP D6 x 16 (n + 8)) (fun D7 => le1 (dyN D7 3 4) (fun D8 => le1 (dyI D8 (n + 9) 0 (vp_nar .char (102 : Int32))) (fun D9 => le1 (dyI D9 (n + 9) 1 (vp_nar .char (114 : Int32))) (fun D10 => le1 (dyI D10 (n + 9) 2 (vp_nar .char (111 : Int32))) (fun D11 => le1 (dyI D11 (n + 9) 3 (vp_nar .char (109 : Int32))) (fun D12 => le1 (dyP D12 x 17 (n + 9)) (fun D13 => le1 (dyN D13 3 4) (fun D14 => le1 (dyI D14 (n + 10) 0 (vp_nar .char (108 : Int32))) (fun D15 => le1 (dyI D15 (n + 10) 1 (vp_nar .char (111 : Int32))) (fun D16 => le1 (dyI D16 (n + 10) 2 (vp_nar .char (111 : Int32))) (fun D17 => le1 (dyI D17 (n + 10) 3 (vp_nar .char (107 : Int32))) (fun D18 => le1 (dyP D18 x 18 (n + 10)) (fun D19 => le1 (dyN D19 3 5) (fun D20 => le1 (dyI D20 (n + 11) 0 (vp_nar .char (119 : Int32))) (fun D21 => le1 (dyI D21 (n + 11) 1 (vp_nar .char (97 : Int32))) (fun D22 => le1 (dyI D22 (n + 11) 2 (vp_nar .char (116 : Int32))) (fun D23 => le1 (dyI D23 (n + 11) 3 (vp_nar .char (99 : Int32))) (fun D24 => le1 (dyI D24 (n + 11) 4 (vp_nar .char (104 : Int32))) (fun D25 => le1 (dyP D25 x 19 (n + 11)) (fun D26 => le1 (dyN D26 3 4) (fun D27 => le1 (dyI D27 (n + 12) 0 (vp_nar .char (115 : Int32))) (fun D28 => le1 (dyI D28 (n + 12) 1 (vp_nar .char (101 : Int32))) (fun D29 => le1 (dyI D29 (n + 12) 2 (vp_nar .char (97 : Int32))) (fun D30 => le1 (dyI D30 (n + 12) 3 (vp_nar .char (116 : Int32))) (fun D31 => le1 (dyP D31 x 20 (n + 12)) (fun D32 => le1 (dyN D32 3 5) (fun D33 => le1 (dyI D33 (n + 13) 0 (vp_nar .char (103 : Int32))) (fun D34 => le1 (dyI D34 (n + 13) 1 (vp_nar .char (108 : Int32))) (fun D35 => le1 (dyI D35 (n + 13) 2 (vp_nar .char (97 : Int32))) (fun D36 => le1 (dyI D36 (n + 13) 3 (vp_nar .char (115 : Int32))) (fun D37 => le1 (dyI D37 (n + 13) 4 (vp_nar .char (115 : Int32))) (fun D38 => le1 (dyP D38 x 21 (n + 13)) (fun D39 => le1 (dyN D39 3 4) (fun D40 => le1 (dyI D40 (n + 14) 0 (vp_nar .char (115 : Int32))) (fun D41 => le1 (dyI D41 (n + 14) 1 (vp_nar .char (101 : Int32))) (fun D42 => le1 (dyI D42 (n + 14) 2 (vp_nar .char (101 : Int32))) (fun D43 => le1 (dyI D43 (n + 14) 3 (vp_nar .char (115 : Int32))) (fun D44 => le1 (dyP D44 x 22 (n + 14)) (fun D45 => fg_2 x n D45)))))))))))))))))))))))))))))))))))))))))))))
set_option maxHeartbeats 4000000 in
set_option maxRecDepth 100000 in
theorem wg_1 {p : Program} {l : Launch} {e : Env} {s : State} {m : MethodId} {args : Array Value} {below : List Frame} {meth : Method} {c : Code} {B x n : Nat} {E : Ev} {ak av : Nat → Nat} (I : dy_I p s m args meth c RX12 cX12_init 1 B n ak av) (D r : Dp) (h : fg_1 x n D = some r) (hn : D.1 = (n + 8)) (hx : x < D.1 ∧ D.2.1 x = (1, 12)) (H : Heap) (locs : List Loc) (ls : Array Slot) (hR : dy_R B E s s.heap H locs D) (hl : lv_has ls 1 [(0, .ref (B + x))]) : W p l e (dy_rm 1 80 13380) s m args below meth c H locs 8 1635 (dy_Z B E below args s 80 13380 r) (F0 m 215 ls []) := by
  unfold fg_1 at h
  refine lv_aload_n I.1.1 I.1.2.1 dX12_init_215 rfl (lv_at hl 0 rfl) ?_
  refine lv_iconst (v := (5 : Int32)) I.1.1 I.1.2.1 dX12_init_216 (by decide) ?_
  obtain ⟨D1, e1, h⟩ := le1_ok h
  refine dr_newC (N := 5) I wA_char (by decide) rfl (by decide) hR hn (by omega) (Nat.zero_lt_of_lt hx.1) e1 (Nat.le_of_ble_eq_true rfl) (Nat.le_of_ble_eq_true rfl) dX12_init_217 (fun H hR => ?_)
  replace hx := dr_oN hx e1
  have hv1 := dr_new1 hn e1
  replace hn := tq_N hn e1
  refine W.widen (k := 9) (n := 1640) (Nat.le_of_ble_eq_true rfl) (Nat.le_of_ble_eq_true rfl) ?_
  refine lv_dup I.1.1 I.1.2.1 dX12_init_219 rfl ?_
  refine lv_iconst (v := (0 : Int32)) I.1.1 I.1.2.1 dX12_init_220 (by decide) ?_
  refine lv_bipush (v := (116 : Int32)) I.1.1 I.1.2.1 dX12_init_221 (by decide) ?_
  obtain ⟨D2, e2, h⟩ := le1_ok h
  refine dr_cst I hR hv1 (by unfold vp_in; decide) e2 dX12_init_223 (fun H locs hR => ?_)
  replace hn := (tq_I e2).1.trans hn
  replace hx := dr_o hx (tq_I e2).1 (tq_I e2).2
  replace hv1 := dr_o hv1 (tq_I e2).1 (tq_I e2).2
  refine lv_dup I.1.1 I.1.2.1 dX12_init_224 rfl ?_
  refine lv_iconst (v := (1 : Int32)) I.1.1 I.1.2.1 dX12_init_225 (by decide) ?_
  refine lv_bipush (v := (97 : Int32)) I.1.1 I.1.2.1 dX12_init_226 (by decide) ?_
  obtain ⟨D3, e3, h⟩ := le1_ok h
  refine dr_cst I hR hv1 (by unfold vp_in; decide) e3 dX12_init_228 (fun H locs hR => ?_)
  replace hn := (tq_I e3).1.trans hn
  replace hx := dr_o hx (tq_I e3).1 (tq_I e3).2
  replace hv1 := dr_o hv1 (tq_I e3).1 (tq_I e3).2
  refine lv_dup I.1.1 I.1.2.1 dX12_init_229 rfl ?_
  refine lv_iconst (v := (2 : Int32)) I.1.1 I.1.2.1 dX12_init_230 (by decide) ?_
  refine lv_bipush (v := (107 : Int32)) I.1.1 I.1.2.1 dX12_init_231 (by decide) ?_
  obtain ⟨D4, e4, h⟩ := le1_ok h
  refine dr_cst I hR hv1 (by unfold vp_in; decide) e4 dX12_init_233 (fun H locs hR => ?_)
  replace hn := (tq_I e4).1.trans hn
  replace hx := dr_o hx (tq_I e4).1 (tq_I e4).2
  replace hv1 := dr_o hv1 (tq_I e4).1 (tq_I e4).2
  refine lv_dup I.1.1 I.1.2.1 dX12_init_234 rfl ?_
  refine lv_iconst (v := (3 : Int32)) I.1.1 I.1.2.1 dX12_init_235 (by decide) ?_
  refine lv_bipush (v := (101 : Int32)) I.1.1 I.1.2.1 dX12_init_236 (by decide) ?_
  obtain ⟨D5, e5, h⟩ := le1_ok h
  refine dr_cst I hR hv1 (by unfold vp_in; decide) e5 dX12_init_238 (fun H locs hR => ?_)
  replace hn := (tq_I e5).1.trans hn
  replace hx := dr_o hx (tq_I e5).1 (tq_I e5).2
  replace hv1 := dr_o hv1 (tq_I e5).1 (tq_I e5).2
  refine lv_dup I.1.1 I.1.2.1 dX12_init_239 rfl ?_
  refine lv_iconst (v := (4 : Int32)) I.1.1 I.1.2.1 dX12_init_240 (by decide) ?_
  refine lv_bipush (v := (115 : Int32)) I.1.1 I.1.2.1 dX12_init_241 (by decide) ?_
  obtain ⟨D6, e6, h⟩ := le1_ok h
  refine dr_cst I hR hv1 (by unfold vp_in; decide) e6 dX12_init_243 (fun H locs hR => ?_)
  replace hn := (tq_I e6).1.trans hn
  replace hx := dr_o hx (tq_I e6).1 (tq_I e6).2
  replace hv1 := dr_o hv1 (tq_I e6).1 (tq_I e6).2
  obtain ⟨D7, e7, h⟩ := le1_ok h
  refine dr_putP (fun _ => ⟨rfl, rfl⟩) I cf12 fD_RX12_39 hR hx e7 dX12_init_244 (fun H locs hR => ?_)
  replace hn := (tq_P e7).1.trans hn
  replace hx := dr_o hx (tq_P e7).1 (tq_P e7).2
  refine lv_aload_n I.1.1 I.1.2.1 dX12_init_247 rfl (lv_at hl 0 rfl) ?_
  refine lv_iconst (v := (4 : Int32)) I.1.1 I.1.2.1 dX12_init_248 (by decide) ?_
  obtain ⟨D8, e8, h⟩ := le1_ok h
  refine dr_newC (N := 4) I wA_char (by decide) rfl (by decide) hR hn (by omega) (Nat.zero_lt_of_lt hx.1) e8 (Nat.le_of_ble_eq_true rfl) (Nat.le_of_ble_eq_true rfl) dX12_init_249 (fun H hR => ?_)
  replace hx := dr_oN hx e8
  have hv8 := dr_new1 hn e8
  replace hn := tq_N hn e8
  refine W.widen (k := 10) (n := 1644) (Nat.le_of_ble_eq_true rfl) (Nat.le_of_ble_eq_true rfl) ?_
  refine lv_dup I.1.1 I.1.2.1 dX12_init_251 rfl ?_
  refine lv_iconst (v := (0 : Int32)) I.1.1 I.1.2.1 dX12_init_252 (by decide) ?_
  refine lv_bipush (v := (102 : Int32)) I.1.1 I.1.2.1 dX12_init_253 (by decide) ?_
  obtain ⟨D9, e9, h⟩ := le1_ok h
  refine dr_cst I hR hv8 (by unfold vp_in; decide) e9 dX12_init_255 (fun H locs hR => ?_)
  replace hn := (tq_I e9).1.trans hn
  replace hx := dr_o hx (tq_I e9).1 (tq_I e9).2
  replace hv8 := dr_o hv8 (tq_I e9).1 (tq_I e9).2
  refine lv_dup I.1.1 I.1.2.1 dX12_init_256 rfl ?_
  refine lv_iconst (v := (1 : Int32)) I.1.1 I.1.2.1 dX12_init_257 (by decide) ?_
  refine lv_bipush (v := (114 : Int32)) I.1.1 I.1.2.1 dX12_init_258 (by decide) ?_
  obtain ⟨D10, e10, h⟩ := le1_ok h
  refine dr_cst I hR hv8 (by unfold vp_in; decide) e10 dX12_init_260 (fun H locs hR => ?_)
  replace hn := (tq_I e10).1.trans hn
  replace hx := dr_o hx (tq_I e10).1 (tq_I e10).2
  replace hv8 := dr_o hv8 (tq_I e10).1 (tq_I e10).2
  refine lv_dup I.1.1 I.1.2.1 dX12_init_261 rfl ?_
  refine lv_iconst (v := (2 : Int32)) I.1.1 I.1.2.1 dX12_init_262 (by decide) ?_
  refine lv_bipush (v := (111 : Int32)) I.1.1 I.1.2.1 dX12_init_263 (by decide) ?_
  obtain ⟨D11, e11, h⟩ := le1_ok h
  refine dr_cst I hR hv8 (by unfold vp_in; decide) e11 dX12_init_265 (fun H locs hR => ?_)
  replace hn := (tq_I e11).1.trans hn
  replace hx := dr_o hx (tq_I e11).1 (tq_I e11).2
  replace hv8 := dr_o hv8 (tq_I e11).1 (tq_I e11).2
  refine lv_dup I.1.1 I.1.2.1 dX12_init_266 rfl ?_
  refine lv_iconst (v := (3 : Int32)) I.1.1 I.1.2.1 dX12_init_267 (by decide) ?_
  refine lv_bipush (v := (109 : Int32)) I.1.1 I.1.2.1 dX12_init_268 (by decide) ?_
  obtain ⟨D12, e12, h⟩ := le1_ok h
  refine dr_cst I hR hv8 (by unfold vp_in; decide) e12 dX12_init_270 (fun H locs hR => ?_)
  replace hn := (tq_I e12).1.trans hn
  replace hx := dr_o hx (tq_I e12).1 (tq_I e12).2
  replace hv8 := dr_o hv8 (tq_I e12).1 (tq_I e12).2
  obtain ⟨D13, e13, h⟩ := le1_ok h
  refine dr_putP (fun _ => ⟨rfl, rfl⟩) I cf12 fD_RX12_42 hR hx e13 dX12_init_271 (fun H locs hR => ?_)
  replace hn := (tq_P e13).1.trans hn
  replace hx := dr_o hx (tq_P e13).1 (tq_P e13).2
  refine lv_aload_n I.1.1 I.1.2.1 dX12_init_274 rfl (lv_at hl 0 rfl) ?_
  refine lv_iconst (v := (4 : Int32)) I.1.1 I.1.2.1 dX12_init_275 (by decide) ?_
  obtain ⟨D14, e14, h⟩ := le1_ok h
  refine dr_newC (N := 4) I wA_char (by decide) rfl (by decide) hR hn (by omega) (Nat.zero_lt_of_lt hx.1) e14 (Nat.le_of_ble_eq_true rfl) (Nat.le_of_ble_eq_true rfl) dX12_init_276 (fun H hR => ?_)
  replace hx := dr_oN hx e14
  have hv14 := dr_new1 hn e14
  replace hn := tq_N hn e14
  refine W.widen (k := 11) (n := 1648) (Nat.le_of_ble_eq_true rfl) (Nat.le_of_ble_eq_true rfl) ?_
  refine lv_dup I.1.1 I.1.2.1 dX12_init_278 rfl ?_
  refine lv_iconst (v := (0 : Int32)) I.1.1 I.1.2.1 dX12_init_279 (by decide) ?_
  refine lv_bipush (v := (108 : Int32)) I.1.1 I.1.2.1 dX12_init_280 (by decide) ?_
  obtain ⟨D15, e15, h⟩ := le1_ok h
  refine dr_cst I hR hv14 (by unfold vp_in; decide) e15 dX12_init_282 (fun H locs hR => ?_)
  replace hn := (tq_I e15).1.trans hn
  replace hx := dr_o hx (tq_I e15).1 (tq_I e15).2
  replace hv14 := dr_o hv14 (tq_I e15).1 (tq_I e15).2
  refine lv_dup I.1.1 I.1.2.1 dX12_init_283 rfl ?_
  refine lv_iconst (v := (1 : Int32)) I.1.1 I.1.2.1 dX12_init_284 (by decide) ?_
  refine lv_bipush (v := (111 : Int32)) I.1.1 I.1.2.1 dX12_init_285 (by decide) ?_
  obtain ⟨D16, e16, h⟩ := le1_ok h
  refine dr_cst I hR hv14 (by unfold vp_in; decide) e16 dX12_init_287 (fun H locs hR => ?_)
  replace hn := (tq_I e16).1.trans hn
  replace hx := dr_o hx (tq_I e16).1 (tq_I e16).2
  replace hv14 := dr_o hv14 (tq_I e16).1 (tq_I e16).2
  refine lv_dup I.1.1 I.1.2.1 dX12_init_288 rfl ?_
  refine lv_iconst (v := (2 : Int32)) I.1.1 I.1.2.1 dX12_init_289 (by decide) ?_
  refine lv_bipush (v := (111 : Int32)) I.1.1 I.1.2.1 dX12_init_290 (by decide) ?_
  obtain ⟨D17, e17, h⟩ := le1_ok h
  refine dr_cst I hR hv14 (by unfold vp_in; decide) e17 dX12_init_292 (fun H locs hR => ?_)
  replace hn := (tq_I e17).1.trans hn
  replace hx := dr_o hx (tq_I e17).1 (tq_I e17).2
  replace hv14 := dr_o hv14 (tq_I e17).1 (tq_I e17).2
  refine lv_dup I.1.1 I.1.2.1 dX12_init_293 rfl ?_
  refine lv_iconst (v := (3 : Int32)) I.1.1 I.1.2.1 dX12_init_294 (by decide) ?_
  refine lv_bipush (v := (107 : Int32)) I.1.1 I.1.2.1 dX12_init_295 (by decide) ?_
  obtain ⟨D18, e18, h⟩ := le1_ok h
  refine dr_cst I hR hv14 (by unfold vp_in; decide) e18 dX12_init_297 (fun H locs hR => ?_)
  replace hn := (tq_I e18).1.trans hn
  replace hx := dr_o hx (tq_I e18).1 (tq_I e18).2
  replace hv14 := dr_o hv14 (tq_I e18).1 (tq_I e18).2
  obtain ⟨D19, e19, h⟩ := le1_ok h
  refine dr_putP (fun _ => ⟨rfl, rfl⟩) I cf12 fD_RX12_45 hR hx e19 dX12_init_298 (fun H locs hR => ?_)
  replace hn := (tq_P e19).1.trans hn
  replace hx := dr_o hx (tq_P e19).1 (tq_P e19).2
  refine lv_aload_n I.1.1 I.1.2.1 dX12_init_301 rfl (lv_at hl 0 rfl) ?_
  refine lv_iconst (v := (5 : Int32)) I.1.1 I.1.2.1 dX12_init_302 (by decide) ?_
  obtain ⟨D20, e20, h⟩ := le1_ok h
  refine dr_newC (N := 5) I wA_char (by decide) rfl (by decide) hR hn (by omega) (Nat.zero_lt_of_lt hx.1) e20 (Nat.le_of_ble_eq_true rfl) (Nat.le_of_ble_eq_true rfl) dX12_init_303 (fun H hR => ?_)
  replace hx := dr_oN hx e20
  have hv20 := dr_new1 hn e20
  replace hn := tq_N hn e20
  refine W.widen (k := 12) (n := 1653) (Nat.le_of_ble_eq_true rfl) (Nat.le_of_ble_eq_true rfl) ?_
  refine lv_dup I.1.1 I.1.2.1 dX12_init_305 rfl ?_
  refine lv_iconst (v := (0 : Int32)) I.1.1 I.1.2.1 dX12_init_306 (by decide) ?_
  refine lv_bipush (v := (119 : Int32)) I.1.1 I.1.2.1 dX12_init_307 (by decide) ?_
  obtain ⟨D21, e21, h⟩ := le1_ok h
  refine dr_cst I hR hv20 (by unfold vp_in; decide) e21 dX12_init_309 (fun H locs hR => ?_)
  replace hn := (tq_I e21).1.trans hn
  replace hx := dr_o hx (tq_I e21).1 (tq_I e21).2
  replace hv20 := dr_o hv20 (tq_I e21).1 (tq_I e21).2
  refine lv_dup I.1.1 I.1.2.1 dX12_init_310 rfl ?_
  refine lv_iconst (v := (1 : Int32)) I.1.1 I.1.2.1 dX12_init_311 (by decide) ?_
  refine lv_bipush (v := (97 : Int32)) I.1.1 I.1.2.1 dX12_init_312 (by decide) ?_
  obtain ⟨D22, e22, h⟩ := le1_ok h
  refine dr_cst I hR hv20 (by unfold vp_in; decide) e22 dX12_init_314 (fun H locs hR => ?_)
  replace hn := (tq_I e22).1.trans hn
  replace hx := dr_o hx (tq_I e22).1 (tq_I e22).2
  replace hv20 := dr_o hv20 (tq_I e22).1 (tq_I e22).2
  refine lv_dup I.1.1 I.1.2.1 dX12_init_315 rfl ?_
  refine lv_iconst (v := (2 : Int32)) I.1.1 I.1.2.1 dX12_init_316 (by decide) ?_
  refine lv_bipush (v := (116 : Int32)) I.1.1 I.1.2.1 dX12_init_317 (by decide) ?_
  obtain ⟨D23, e23, h⟩ := le1_ok h
  refine dr_cst I hR hv20 (by unfold vp_in; decide) e23 dX12_init_319 (fun H locs hR => ?_)
  replace hn := (tq_I e23).1.trans hn
  replace hx := dr_o hx (tq_I e23).1 (tq_I e23).2
  replace hv20 := dr_o hv20 (tq_I e23).1 (tq_I e23).2
  refine lv_dup I.1.1 I.1.2.1 dX12_init_320 rfl ?_
  refine lv_iconst (v := (3 : Int32)) I.1.1 I.1.2.1 dX12_init_321 (by decide) ?_
  refine lv_bipush (v := (99 : Int32)) I.1.1 I.1.2.1 dX12_init_322 (by decide) ?_
  obtain ⟨D24, e24, h⟩ := le1_ok h
  refine dr_cst I hR hv20 (by unfold vp_in; decide) e24 dX12_init_324 (fun H locs hR => ?_)
  replace hn := (tq_I e24).1.trans hn
  replace hx := dr_o hx (tq_I e24).1 (tq_I e24).2
  replace hv20 := dr_o hv20 (tq_I e24).1 (tq_I e24).2
  refine lv_dup I.1.1 I.1.2.1 dX12_init_325 rfl ?_
  refine lv_iconst (v := (4 : Int32)) I.1.1 I.1.2.1 dX12_init_326 (by decide) ?_
  refine lv_bipush (v := (104 : Int32)) I.1.1 I.1.2.1 dX12_init_327 (by decide) ?_
  obtain ⟨D25, e25, h⟩ := le1_ok h
  refine dr_cst I hR hv20 (by unfold vp_in; decide) e25 dX12_init_329 (fun H locs hR => ?_)
  replace hn := (tq_I e25).1.trans hn
  replace hx := dr_o hx (tq_I e25).1 (tq_I e25).2
  replace hv20 := dr_o hv20 (tq_I e25).1 (tq_I e25).2
  obtain ⟨D26, e26, h⟩ := le1_ok h
  refine dr_putP (fun _ => ⟨rfl, rfl⟩) I cf12 fD_RX12_48 hR hx e26 dX12_init_330 (fun H locs hR => ?_)
  replace hn := (tq_P e26).1.trans hn
  replace hx := dr_o hx (tq_P e26).1 (tq_P e26).2
  refine lv_aload_n I.1.1 I.1.2.1 dX12_init_333 rfl (lv_at hl 0 rfl) ?_
  refine lv_iconst (v := (4 : Int32)) I.1.1 I.1.2.1 dX12_init_334 (by decide) ?_
  obtain ⟨D27, e27, h⟩ := le1_ok h
  refine dr_newC (N := 4) I wA_char (by decide) rfl (by decide) hR hn (by omega) (Nat.zero_lt_of_lt hx.1) e27 (Nat.le_of_ble_eq_true rfl) (Nat.le_of_ble_eq_true rfl) dX12_init_335 (fun H hR => ?_)
  replace hx := dr_oN hx e27
  have hv27 := dr_new1 hn e27
  replace hn := tq_N hn e27
  refine W.widen (k := 13) (n := 1657) (Nat.le_of_ble_eq_true rfl) (Nat.le_of_ble_eq_true rfl) ?_
  refine lv_dup I.1.1 I.1.2.1 dX12_init_337 rfl ?_
  refine lv_iconst (v := (0 : Int32)) I.1.1 I.1.2.1 dX12_init_338 (by decide) ?_
  refine lv_bipush (v := (115 : Int32)) I.1.1 I.1.2.1 dX12_init_339 (by decide) ?_
  obtain ⟨D28, e28, h⟩ := le1_ok h
  refine dr_cst I hR hv27 (by unfold vp_in; decide) e28 dX12_init_341 (fun H locs hR => ?_)
  replace hn := (tq_I e28).1.trans hn
  replace hx := dr_o hx (tq_I e28).1 (tq_I e28).2
  replace hv27 := dr_o hv27 (tq_I e28).1 (tq_I e28).2
  refine lv_dup I.1.1 I.1.2.1 dX12_init_342 rfl ?_
  refine lv_iconst (v := (1 : Int32)) I.1.1 I.1.2.1 dX12_init_343 (by decide) ?_
  refine lv_bipush (v := (101 : Int32)) I.1.1 I.1.2.1 dX12_init_344 (by decide) ?_
  obtain ⟨D29, e29, h⟩ := le1_ok h
  refine dr_cst I hR hv27 (by unfold vp_in; decide) e29 dX12_init_346 (fun H locs hR => ?_)
  replace hn := (tq_I e29).1.trans hn
  replace hx := dr_o hx (tq_I e29).1 (tq_I e29).2
  replace hv27 := dr_o hv27 (tq_I e29).1 (tq_I e29).2
  refine lv_dup I.1.1 I.1.2.1 dX12_init_347 rfl ?_
  refine lv_iconst (v := (2 : Int32)) I.1.1 I.1.2.1 dX12_init_348 (by decide) ?_
  refine lv_bipush (v := (97 : Int32)) I.1.1 I.1.2.1 dX12_init_349 (by decide) ?_
  obtain ⟨D30, e30, h⟩ := le1_ok h
  refine dr_cst I hR hv27 (by unfold vp_in; decide) e30 dX12_init_351 (fun H locs hR => ?_)
  replace hn := (tq_I e30).1.trans hn
  replace hx := dr_o hx (tq_I e30).1 (tq_I e30).2
  replace hv27 := dr_o hv27 (tq_I e30).1 (tq_I e30).2
  refine lv_dup I.1.1 I.1.2.1 dX12_init_352 rfl ?_
  refine lv_iconst (v := (3 : Int32)) I.1.1 I.1.2.1 dX12_init_353 (by decide) ?_
  refine lv_bipush (v := (116 : Int32)) I.1.1 I.1.2.1 dX12_init_354 (by decide) ?_
  obtain ⟨D31, e31, h⟩ := le1_ok h
  refine dr_cst I hR hv27 (by unfold vp_in; decide) e31 dX12_init_356 (fun H locs hR => ?_)
  replace hn := (tq_I e31).1.trans hn
  replace hx := dr_o hx (tq_I e31).1 (tq_I e31).2
  replace hv27 := dr_o hv27 (tq_I e31).1 (tq_I e31).2
  obtain ⟨D32, e32, h⟩ := le1_ok h
  refine dr_putP (fun _ => ⟨rfl, rfl⟩) I cf12 fD_RX12_51 hR hx e32 dX12_init_357 (fun H locs hR => ?_)
  replace hn := (tq_P e32).1.trans hn
  replace hx := dr_o hx (tq_P e32).1 (tq_P e32).2
  refine lv_aload_n I.1.1 I.1.2.1 dX12_init_360 rfl (lv_at hl 0 rfl) ?_
  refine lv_iconst (v := (5 : Int32)) I.1.1 I.1.2.1 dX12_init_361 (by decide) ?_
  obtain ⟨D33, e33, h⟩ := le1_ok h
  refine dr_newC (N := 5) I wA_char (by decide) rfl (by decide) hR hn (by omega) (Nat.zero_lt_of_lt hx.1) e33 (Nat.le_of_ble_eq_true rfl) (Nat.le_of_ble_eq_true rfl) dX12_init_362 (fun H hR => ?_)
  replace hx := dr_oN hx e33
  have hv33 := dr_new1 hn e33
  replace hn := tq_N hn e33
  refine W.widen (k := 14) (n := 1662) (Nat.le_of_ble_eq_true rfl) (Nat.le_of_ble_eq_true rfl) ?_
  refine lv_dup I.1.1 I.1.2.1 dX12_init_364 rfl ?_
  refine lv_iconst (v := (0 : Int32)) I.1.1 I.1.2.1 dX12_init_365 (by decide) ?_
  refine lv_bipush (v := (103 : Int32)) I.1.1 I.1.2.1 dX12_init_366 (by decide) ?_
  obtain ⟨D34, e34, h⟩ := le1_ok h
  refine dr_cst I hR hv33 (by unfold vp_in; decide) e34 dX12_init_368 (fun H locs hR => ?_)
  replace hn := (tq_I e34).1.trans hn
  replace hx := dr_o hx (tq_I e34).1 (tq_I e34).2
  replace hv33 := dr_o hv33 (tq_I e34).1 (tq_I e34).2
  refine lv_dup I.1.1 I.1.2.1 dX12_init_369 rfl ?_
  refine lv_iconst (v := (1 : Int32)) I.1.1 I.1.2.1 dX12_init_370 (by decide) ?_
  refine lv_bipush (v := (108 : Int32)) I.1.1 I.1.2.1 dX12_init_371 (by decide) ?_
  obtain ⟨D35, e35, h⟩ := le1_ok h
  refine dr_cst I hR hv33 (by unfold vp_in; decide) e35 dX12_init_373 (fun H locs hR => ?_)
  replace hn := (tq_I e35).1.trans hn
  replace hx := dr_o hx (tq_I e35).1 (tq_I e35).2
  replace hv33 := dr_o hv33 (tq_I e35).1 (tq_I e35).2
  refine lv_dup I.1.1 I.1.2.1 dX12_init_374 rfl ?_
  refine lv_iconst (v := (2 : Int32)) I.1.1 I.1.2.1 dX12_init_375 (by decide) ?_
  refine lv_bipush (v := (97 : Int32)) I.1.1 I.1.2.1 dX12_init_376 (by decide) ?_
  obtain ⟨D36, e36, h⟩ := le1_ok h
  refine dr_cst I hR hv33 (by unfold vp_in; decide) e36 dX12_init_378 (fun H locs hR => ?_)
  replace hn := (tq_I e36).1.trans hn
  replace hx := dr_o hx (tq_I e36).1 (tq_I e36).2
  replace hv33 := dr_o hv33 (tq_I e36).1 (tq_I e36).2
  refine lv_dup I.1.1 I.1.2.1 dX12_init_379 rfl ?_
  refine lv_iconst (v := (3 : Int32)) I.1.1 I.1.2.1 dX12_init_380 (by decide) ?_
  refine lv_bipush (v := (115 : Int32)) I.1.1 I.1.2.1 dX12_init_381 (by decide) ?_
  obtain ⟨D37, e37, h⟩ := le1_ok h
  refine dr_cst I hR hv33 (by unfold vp_in; decide) e37 dX12_init_383 (fun H locs hR => ?_)
  replace hn := (tq_I e37).1.trans hn
  replace hx := dr_o hx (tq_I e37).1 (tq_I e37).2
  replace hv33 := dr_o hv33 (tq_I e37).1 (tq_I e37).2
  refine lv_dup I.1.1 I.1.2.1 dX12_init_384 rfl ?_
  refine lv_iconst (v := (4 : Int32)) I.1.1 I.1.2.1 dX12_init_385 (by decide) ?_
  refine lv_bipush (v := (115 : Int32)) I.1.1 I.1.2.1 dX12_init_386 (by decide) ?_
  obtain ⟨D38, e38, h⟩ := le1_ok h
  refine dr_cst I hR hv33 (by unfold vp_in; decide) e38 dX12_init_388 (fun H locs hR => ?_)
  replace hn := (tq_I e38).1.trans hn
  replace hx := dr_o hx (tq_I e38).1 (tq_I e38).2
  replace hv33 := dr_o hv33 (tq_I e38).1 (tq_I e38).2
  obtain ⟨D39, e39, h⟩ := le1_ok h
  refine dr_putP (fun _ => ⟨rfl, rfl⟩) I cf12 fD_RX12_54 hR hx e39 dX12_init_389 (fun H locs hR => ?_)
  replace hn := (tq_P e39).1.trans hn
  replace hx := dr_o hx (tq_P e39).1 (tq_P e39).2
  refine lv_aload_n I.1.1 I.1.2.1 dX12_init_392 rfl (lv_at hl 0 rfl) ?_
  refine lv_iconst (v := (4 : Int32)) I.1.1 I.1.2.1 dX12_init_393 (by decide) ?_
  obtain ⟨D40, e40, h⟩ := le1_ok h
  refine dr_newC (N := 4) I wA_char (by decide) rfl (by decide) hR hn (by omega) (Nat.zero_lt_of_lt hx.1) e40 (Nat.le_of_ble_eq_true rfl) (Nat.le_of_ble_eq_true rfl) dX12_init_394 (fun H hR => ?_)
  replace hx := dr_oN hx e40
  have hv40 := dr_new1 hn e40
  replace hn := tq_N hn e40
  refine W.widen (k := 15) (n := 1666) (Nat.le_of_ble_eq_true rfl) (Nat.le_of_ble_eq_true rfl) ?_
  refine lv_dup I.1.1 I.1.2.1 dX12_init_396 rfl ?_
  refine lv_iconst (v := (0 : Int32)) I.1.1 I.1.2.1 dX12_init_397 (by decide) ?_
  refine lv_bipush (v := (115 : Int32)) I.1.1 I.1.2.1 dX12_init_398 (by decide) ?_
  obtain ⟨D41, e41, h⟩ := le1_ok h
  refine dr_cst I hR hv40 (by unfold vp_in; decide) e41 dX12_init_400 (fun H locs hR => ?_)
  replace hn := (tq_I e41).1.trans hn
  replace hx := dr_o hx (tq_I e41).1 (tq_I e41).2
  replace hv40 := dr_o hv40 (tq_I e41).1 (tq_I e41).2
  refine lv_dup I.1.1 I.1.2.1 dX12_init_401 rfl ?_
  refine lv_iconst (v := (1 : Int32)) I.1.1 I.1.2.1 dX12_init_402 (by decide) ?_
  refine lv_bipush (v := (101 : Int32)) I.1.1 I.1.2.1 dX12_init_403 (by decide) ?_
  obtain ⟨D42, e42, h⟩ := le1_ok h
  refine dr_cst I hR hv40 (by unfold vp_in; decide) e42 dX12_init_405 (fun H locs hR => ?_)
  replace hn := (tq_I e42).1.trans hn
  replace hx := dr_o hx (tq_I e42).1 (tq_I e42).2
  replace hv40 := dr_o hv40 (tq_I e42).1 (tq_I e42).2
  refine lv_dup I.1.1 I.1.2.1 dX12_init_406 rfl ?_
  refine lv_iconst (v := (2 : Int32)) I.1.1 I.1.2.1 dX12_init_407 (by decide) ?_
  refine lv_bipush (v := (101 : Int32)) I.1.1 I.1.2.1 dX12_init_408 (by decide) ?_
  obtain ⟨D43, e43, h⟩ := le1_ok h
  refine dr_cst I hR hv40 (by unfold vp_in; decide) e43 dX12_init_410 (fun H locs hR => ?_)
  replace hn := (tq_I e43).1.trans hn
  replace hx := dr_o hx (tq_I e43).1 (tq_I e43).2
  replace hv40 := dr_o hv40 (tq_I e43).1 (tq_I e43).2
  refine lv_dup I.1.1 I.1.2.1 dX12_init_411 rfl ?_
  refine lv_iconst (v := (3 : Int32)) I.1.1 I.1.2.1 dX12_init_412 (by decide) ?_
  refine lv_bipush (v := (115 : Int32)) I.1.1 I.1.2.1 dX12_init_413 (by decide) ?_
  obtain ⟨D44, e44, h⟩ := le1_ok h
  refine dr_cst I hR hv40 (by unfold vp_in; decide) e44 dX12_init_415 (fun H locs hR => ?_)
  replace hn := (tq_I e44).1.trans hn
  replace hx := dr_o hx (tq_I e44).1 (tq_I e44).2
  replace hv40 := dr_o hv40 (tq_I e44).1 (tq_I e44).2
  obtain ⟨D45, e45, h⟩ := le1_ok h
  refine dr_putP (fun _ => ⟨rfl, rfl⟩) I cf12 fD_RX12_57 hR hx e45 dX12_init_416 (fun H locs hR => ?_)
  replace hn := (tq_P e45).1.trans hn
  replace hx := dr_o hx (tq_P e45).1 (tq_P e45).2
  exact wg_2 I _ r h hn hx _ _ _ hR hl
set_option maxRecDepth 100000 in
def fg_0 (x n : Nat) (D : Dp) : Option Dp :=
  le1 (dyN D 4 1600) (fun D1 => le1 (dyP D1 x 0 n) (fun D2 => le1 (dyI D2 x 8 (-1 : Int32)) (fun D3 => le1 (dyN D3 4 6) (fun D4 => le1 (dyP D4 x 9 (n + 1)) (fun D5 => le1 (dyN D5 3 4) (fun D6 => le1 (dyI D6 (n + 2) 0 (vp_nar .char (110 : Int32))) (fun D7 => le1 (dyI D7 (n + 2) 1 (vp_nar .char (101 : Int32))) (fun D8 => le1 (dyI D8 (n + 2) 2 (vp_nar .char (101 : Int32))) (fun D9 => le1 (dyI D9 (n + 2) 3 (vp_nar .char (100 : Int32))) (fun D10 => le1 (dyP D10 x 10 (n + 2)) (fun D11 => le1 (dyN D11 3 4) (fun D12 => le1 (dyI D12 (n + 3) 0 (vp_nar .char (100 : Int32))) (fun D13 => le1 (dyI D13 (n + 3) 1 (vp_nar .char (101 : Int32))) (fun D14 => le1 (dyI D14 (n + 3) 2 (vp_nar .char (98 : Int32))) (fun D15 => le1 (dyI D15 (n + 3) 3 (vp_nar .char (116 : Int32))) (fun D16 => le1 (dyP D16 x 11 (n + 3)) (fun D17 => le1 (dyN D17 3 4) (fun D18 => le1 (dyI D18 (n + 4) 0 (vp_nar .char (114 : Int32))) (fun D19 => le1 (dyI D19 (n + 4) 1 (vp_nar .char (97 : Int32))) (fun D20 => le1 (dyI D20 (n + 4) 2 (vp_nar .char (116 : Int32))) (fun D21 => le1 (dyI D21 (n + 4) 3 (vp_nar .char (101 : Int32))) (fun D22 => le1 (dyP D22 x 12 (n + 4)) (fun D23 => le1 (dyN D23 3 6) (fun D24 => le1 (dyI D24 (n + 5) 0 (vp_nar .char (115 : Int32))) (fun D25 => le1 (dyI D25 (n + 5) 1 (vp_nar .char (116 : Int32))) (fun D26 => le1 (dyI D26 (n + 5) 2 (vp_nar .char (111 : Int32))) (fun D27 => le1 (dyI D27 (n + 5) 3 (vp_nar .char (114 : Int32))) (fun D28 => le1 (dyI D28 (n + 5) 4 (vp_nar .char (101 : Int32))) (fun D29 => le1 (dyI D29 (n + 5) 5 (vp_nar .char (115 : Int32))) (fun D30 => le1 (dyP D30 x 13 (n + 5)) (fun D31 => le1 (dyN D31 3 6) (fun D32 => le1 (dyI D32 (n + 6) 0 (vp_nar .char (121 : Int32))) (fun D33 => le1 (dyI D33 (n + 6) 1 (vp_nar .char (105 : Int32))) (fun D34 => le1 (dyI D34 (n + 6) 2 (vp_nar .char (101 : Int32))) (fun D35 => le1 (dyI D35 (n + 6) 3 (vp_nar .char (108 : Int32))) (fun D36 => le1 (dyI D36 (n + 6) 4 (vp_nar .char (100 : Int32))) (fun D37 => le1 (dyI D37 (n + 6) 5 (vp_nar .char (115 : Int32))) (fun D38 => le1 (dyP D38 x 14 (n + 6)) (fun D39 => le1 (dyN D39 3 5) (fun D40 => le1 (dyI D40 (n + 7) 0 (vp_nar .char (116 : Int32))) (fun D41 => le1 (dyI D41 (n + 7) 1 (vp_nar .char (114 : Int32))) (fun D42 => le1 (dyI D42 (n + 7) 2 (vp_nar .char (105 : Int32))) (fun D43 => le1 (dyI D43 (n + 7) 3 (vp_nar .char (99 : Int32))) (fun D44 => le1 (dyI D44 (n + 7) 4 (vp_nar .char (107 : Int32))) (fun D45 => le1 (dyP D45 x 15 (n + 7)) (fun D46 => fg_1 x n D46))))))))))))))))))))))))))))))))))))))))))))))
set_option maxHeartbeats 4000000 in
set_option maxRecDepth 100000 in
theorem wg_0 {p : Program} {l : Launch} {e : Env} {s : State} {m : MethodId} {args : Array Value} {below : List Frame} {meth : Method} {c : Code} {B x n : Nat} {E : Ev} {ak av : Nat → Nat} (I : dy_I p s m args meth c RX12 cX12_init 1 B n ak av) (D r : Dp) (h : fg_0 x n D = some r) (hn : D.1 = n) (hx : x < D.1 ∧ D.2.1 x = (1, 12)) (H : Heap) (locs : List Loc) (ls : Array Slot) (hR : dy_R B E s s.heap H locs D) (hl : lv_has ls 1 [(0, .ref (B + x))]) : W p l e (dy_rm 1 80 13380) s m args below meth c H locs 0 0 (dy_Z B E below args s 80 13380 r) (F0 m 0 ls []) := by
  unfold fg_0 at h
  refine lv_aload_n I.1.1 I.1.2.1 dX12_init_0 rfl (lv_at hl 0 rfl) ?_
  refine dr_obj I wo_RX12 wO_in wO_co hl.1 (by decide) dX12_init_1 ?_
  refine lv_aload_n I.1.1 I.1.2.1 dX12_init_4 rfl (lv_at hl 0 rfl) ?_
  refine lv_sipush (v := (1600 : Int32)) I.1.1 I.1.2.1 dX12_init_5 (by decide) ?_
  obtain ⟨D1, e1, h⟩ := le1_ok h
  refine dr_newI (N := 1600) I wA_int (by decide) rfl (by decide) hR hn (by omega) (Nat.zero_lt_of_lt hx.1) e1 (Nat.le_of_ble_eq_true rfl) (Nat.le_of_ble_eq_true rfl) dX12_init_8 (fun H hR => ?_)
  replace hx := dr_oN hx e1
  have hv1 := dr_new1 hn e1
  replace hn := tq_N hn e1
  refine W.widen (k := 1) (n := 1600) (Nat.le_of_ble_eq_true rfl) (Nat.le_of_ble_eq_true rfl) ?_
  obtain ⟨D2, e2, h⟩ := le1_ok h
  refine dr_putP (fun _ => ⟨rfl, rfl⟩) I cf12 fD_RX12_7 hR hx e2 dX12_init_10 (fun H locs hR => ?_)
  replace hn := (tq_P e2).1.trans hn
  replace hx := dr_o hx (tq_P e2).1 (tq_P e2).2
  refine lv_aload_n I.1.1 I.1.2.1 dX12_init_13 rfl (lv_at hl 0 rfl) ?_
  refine lv_iconst (v := (-1 : Int32)) I.1.1 I.1.2.1 dX12_init_14 (by decide) ?_
  obtain ⟨D3, e3, h⟩ := le1_ok h
  refine dr_putI I cf12 fD_RX12_13 hR hx e3 dX12_init_15 (fun H locs hR => ?_)
  replace hn := (tq_I e3).1.trans hn
  replace hx := dr_o hx (tq_I e3).1 (tq_I e3).2
  refine lv_aload_n I.1.1 I.1.2.1 dX12_init_18 rfl (lv_at hl 0 rfl) ?_
  refine lv_bipush (v := (6 : Int32)) I.1.1 I.1.2.1 dX12_init_19 (by decide) ?_
  obtain ⟨D4, e4, h⟩ := le1_ok h
  refine dr_newI (N := 6) I wA_int (by decide) rfl (by decide) hR hn (by omega) (Nat.zero_lt_of_lt hx.1) e4 (Nat.le_of_ble_eq_true rfl) (Nat.le_of_ble_eq_true rfl) dX12_init_21 (fun H hR => ?_)
  replace hx := dr_oN hx e4
  have hv4 := dr_new1 hn e4
  replace hn := tq_N hn e4
  refine W.widen (k := 2) (n := 1606) (Nat.le_of_ble_eq_true rfl) (Nat.le_of_ble_eq_true rfl) ?_
  obtain ⟨D5, e5, h⟩ := le1_ok h
  refine dr_putP (fun _ => ⟨rfl, rfl⟩) I cf12 fD_RX12_17 hR hx e5 dX12_init_23 (fun H locs hR => ?_)
  replace hn := (tq_P e5).1.trans hn
  replace hx := dr_o hx (tq_P e5).1 (tq_P e5).2
  refine lv_aload_n I.1.1 I.1.2.1 dX12_init_26 rfl (lv_at hl 0 rfl) ?_
  refine lv_iconst (v := (4 : Int32)) I.1.1 I.1.2.1 dX12_init_27 (by decide) ?_
  obtain ⟨D6, e6, h⟩ := le1_ok h
  refine dr_newC (N := 4) I wA_char (by decide) rfl (by decide) hR hn (by omega) (Nat.zero_lt_of_lt hx.1) e6 (Nat.le_of_ble_eq_true rfl) (Nat.le_of_ble_eq_true rfl) dX12_init_28 (fun H hR => ?_)
  replace hx := dr_oN hx e6
  have hv6 := dr_new1 hn e6
  replace hn := tq_N hn e6
  refine W.widen (k := 3) (n := 1610) (Nat.le_of_ble_eq_true rfl) (Nat.le_of_ble_eq_true rfl) ?_
  refine lv_dup I.1.1 I.1.2.1 dX12_init_30 rfl ?_
  refine lv_iconst (v := (0 : Int32)) I.1.1 I.1.2.1 dX12_init_31 (by decide) ?_
  refine lv_bipush (v := (110 : Int32)) I.1.1 I.1.2.1 dX12_init_32 (by decide) ?_
  obtain ⟨D7, e7, h⟩ := le1_ok h
  refine dr_cst I hR hv6 (by unfold vp_in; decide) e7 dX12_init_34 (fun H locs hR => ?_)
  replace hn := (tq_I e7).1.trans hn
  replace hx := dr_o hx (tq_I e7).1 (tq_I e7).2
  replace hv6 := dr_o hv6 (tq_I e7).1 (tq_I e7).2
  refine lv_dup I.1.1 I.1.2.1 dX12_init_35 rfl ?_
  refine lv_iconst (v := (1 : Int32)) I.1.1 I.1.2.1 dX12_init_36 (by decide) ?_
  refine lv_bipush (v := (101 : Int32)) I.1.1 I.1.2.1 dX12_init_37 (by decide) ?_
  obtain ⟨D8, e8, h⟩ := le1_ok h
  refine dr_cst I hR hv6 (by unfold vp_in; decide) e8 dX12_init_39 (fun H locs hR => ?_)
  replace hn := (tq_I e8).1.trans hn
  replace hx := dr_o hx (tq_I e8).1 (tq_I e8).2
  replace hv6 := dr_o hv6 (tq_I e8).1 (tq_I e8).2
  refine lv_dup I.1.1 I.1.2.1 dX12_init_40 rfl ?_
  refine lv_iconst (v := (2 : Int32)) I.1.1 I.1.2.1 dX12_init_41 (by decide) ?_
  refine lv_bipush (v := (101 : Int32)) I.1.1 I.1.2.1 dX12_init_42 (by decide) ?_
  obtain ⟨D9, e9, h⟩ := le1_ok h
  refine dr_cst I hR hv6 (by unfold vp_in; decide) e9 dX12_init_44 (fun H locs hR => ?_)
  replace hn := (tq_I e9).1.trans hn
  replace hx := dr_o hx (tq_I e9).1 (tq_I e9).2
  replace hv6 := dr_o hv6 (tq_I e9).1 (tq_I e9).2
  refine lv_dup I.1.1 I.1.2.1 dX12_init_45 rfl ?_
  refine lv_iconst (v := (3 : Int32)) I.1.1 I.1.2.1 dX12_init_46 (by decide) ?_
  refine lv_bipush (v := (100 : Int32)) I.1.1 I.1.2.1 dX12_init_47 (by decide) ?_
  obtain ⟨D10, e10, h⟩ := le1_ok h
  refine dr_cst I hR hv6 (by unfold vp_in; decide) e10 dX12_init_49 (fun H locs hR => ?_)
  replace hn := (tq_I e10).1.trans hn
  replace hx := dr_o hx (tq_I e10).1 (tq_I e10).2
  replace hv6 := dr_o hv6 (tq_I e10).1 (tq_I e10).2
  obtain ⟨D11, e11, h⟩ := le1_ok h
  refine dr_putP (fun _ => ⟨rfl, rfl⟩) I cf12 fD_RX12_20 hR hx e11 dX12_init_50 (fun H locs hR => ?_)
  replace hn := (tq_P e11).1.trans hn
  replace hx := dr_o hx (tq_P e11).1 (tq_P e11).2
  refine lv_aload_n I.1.1 I.1.2.1 dX12_init_53 rfl (lv_at hl 0 rfl) ?_
  refine lv_iconst (v := (4 : Int32)) I.1.1 I.1.2.1 dX12_init_54 (by decide) ?_
  obtain ⟨D12, e12, h⟩ := le1_ok h
  refine dr_newC (N := 4) I wA_char (by decide) rfl (by decide) hR hn (by omega) (Nat.zero_lt_of_lt hx.1) e12 (Nat.le_of_ble_eq_true rfl) (Nat.le_of_ble_eq_true rfl) dX12_init_55 (fun H hR => ?_)
  replace hx := dr_oN hx e12
  have hv12 := dr_new1 hn e12
  replace hn := tq_N hn e12
  refine W.widen (k := 4) (n := 1614) (Nat.le_of_ble_eq_true rfl) (Nat.le_of_ble_eq_true rfl) ?_
  refine lv_dup I.1.1 I.1.2.1 dX12_init_57 rfl ?_
  refine lv_iconst (v := (0 : Int32)) I.1.1 I.1.2.1 dX12_init_58 (by decide) ?_
  refine lv_bipush (v := (100 : Int32)) I.1.1 I.1.2.1 dX12_init_59 (by decide) ?_
  obtain ⟨D13, e13, h⟩ := le1_ok h
  refine dr_cst I hR hv12 (by unfold vp_in; decide) e13 dX12_init_61 (fun H locs hR => ?_)
  replace hn := (tq_I e13).1.trans hn
  replace hx := dr_o hx (tq_I e13).1 (tq_I e13).2
  replace hv12 := dr_o hv12 (tq_I e13).1 (tq_I e13).2
  refine lv_dup I.1.1 I.1.2.1 dX12_init_62 rfl ?_
  refine lv_iconst (v := (1 : Int32)) I.1.1 I.1.2.1 dX12_init_63 (by decide) ?_
  refine lv_bipush (v := (101 : Int32)) I.1.1 I.1.2.1 dX12_init_64 (by decide) ?_
  obtain ⟨D14, e14, h⟩ := le1_ok h
  refine dr_cst I hR hv12 (by unfold vp_in; decide) e14 dX12_init_66 (fun H locs hR => ?_)
  replace hn := (tq_I e14).1.trans hn
  replace hx := dr_o hx (tq_I e14).1 (tq_I e14).2
  replace hv12 := dr_o hv12 (tq_I e14).1 (tq_I e14).2
  refine lv_dup I.1.1 I.1.2.1 dX12_init_67 rfl ?_
  refine lv_iconst (v := (2 : Int32)) I.1.1 I.1.2.1 dX12_init_68 (by decide) ?_
  refine lv_bipush (v := (98 : Int32)) I.1.1 I.1.2.1 dX12_init_69 (by decide) ?_
  obtain ⟨D15, e15, h⟩ := le1_ok h
  refine dr_cst I hR hv12 (by unfold vp_in; decide) e15 dX12_init_71 (fun H locs hR => ?_)
  replace hn := (tq_I e15).1.trans hn
  replace hx := dr_o hx (tq_I e15).1 (tq_I e15).2
  replace hv12 := dr_o hv12 (tq_I e15).1 (tq_I e15).2
  refine lv_dup I.1.1 I.1.2.1 dX12_init_72 rfl ?_
  refine lv_iconst (v := (3 : Int32)) I.1.1 I.1.2.1 dX12_init_73 (by decide) ?_
  refine lv_bipush (v := (116 : Int32)) I.1.1 I.1.2.1 dX12_init_74 (by decide) ?_
  obtain ⟨D16, e16, h⟩ := le1_ok h
  refine dr_cst I hR hv12 (by unfold vp_in; decide) e16 dX12_init_76 (fun H locs hR => ?_)
  replace hn := (tq_I e16).1.trans hn
  replace hx := dr_o hx (tq_I e16).1 (tq_I e16).2
  replace hv12 := dr_o hv12 (tq_I e16).1 (tq_I e16).2
  obtain ⟨D17, e17, h⟩ := le1_ok h
  refine dr_putP (fun _ => ⟨rfl, rfl⟩) I cf12 fD_RX12_24 hR hx e17 dX12_init_77 (fun H locs hR => ?_)
  replace hn := (tq_P e17).1.trans hn
  replace hx := dr_o hx (tq_P e17).1 (tq_P e17).2
  refine lv_aload_n I.1.1 I.1.2.1 dX12_init_80 rfl (lv_at hl 0 rfl) ?_
  refine lv_iconst (v := (4 : Int32)) I.1.1 I.1.2.1 dX12_init_81 (by decide) ?_
  obtain ⟨D18, e18, h⟩ := le1_ok h
  refine dr_newC (N := 4) I wA_char (by decide) rfl (by decide) hR hn (by omega) (Nat.zero_lt_of_lt hx.1) e18 (Nat.le_of_ble_eq_true rfl) (Nat.le_of_ble_eq_true rfl) dX12_init_82 (fun H hR => ?_)
  replace hx := dr_oN hx e18
  have hv18 := dr_new1 hn e18
  replace hn := tq_N hn e18
  refine W.widen (k := 5) (n := 1618) (Nat.le_of_ble_eq_true rfl) (Nat.le_of_ble_eq_true rfl) ?_
  refine lv_dup I.1.1 I.1.2.1 dX12_init_84 rfl ?_
  refine lv_iconst (v := (0 : Int32)) I.1.1 I.1.2.1 dX12_init_85 (by decide) ?_
  refine lv_bipush (v := (114 : Int32)) I.1.1 I.1.2.1 dX12_init_86 (by decide) ?_
  obtain ⟨D19, e19, h⟩ := le1_ok h
  refine dr_cst I hR hv18 (by unfold vp_in; decide) e19 dX12_init_88 (fun H locs hR => ?_)
  replace hn := (tq_I e19).1.trans hn
  replace hx := dr_o hx (tq_I e19).1 (tq_I e19).2
  replace hv18 := dr_o hv18 (tq_I e19).1 (tq_I e19).2
  refine lv_dup I.1.1 I.1.2.1 dX12_init_89 rfl ?_
  refine lv_iconst (v := (1 : Int32)) I.1.1 I.1.2.1 dX12_init_90 (by decide) ?_
  refine lv_bipush (v := (97 : Int32)) I.1.1 I.1.2.1 dX12_init_91 (by decide) ?_
  obtain ⟨D20, e20, h⟩ := le1_ok h
  refine dr_cst I hR hv18 (by unfold vp_in; decide) e20 dX12_init_93 (fun H locs hR => ?_)
  replace hn := (tq_I e20).1.trans hn
  replace hx := dr_o hx (tq_I e20).1 (tq_I e20).2
  replace hv18 := dr_o hv18 (tq_I e20).1 (tq_I e20).2
  refine lv_dup I.1.1 I.1.2.1 dX12_init_94 rfl ?_
  refine lv_iconst (v := (2 : Int32)) I.1.1 I.1.2.1 dX12_init_95 (by decide) ?_
  refine lv_bipush (v := (116 : Int32)) I.1.1 I.1.2.1 dX12_init_96 (by decide) ?_
  obtain ⟨D21, e21, h⟩ := le1_ok h
  refine dr_cst I hR hv18 (by unfold vp_in; decide) e21 dX12_init_98 (fun H locs hR => ?_)
  replace hn := (tq_I e21).1.trans hn
  replace hx := dr_o hx (tq_I e21).1 (tq_I e21).2
  replace hv18 := dr_o hv18 (tq_I e21).1 (tq_I e21).2
  refine lv_dup I.1.1 I.1.2.1 dX12_init_99 rfl ?_
  refine lv_iconst (v := (3 : Int32)) I.1.1 I.1.2.1 dX12_init_100 (by decide) ?_
  refine lv_bipush (v := (101 : Int32)) I.1.1 I.1.2.1 dX12_init_101 (by decide) ?_
  obtain ⟨D22, e22, h⟩ := le1_ok h
  refine dr_cst I hR hv18 (by unfold vp_in; decide) e22 dX12_init_103 (fun H locs hR => ?_)
  replace hn := (tq_I e22).1.trans hn
  replace hx := dr_o hx (tq_I e22).1 (tq_I e22).2
  replace hv18 := dr_o hv18 (tq_I e22).1 (tq_I e22).2
  obtain ⟨D23, e23, h⟩ := le1_ok h
  refine dr_putP (fun _ => ⟨rfl, rfl⟩) I cf12 fD_RX12_27 hR hx e23 dX12_init_104 (fun H locs hR => ?_)
  replace hn := (tq_P e23).1.trans hn
  replace hx := dr_o hx (tq_P e23).1 (tq_P e23).2
  refine lv_aload_n I.1.1 I.1.2.1 dX12_init_107 rfl (lv_at hl 0 rfl) ?_
  refine lv_bipush (v := (6 : Int32)) I.1.1 I.1.2.1 dX12_init_108 (by decide) ?_
  obtain ⟨D24, e24, h⟩ := le1_ok h
  refine dr_newC (N := 6) I wA_char (by decide) rfl (by decide) hR hn (by omega) (Nat.zero_lt_of_lt hx.1) e24 (Nat.le_of_ble_eq_true rfl) (Nat.le_of_ble_eq_true rfl) dX12_init_110 (fun H hR => ?_)
  replace hx := dr_oN hx e24
  have hv24 := dr_new1 hn e24
  replace hn := tq_N hn e24
  refine W.widen (k := 6) (n := 1624) (Nat.le_of_ble_eq_true rfl) (Nat.le_of_ble_eq_true rfl) ?_
  refine lv_dup I.1.1 I.1.2.1 dX12_init_112 rfl ?_
  refine lv_iconst (v := (0 : Int32)) I.1.1 I.1.2.1 dX12_init_113 (by decide) ?_
  refine lv_bipush (v := (115 : Int32)) I.1.1 I.1.2.1 dX12_init_114 (by decide) ?_
  obtain ⟨D25, e25, h⟩ := le1_ok h
  refine dr_cst I hR hv24 (by unfold vp_in; decide) e25 dX12_init_116 (fun H locs hR => ?_)
  replace hn := (tq_I e25).1.trans hn
  replace hx := dr_o hx (tq_I e25).1 (tq_I e25).2
  replace hv24 := dr_o hv24 (tq_I e25).1 (tq_I e25).2
  refine lv_dup I.1.1 I.1.2.1 dX12_init_117 rfl ?_
  refine lv_iconst (v := (1 : Int32)) I.1.1 I.1.2.1 dX12_init_118 (by decide) ?_
  refine lv_bipush (v := (116 : Int32)) I.1.1 I.1.2.1 dX12_init_119 (by decide) ?_
  obtain ⟨D26, e26, h⟩ := le1_ok h
  refine dr_cst I hR hv24 (by unfold vp_in; decide) e26 dX12_init_121 (fun H locs hR => ?_)
  replace hn := (tq_I e26).1.trans hn
  replace hx := dr_o hx (tq_I e26).1 (tq_I e26).2
  replace hv24 := dr_o hv24 (tq_I e26).1 (tq_I e26).2
  refine lv_dup I.1.1 I.1.2.1 dX12_init_122 rfl ?_
  refine lv_iconst (v := (2 : Int32)) I.1.1 I.1.2.1 dX12_init_123 (by decide) ?_
  refine lv_bipush (v := (111 : Int32)) I.1.1 I.1.2.1 dX12_init_124 (by decide) ?_
  obtain ⟨D27, e27, h⟩ := le1_ok h
  refine dr_cst I hR hv24 (by unfold vp_in; decide) e27 dX12_init_126 (fun H locs hR => ?_)
  replace hn := (tq_I e27).1.trans hn
  replace hx := dr_o hx (tq_I e27).1 (tq_I e27).2
  replace hv24 := dr_o hv24 (tq_I e27).1 (tq_I e27).2
  refine lv_dup I.1.1 I.1.2.1 dX12_init_127 rfl ?_
  refine lv_iconst (v := (3 : Int32)) I.1.1 I.1.2.1 dX12_init_128 (by decide) ?_
  refine lv_bipush (v := (114 : Int32)) I.1.1 I.1.2.1 dX12_init_129 (by decide) ?_
  obtain ⟨D28, e28, h⟩ := le1_ok h
  refine dr_cst I hR hv24 (by unfold vp_in; decide) e28 dX12_init_131 (fun H locs hR => ?_)
  replace hn := (tq_I e28).1.trans hn
  replace hx := dr_o hx (tq_I e28).1 (tq_I e28).2
  replace hv24 := dr_o hv24 (tq_I e28).1 (tq_I e28).2
  refine lv_dup I.1.1 I.1.2.1 dX12_init_132 rfl ?_
  refine lv_iconst (v := (4 : Int32)) I.1.1 I.1.2.1 dX12_init_133 (by decide) ?_
  refine lv_bipush (v := (101 : Int32)) I.1.1 I.1.2.1 dX12_init_134 (by decide) ?_
  obtain ⟨D29, e29, h⟩ := le1_ok h
  refine dr_cst I hR hv24 (by unfold vp_in; decide) e29 dX12_init_136 (fun H locs hR => ?_)
  replace hn := (tq_I e29).1.trans hn
  replace hx := dr_o hx (tq_I e29).1 (tq_I e29).2
  replace hv24 := dr_o hv24 (tq_I e29).1 (tq_I e29).2
  refine lv_dup I.1.1 I.1.2.1 dX12_init_137 rfl ?_
  refine lv_iconst (v := (5 : Int32)) I.1.1 I.1.2.1 dX12_init_138 (by decide) ?_
  refine lv_bipush (v := (115 : Int32)) I.1.1 I.1.2.1 dX12_init_139 (by decide) ?_
  obtain ⟨D30, e30, h⟩ := le1_ok h
  refine dr_cst I hR hv24 (by unfold vp_in; decide) e30 dX12_init_141 (fun H locs hR => ?_)
  replace hn := (tq_I e30).1.trans hn
  replace hx := dr_o hx (tq_I e30).1 (tq_I e30).2
  replace hv24 := dr_o hv24 (tq_I e30).1 (tq_I e30).2
  obtain ⟨D31, e31, h⟩ := le1_ok h
  refine dr_putP (fun _ => ⟨rfl, rfl⟩) I cf12 fD_RX12_30 hR hx e31 dX12_init_142 (fun H locs hR => ?_)
  replace hn := (tq_P e31).1.trans hn
  replace hx := dr_o hx (tq_P e31).1 (tq_P e31).2
  refine lv_aload_n I.1.1 I.1.2.1 dX12_init_145 rfl (lv_at hl 0 rfl) ?_
  refine lv_bipush (v := (6 : Int32)) I.1.1 I.1.2.1 dX12_init_146 (by decide) ?_
  obtain ⟨D32, e32, h⟩ := le1_ok h
  refine dr_newC (N := 6) I wA_char (by decide) rfl (by decide) hR hn (by omega) (Nat.zero_lt_of_lt hx.1) e32 (Nat.le_of_ble_eq_true rfl) (Nat.le_of_ble_eq_true rfl) dX12_init_148 (fun H hR => ?_)
  replace hx := dr_oN hx e32
  have hv32 := dr_new1 hn e32
  replace hn := tq_N hn e32
  refine W.widen (k := 7) (n := 1630) (Nat.le_of_ble_eq_true rfl) (Nat.le_of_ble_eq_true rfl) ?_
  refine lv_dup I.1.1 I.1.2.1 dX12_init_150 rfl ?_
  refine lv_iconst (v := (0 : Int32)) I.1.1 I.1.2.1 dX12_init_151 (by decide) ?_
  refine lv_bipush (v := (121 : Int32)) I.1.1 I.1.2.1 dX12_init_152 (by decide) ?_
  obtain ⟨D33, e33, h⟩ := le1_ok h
  refine dr_cst I hR hv32 (by unfold vp_in; decide) e33 dX12_init_154 (fun H locs hR => ?_)
  replace hn := (tq_I e33).1.trans hn
  replace hx := dr_o hx (tq_I e33).1 (tq_I e33).2
  replace hv32 := dr_o hv32 (tq_I e33).1 (tq_I e33).2
  refine lv_dup I.1.1 I.1.2.1 dX12_init_155 rfl ?_
  refine lv_iconst (v := (1 : Int32)) I.1.1 I.1.2.1 dX12_init_156 (by decide) ?_
  refine lv_bipush (v := (105 : Int32)) I.1.1 I.1.2.1 dX12_init_157 (by decide) ?_
  obtain ⟨D34, e34, h⟩ := le1_ok h
  refine dr_cst I hR hv32 (by unfold vp_in; decide) e34 dX12_init_159 (fun H locs hR => ?_)
  replace hn := (tq_I e34).1.trans hn
  replace hx := dr_o hx (tq_I e34).1 (tq_I e34).2
  replace hv32 := dr_o hv32 (tq_I e34).1 (tq_I e34).2
  refine lv_dup I.1.1 I.1.2.1 dX12_init_160 rfl ?_
  refine lv_iconst (v := (2 : Int32)) I.1.1 I.1.2.1 dX12_init_161 (by decide) ?_
  refine lv_bipush (v := (101 : Int32)) I.1.1 I.1.2.1 dX12_init_162 (by decide) ?_
  obtain ⟨D35, e35, h⟩ := le1_ok h
  refine dr_cst I hR hv32 (by unfold vp_in; decide) e35 dX12_init_164 (fun H locs hR => ?_)
  replace hn := (tq_I e35).1.trans hn
  replace hx := dr_o hx (tq_I e35).1 (tq_I e35).2
  replace hv32 := dr_o hv32 (tq_I e35).1 (tq_I e35).2
  refine lv_dup I.1.1 I.1.2.1 dX12_init_165 rfl ?_
  refine lv_iconst (v := (3 : Int32)) I.1.1 I.1.2.1 dX12_init_166 (by decide) ?_
  refine lv_bipush (v := (108 : Int32)) I.1.1 I.1.2.1 dX12_init_167 (by decide) ?_
  obtain ⟨D36, e36, h⟩ := le1_ok h
  refine dr_cst I hR hv32 (by unfold vp_in; decide) e36 dX12_init_169 (fun H locs hR => ?_)
  replace hn := (tq_I e36).1.trans hn
  replace hx := dr_o hx (tq_I e36).1 (tq_I e36).2
  replace hv32 := dr_o hv32 (tq_I e36).1 (tq_I e36).2
  refine lv_dup I.1.1 I.1.2.1 dX12_init_170 rfl ?_
  refine lv_iconst (v := (4 : Int32)) I.1.1 I.1.2.1 dX12_init_171 (by decide) ?_
  refine lv_bipush (v := (100 : Int32)) I.1.1 I.1.2.1 dX12_init_172 (by decide) ?_
  obtain ⟨D37, e37, h⟩ := le1_ok h
  refine dr_cst I hR hv32 (by unfold vp_in; decide) e37 dX12_init_174 (fun H locs hR => ?_)
  replace hn := (tq_I e37).1.trans hn
  replace hx := dr_o hx (tq_I e37).1 (tq_I e37).2
  replace hv32 := dr_o hv32 (tq_I e37).1 (tq_I e37).2
  refine lv_dup I.1.1 I.1.2.1 dX12_init_175 rfl ?_
  refine lv_iconst (v := (5 : Int32)) I.1.1 I.1.2.1 dX12_init_176 (by decide) ?_
  refine lv_bipush (v := (115 : Int32)) I.1.1 I.1.2.1 dX12_init_177 (by decide) ?_
  obtain ⟨D38, e38, h⟩ := le1_ok h
  refine dr_cst I hR hv32 (by unfold vp_in; decide) e38 dX12_init_179 (fun H locs hR => ?_)
  replace hn := (tq_I e38).1.trans hn
  replace hx := dr_o hx (tq_I e38).1 (tq_I e38).2
  replace hv32 := dr_o hv32 (tq_I e38).1 (tq_I e38).2
  obtain ⟨D39, e39, h⟩ := le1_ok h
  refine dr_putP (fun _ => ⟨rfl, rfl⟩) I cf12 fD_RX12_33 hR hx e39 dX12_init_180 (fun H locs hR => ?_)
  replace hn := (tq_P e39).1.trans hn
  replace hx := dr_o hx (tq_P e39).1 (tq_P e39).2
  refine lv_aload_n I.1.1 I.1.2.1 dX12_init_183 rfl (lv_at hl 0 rfl) ?_
  refine lv_iconst (v := (5 : Int32)) I.1.1 I.1.2.1 dX12_init_184 (by decide) ?_
  obtain ⟨D40, e40, h⟩ := le1_ok h
  refine dr_newC (N := 5) I wA_char (by decide) rfl (by decide) hR hn (by omega) (Nat.zero_lt_of_lt hx.1) e40 (Nat.le_of_ble_eq_true rfl) (Nat.le_of_ble_eq_true rfl) dX12_init_185 (fun H hR => ?_)
  replace hx := dr_oN hx e40
  have hv40 := dr_new1 hn e40
  replace hn := tq_N hn e40
  refine W.widen (k := 8) (n := 1635) (Nat.le_of_ble_eq_true rfl) (Nat.le_of_ble_eq_true rfl) ?_
  refine lv_dup I.1.1 I.1.2.1 dX12_init_187 rfl ?_
  refine lv_iconst (v := (0 : Int32)) I.1.1 I.1.2.1 dX12_init_188 (by decide) ?_
  refine lv_bipush (v := (116 : Int32)) I.1.1 I.1.2.1 dX12_init_189 (by decide) ?_
  obtain ⟨D41, e41, h⟩ := le1_ok h
  refine dr_cst I hR hv40 (by unfold vp_in; decide) e41 dX12_init_191 (fun H locs hR => ?_)
  replace hn := (tq_I e41).1.trans hn
  replace hx := dr_o hx (tq_I e41).1 (tq_I e41).2
  replace hv40 := dr_o hv40 (tq_I e41).1 (tq_I e41).2
  refine lv_dup I.1.1 I.1.2.1 dX12_init_192 rfl ?_
  refine lv_iconst (v := (1 : Int32)) I.1.1 I.1.2.1 dX12_init_193 (by decide) ?_
  refine lv_bipush (v := (114 : Int32)) I.1.1 I.1.2.1 dX12_init_194 (by decide) ?_
  obtain ⟨D42, e42, h⟩ := le1_ok h
  refine dr_cst I hR hv40 (by unfold vp_in; decide) e42 dX12_init_196 (fun H locs hR => ?_)
  replace hn := (tq_I e42).1.trans hn
  replace hx := dr_o hx (tq_I e42).1 (tq_I e42).2
  replace hv40 := dr_o hv40 (tq_I e42).1 (tq_I e42).2
  refine lv_dup I.1.1 I.1.2.1 dX12_init_197 rfl ?_
  refine lv_iconst (v := (2 : Int32)) I.1.1 I.1.2.1 dX12_init_198 (by decide) ?_
  refine lv_bipush (v := (105 : Int32)) I.1.1 I.1.2.1 dX12_init_199 (by decide) ?_
  obtain ⟨D43, e43, h⟩ := le1_ok h
  refine dr_cst I hR hv40 (by unfold vp_in; decide) e43 dX12_init_201 (fun H locs hR => ?_)
  replace hn := (tq_I e43).1.trans hn
  replace hx := dr_o hx (tq_I e43).1 (tq_I e43).2
  replace hv40 := dr_o hv40 (tq_I e43).1 (tq_I e43).2
  refine lv_dup I.1.1 I.1.2.1 dX12_init_202 rfl ?_
  refine lv_iconst (v := (3 : Int32)) I.1.1 I.1.2.1 dX12_init_203 (by decide) ?_
  refine lv_bipush (v := (99 : Int32)) I.1.1 I.1.2.1 dX12_init_204 (by decide) ?_
  obtain ⟨D44, e44, h⟩ := le1_ok h
  refine dr_cst I hR hv40 (by unfold vp_in; decide) e44 dX12_init_206 (fun H locs hR => ?_)
  replace hn := (tq_I e44).1.trans hn
  replace hx := dr_o hx (tq_I e44).1 (tq_I e44).2
  replace hv40 := dr_o hv40 (tq_I e44).1 (tq_I e44).2
  refine lv_dup I.1.1 I.1.2.1 dX12_init_207 rfl ?_
  refine lv_iconst (v := (4 : Int32)) I.1.1 I.1.2.1 dX12_init_208 (by decide) ?_
  refine lv_bipush (v := (107 : Int32)) I.1.1 I.1.2.1 dX12_init_209 (by decide) ?_
  obtain ⟨D45, e45, h⟩ := le1_ok h
  refine dr_cst I hR hv40 (by unfold vp_in; decide) e45 dX12_init_211 (fun H locs hR => ?_)
  replace hn := (tq_I e45).1.trans hn
  replace hx := dr_o hx (tq_I e45).1 (tq_I e45).2
  replace hv40 := dr_o hv40 (tq_I e45).1 (tq_I e45).2
  obtain ⟨D46, e46, h⟩ := le1_ok h
  refine dr_putP (fun _ => ⟨rfl, rfl⟩) I cf12 fD_RX12_36 hR hx e46 dX12_init_212 (fun H locs hR => ?_)
  replace hn := (tq_P e46).1.trans hn
  replace hx := dr_o hx (tq_P e46).1 (tq_P e46).2
  exact wg_1 I _ r h hn hx _ _ _ hR hl
def f_X12_init (x n : Nat) (D : Dp) : Option Dp := kN D n (kO D x 1 12 (fg_0 x n D))
theorem c_X12_init (l : Launch) (B : Nat) (E : Ev) (ak av : Nat → Nat) (x n : Nat) (D r : Dp) (h : f_X12_init x n D = some r) : dy_M l B E ak av yX12_init cX12_init 1 1 80 13380 [.ref (B + x)] n D r := by
  refine dy_in (by decide) rfl (Nat.le_of_ble_eq_true rfl) ?_
  intro p e s m args below meth c I hR ls hl
  have I : dy_I p s m args meth c RX12 cX12_init 1 B n ak av := I
  have hl : lv_has ls 1 [(0, .ref (B + x))] := hl
  unfold f_X12_init at h
  obtain ⟨hn, h⟩ := kN_ok h
  obtain ⟨hx, h⟩ := kO_ok h
  exact wg_0 I D r h hn hx _ _ _ hR hl
